/-! ===== the law's own bee: its cells (by program, wip/p26/mkst.py) ===== -/
/-- cells that change -/
def muS (w : MW) (σ : Nat) (C : CD) (c : Nat) : Prop := c = σ ∨ c = gR w σ 7 ∨ (∃ i, i < C 0 0 2 ∧ c = gR w (gR w σ 11) i) ∨ (∃ i, i < C 0 0 3 ∧ (c = gR w (gR w σ 12) i ∨ c = gR w (gR w σ 13) i ∨ c = gR w (gR w σ 14) i))
def ST (w : MW) (σ : Nat) (C : CD) : Prop :=
  (mTg w σ = 10) ∧
  (mR w σ 7 = some (gR w σ 7)) ∧
  (mTg w (gR w σ 7) = 50) ∧
  (mLn w (gR w σ 7) = 6) ∧
  (mR w σ 8 = some (gR w σ 8)) ∧
  (mTg w (gR w σ 8) = 50) ∧
  (mLn w (gR w σ 8) = C 0 0 0) ∧
  (mR w σ 9 = some (gR w σ 9)) ∧
  (mTg w (gR w σ 9) = 52) ∧
  (mLn w (gR w σ 9) = C 0 0 1) ∧
  (∀ i, i < C 0 0 1 → mR w (gR w σ 9) i = some (gR w (gR w σ 9) i) ∧ mTg w (gR w (gR w σ 9) i) = 50 ∧ mLn w (gR w (gR w σ 9) i) = 3) ∧
  (mR w σ 10 = some (gR w σ 10)) ∧
  (mTg w (gR w σ 10) = 52) ∧
  (mLn w (gR w σ 10) = C 0 0 2) ∧
  (∀ i, i < C 0 0 2 → mR w (gR w σ 10) i = some (gR w (gR w σ 10) i) ∧ mTg w (gR w (gR w σ 10) i) = 50 ∧ mLn w (gR w (gR w σ 10) i) = C 3 i 0) ∧
  (mR w σ 11 = some (gR w σ 11)) ∧
  (mTg w (gR w σ 11) = 52) ∧
  (mLn w (gR w σ 11) = C 0 0 2) ∧
  (∀ i, i < C 0 0 2 → mR w (gR w σ 11) i = some (gR w (gR w σ 11) i) ∧ mTg w (gR w (gR w σ 11) i) = 50 ∧ mLn w (gR w (gR w σ 11) i) = 2) ∧
  (mR w σ 12 = some (gR w σ 12)) ∧
  (mTg w (gR w σ 12) = 52) ∧
  (mLn w (gR w σ 12) = C 0 0 3) ∧
  (∀ i, i < C 0 0 3 → mR w (gR w σ 12) i = some (gR w (gR w σ 12) i) ∧ mTg w (gR w (gR w σ 12) i) = 50 ∧ mLn w (gR w (gR w σ 12) i) = 9) ∧
  (mR w σ 13 = some (gR w σ 13)) ∧
  (mTg w (gR w σ 13) = 52) ∧
  (mLn w (gR w σ 13) = C 0 0 3) ∧
  (∀ i, i < C 0 0 3 → mR w (gR w σ 13) i = some (gR w (gR w σ 13) i) ∧ mTg w (gR w (gR w σ 13) i) = 50 ∧ mLn w (gR w (gR w σ 13) i) = C 0 0 0) ∧
  (mR w σ 14 = some (gR w σ 14)) ∧
  (mTg w (gR w σ 14) = 52) ∧
  (mLn w (gR w σ 14) = C 0 0 3) ∧
  (∀ i, i < C 0 0 3 → mR w (gR w σ 14) i = some (gR w (gR w σ 14) i) ∧ mTg w (gR w (gR w σ 14) i) = 50 ∧ mLn w (gR w (gR w σ 14) i) = C 0 0 1) ∧
  (mR w σ 15 = some (gR w σ 15)) ∧
  (mTg w (gR w σ 15) = 52) ∧
  (mLn w (gR w σ 15) = C 0 0 4) ∧
  (∀ i, i < C 0 0 4 → mR w (gR w σ 15) i = some (gR w (gR w σ 15) i) ∧ mTg w (gR w (gR w σ 15) i) = 50 ∧ mLn w (gR w (gR w σ 15) i) = 2) ∧
  (mR w σ 16 = some (gR w σ 16)) ∧
  (mTg w (gR w σ 16) = 52) ∧
  (mLn w (gR w σ 16) = C 0 0 4) ∧
  (∀ i, i < C 0 0 4 → mR w (gR w σ 16) i = some (gR w (gR w σ 16) i) ∧ mTg w (gR w (gR w σ 16) i) = 50 ∧ mLn w (gR w (gR w σ 16) i) = C 7 i 2) ∧
  (mR w σ 17 = some (gR w σ 17)) ∧
  (mTg w (gR w σ 17) = 52) ∧
  (mLn w (gR w σ 17) = C 0 0 5) ∧
  (∀ i, i < C 0 0 5 → mR w (gR w σ 17) i = some (gR w (gR w σ 17) i) ∧ mTg w (gR w (gR w σ 17) i) = 50 ∧ mLn w (gR w (gR w σ 17) i) = 6) ∧
  (276 ≤ σ) ∧
  (σ < gR w σ 7) ∧
  (∀ i, i < C 0 0 2 → gR w (gR w σ 11) i = gR w (gR w σ 11) 0 + i) ∧
  (∀ i, i < C 0 0 3 → gR w (gR w σ 13) i = gR w (gR w σ 13) 0 + i) ∧
  (∀ i, i < C 0 0 3 → gR w (gR w σ 14) i = gR w (gR w σ 14) 0 + i) ∧
  (gR w σ 7 < gR w (gR w σ 11) 0) ∧
  (gR w (gR w σ 11) 0 + C 0 0 2 ≤ gR w (gR w σ 13) 0) ∧
  (gR w (gR w σ 13) 0 + C 0 0 3 ≤ gR w (gR w σ 14) 0) ∧
  (∀ i, i < C 0 0 3 → gR w (gR w σ 14) 0 + C 0 0 3 ≤ gR w (gR w σ 12) i) ∧
  (∀ i j, i < j → j < C 0 0 3 → gR w (gR w σ 12) i < gR w (gR w σ 12) j) ∧
  (¬ muS w σ C (gR w σ 8)) ∧
  (∀ i, i < C 0 0 1 → ¬ muS w σ C (gR w (gR w σ 9) i)) ∧
  (∀ i, i < C 0 0 2 → ¬ muS w σ C (gR w (gR w σ 10) i)) ∧
  (∀ i, i < C 0 0 4 → ¬ muS w σ C (gR w (gR w σ 15) i)) ∧
  (∀ i, i < C 0 0 4 → ¬ muS w σ C (gR w (gR w σ 16) i)) ∧
  (∀ i, i < C 0 0 5 → ¬ muS w σ C (gR w (gR w σ 17) i))
theorem ST.tg {w : MW} {σ : Nat} {C : CD} (h : ST w σ C) : mTg w σ = 10 := h.1
theorem ST.r7 {w : MW} {σ : Nat} {C : CD} (h : ST w σ C) : mR w σ 7 = some (gR w σ 7) := h.2.1
theorem ST.t7 {w : MW} {σ : Nat} {C : CD} (h : ST w σ C) : mTg w (gR w σ 7) = 50 := h.2.2.1
theorem ST.n7 {w : MW} {σ : Nat} {C : CD} (h : ST w σ C) : mLn w (gR w σ 7) = 6 := h.2.2.2.1
theorem ST.r8 {w : MW} {σ : Nat} {C : CD} (h : ST w σ C) : mR w σ 8 = some (gR w σ 8) := h.2.2.2.2.1
theorem ST.t8 {w : MW} {σ : Nat} {C : CD} (h : ST w σ C) : mTg w (gR w σ 8) = 50 := h.2.2.2.2.2.1
theorem ST.n8 {w : MW} {σ : Nat} {C : CD} (h : ST w σ C) : mLn w (gR w σ 8) = C 0 0 0 := h.2.2.2.2.2.2.1
theorem ST.r9 {w : MW} {σ : Nat} {C : CD} (h : ST w σ C) : mR w σ 9 = some (gR w σ 9) := h.2.2.2.2.2.2.2.1
theorem ST.t9 {w : MW} {σ : Nat} {C : CD} (h : ST w σ C) : mTg w (gR w σ 9) = 52 := h.2.2.2.2.2.2.2.2.1
theorem ST.n9 {w : MW} {σ : Nat} {C : CD} (h : ST w σ C) : mLn w (gR w σ 9) = C 0 0 1 := h.2.2.2.2.2.2.2.2.2.1
theorem ST.e9 {w : MW} {σ : Nat} {C : CD} (h : ST w σ C) : ∀ i, i < C 0 0 1 → mR w (gR w σ 9) i = some (gR w (gR w σ 9) i) ∧ mTg w (gR w (gR w σ 9) i) = 50 ∧ mLn w (gR w (gR w σ 9) i) = 3 := h.2.2.2.2.2.2.2.2.2.2.1
theorem ST.r10 {w : MW} {σ : Nat} {C : CD} (h : ST w σ C) : mR w σ 10 = some (gR w σ 10) := h.2.2.2.2.2.2.2.2.2.2.2.1
theorem ST.t10 {w : MW} {σ : Nat} {C : CD} (h : ST w σ C) : mTg w (gR w σ 10) = 52 := h.2.2.2.2.2.2.2.2.2.2.2.2.1
theorem ST.n10 {w : MW} {σ : Nat} {C : CD} (h : ST w σ C) : mLn w (gR w σ 10) = C 0 0 2 := h.2.2.2.2.2.2.2.2.2.2.2.2.2.1
theorem ST.e10 {w : MW} {σ : Nat} {C : CD} (h : ST w σ C) : ∀ i, i < C 0 0 2 → mR w (gR w σ 10) i = some (gR w (gR w σ 10) i) ∧ mTg w (gR w (gR w σ 10) i) = 50 ∧ mLn w (gR w (gR w σ 10) i) = C 3 i 0 := h.2.2.2.2.2.2.2.2.2.2.2.2.2.2.1
theorem ST.r11 {w : MW} {σ : Nat} {C : CD} (h : ST w σ C) : mR w σ 11 = some (gR w σ 11) := h.2.2.2.2.2.2.2.2.2.2.2.2.2.2.2.1
theorem ST.t11 {w : MW} {σ : Nat} {C : CD} (h : ST w σ C) : mTg w (gR w σ 11) = 52 := h.2.2.2.2.2.2.2.2.2.2.2.2.2.2.2.2.1
theorem ST.n11 {w : MW} {σ : Nat} {C : CD} (h : ST w σ C) : mLn w (gR w σ 11) = C 0 0 2 := h.2.2.2.2.2.2.2.2.2.2.2.2.2.2.2.2.2.1
theorem ST.e11 {w : MW} {σ : Nat} {C : CD} (h : ST w σ C) : ∀ i, i < C 0 0 2 → mR w (gR w σ 11) i = some (gR w (gR w σ 11) i) ∧ mTg w (gR w (gR w σ 11) i) = 50 ∧ mLn w (gR w (gR w σ 11) i) = 2 := h.2.2.2.2.2.2.2.2.2.2.2.2.2.2.2.2.2.2.1
theorem ST.r12 {w : MW} {σ : Nat} {C : CD} (h : ST w σ C) : mR w σ 12 = some (gR w σ 12) := h.2.2.2.2.2.2.2.2.2.2.2.2.2.2.2.2.2.2.2.1
theorem ST.t12 {w : MW} {σ : Nat} {C : CD} (h : ST w σ C) : mTg w (gR w σ 12) = 52 := h.2.2.2.2.2.2.2.2.2.2.2.2.2.2.2.2.2.2.2.2.1
theorem ST.n12 {w : MW} {σ : Nat} {C : CD} (h : ST w σ C) : mLn w (gR w σ 12) = C 0 0 3 := h.2.2.2.2.2.2.2.2.2.2.2.2.2.2.2.2.2.2.2.2.2.1
theorem ST.e12 {w : MW} {σ : Nat} {C : CD} (h : ST w σ C) : ∀ i, i < C 0 0 3 → mR w (gR w σ 12) i = some (gR w (gR w σ 12) i) ∧ mTg w (gR w (gR w σ 12) i) = 50 ∧ mLn w (gR w (gR w σ 12) i) = 9 := h.2.2.2.2.2.2.2.2.2.2.2.2.2.2.2.2.2.2.2.2.2.2.1
theorem ST.r13 {w : MW} {σ : Nat} {C : CD} (h : ST w σ C) : mR w σ 13 = some (gR w σ 13) := h.2.2.2.2.2.2.2.2.2.2.2.2.2.2.2.2.2.2.2.2.2.2.2.1
theorem ST.t13 {w : MW} {σ : Nat} {C : CD} (h : ST w σ C) : mTg w (gR w σ 13) = 52 := h.2.2.2.2.2.2.2.2.2.2.2.2.2.2.2.2.2.2.2.2.2.2.2.2.1
theorem ST.n13 {w : MW} {σ : Nat} {C : CD} (h : ST w σ C) : mLn w (gR w σ 13) = C 0 0 3 := h.2.2.2.2.2.2.2.2.2.2.2.2.2.2.2.2.2.2.2.2.2.2.2.2.2.1
theorem ST.e13 {w : MW} {σ : Nat} {C : CD} (h : ST w σ C) : ∀ i, i < C 0 0 3 → mR w (gR w σ 13) i = some (gR w (gR w σ 13) i) ∧ mTg w (gR w (gR w σ 13) i) = 50 ∧ mLn w (gR w (gR w σ 13) i) = C 0 0 0 := h.2.2.2.2.2.2.2.2.2.2.2.2.2.2.2.2.2.2.2.2.2.2.2.2.2.2.1
theorem ST.r14 {w : MW} {σ : Nat} {C : CD} (h : ST w σ C) : mR w σ 14 = some (gR w σ 14) := h.2.2.2.2.2.2.2.2.2.2.2.2.2.2.2.2.2.2.2.2.2.2.2.2.2.2.2.1
theorem ST.t14 {w : MW} {σ : Nat} {C : CD} (h : ST w σ C) : mTg w (gR w σ 14) = 52 := h.2.2.2.2.2.2.2.2.2.2.2.2.2.2.2.2.2.2.2.2.2.2.2.2.2.2.2.2.1
theorem ST.n14 {w : MW} {σ : Nat} {C : CD} (h : ST w σ C) : mLn w (gR w σ 14) = C 0 0 3 := h.2.2.2.2.2.2.2.2.2.2.2.2.2.2.2.2.2.2.2.2.2.2.2.2.2.2.2.2.2.1
theorem ST.e14 {w : MW} {σ : Nat} {C : CD} (h : ST w σ C) : ∀ i, i < C 0 0 3 → mR w (gR w σ 14) i = some (gR w (gR w σ 14) i) ∧ mTg w (gR w (gR w σ 14) i) = 50 ∧ mLn w (gR w (gR w σ 14) i) = C 0 0 1 := h.2.2.2.2.2.2.2.2.2.2.2.2.2.2.2.2.2.2.2.2.2.2.2.2.2.2.2.2.2.2.1
theorem ST.r15 {w : MW} {σ : Nat} {C : CD} (h : ST w σ C) : mR w σ 15 = some (gR w σ 15) := h.2.2.2.2.2.2.2.2.2.2.2.2.2.2.2.2.2.2.2.2.2.2.2.2.2.2.2.2.2.2.2.1
theorem ST.t15 {w : MW} {σ : Nat} {C : CD} (h : ST w σ C) : mTg w (gR w σ 15) = 52 := h.2.2.2.2.2.2.2.2.2.2.2.2.2.2.2.2.2.2.2.2.2.2.2.2.2.2.2.2.2.2.2.2.1
theorem ST.n15 {w : MW} {σ : Nat} {C : CD} (h : ST w σ C) : mLn w (gR w σ 15) = C 0 0 4 := h.2.2.2.2.2.2.2.2.2.2.2.2.2.2.2.2.2.2.2.2.2.2.2.2.2.2.2.2.2.2.2.2.2.1
theorem ST.e15 {w : MW} {σ : Nat} {C : CD} (h : ST w σ C) : ∀ i, i < C 0 0 4 → mR w (gR w σ 15) i = some (gR w (gR w σ 15) i) ∧ mTg w (gR w (gR w σ 15) i) = 50 ∧ mLn w (gR w (gR w σ 15) i) = 2 := h.2.2.2.2.2.2.2.2.2.2.2.2.2.2.2.2.2.2.2.2.2.2.2.2.2.2.2.2.2.2.2.2.2.2.1
theorem ST.r16 {w : MW} {σ : Nat} {C : CD} (h : ST w σ C) : mR w σ 16 = some (gR w σ 16) := h.2.2.2.2.2.2.2.2.2.2.2.2.2.2.2.2.2.2.2.2.2.2.2.2.2.2.2.2.2.2.2.2.2.2.2.1
theorem ST.t16 {w : MW} {σ : Nat} {C : CD} (h : ST w σ C) : mTg w (gR w σ 16) = 52 := h.2.2.2.2.2.2.2.2.2.2.2.2.2.2.2.2.2.2.2.2.2.2.2.2.2.2.2.2.2.2.2.2.2.2.2.2.1
theorem ST.n16 {w : MW} {σ : Nat} {C : CD} (h : ST w σ C) : mLn w (gR w σ 16) = C 0 0 4 := h.2.2.2.2.2.2.2.2.2.2.2.2.2.2.2.2.2.2.2.2.2.2.2.2.2.2.2.2.2.2.2.2.2.2.2.2.2.1
theorem ST.e16 {w : MW} {σ : Nat} {C : CD} (h : ST w σ C) : ∀ i, i < C 0 0 4 → mR w (gR w σ 16) i = some (gR w (gR w σ 16) i) ∧ mTg w (gR w (gR w σ 16) i) = 50 ∧ mLn w (gR w (gR w σ 16) i) = C 7 i 2 := h.2.2.2.2.2.2.2.2.2.2.2.2.2.2.2.2.2.2.2.2.2.2.2.2.2.2.2.2.2.2.2.2.2.2.2.2.2.2.1
theorem ST.r17 {w : MW} {σ : Nat} {C : CD} (h : ST w σ C) : mR w σ 17 = some (gR w σ 17) := h.2.2.2.2.2.2.2.2.2.2.2.2.2.2.2.2.2.2.2.2.2.2.2.2.2.2.2.2.2.2.2.2.2.2.2.2.2.2.2.1
theorem ST.t17 {w : MW} {σ : Nat} {C : CD} (h : ST w σ C) : mTg w (gR w σ 17) = 52 := h.2.2.2.2.2.2.2.2.2.2.2.2.2.2.2.2.2.2.2.2.2.2.2.2.2.2.2.2.2.2.2.2.2.2.2.2.2.2.2.2.1
theorem ST.n17 {w : MW} {σ : Nat} {C : CD} (h : ST w σ C) : mLn w (gR w σ 17) = C 0 0 5 := h.2.2.2.2.2.2.2.2.2.2.2.2.2.2.2.2.2.2.2.2.2.2.2.2.2.2.2.2.2.2.2.2.2.2.2.2.2.2.2.2.2.1
theorem ST.e17 {w : MW} {σ : Nat} {C : CD} (h : ST w σ C) : ∀ i, i < C 0 0 5 → mR w (gR w σ 17) i = some (gR w (gR w σ 17) i) ∧ mTg w (gR w (gR w σ 17) i) = 50 ∧ mLn w (gR w (gR w σ 17) i) = 6 := h.2.2.2.2.2.2.2.2.2.2.2.2.2.2.2.2.2.2.2.2.2.2.2.2.2.2.2.2.2.2.2.2.2.2.2.2.2.2.2.2.2.2.1
theorem ST.lo {w : MW} {σ : Nat} {C : CD} (h : ST w σ C) : 276 ≤ σ := h.2.2.2.2.2.2.2.2.2.2.2.2.2.2.2.2.2.2.2.2.2.2.2.2.2.2.2.2.2.2.2.2.2.2.2.2.2.2.2.2.2.2.2.1
theorem ST.sm {w : MW} {σ : Nat} {C : CD} (h : ST w σ C) : σ < gR w σ 7 := h.2.2.2.2.2.2.2.2.2.2.2.2.2.2.2.2.2.2.2.2.2.2.2.2.2.2.2.2.2.2.2.2.2.2.2.2.2.2.2.2.2.2.2.2.1
theorem ST.st {w : MW} {σ : Nat} {C : CD} (h : ST w σ C) : ∀ i, i < C 0 0 2 → gR w (gR w σ 11) i = gR w (gR w σ 11) 0 + i := h.2.2.2.2.2.2.2.2.2.2.2.2.2.2.2.2.2.2.2.2.2.2.2.2.2.2.2.2.2.2.2.2.2.2.2.2.2.2.2.2.2.2.2.2.2.1
theorem ST.kn {w : MW} {σ : Nat} {C : CD} (h : ST w σ C) : ∀ i, i < C 0 0 3 → gR w (gR w σ 13) i = gR w (gR w σ 13) 0 + i := h.2.2.2.2.2.2.2.2.2.2.2.2.2.2.2.2.2.2.2.2.2.2.2.2.2.2.2.2.2.2.2.2.2.2.2.2.2.2.2.2.2.2.2.2.2.2.1
theorem ST.he {w : MW} {σ : Nat} {C : CD} (h : ST w σ C) : ∀ i, i < C 0 0 3 → gR w (gR w σ 14) i = gR w (gR w σ 14) 0 + i := h.2.2.2.2.2.2.2.2.2.2.2.2.2.2.2.2.2.2.2.2.2.2.2.2.2.2.2.2.2.2.2.2.2.2.2.2.2.2.2.2.2.2.2.2.2.2.2.1
theorem ST.o1 {w : MW} {σ : Nat} {C : CD} (h : ST w σ C) : gR w σ 7 < gR w (gR w σ 11) 0 := h.2.2.2.2.2.2.2.2.2.2.2.2.2.2.2.2.2.2.2.2.2.2.2.2.2.2.2.2.2.2.2.2.2.2.2.2.2.2.2.2.2.2.2.2.2.2.2.2.1
theorem ST.o2 {w : MW} {σ : Nat} {C : CD} (h : ST w σ C) : gR w (gR w σ 11) 0 + C 0 0 2 ≤ gR w (gR w σ 13) 0 := h.2.2.2.2.2.2.2.2.2.2.2.2.2.2.2.2.2.2.2.2.2.2.2.2.2.2.2.2.2.2.2.2.2.2.2.2.2.2.2.2.2.2.2.2.2.2.2.2.2.1
theorem ST.o3 {w : MW} {σ : Nat} {C : CD} (h : ST w σ C) : gR w (gR w σ 13) 0 + C 0 0 3 ≤ gR w (gR w σ 14) 0 := h.2.2.2.2.2.2.2.2.2.2.2.2.2.2.2.2.2.2.2.2.2.2.2.2.2.2.2.2.2.2.2.2.2.2.2.2.2.2.2.2.2.2.2.2.2.2.2.2.2.2.1
theorem ST.o4 {w : MW} {σ : Nat} {C : CD} (h : ST w σ C) : ∀ i, i < C 0 0 3 → gR w (gR w σ 14) 0 + C 0 0 3 ≤ gR w (gR w σ 12) i := h.2.2.2.2.2.2.2.2.2.2.2.2.2.2.2.2.2.2.2.2.2.2.2.2.2.2.2.2.2.2.2.2.2.2.2.2.2.2.2.2.2.2.2.2.2.2.2.2.2.2.2.1
theorem ST.al {w : MW} {σ : Nat} {C : CD} (h : ST w σ C) : ∀ i j, i < j → j < C 0 0 3 → gR w (gR w σ 12) i < gR w (gR w σ 12) j := h.2.2.2.2.2.2.2.2.2.2.2.2.2.2.2.2.2.2.2.2.2.2.2.2.2.2.2.2.2.2.2.2.2.2.2.2.2.2.2.2.2.2.2.2.2.2.2.2.2.2.2.2.1
theorem ST.f8 {w : MW} {σ : Nat} {C : CD} (h : ST w σ C) : ¬ muS w σ C (gR w σ 8) := h.2.2.2.2.2.2.2.2.2.2.2.2.2.2.2.2.2.2.2.2.2.2.2.2.2.2.2.2.2.2.2.2.2.2.2.2.2.2.2.2.2.2.2.2.2.2.2.2.2.2.2.2.2.1
theorem ST.f9 {w : MW} {σ : Nat} {C : CD} (h : ST w σ C) : ∀ i, i < C 0 0 1 → ¬ muS w σ C (gR w (gR w σ 9) i) := h.2.2.2.2.2.2.2.2.2.2.2.2.2.2.2.2.2.2.2.2.2.2.2.2.2.2.2.2.2.2.2.2.2.2.2.2.2.2.2.2.2.2.2.2.2.2.2.2.2.2.2.2.2.2.1
theorem ST.f10 {w : MW} {σ : Nat} {C : CD} (h : ST w σ C) : ∀ i, i < C 0 0 2 → ¬ muS w σ C (gR w (gR w σ 10) i) := h.2.2.2.2.2.2.2.2.2.2.2.2.2.2.2.2.2.2.2.2.2.2.2.2.2.2.2.2.2.2.2.2.2.2.2.2.2.2.2.2.2.2.2.2.2.2.2.2.2.2.2.2.2.2.2.1
theorem ST.f15 {w : MW} {σ : Nat} {C : CD} (h : ST w σ C) : ∀ i, i < C 0 0 4 → ¬ muS w σ C (gR w (gR w σ 15) i) := h.2.2.2.2.2.2.2.2.2.2.2.2.2.2.2.2.2.2.2.2.2.2.2.2.2.2.2.2.2.2.2.2.2.2.2.2.2.2.2.2.2.2.2.2.2.2.2.2.2.2.2.2.2.2.2.2.1
theorem ST.f16 {w : MW} {σ : Nat} {C : CD} (h : ST w σ C) : ∀ i, i < C 0 0 4 → ¬ muS w σ C (gR w (gR w σ 16) i) := h.2.2.2.2.2.2.2.2.2.2.2.2.2.2.2.2.2.2.2.2.2.2.2.2.2.2.2.2.2.2.2.2.2.2.2.2.2.2.2.2.2.2.2.2.2.2.2.2.2.2.2.2.2.2.2.2.2.1
theorem ST.f17 {w : MW} {σ : Nat} {C : CD} (h : ST w σ C) : ∀ i, i < C 0 0 5 → ¬ muS w σ C (gR w (gR w σ 17) i) := h.2.2.2.2.2.2.2.2.2.2.2.2.2.2.2.2.2.2.2.2.2.2.2.2.2.2.2.2.2.2.2.2.2.2.2.2.2.2.2.2.2.2.2.2.2.2.2.2.2.2.2.2.2.2.2.2.2.2
theorem ST.wJ {w : MW} {σ : Nat} {C : CD} {J : Nat → Nat → Int32} (h : ST w σ C) : ST (wJ w J) σ C := h
theorem ST.wI {w : MW} {σ c k : Nat} {C : CD} {x : Int32} (h : ST w σ C) : ST (wI w c k x) σ C := h
/-! the lens -/
def SV (C : CD) (g i j : Nat) : Prop := (g = 0 ∧ i = 0 ∧ (j = 0 ∨ j = 5 ∨ j = 6)) ∨ (g = 1 ∧ i = 0 ∧ j < 6) ∨ (g = 2 ∧ i < C 0 0 2 ∧ j < 2) ∨ (g = 3 ∧ i < C 0 0 3 ∧ j < 9) ∨ (g = 4 ∧ i < C 0 0 3 ∧ j < C 0 0 0) ∨ (g = 5 ∧ i < C 0 0 3 ∧ j < C 0 0 1) ∨ (g = 8 ∧ i = 0 ∧ 1 ≤ j ∧ j ≤ 4)
def sloc (w : MW) (σ g i j : Nat) : Nat × Nat := if g = 0 then (σ, j) else if g = 1 then (gR w σ 7, j) else if g = 2 then (gR w (gR w σ 11) i, j) else if g = 3 then (gR w (gR w σ 12) i, j) else if g = 4 then (gR w (gR w σ 13) i, j) else if g = 5 then (gR w (gR w σ 14) i, j) else (σ, j)
def SL (w : MW) (σ : Nat) (C : CD) : LN := (SV C, sloc w σ)
theorem SL_inj {w : MW} {σ : Nat} {C : CD} (h : ST w σ C) : lnInj (SL w σ C) := by
  intro g i j g' i' j' hv hv' e
  simp only [SL, SV] at hv hv'
  have q1 := h.sm
  have q2 := h.o1
  have q3 := h.o2
  have q4 := h.o3
  have s1 := h.st i
  have s2 := h.st i'
  have k1 := h.kn i
  have k2 := h.kn i'
  have h1 := h.he i
  have h2 := h.he i'
  have o1 := h.o4 i
  have o2 := h.o4 i'
  have al1 := h.al i i'
  have al2 := h.al i' i
  rcases hv with ⟨rfl, a1, a2⟩ | ⟨rfl, a1, a2⟩ | ⟨rfl, a1, a2⟩ | ⟨rfl, a1, a2⟩ | ⟨rfl, a1, a2⟩ | ⟨rfl, a1, a2⟩ | ⟨rfl, a1, a2⟩ <;> rcases hv' with ⟨rfl, b1, b2⟩ | ⟨rfl, b1, b2⟩ | ⟨rfl, b1, b2⟩ | ⟨rfl, b1, b2⟩ | ⟨rfl, b1, b2⟩ | ⟨rfl, b1, b2⟩ | ⟨rfl, b1, b2⟩ <;> simp [SL, sloc] at e <;> first
  | omega
  | (have := s1 a1; have := s2 b1; omega)
  | (have := s1 a1; have := k2 b1; omega)
  | (have := s1 a1; have := h2 b1; omega)
  | (have := s1 a1; have := o2 b1; omega)
  | (have := k1 a1; have := s2 b1; omega)
  | (have := k1 a1; have := k2 b1; omega)
  | (have := k1 a1; have := h2 b1; omega)
  | (have := k1 a1; have := o2 b1; omega)
  | (have := h1 a1; have := s2 b1; omega)
  | (have := h1 a1; have := k2 b1; omega)
  | (have := h1 a1; have := h2 b1; omega)
  | (have := h1 a1; have := o2 b1; omega)
  | (have := o1 a1; have := s2 b1; omega)
  | (have := o1 a1; have := k2 b1; omega)
  | (have := o1 a1; have := h2 b1; omega)
  | (have := o1 a1; have := o2 b1; omega)
  | (have := s1 a1; omega)
  | (have := k1 a1; omega)
  | (have := h1 a1; omega)
  | (have := o1 a1; omega)
  | (have := s2 b1; omega)
  | (have := k2 b1; omega)
  | (have := h2 b1; omega)
  | (have := o2 b1; omega)
theorem sloc_mu {w : MW} {σ : Nat} {C : CD} {g i j : Nat} (hv : SV C g i j) : muS w σ C (sloc w σ g i j).1 := by
  unfold muS
  rcases hv with ⟨rfl, a1, a2⟩ | ⟨rfl, a1, a2⟩ | ⟨rfl, a1, a2⟩ | ⟨rfl, a1, a2⟩ | ⟨rfl, a1, a2⟩ | ⟨rfl, a1, a2⟩ | ⟨rfl, a1, a2⟩
  · exact Or.inl rfl
  · exact Or.inr (Or.inl rfl)
  · exact Or.inr (Or.inr (Or.inl ⟨i, a1, rfl⟩))
  · exact Or.inr (Or.inr (Or.inr ⟨i, a1, Or.inl rfl⟩))
  · exact Or.inr (Or.inr (Or.inr ⟨i, a1, Or.inr (Or.inl rfl)⟩))
  · exact Or.inr (Or.inr (Or.inr ⟨i, a1, Or.inr (Or.inr rfl)⟩))
  · exact Or.inl rfl
/-- what the law's bee was told -/
def SC (w : MW) (σ : Nat) (C : CD) : Prop :=
  (∀ k, k < C 0 0 0 → mI w (gR w σ 8) k = nI (C 1 k 0)) ∧
  (∀ r, r < C 0 0 1 → ∀ j, j < 3 → mI w (gR w (gR w σ 9) r) j = nI (C 2 r j)) ∧
  (∀ v, v < C 0 0 2 → ∀ p, p < C 3 v 0 → mI w (gR w (gR w σ 10) v) p = nI (C 4 v p)) ∧
  (∀ q, q < C 0 0 4 → ∀ j, j < 2 → mI w (gR w (gR w σ 15) q) j = nI (C 7 q j)) ∧
  (∀ q, q < C 0 0 4 → ∀ p, p < C 7 q 2 → mI w (gR w (gR w σ 16) q) p = nI (C 8 q p)) ∧
  (∀ o, o < C 0 0 5 → ∀ j, j < 6 → mI w (gR w (gR w σ 17) o) j = nI (C 9 o j))
/-- the world holds the law's bee, that stands as M -/
def SW (w : MW) (σ : Nat) (C : CD) (M : MD) : Prop := ST w σ C ∧ SC w σ C ∧ CfOk C ∧ lnOk (SL w σ C) w M
/-- its cells written -/
def upS (σ : Nat) (C : CD) (w w' : MW) (M' : MD) : Prop := ∃ J, w' = wJ w J ∧ (∀ c k, ¬ muS w σ C c → J c k = mI w c k) ∧ lnOk (SL w σ C) w' M'
theorem upS.refl {σ : Nat} {C : CD} {w : MW} {M : MD} (h : lnOk (SL w σ C) w M) : upS σ C w w M := ⟨mI w, (wJ_self w).symm, fun _ _ _ => rfl, h⟩
theorem upS.trans {σ : Nat} {C : CD} {w w1 w2 : MW} {M1 M2 : MD} (h : upS σ C w w1 M1) (g : upS σ C w1 w2 M2) : upS σ C w w2 M2 := by
  obtain ⟨J, rfl, a2, a3⟩ := h
  obtain ⟨J', rfl, b2, b3⟩ := g
  exact ⟨J', rfl, fun c k hc => (b2 c k hc).trans (a2 c k hc), b3⟩
theorem upS.ext {σ : Nat} {C : CD} {w w' : MW} {M M' : MD} (h : upS σ C w w' M) (he : ∀ g i j, SV C g i j → M g i j = M' g i j) : upS σ C w w' M' := by
  obtain ⟨J, a1, a2, a3⟩ := h
  exact ⟨J, a1, a2, fun g i j hv => by rw [← he g i j hv]; exact a3 g i j hv⟩
theorem upS.out {σ : Nat} {C : CD} {w w' : MW} {M : MD} (h : upS σ C w w' M) {c : Nat} (hc : ¬ muS w σ C c) : mI w' c = mI w c := by
  obtain ⟨J, rfl, a2, -⟩ := h
  funext k
  exact a2 c k hc
theorem SW.s {w : MW} {σ : Nat} {C : CD} {M : MD} (h : SW w σ C M) : ST w σ C := h.1
theorem SW.c {w : MW} {σ : Nat} {C : CD} {M : MD} (h : SW w σ C M) : SC w σ C := h.2.1
theorem SW.k {w : MW} {σ : Nat} {C : CD} {M : MD} (h : SW w σ C M) : CfOk C := h.2.2.1
theorem SW.m {w : MW} {σ : Nat} {C : CD} {M : MD} (h : SW w σ C M) : lnOk (SL w σ C) w M := h.2.2.2
theorem SW.refl {w : MW} {σ : Nat} {C : CD} {M : MD} (h : SW w σ C M) : upS σ C w w M := upS.refl h.m
theorem SC.same {w : MW} {σ : Nat} {C : CD} {J : Nat → Nat → Int32} (h : SC w σ C) (s : ST w σ C) (e : ∀ c k, ¬ muS w σ C c → J c k = mI w c k) : SC (wJ w J) σ C := by
  obtain ⟨a1, a2, a3, a4, a5, a6⟩ := h
  exact ⟨fun k hk => (e _ _ s.f8).trans (a1 k hk), fun r hr j hj => (e _ _ (s.f9 r hr)).trans (a2 r hr j hj), fun v hv p hp => (e _ _ (s.f10 v hv)).trans (a3 v hv p hp), fun q hq j hj => (e _ _ (s.f15 q hq)).trans (a4 q hq j hj), fun q hq p hp => (e _ _ (s.f16 q hq)).trans (a5 q hq p hp), fun o ho j hj => (e _ _ (s.f17 o ho)).trans (a6 o ho j hj)⟩
theorem SW.up {w w' : MW} {σ : Nat} {C : CD} {M M' : MD} (h : SW w σ C M) (u : upS σ C w w' M') : SW w' σ C M' := by
  obtain ⟨J, rfl, a2, a3⟩ := u
  exact ⟨h.s, h.c.same h.s a2, h.k, a3⟩
theorem upS.set {w : MW} {σ : Nat} {C : CD} {M : MD} (s : ST w σ C) (h : lnOk (SL w σ C) w M) {g i j c k x : Nat} (hv : SV C g i j) (hl : sloc w σ g i j = (c, k)) : upS σ C w (wI w c k (nI x)) (mu M g i j x) := by
  refine ⟨_, wI_eq _ _ _ _, fun c' k' hc => ?_, lnOk.set (SL_inj s) h hv hl⟩
  have := sloc_mu (w := w) (σ := σ) hv
  rw [hl] at this
  unfold jw
  rw [if_neg]
  rintro ⟨rfl, rfl⟩
  exact hc this
theorem upS.ign {σ : Nat} {C : CD} {w w' : MW} {M : MD} {g i j x : Nat} (h : upS σ C w w' M) (hg : ¬ SV C g i j) : upS σ C w w' (mu M g i j x) := h.ext fun g' i' j' hv => by
  rw [mu_n]
  rintro ⟨rfl, rfl, rfl⟩
  exact hg hv
theorem SW.z0 {w : MW} {σ : Nat} {C : CD} {M : MD} (h : SW w σ C M) : mI w σ 0 = nI (M 0 0 0) := h.m.at (g := 0) (i := 0) (j := 0) (Or.inl ⟨rfl, rfl, Or.inl rfl⟩) rfl
theorem SW.uz0 {w : MW} {σ : Nat} {C : CD} {M : MD} (h : SW w σ C M) (x : Nat) : upS σ C w (wI w σ 0 (nI x)) (mu M 0 0 0 x) := upS.set h.s h.m (g := 0) (i := 0) (j := 0) (Or.inl ⟨rfl, rfl, Or.inl rfl⟩) rfl
theorem SW.z5 {w : MW} {σ : Nat} {C : CD} {M : MD} (h : SW w σ C M) : mI w σ 5 = nI (M 0 0 5) := h.m.at (g := 0) (i := 0) (j := 5) (Or.inl ⟨rfl, rfl, Or.inr (Or.inl rfl)⟩) rfl
theorem SW.uz5 {w : MW} {σ : Nat} {C : CD} {M : MD} (h : SW w σ C M) (x : Nat) : upS σ C w (wI w σ 5 (nI x)) (mu M 0 0 5 x) := upS.set h.s h.m (g := 0) (i := 0) (j := 5) (Or.inl ⟨rfl, rfl, Or.inr (Or.inl rfl)⟩) rfl
theorem SW.z6 {w : MW} {σ : Nat} {C : CD} {M : MD} (h : SW w σ C M) : mI w σ 6 = nI (M 0 0 6) := h.m.at (g := 0) (i := 0) (j := 6) (Or.inl ⟨rfl, rfl, Or.inr (Or.inr rfl)⟩) rfl
theorem SW.uz6 {w : MW} {σ : Nat} {C : CD} {M : MD} (h : SW w σ C M) (x : Nat) : upS σ C w (wI w σ 6 (nI x)) (mu M 0 0 6 x) := upS.set h.s h.m (g := 0) (i := 0) (j := 6) (Or.inl ⟨rfl, rfl, Or.inr (Or.inr rfl)⟩) rfl
theorem SW.y1 {w : MW} {σ : Nat} {C : CD} {M : MD} (h : SW w σ C M) : mI w σ 1 = nI (M 8 0 1) := h.m.at (g := 8) (i := 0) (j := 1) (Or.inr (Or.inr (Or.inr (Or.inr (Or.inr (Or.inr ⟨rfl, rfl, by omega, by omega⟩)))))) rfl
theorem SW.uy1 {w : MW} {σ : Nat} {C : CD} {M : MD} (h : SW w σ C M) (x : Nat) : upS σ C w (wI w σ 1 (nI x)) (mu M 8 0 1 x) := upS.set h.s h.m (g := 8) (i := 0) (j := 1) (Or.inr (Or.inr (Or.inr (Or.inr (Or.inr (Or.inr ⟨rfl, rfl, by omega, by omega⟩)))))) rfl
theorem SW.y2 {w : MW} {σ : Nat} {C : CD} {M : MD} (h : SW w σ C M) : mI w σ 2 = nI (M 8 0 2) := h.m.at (g := 8) (i := 0) (j := 2) (Or.inr (Or.inr (Or.inr (Or.inr (Or.inr (Or.inr ⟨rfl, rfl, by omega, by omega⟩)))))) rfl
theorem SW.uy2 {w : MW} {σ : Nat} {C : CD} {M : MD} (h : SW w σ C M) (x : Nat) : upS σ C w (wI w σ 2 (nI x)) (mu M 8 0 2 x) := upS.set h.s h.m (g := 8) (i := 0) (j := 2) (Or.inr (Or.inr (Or.inr (Or.inr (Or.inr (Or.inr ⟨rfl, rfl, by omega, by omega⟩)))))) rfl
theorem SW.y3 {w : MW} {σ : Nat} {C : CD} {M : MD} (h : SW w σ C M) : mI w σ 3 = nI (M 8 0 3) := h.m.at (g := 8) (i := 0) (j := 3) (Or.inr (Or.inr (Or.inr (Or.inr (Or.inr (Or.inr ⟨rfl, rfl, by omega, by omega⟩)))))) rfl
theorem SW.uy3 {w : MW} {σ : Nat} {C : CD} {M : MD} (h : SW w σ C M) (x : Nat) : upS σ C w (wI w σ 3 (nI x)) (mu M 8 0 3 x) := upS.set h.s h.m (g := 8) (i := 0) (j := 3) (Or.inr (Or.inr (Or.inr (Or.inr (Or.inr (Or.inr ⟨rfl, rfl, by omega, by omega⟩)))))) rfl
theorem SW.y4 {w : MW} {σ : Nat} {C : CD} {M : MD} (h : SW w σ C M) : mI w σ 4 = nI (M 8 0 4) := h.m.at (g := 8) (i := 0) (j := 4) (Or.inr (Or.inr (Or.inr (Or.inr (Or.inr (Or.inr ⟨rfl, rfl, by omega, by omega⟩)))))) rfl
theorem SW.uy4 {w : MW} {σ : Nat} {C : CD} {M : MD} (h : SW w σ C M) (x : Nat) : upS σ C w (wI w σ 4 (nI x)) (mu M 8 0 4 x) := upS.set h.s h.m (g := 8) (i := 0) (j := 4) (Or.inr (Or.inr (Or.inr (Or.inr (Or.inr (Or.inr ⟨rfl, rfl, by omega, by omega⟩)))))) rfl
theorem SW.sm {w : MW} {σ : Nat} {C : CD} {M : MD} (h : SW w σ C M) {j : Nat} (hj : j < 6) : mI w (gR w σ 7) j = nI (M 1 0 j) := h.m.at (g := 1) (i := 0) (j := j) (Or.inr (Or.inl ⟨rfl, rfl, hj⟩)) rfl
theorem SW.usm {w : MW} {σ : Nat} {C : CD} {M : MD} (h : SW w σ C M) {j : Nat} (hj : j < 6) (x : Nat) : upS σ C w (wI w (gR w σ 7) j (nI x)) (mu M 1 0 j x) := upS.set h.s h.m (g := 1) (i := 0) (j := j) (Or.inr (Or.inl ⟨rfl, rfl, hj⟩)) rfl
theorem SW.st {w : MW} {σ : Nat} {C : CD} {M : MD} (h : SW w σ C M) {i j : Nat} (hi : i < C 0 0 2) (hj : j < 2) : mI w (gR w (gR w σ 11) i) j = nI (M 2 i j) := h.m.at (g := 2) (i := i) (j := j) (Or.inr (Or.inr (Or.inl ⟨rfl, hi, hj⟩))) rfl
theorem SW.ust {w : MW} {σ : Nat} {C : CD} {M : MD} (h : SW w σ C M) {i j : Nat} (hi : i < C 0 0 2) (hj : j < 2) (x : Nat) : upS σ C w (wI w (gR w (gR w σ 11) i) j (nI x)) (mu M 2 i j x) := upS.set h.s h.m (g := 2) (i := i) (j := j) (Or.inr (Or.inr (Or.inl ⟨rfl, hi, hj⟩))) rfl
theorem SW.al {w : MW} {σ : Nat} {C : CD} {M : MD} (h : SW w σ C M) {i j : Nat} (hi : i < C 0 0 3) (hj : j < 9) : mI w (gR w (gR w σ 12) i) j = nI (M 3 i j) := h.m.at (g := 3) (i := i) (j := j) (Or.inr (Or.inr (Or.inr (Or.inl ⟨rfl, hi, hj⟩)))) rfl
theorem SW.ual {w : MW} {σ : Nat} {C : CD} {M : MD} (h : SW w σ C M) {i j : Nat} (hi : i < C 0 0 3) (hj : j < 9) (x : Nat) : upS σ C w (wI w (gR w (gR w σ 12) i) j (nI x)) (mu M 3 i j x) := upS.set h.s h.m (g := 3) (i := i) (j := j) (Or.inr (Or.inr (Or.inr (Or.inl ⟨rfl, hi, hj⟩)))) rfl
theorem SW.kn {w : MW} {σ : Nat} {C : CD} {M : MD} (h : SW w σ C M) {i j : Nat} (hi : i < C 0 0 3) (hj : j < C 0 0 0) : mI w (gR w (gR w σ 13) i) j = nI (M 4 i j) := h.m.at (g := 4) (i := i) (j := j) (Or.inr (Or.inr (Or.inr (Or.inr (Or.inl ⟨rfl, hi, hj⟩))))) rfl
theorem SW.ukn {w : MW} {σ : Nat} {C : CD} {M : MD} (h : SW w σ C M) {i j : Nat} (hi : i < C 0 0 3) (hj : j < C 0 0 0) (x : Nat) : upS σ C w (wI w (gR w (gR w σ 13) i) j (nI x)) (mu M 4 i j x) := upS.set h.s h.m (g := 4) (i := i) (j := j) (Or.inr (Or.inr (Or.inr (Or.inr (Or.inl ⟨rfl, hi, hj⟩))))) rfl
theorem SW.he {w : MW} {σ : Nat} {C : CD} {M : MD} (h : SW w σ C M) {i j : Nat} (hi : i < C 0 0 3) (hj : j < C 0 0 1) : mI w (gR w (gR w σ 14) i) j = nI (M 5 i j) := h.m.at (g := 5) (i := i) (j := j) (Or.inr (Or.inr (Or.inr (Or.inr (Or.inr (Or.inl ⟨rfl, hi, hj⟩)))))) rfl
theorem SW.uhe {w : MW} {σ : Nat} {C : CD} {M : MD} (h : SW w σ C M) {i j : Nat} (hi : i < C 0 0 3) (hj : j < C 0 0 1) (x : Nat) : upS σ C w (wI w (gR w (gR w σ 14) i) j (nI x)) (mu M 5 i j x) := upS.set h.s h.m (g := 5) (i := i) (j := j) (Or.inr (Or.inr (Or.inr (Or.inr (Or.inr (Or.inl ⟨rfl, hi, hj⟩)))))) rfl
