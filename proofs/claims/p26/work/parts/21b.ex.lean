/-! ===== more steps ===== -/
theorem X_idiv {d k pc len : Nat} {ax : List Nat} {L st : List Value} {w : MW} {x y : Int32} (hf : mFetch k pc = some (.idiv, len, ax)) (h : ¬ y = 0) : mX d k pc L (.int y :: .int x :: st) w = mX d k (pc + len) L (.int (x / y) :: st) w :=
  X_st hf rfl (by simp only [mstep]; rw [if_neg h])
theorem X_irem {d k pc len : Nat} {ax : List Nat} {L st : List Value} {w : MW} {x y : Int32} (hf : mFetch k pc = some (.irem, len, ax)) (h : ¬ y = 0) : mX d k pc L (.int y :: .int x :: st) w = mX d k (pc + len) L (.int (x - x / y * y) :: st) w :=
  X_st hf rfl (by simp only [mstep]; rw [if_neg h])
theorem X_swD {d k pc len q : Nat} {dd lo hi : Int} {offs : Array Int} {ax : List Nat} {L st : List Value} {w : MW} {x : Int32} (hf : mFetch k pc = some (.tableswitch dd lo hi offs, len, ax)) (h : x.toInt < lo ∨ hi < x.toInt) (hq : ax.getD 0 0 = q) : mX d k pc L (.int x :: st) w = mX d k q L st w := by
  subst hq
  exact X_st hf rfl (by simp only [mstep, mTab]; rw [if_pos h])
theorem mX_maskK {d k pc m : Nat} {L L' st : List Value} {w : MW} (hm : mLvm k pc = m) (h : mMask m L = L') : mX d k pc L st w = mX d k pc L' st w := by
  subst hm
  exact mX_mask h
