/-! ===== rows read and written, and other small methods ===== -/
theorem mTg_wI (w : MW) (c k : Nat) (x : Int32) : mTg (wI w c k x) = mTg w := rfl
theorem mLn_wI (w : MW) (c k : Nat) (x : Int32) : mLn (wI w c k x) = mLn w := rfl
theorem mR_wI (w : MW) (c k : Nat) (x : Int32) : mR (wI w c k x) = mR w := rfl
theorem mSz_wI (w : MW) (c k : Nat) (x : Int32) : mSz (wI w c k x) = mSz w := rfl
theorem mSl_wI (w : MW) (c k : Nat) (x : Int32) : mSl (wI w c k x) = mSl w := rfl
theorem gR_wI (w : MW) (c k : Nat) (x : Int32) : gR (wI w c k x) = gR w := rfl
/-- a world with other numbers -/
def wJ (w : MW) (J : Nat → Nat → Int32) : MW := (w.1, w.2.1, w.2.2.1, w.2.2.2.1, J, w.2.2.2.2.2)
theorem mTg_wJ (w : MW) (J : Nat → Nat → Int32) : mTg (wJ w J) = mTg w := rfl
theorem mLn_wJ (w : MW) (J : Nat → Nat → Int32) : mLn (wJ w J) = mLn w := rfl
theorem mR_wJ (w : MW) (J : Nat → Nat → Int32) : mR (wJ w J) = mR w := rfl
theorem mSz_wJ (w : MW) (J : Nat → Nat → Int32) : mSz (wJ w J) = mSz w := rfl
theorem mSl_wJ (w : MW) (J : Nat → Nat → Int32) : mSl (wJ w J) = mSl w := rfl
theorem gR_wJ (w : MW) (J : Nat → Nat → Int32) : gR (wJ w J) = gR w := rfl
theorem mI_wJ (w : MW) (J : Nat → Nat → Int32) : mI (wJ w J) = J := rfl
theorem wJ_wJ (w : MW) (J J' : Nat → Nat → Int32) : wJ (wJ w J) J' = wJ w J' := rfl
theorem wJ_self (w : MW) : wJ w (mI w) = w := rfl
/-- a row set -/
def jr (J : Nat → Nat → Int32) (a : Nat) (f : Nat → Int32) : Nat → Nat → Int32 := fun c k => if c = a then f k else J c k
/-- a number set -/
def jw (J : Nat → Nat → Int32) (a i : Nat) (x : Int32) : Nat → Nat → Int32 := fun c k => if c = a ∧ k = i then x else J c k
theorem wI_wJ (w : MW) (J : Nat → Nat → Int32) (c k : Nat) (x : Int32) : wI (wJ w J) c k x = wJ w (jw J c k x) := rfl
theorem wI_eq (w : MW) (c k : Nat) (x : Int32) : wI w c k x = wJ w (jw (mI w) c k x) := rfl
/-- what get answers -/
def gt (w : MW) (a : Nat) (i : Int32) : Int32 := if i < nI 0 then nI 0 else if nI (mLn w a) ≤ i then nI 0 else mI w a i.toNatClampNeg
theorem c_get {d a : Nat} {i : Int32} {w : MW} (h : mTg w a = 50) (hn : mLn w a < 2147483648) : mK d 123 [.ref a, .int i] w = some (.inl (some (.int (gt w a i))), w) := by
  rw [e_123, b_123_0]
  unfold gt
  split
  · rw [b_123_16, b_123_17]
  · rename_i h1
    rw [b_123_4 ⟨by omega, by omega⟩]
    split
    · rw [b_123_16, b_123_17]
    · rename_i h2
      obtain ⟨j, hj, rfl⟩ := jof h1
      rw [jle hn hj] at h2
      rw [b_123_10 h h1 (by rw [jcl hj]; omega), b_123_17]
theorem gt_in {w : MW} {a i : Nat} (hi : i < mLn w a) (hn : mLn w a < 2147483648) : gt w a (nI i) = mI w a i := by
  unfold gt
  rw [ijlt (by omega) (by omega), if_neg (by omega), ijle hn (by omega), if_neg (by omega), jcl (by omega)]
theorem gt_out {w : MW} {a i : Nat} (hi : mLn w a ≤ i) (hn : i < 2147483648) : gt w a (nI i) = nI 0 := by
  unfold gt
  rw [ijlt (by omega) (by omega), if_neg (by omega), ijle (by omega) (by omega), if_pos hi]
theorem gt_neg {w : MW} {a : Nat} : gt w a (nI 4294967295) = nI 0 := by
  unfold gt
  rw [if_pos jneg_lt]
/-- get at a place that there is -/
theorem c_getN {d a i : Nat} {w : MW} (h : mTg w a = 50) (hi : i < mLn w a) (hn : mLn w a < 2147483648) : mK d 123 [.ref a, .int (nI i)] w = some (.inl (some (.int (mI w a i))), w) := by
  rw [c_get h hn, gt_in hi hn]
/-- what put leaves -/
def pt (w : MW) (a : Nat) (i x : Int32) : MW := if i < nI 0 then w else if nI (mLn w a) ≤ i then w else wI w a i.toNatClampNeg x
theorem c_put {d a : Nat} {i x : Int32} {w : MW} (h : mTg w a = 50) (hE : mE ≤ a) (hn : mLn w a < 2147483648) : mK d 124 [.ref a, .int i, .int x] w = some (.inl none, pt w a i x) := by
  rw [e_124, b_124_0]
  unfold pt
  split
  · rw [b_124_14]
  · rename_i h1
    rw [b_124_4 ⟨by omega, by omega⟩]
    split
    · rw [b_124_14]
    · rename_i h2
      obtain ⟨j, hj, rfl⟩ := jof h1
      rw [jle hn hj] at h2
      rw [b_124_10 h hE h1 (by rw [jcl hj]; omega), b_124_14]
theorem pt_in {w : MW} {a i : Nat} {x : Int32} (hi : i < mLn w a) (hn : mLn w a < 2147483648) : pt w a (nI i) x = wI w a i x := by
  unfold pt
  rw [ijlt (by omega) (by omega), if_neg (by omega), ijle hn (by omega), if_neg (by omega), jcl (by omega)]
theorem pt_out {w : MW} {a i : Nat} {x : Int32} (hi : mLn w a ≤ i) (hn : i < 2147483648) : pt w a (nI i) x = w := by
  unfold pt
  rw [ijlt (by omega) (by omega), if_neg (by omega), ijle (by omega) (by omega), if_pos hi]
theorem c_putN {d a i : Nat} {x : Int32} {w : MW} (h : mTg w a = 50) (hE : mE ≤ a) (hi : i < mLn w a) (hn : mLn w a < 2147483648) : mK d 124 [.ref a, .int (nI i), .int x] w = some (.inl none, wI w a i x) := by
  rw [c_put h hE hn, pt_in hi hn]
theorem c_min {d : Nat} {x y : Int32} {w : MW} : mK d 183 [.int x, .int y] w = some (.inl (some (.int (if y < x then y else x))), w) := by
  rw [e_183, b_183_0]
  split
  · rw [b_183_9, b_183_10]
  · rw [b_183_5, b_183_10]
theorem c_max {d : Nat} {x y : Int32} {w : MW} : mK d 182 [.int x, .int y] w = some (.inl (some (.int (if x < y then y else x))), w) := by
  rw [e_182, b_182_0]
  split
  · rw [b_182_9, b_182_10]
  · rw [b_182_5, b_182_10]
theorem c_minN {d a b : Nat} {w : MW} (ha : a < 2147483648) (hb : b < 2147483648) : mK d 183 [.int (nI a), .int (nI b)] w = some (.inl (some (.int (nI (min a b)))), w) := by
  rw [c_min]
  simp only [jlt hb ha]
  split
  · rw [Nat.min_eq_right (by omega)]
  · rw [Nat.min_eq_left (by omega)]
theorem c_maxN {d a b : Nat} {w : MW} (ha : a < 2147483648) (hb : b < 2147483648) : mK d 182 [.int (nI a), .int (nI b)] w = some (.inl (some (.int (nI (max a b)))), w) := by
  rw [c_max]
  simp only [jlt ha hb]
  split
  · rw [Nat.max_eq_right (by omega)]
  · rw [Nat.max_eq_left (by omega)]
theorem c_copy {d a b : Nat} {w : MW} (ha : mTg w a = 50) (hb : mTg w b = 50) (hE : mE ≤ b) (hn : mLn w a < 2147483648) (hm : mLn w b < 2147483648) : mK (d + 1) 125 [.ref a, .ref b] w = some (.inl none, wJ w (jr (mI w) b (fun k => if k < min (mLn w a) (mLn w b) then mI w a k else mI w b k))) := by
  rw [e_125, b_125_0 ⟨by omega, by omega⟩ ⟨by omega, by omega⟩, c_minN hn hm, mThen_ok]
  simp only [Option.toList_some, List.cons_append, List.nil_append]
  have h1 : min (mLn w a) (mLn w b) < 2147483648 := by omega
  rw [b_125_11 ⟨Or.inl ⟨ha, hb⟩, hE, kn_0, kn_0, by rw [show (0 : Int32) = nI 0 from rfl, jlt h1 (by omega)]; omega, by rw [kl_0, jcl h1]; omega, by rw [kl_0, jcl h1]; omega, by omega⟩]
  rw [kl_0, jcl h1]
  congr 2
  unfold wC wJ jr va_cpy
  simp only [Nat.zero_le, true_and, Nat.zero_add, Nat.sub_zero]
theorem jr_step (w : MW) (a i : Nat) (x : Int32) : jw (jr (mI w) a (fun k => if k < i then x else mI w a k)) a i x = jr (mI w) a (fun k => if k < i + 1 then x else mI w a k) := by
  funext c k
  unfold jw jr
  by_cases e : c = a
  · subst e
    by_cases e2 : k = i
    · subst e2; simp
    · have : (k < i + 1) = (k < i) := by apply propext; omega
      simp [e2, this]
  · simp [e]
theorem jr_none (w : MW) (a : Nat) (x : Int32) : jr (mI w) a (fun k => if k < 0 then x else mI w a k) = mI w := by
  funext c k
  unfold jr
  by_cases e : c = a
  · subst e; simp
  · simp [e]
theorem c_fill {d a : Nat} {x : Int32} {w : MW} (ha : mTg w a = 50) (hE : mE ≤ a) (hn : mLn w a < 2147483648) : mK d 188 [.ref a, .int x] w = some (.inl none, wJ w (jr (mI w) a (fun k => if k < mLn w a then x else mI w a k))) := by
  rw [e_188, b_188_0 ⟨by omega, by omega⟩]
  have h := loop0 (fun i => mX d 188 5 [.ref a, .int x, .int (nI i), .int (nI (mLn w a))] [] (wJ w (jr (mI w) a (fun k => if k < i then x else mI w a k)))) (mLn w a) (fun i hi => by
    rw [b_188_5, ijle hn (by omega), if_neg (by omega), b_188_10 (w := wJ w (jr (mI w) a (fun k => if k < i then x else mI w a k))) ha hE (by rw [jlt (by omega) (by omega)]; omega) (by rw [jcl (by omega)]; exact hi), jadd, jcl (by omega), wI_wJ, jr_step])
  have h0 : wJ w (jr (mI w) a (fun k => if k < 0 then x else mI w a k)) = w := by rw [jr_none, wJ_self]
  simp only [h0] at h
  rw [h, b_188_5, ijle hn hn, if_pos (Nat.le_refl _), b_188_20]
