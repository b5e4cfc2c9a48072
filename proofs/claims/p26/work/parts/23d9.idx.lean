/-! ===== places given as numbers ===== -/
theorem jcl {a : Nat} (ha : a < 2147483648) : (nI a).toNatClampNeg = a := nI_clamp ha
theorem jnn {a : Nat} (ha : a < 2147483648) : ¬ nI a < nI 0 := nI_pos ha
theorem jclE {x : Int32} {a : Nat} (h : x = nI a) (ha : a < 2147483648) : x.toNatClampNeg = a := by rw [h]; exact jcl ha
theorem jnnE {x : Int32} {a : Nat} (h : x = nI a) (ha : a < 2147483648) : ¬ x < nI 0 := by rw [h]; exact jnn ha
