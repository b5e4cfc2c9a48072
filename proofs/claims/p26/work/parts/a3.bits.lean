/-! ===== bytes packed and unpacked ===== -/
theorem nI_bv (a : Nat) : (nI a).toBitVec = BitVec.ofNat 32 a := rfl
theorem i32_ext {x y : Int32} (h : x.toBitVec = y.toBitVec) : x = y := Int32.toBitVec_inj.mp h
theorem j_or {a b : Nat} (ha : a < 8388608) (hb : b < 256) : nI (a * 256) ||| nI b = nI (a * 256 + b) := by
  refine i32_ext ?_
  rw [Int32.toBitVec_or, nI_bv, nI_bv, nI_bv]
  refine BitVec.eq_of_toNat_eq ?_
  rw [BitVec.toNat_or, BitVec.toNat_ofNat, BitVec.toNat_ofNat, BitVec.toNat_ofNat, Nat.mod_eq_of_lt (by omega), Nat.mod_eq_of_lt (by omega), Nat.mod_eq_of_lt (by omega)]
  have := Nat.shiftLeft_add_eq_or_of_lt (a := a) (b := b) (i := 8) hb
  rw [Nat.shiftLeft_eq] at this
  exact this.symm
theorem j_shl {a : Nat} (ha : a < 8388608) : nI a <<< (nI 8 &&& 31) = nI (a * 256) := by
  have e : (nI 8 &&& 31) = 8 := by decide +kernel
  rw [e]
  refine i32_ext ?_
  rw [Int32.toBitVec_shiftLeft, nI_bv, nI_bv]
  refine BitVec.eq_of_toNat_eq ?_
  have e2 : ((8 : Int32).toBitVec.smod 32) = 8#32 := by decide +kernel
  rw [e2, BitVec.shiftLeft_eq', BitVec.toNat_shiftLeft, BitVec.toNat_ofNat, BitVec.toNat_ofNat, BitVec.toNat_ofNat, Nat.shiftLeft_eq, Nat.mod_eq_of_lt (show 8 < 2 ^ 32 by omega), Nat.mod_eq_of_lt (show a < 2 ^ 32 by omega)]
theorem j_shr {a s : Nat} (ha : a < 2147483648) (hs : s < 32) : nI a >>> (nI s &&& 31) = nI (a / 2 ^ s) := by
  have e : ∀ s, s < 32 → (nI s &&& 31) = nI s ∧ ((nI s).toBitVec.smod 32).toNat = s := by decide +kernel
  rw [(e s hs).1]
  have hd : a / 2 ^ s ≤ a := Nat.div_le_self _ _
  refine i32_ext ?_
  rw [Int32.toBitVec_shiftRight, nI_bv a, nI_bv (a / 2 ^ s)]
  refine BitVec.eq_of_toNat_eq ?_
  rw [BitVec.sshiftRight_eq', (e s hs).2, BitVec.toNat_sshiftRight_of_msb_false (by rw [BitVec.msb_eq_false_iff_two_mul_lt, BitVec.toNat_ofNat, Nat.mod_eq_of_lt (by omega)]; omega), BitVec.toNat_ofNat, BitVec.toNat_ofNat, Nat.mod_eq_of_lt (by omega), Nat.mod_eq_of_lt (by omega), Nat.shiftRight_eq_div_pow]
theorem j_and {a : Nat} (ha : a < 2147483648) : nI a &&& nI 255 = nI (a % 256) := by
  refine i32_ext ?_
  rw [Int32.toBitVec_and, nI_bv, nI_bv, nI_bv]
  refine BitVec.eq_of_toNat_eq ?_
  rw [BitVec.toNat_and, BitVec.toNat_ofNat, BitVec.toNat_ofNat, BitVec.toNat_ofNat, Nat.mod_eq_of_lt (show a < 2 ^ 32 by omega), Nat.mod_eq_of_lt (show 255 < 2 ^ 32 by omega), Nat.mod_eq_of_lt (show a % 256 < 2 ^ 32 by omega)]
  exact Nat.and_two_pow_sub_one_eq_mod a 8
