/-! ===== numbers of 32 bits that are small numbers ===== -/
theorem jlt {a b : Nat} (ha : a < 2147483648) (hb : b < 2147483648) : nI a < nI b ↔ a < b := nI_ltI ha hb
theorem jle {a b : Nat} (ha : a < 2147483648) (hb : b < 2147483648) : nI a ≤ nI b ↔ a ≤ b := nI_leI ha hb
theorem jeq {a b : Nat} (ha : a < 2147483648) (hb : b < 2147483648) : nI a = nI b ↔ a = b := nI_eq ha hb
theorem jti {a : Nat} (ha : a < 2147483648) : (nI a).toInt = (a : Int) := nI_toInt ha
theorem jadd (a b : Nat) : nI a + nI b = nI (a + b) := nI_add a b
theorem jmul (a b : Nat) : nI a * nI b = nI (a * b) := (Int32.ofNat_mul a b).symm
theorem jsub {a b : Nat} (h : b ≤ a) : nI a - nI b = nI (a - b) := by
  have h1 : nI (a - b) + nI b = nI a := by rw [jadd]; congr 1; omega
  rw [← h1, Int32.add_sub_cancel]
theorem jdiv {a b : Nat} (ha : a < 2147483648) (hb : b < 2147483648) : nI a / nI b = nI (a / b) := by
  have hne : nI a ≠ Int32.minValue := fun h => by
    have h1 := congrArg Int32.toInt h
    rw [jti ha] at h1
    have h2 : Int32.minValue.toInt = -2147483648 := by decide
    omega
  have hd : a / b < 2147483648 := Nat.lt_of_le_of_lt (Nat.div_le_self a b) ha
  refine Int32.toInt_inj.mp ?_
  rw [Int32.toInt_div_of_ne_left _ _ hne, jti ha, jti hb, jti hd]
  rfl
/-- what -1 is -/
abbrev NEG : Nat := 4294967295
theorem jm1 : (-1 : Int32) = nI 4294967295 := by decide +kernel
theorem jneg_lt : nI 4294967295 < nI 0 := by decide +kernel
theorem jneg_nle {a : Nat} (ha : a < 2147483648) : ¬ nI a ≤ nI 4294967295 := by
  rw [← jm1, Int32.le_iff_toInt_le, jti ha]
  have h2 : (-1 : Int32).toInt = -1 := by decide
  omega
theorem jneg_lt2 {a : Nat} (ha : a < 2147483648) : nI 4294967295 < nI a := by
  rw [← jm1, Int32.lt_iff_toInt_lt, jti ha]
  have h2 : (-1 : Int32).toInt = -1 := by decide
  omega
theorem jneg_le2 {a : Nat} (ha : a < 2147483648) : nI 4294967295 ≤ nI a := by
  rw [← jm1, Int32.le_iff_toInt_le, jti ha]
  have h2 : (-1 : Int32).toInt = -1 := by decide
  omega
theorem jneg_ne {a : Nat} (ha : a < 2147483648) : ¬ nI a = nI 4294967295 := fun h => by
  have h1 := congrArg Int32.toInt h
  rw [← jm1, jti ha] at h1
  have h2 : (-1 : Int32).toInt = -1 := by decide
  omega
theorem jneg_ne2 {a : Nat} (ha : a < 2147483648) : ¬ nI 4294967295 = nI a := fun h => jneg_ne ha h.symm
theorem jneg_add : nI 4294967295 + nI 1 = nI 0 := by decide +kernel
theorem jof {x : Int32} (h : ¬ x < nI 0) : ∃ j : Nat, j < 2147483648 ∧ x = nI j := nI_of h
/-! loops -/
theorem loopU {α : Type} (F : Nat → α) (n : Nat) (hs : ∀ i, i < n → F i = F (i + 1)) : ∀ i, i ≤ n → F i = F n := by
  intro i hi
  obtain ⟨m, rfl⟩ : ∃ m, n = i + m := ⟨n - i, by omega⟩
  clear hi
  induction m generalizing i with
  | zero => rfl
  | succ m ih =>
    rw [hs i (by omega)]
    have h := ih (i + 1) (fun j hj => hs j (by omega))
    rw [h]
    congr 1
    omega
/-- from the loop's head at 0 to its head at n -/
theorem loop0 {α : Type} (F : Nat → α) (n : Nat) (hs : ∀ i, i < n → F i = F (i + 1)) : F 0 = F n := loopU F n hs 0 (Nat.zero_le n)
/-- sums -/
def su : Nat → (Nat → Nat) → Nat
  | 0, _ => 0
  | n + 1, f => su n f + f n
theorem ijle {α : Type} {a b : Nat} {x y : α} (ha : a < 2147483648) (hb : b < 2147483648) : (if nI a ≤ nI b then x else y) = if a ≤ b then x else y := by simp only [jle ha hb]
theorem ijlt {α : Type} {a b : Nat} {x y : α} (ha : a < 2147483648) (hb : b < 2147483648) : (if nI a < nI b then x else y) = if a < b then x else y := by simp only [jlt ha hb]
theorem ijeq {α : Type} {a b : Nat} {x y : α} (ha : a < 2147483648) (hb : b < 2147483648) : (if nI a = nI b then x else y) = if a = b then x else y := by simp only [jeq ha hb]
theorem ijne {α : Type} {a b : Nat} {x y : α} (ha : a < 2147483648) (hb : b < 2147483648) : (if ¬ nI a = nI b then x else y) = if ¬ a = b then x else y := by simp only [jeq ha hb]
