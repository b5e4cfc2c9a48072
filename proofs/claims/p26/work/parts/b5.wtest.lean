/-! ===== the law writes a test ===== -/
section
variable {d s n v m a : Nat} {u : MW}
theorem dec1 (h : s < 10) : dec s = [48 + s] := by unfold dec; rw [if_pos h]
theorem dec_f (n : Nat) : dec n ++ ([] : List Nat) = dec n := List.append_nil _
/-- what a kind's pieces come to -/
theorem tst_tx0 (hs : s < 10) : (((([] ++ sB 35) ++ (sB 33 ++ dec s)) ++ sB 36) ++ dec n) = flat (testL 0 s n v) := by
  rw [dec1 hs]
  have e : flat (testL 0 s n v) = [103, 97, 112, 32, 115, 48 + s, 62] ++ (dec n ++ []) := rfl
  rw [e, List.append_nil]
  rfl
theorem tst_tx1 (hs : s < 10) : (((([] ++ sB 37) ++ (sB 33 ++ dec s)) ++ sB 38) ++ dec n) = flat (testL 1 s n v) := by
  rw [dec1 hs]
  have e : flat (testL 1 s n v) = [112, 111, 105, 110, 116, 115, 32, 115, 48 + s, 62, 61] ++ (dec n ++ []) := rfl
  rw [e, List.append_nil]
  rfl
theorem tst_tx2 (hs : s < 10) : ((([] ++ sB 39) ++ (sB 33 ++ dec s)) ++ sB 40) = flat (testL 2 s n v) := by
  rw [dec1 hs]
  rfl
theorem tst_tx3 : (([] ++ sB 41) ++ dec n) = flat (testL 3 s n v) := by
  have e : flat (testL 3 s n v) = [116, 117, 114, 110, 32, 62, 32] ++ (dec n ++ []) := rfl
  rw [e, List.append_nil]
  rfl
theorem tst_tx4 (hs : s < 10) : ((((([] ++ sB 42) ++ dec n) ++ sB 43) ++ (sB 33 ++ dec s)) ++ sB 44) = flat (testL 4 s n v) := by
  rw [dec1 hs]
  have e : flat (testL 4 s n v) = sB 42 ++ (dec n ++ (sB 43 ++ ((sB 33 ++ [48 + s]) ++ sB 44))) := rfl
  rw [e]
  simp only [List.append_assoc, List.nil_append]
theorem tst_tx5 (hs : s < 10) (hv : v < 10) : (((((([] ++ sB 45) ++ (sB 33 ++ dec s)) ++ sB 46) ++ (sB 34 ++ dec v)) ++ sB 36) ++ dec n) = flat (testL 5 s n v) := by
  rw [dec1 hs, dec1 hv]
  have e : flat (testL 5 s n v) = (((((([] ++ sB 45) ++ (sB 33 ++ [48 + s])) ++ sB 46) ++ (sB 34 ++ [48 + v])) ++ sB 36) ++ (dec n ++ [])) := rfl
  rw [e, List.append_nil]
theorem tst_tx6 (hs : s < 10) (hv : v < 10) : (((((((([] ++ sB 47) ++ (sB 33 ++ dec s)) ++ sB 48) ++ (sB 33 ++ dec s)) ++ sB 49) ++ (sB 34 ++ dec v)) ++ sB 50) ++ dec n) = flat (testL 6 s n v) := by
  rw [dec1 hs, dec1 hv]
  have e : flat (testL 6 s n v) = (((((((([] ++ sB 47) ++ (sB 33 ++ [48 + s])) ++ sB 48) ++ (sB 33 ++ [48 + s])) ++ sB 49) ++ (sB 34 ++ [48 + v])) ++ sB 50) ++ (dec n ++ [])) := rfl
  rw [e, List.append_nil]
theorem tst_tx8 (hs : s < 10) : ((((([] ++ sB 52) ++ (sB 33 ++ dec s)) ++ sB 53) ++ dec n) ++ sB 54) = flat (testL 8 s n v) := by
  rw [dec1 hs]
  have e : flat (testL 8 s n v) = (([] ++ sB 52) ++ (sB 33 ++ [48 + s])) ++ (sB 53 ++ (dec n ++ sB 54)) := rfl
  rw [e]
  simp only [List.append_assoc, List.nil_append]
end
