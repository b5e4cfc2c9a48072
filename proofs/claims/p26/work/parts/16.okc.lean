/-! ===== THE CLASSES' FACTS ===== -/
theorem mIn_all {ws : List Cond} (h : (ws.all fun w => decide (w ∈ lw_tbl) && goodWord w) = true) : ∀ w ∈ ws, w ∈ gwl := fun w hw => by
  have h1 := List.all_eq_true.mp h w hw
  simp only [Bool.and_eq_true, decide_eq_true_eq] at h1
  exact gw_in (List.mem_append_right _ h1.1) h1.2
theorem mOkc_of {ci n : Nat} {C : String} {T : Nat → String × String × String × Bool} {ty : Nat → FieldType} (h1 : mC ci = (C, T, n)) (h2 : mCl[ci]? = some (C, T, n)) (h3 : mTy ci = ty) (hty : ∀ k, k < n → parseFieldDescriptor (T k).2.2.1 = some (ty k)) (hnm : ∀ a, a < n → ∀ b, b < n → a ≠ b → (T a).2.1 ≠ (T b).2.1)
    (hw : ((u_ws C T n ++ [Cond.instantiable C n, Cond.initialized C]).all fun w => decide (w ∈ lw_tbl) && goodWord w) = true) : mOkc ci := by
  have h9 := mIn_all hw
  unfold mOkc mNf
  rw [h1, h3]
  exact ⟨h2, hty, hnm, fun w hw => h9 w (List.mem_append_left _ hw), h9 _ (List.mem_append_right _ (by simp)), h9 _ (List.mem_append_right _ (by simp))⟩
theorem mOkc_all : ∀ ci, ci < 13 → mOkc ci
  | 0, _ => mOkc_of rfl rfl rfl tyX0_ok nmX0 (by decide +kernel)
  | 1, _ => mOkc_of rfl rfl rfl tyX1_ok nmX1 (by decide +kernel)
  | 2, _ => mOkc_of rfl rfl rfl tyX2_ok nmX2 (by decide +kernel)
  | 3, _ => mOkc_of rfl rfl rfl tyX3_ok nmX3 (by decide +kernel)
  | 4, _ => mOkc_of rfl rfl rfl tyX4_ok nmX4 (by decide +kernel)
  | 5, _ => mOkc_of rfl rfl rfl tyX5_ok nmX5 (by decide +kernel)
  | 6, _ => mOkc_of rfl rfl rfl tyX6_ok nmX6 (by decide +kernel)
  | 7, _ => mOkc_of rfl rfl rfl tyX7_ok nmX7 (by decide +kernel)
  | 8, _ => mOkc_of rfl rfl rfl tyX8_ok nmX8 (by decide +kernel)
  | 9, _ => mOkc_of rfl rfl rfl tyX9_ok nmX9 (by decide +kernel)
  | 10, _ => mOkc_of rfl rfl rfl tyX10_ok nmX10 (by decide +kernel)
  | 11, _ => mOkc_of rfl rfl rfl tyJ0_ok nmJ0 (by decide +kernel)
  | 12, _ => mOkc_of rfl rfl rfl tyJ4_ok nmJ4 (by decide +kernel)
  | n + 13, h => absurd h (by omega)
