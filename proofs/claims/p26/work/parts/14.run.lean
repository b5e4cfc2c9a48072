/-! ===== THE WHOLE RUN ===== -/
theorem lg_sl_len {av : Nat → Value} {s0 : State} {ex : Nat → Nat} (hav : mAv av s0 ex) (as : List Value) : (lg_sl (as.map (lf av))).length = (mSpread as).length := by
  induction as with
  | nil => rfl
  | cons v r ih =>
    have hc := cat_lf hav v
    unfold mSpread
    by_cases h : v.category = 2
    · rw [if_pos h]
      rw [h] at hc
      simp only [List.map_cons, List.length_cons, ← ih]
      unfold lg_sl
      simp [hc]
    · rw [if_neg h]
      simp only [List.map_cons, List.length_cons, ← ih]
      unfold lg_sl
      rw [← hc] at h
      simp [h]
theorem mEnt_sub {av : Nat → Value} {s0 : State} {ex : Nat → Nat} (hav : mAv av s0 ex) (n : Nat) (as : List Value) : ∀ q ∈ lvL av (mEnt n as), q ∈ lv_args 0 (as.map (lf av)) := by
  have key : ∀ (as : List Value) (i j : Nat) (x : Value), (mSpread as)[j]? = some x → (∀ n, x ≠ .retAddr n) → (i + j, lf av x) ∈ lv_args i (as.map (lf av)) := by
    intro as
    induction as with
    | nil => intro i j x h _; simp [mSpread] at h
    | cons v r ih =>
      intro i j x h hn
      have hc := cat_lf hav v
      unfold mSpread at h
      simp only [List.map_cons]
      unfold lv_args
      by_cases h2 : v.category = 2
      · rw [if_pos h2] at h
        rw [h2] at hc
        match j, h with
        | 0, h => cases h; simp
        | 1, h => exact absurd (Option.some.inj h).symm (hn 0)
        | j + 2, h =>
          have h9 := ih (i + 2) j x h hn
          have e9 : i + 2 + j = i + (j + 2) := by omega
          rw [e9] at h9
          simp [hc, h9]
      · rw [if_neg h2] at h
        match j, h with
        | 0, h => cases h; simp
        | j + 1, h =>
          have h9 := ih (i + 1) j x h hn
          have e9 : i + 1 + j = i + (j + 1) := by omega
          rw [e9] at h9
          rw [← hc] at h2
          simp [h2, h9]
  rintro ⟨j, u⟩ h
  obtain ⟨x, hx, hn, rfl⟩ := lvL_mem.mp h
  unfold mEnt at hx
  by_cases hj : j < (mSpread as).length
  · rw [List.getElem?_append_left hj] at hx
    have h9 := key as 0 j x hx hn
    rw [Nat.zero_add] at h9
    exact h9
  · rw [List.getElem?_append_right (by omega)] at hx
    have h9 := List.mem_of_getElem? hx
    exact absurd (List.eq_of_mem_replicate h9) (hn 0)
