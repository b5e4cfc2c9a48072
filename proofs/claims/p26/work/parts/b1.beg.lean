/-! ===== how a bee begins: bounds and invariants ===== -/
section
variable {C : CD}
theorem mok_beg (h : CB C) : MOk C 1000 (begM C 0) := by
  have h1 := h.1
  have h5 := h.2.2.2.2.1
  have h7 := h.2.2.2.2.2.2.1
  have h9 := h.2.2.2.2.2.2.2.2.1
  refine ⟨fun g i j g1 g2 => ?_, Nat.zero_le _, Nat.zero_le _, Nat.zero_le _, Or.inr ⟨?_, ?_, ?_, ?_⟩, fun s => ⟨?_, Nat.zero_le _, Nat.le_refl _⟩, fun s q1 q2 => ⟨?_, rfl, rfl⟩⟩
  · unfold begM
    rw [if_neg (by omega)]
    split
    · split
      · split <;> omega
      · split
        · have := (h5 i).1; omega
        · split <;> omega
    · split
      · rw [h9]
        split
        · have := knF_lt h i j (C 10 i 0); omega
        · omega
      · omega
  · show 0 < C 0 0 3; omega
  · show 0 < C 0 0 4; omega
  · show 0 < C 7 0 2; have := h7 0; omega
  · show 0 < C 7 0 1; have := h7 0; omega
  · show (if s < C 0 0 3 then 1 else 0) ≤ 1
    split <;> omega
  · show (if s < C 0 0 3 then 1 else 0) = 0
    rw [if_neg (by omega)]
theorem sok_beg (h : CB C) : SOk C 1000 (begM C 0) := by
  have h9 := h.2.2.2.2.2.2.2.2.1
  refine ⟨⟨fun z => z, fun z => z⟩, fun _ => ⟨rfl, rfl, rfl, Nat.zero_mod _⟩, Nat.zero_le _, fun s k hs _ => ?_⟩
  show C 6 s k ≤ 20
  rw [h9, if_pos hs]
  have := knF_lt h s k (C 10 s 0)
  omega
theorem su_z {f : Nat → Nat} : ∀ n, (∀ i, i < n → f i = 0) → su n f = 0 := by
  intro n
  induction n with
  | zero => intro _; rfl
  | succ n ih => intro h; show su n f + f n = 0; rw [ih (fun i hi => h i (by omega)), h n (by omega)]
theorem su_o {f : Nat → Nat} : ∀ n, (∀ i, i < n → f i = 1) → su n f = n := by
  intro n
  induction n with
  | zero => intro _; rfl
  | succ n ih => intro h; show su n f + f n = n + 1; rw [ih (fun i hi => h i (by omega)), h n (by omega)]
theorem iv_beg (h : CB C) : iv C (begM C 0) := by
  have h1 := h.1
  refine ⟨⟨su_z _ (fun _ _ => rfl), su_z _ (fun _ _ => rfl), su_z _ (fun _ _ => rfl), su_z _ (fun _ _ => rfl), su_z _ (fun _ _ => rfl), fun _ => Nat.le_refl _, rfl, Nat.le_refl _, ?_⟩, fun s => ⟨Nat.zero_le _, fun _ => Nat.zero_le _, (h.2.2.2.2.1 s).1⟩, fun _ => ?_⟩
  · have e : su (C 0 0 3) (fun s => begM C 0 3 s 4) = C 0 0 3 := su_o _ (fun _ _ => rfl)
    show 0 + su (C 0 0 3) (fun s => begM C 0 3 s 4) = C 0 0 3
    omega
  · show (if 0 < C 0 0 3 then 1 else 0) = 1
    rw [if_pos (by omega)]
end
