/-! ===== what holds of a bee at any time: sums ===== -/
section
variable {C : CD} {B e a : Nat} {M M' : MD}
theorem su_ext {n : Nat} {f g : Nat → Nat} (h : ∀ i, i < n → f i = g i) : su n f = su n g := by
  induction n with
  | zero => rfl
  | succ n ih => rw [su, su, ih (fun i hi => h i (by omega)), h n (by omega)]
theorem su_mono {n : Nat} {f g : Nat → Nat} (h : ∀ i, i < n → f i ≤ g i) : su n f ≤ su n g := by
  induction n with
  | zero => exact Nat.le_refl _
  | succ n ih =>
    rw [su, su]
    have h1 := ih (fun i hi => h i (by omega))
    have h2 := h n (by omega)
    omega
theorem su_upd {n i x : Nat} {f : Nat → Nat} (hi : i < n) : su n (fun s => if s = i then x else f s) + f i = su n f + x := by
  induction n with
  | zero => omega
  | succ n ih =>
    rw [su, su]
    by_cases q : n = i
    · subst q
      rw [if_pos rfl, su_ext (g := f) (fun j hj => if_neg (by omega))]
      omega
    · rw [if_neg q]
      have := ih (by omega)
      omega
theorem su_mu {n g i j x : Nat} (hi : i < n) : su n (fun s => mu M g i j x g s j) + M g i j = su n (fun s => M g s j) + x := by
  have := su_upd (x := x) (f := fun s => M g s j) hi
  rw [← this]
  congr 1
  refine su_ext fun s _ => ?_
  by_cases q : s = i
  · subst q; rw [mu_s, if_pos rfl]
  · rw [mu_n (by omega), if_neg q]
theorem su_mo {n g i j x g' j' : Nat} (h : ¬ (g' = g ∧ j' = j)) : su n (fun s => mu M g i j x g' s j') = su n (fun s => M g' s j') := su_ext fun s _ => mu_n (by omega)
def s3 (C : CD) (M : MD) (j : Nat) : Nat := su (C 0 0 3) (fun s => M 3 s j)
def s2 (C : CD) (M : MD) (j : Nat) : Nat := su (C 0 0 2) (fun v => M 2 v j)
theorem s3_mu {i j x : Nat} (hi : i < C 0 0 3) : s3 C (mu M 3 i j x) j + M 3 i j = s3 C M j + x := su_mu hi
theorem s3_mo {g i j x j' : Nat} (h : ¬ (3 = g ∧ j' = j)) : s3 C (mu M g i j x) j' = s3 C M j' := su_mo h
theorem s2_mu {i j x : Nat} (hi : i < C 0 0 2) : s2 C (mu M 2 i j x) j + M 2 i j = s2 C M j + x := su_mu hi
theorem s2_mo {g i j x j' : Nat} (h : ¬ (2 = g ∧ j' = j)) : s2 C (mu M g i j x) j' = s2 C M j' := su_mo h
theorem s3_ext {j : Nat} (h : ∀ s, M' 3 s j = M 3 s j) : s3 C M' j = s3 C M j := su_ext fun s _ => h s
theorem s2_ext {j : Nat} (h : ∀ s, M' 2 s j = M 2 s j) : s2 C M' j = s2 C M j := su_ext fun s _ => h s
/-- the sums; e: a turn that is not yet written down; a: an appeal granted that is not -/
def ivS (C : CD) (e a : Nat) (M : MD) : Prop :=
  s3 C M 6 = M 1 0 0 ∧ s3 C M 7 = M 1 0 1 ∧ s3 C M 5 = M 1 0 2 ∧ s2 C M 0 = M 1 0 0 + M 1 0 1 ∧ s2 C M 1 = M 1 0 0 ∧ (∀ v, M 2 v 1 ≤ M 2 v 0) ∧ M 0 0 0 + e = M 1 0 0 + M 1 0 1 + M 1 0 3 ∧ M 1 0 4 ≤ M 1 0 0 + a ∧ M 1 0 5 + s3 C M 4 = C 0 0 3
def ivP (M : MD) : Prop := ∀ s, M 3 s 2 ≤ 2 ∧ (M 3 s 0 = 1 → M 3 s 2 ≤ 1) ∧ M 3 s 3 ≤ 3
theorem ivS.same (h : ivS C e a M) (e3 : ∀ s j, 4 ≤ j → j ≤ 7 → M' 3 s j = M 3 s j) (e2 : ∀ v j, M' 2 v j = M 2 v j) (e1 : ∀ j, M' 1 0 j = M 1 0 j) (e0 : M' 0 0 0 = M 0 0 0) : ivS C e a M' := by
  unfold ivS
  simp only [s3_ext (fun s => e3 s 4 (by decide) (by decide)), s3_ext (fun s => e3 s 5 (by decide) (by decide)), s3_ext (fun s => e3 s 6 (by decide) (by decide)), s3_ext (fun s => e3 s 7 (by decide) (by decide)), s2_ext (fun s => e2 s 0), s2_ext (fun s => e2 s 1), e1, e2, e0]
  exact h
theorem ivP.same (h : ivP M) (e3 : ∀ s j, j = 0 ∨ j = 2 ∨ j = 3 → M' 3 s j = M 3 s j) : ivP M' := fun s => by
  rw [e3 s 0 (by decide), e3 s 2 (by decide), e3 s 3 (by decide)]
  exact h s
theorem ivS_hint (h : ivS C e a M) (hs : M 0 0 4 < C 0 0 3) : ivS C e a (hintM M) := by
  obtain ⟨h1, h2, h3, h4, h5, h6, h7, h8, h9⟩ := h
  have g5 : s3 C (hintM M) 5 = s3 C M 5 + 1 := by
    unfold hintM
    rw [s3_mo (by omega), s3_mo (by omega)]
    have := s3_mu (M := mu M 3 (M 0 0 4) 1 (M 3 (M 0 0 4) 1 - 1)) (j := 5) (x := M 3 (M 0 0 4) 5 + 1) hs
    have q1 : s3 C (mu M 3 (M 0 0 4) 1 (M 3 (M 0 0 4) 1 - 1)) 5 = s3 C M 5 := s3_mo (by omega)
    have q2 : mu M 3 (M 0 0 4) 1 (M 3 (M 0 0 4) 1 - 1) 3 (M 0 0 4) 5 = M 3 (M 0 0 4) 5 := mu_n (by omega)
    omega
  have go : ∀ j, ¬ j = 1 → ¬ j = 5 → s3 C (hintM M) j = s3 C M j := fun j q1 q2 => by
    unfold hintM
    rw [s3_mo (by omega), s3_mo (by omega), s3_mo (by omega), s3_mo (by omega)]
  have e2 : ∀ v j, hintM M 2 v j = M 2 v j := fun v j => by unfold hintM; rw [mu_n (by omega), mu_n (by omega), mu_n (by omega), mu_n (by omega)]
  have e1 : ∀ j, ¬ j = 2 → hintM M 1 0 j = M 1 0 j := fun j q => by unfold hintM; rw [mu_n (by omega), mu_n (by omega), mu_n (by omega), mu_n (by omega)]
  have e12 : hintM M 1 0 2 = M 1 0 2 + 1 := by unfold hintM; rw [mu_s]
  have e0 : hintM M 0 0 0 = M 0 0 0 := by unfold hintM; rw [mu_n (by omega), mu_n (by omega), mu_n (by omega), mu_n (by omega)]
  unfold ivS
  rw [g5, go 6 (by decide) (by decide), go 7 (by decide) (by decide), go 4 (by decide) (by decide), s2_ext (fun s => e2 s 0), s2_ext (fun s => e2 s 1), e1 0 (by decide), e1 1 (by decide), e1 3 (by decide), e1 4 (by decide), e1 5 (by decide), e12, e0]
  simp only [e2]
  exact ⟨h1, h2, by omega, h4, h5, h6, h7, h8, h9⟩
theorem hintM_3 {s j : Nat} (q1 : ¬ j = 1) (q2 : ¬ j = 5) : hintM M 3 s j = M 3 s j := by
  unfold hintM
  rw [mu_n (by omega), mu_n (by omega), mu_n (by omega), mu_n (by omega)]
theorem ivP_hint (h : ivP M) : ivP (hintM M) := h.same fun s j q => hintM_3 (by omega) (by omega)
theorem ivS_pass (h : ivS C 0 0 M) : ivS C 1 0 (passM M) := by
  obtain ⟨h1, h2, h3, h4, h5, h6, h7, h8, h9⟩ := h
  have go : ∀ j, ¬ j = 3 → s3 C (passM M) j = s3 C M j := fun j q1 => by
    unfold passM
    rw [s3_mo (by omega), s3_mo (by omega)]
  have e2 : ∀ v j, passM M 2 v j = M 2 v j := fun v j => by unfold passM; rw [mu_n (by omega), mu_n (by omega)]
  have e1 : ∀ j, ¬ j = 3 → passM M 1 0 j = M 1 0 j := fun j q => by unfold passM; rw [mu_n (by omega), mu_n (by omega)]
  have e13 : passM M 1 0 3 = M 1 0 3 + 1 := by unfold passM; rw [mu_s]
  unfold ivS
  rw [go 5 (by decide), go 6 (by decide), go 7 (by decide), go 4 (by decide), s2_ext (fun s => e2 s 0), s2_ext (fun s => e2 s 1), e1 0 (by decide), e1 1 (by decide), e1 2 (by decide), e1 4 (by decide), e1 5 (by decide), e13, passM_z]
  simp only [e2]
  exact ⟨h1, h2, h3, h4, h5, h6, by omega, h8, h9⟩
theorem ivP_pass (h : ivP M) : ivP (passM M) := fun s => by
  have q := h s
  unfold passM
  rw [mu_n (by omega), mu_n (by omega), mu_n (by omega), mu_n (by omega), mu_n (by omega)]
  refine ⟨q.1, q.2.1, ?_⟩
  rw [mu_at]
  split
  · rename_i g; obtain ⟨-, rfl, -⟩ := g; omega
  · exact q.2.2
theorem ivS_right (h : ivS C e (a + 1) M) {s v : Nat} (hs : s < C 0 0 3) (hv : v < C 0 0 2) : ivS C (e + 1) a (rightM M s v) := by
  obtain ⟨h1, h2, h3, h4, h5, h6, h7, h8, h9⟩ := h
  have g6 : s3 C (rightM M s v) 6 = s3 C M 6 + 1 := by
    unfold rightM
    rw [s3_mo (by omega), s3_mo (by omega)]
    have := s3_mu (M := mu (mu M 2 v 0 (M 2 v 0 + 1)) 2 v 1 (M 2 v 1 + 1)) (j := 6) (x := M 3 s 6 + 1) hs
    have q1 : s3 C (mu (mu M 2 v 0 (M 2 v 0 + 1)) 2 v 1 (M 2 v 1 + 1)) 6 = s3 C M 6 := by rw [s3_mo (by omega), s3_mo (by omega)]
    have q2 : mu (mu M 2 v 0 (M 2 v 0 + 1)) 2 v 1 (M 2 v 1 + 1) 3 s 6 = M 3 s 6 := by rw [mu_n (by omega), mu_n (by omega)]
    omega
  have go : ∀ j, ¬ j = 6 → s3 C (rightM M s v) j = s3 C M j := fun j q1 => by
    unfold rightM
    rw [s3_mo (by omega), s3_mo (by omega), s3_mo (by omega), s3_mo (by omega), s3_mo (by omega)]
  have f0 : s2 C (rightM M s v) 0 = s2 C M 0 + 1 := by
    unfold rightM
    rw [s2_mo (by omega), s2_mo (by omega), s2_mo (by omega), s2_mo (by omega)]
    have := s2_mu (M := M) (j := 0) (x := M 2 v 0 + 1) hv
    omega
  have f1 : s2 C (rightM M s v) 1 = s2 C M 1 + 1 := by
    unfold rightM
    rw [s2_mo (by omega), s2_mo (by omega), s2_mo (by omega)]
    have := s2_mu (M := mu M 2 v 0 (M 2 v 0 + 1)) (j := 1) (x := M 2 v 1 + 1) hv
    have q1 : s2 C (mu M 2 v 0 (M 2 v 0 + 1)) 1 = s2 C M 1 := s2_mo (by omega)
    have q2 : mu M 2 v 0 (M 2 v 0 + 1) 2 v 1 = M 2 v 1 := mu_n (by omega)
    omega
  have e1 : ∀ j, ¬ j = 0 → rightM M s v 1 0 j = M 1 0 j := fun j q => by unfold rightM; rw [mu_n (by omega), mu_n (by omega), mu_n (by omega), mu_n (by omega), mu_n (by omega)]
  have e10 : rightM M s v 1 0 0 = M 1 0 0 + 1 := by unfold rightM; rw [mu_s]
  unfold ivS
  rw [g6, go 5 (by decide), go 7 (by decide), go 4 (by decide), f0, f1, e1 1 (by decide), e1 2 (by decide), e1 3 (by decide), e1 4 (by decide), e1 5 (by decide), e10, rightM_z s v (by decide)]
  refine ⟨by omega, h2, h3, by omega, by omega, fun u => ?_, by omega, by omega, h9⟩
  have := h6 u
  by_cases q : u = v
  · subst q
    have r1 : rightM M s u 2 u 1 = M 2 u 1 + 1 := by simp [rightM, mu_at]
    have r0 : rightM M s u 2 u 0 = M 2 u 0 + 1 := by simp [rightM, mu_at]
    omega
  · have r1 : rightM M s v 2 u 1 = M 2 u 1 := by simp [rightM, mu_at, q]
    have r0 : rightM M s v 2 u 0 = M 2 u 0 := by simp [rightM, mu_at, q]
    omega
theorem ivP_right (h : ivP M) {s v : Nat} : ivP (rightM M s v) := h.same fun u j q => by
  unfold rightM
  rw [mu_n (by omega), mu_n (by omega), mu_n (by omega), mu_n (by omega), mu_n (by omega)]
theorem wrong_o {g i j s v : Nat} (h : ¬ (g = 2 ∧ j = 0) ∧ ¬ (g = 1 ∧ j = 1) ∧ ¬ (g = 3 ∧ (j = 7 ∨ j = 2 ∨ j = 0 ∨ j = 8))) : wrongM M s v g i j = M g i j := by
  unfold wrongM
  split
  · rw [mu_n (by omega), mu_n (by omega), mu_n (by omega), mu_n (by omega), mu_n (by omega), mu_n (by omega)]
  · rw [mu_n (by omega), mu_n (by omega), mu_n (by omega), mu_n (by omega)]
theorem ivS_wrong (h : ivS C e a M) {s v : Nat} (hs : s < C 0 0 3) (hv : v < C 0 0 2) : ivS C (e + 1) a (wrongM M s v) := by
  obtain ⟨h1, h2, h3, h4, h5, h6, h7, h8, h9⟩ := h
  have g7 : s3 C (wrongM M s v) 7 = s3 C M 7 + 1 := by
    have := s3_mu (M := mu (mu M 2 v 0 (M 2 v 0 + 1)) 1 0 1 (M 1 0 1 + 1)) (j := 7) (x := M 3 s 7 + 1) hs
    have q1 : s3 C (mu (mu M 2 v 0 (M 2 v 0 + 1)) 1 0 1 (M 1 0 1 + 1)) 7 = s3 C M 7 := by rw [s3_mo (by omega), s3_mo (by omega)]
    have q2 : mu (mu M 2 v 0 (M 2 v 0 + 1)) 1 0 1 (M 1 0 1 + 1) 3 s 7 = M 3 s 7 := by rw [mu_n (by omega), mu_n (by omega)]
    unfold wrongM
    split
    · rw [s3_mo (by omega), s3_mo (by omega), s3_mo (by omega)]; omega
    · rw [s3_mo (by omega)]; omega
  have f0 : s2 C (wrongM M s v) 0 = s2 C M 0 + 1 := by
    have := s2_mu (M := M) (j := 0) (x := M 2 v 0 + 1) hv
    unfold wrongM
    split
    · rw [s2_mo (by omega), s2_mo (by omega), s2_mo (by omega), s2_mo (by omega), s2_mo (by omega)]; omega
    · rw [s2_mo (by omega), s2_mo (by omega), s2_mo (by omega)]; omega
  have e11 : wrongM M s v 1 0 1 = M 1 0 1 + 1 := by
    unfold wrongM
    split
    · rw [mu_n (by omega), mu_n (by omega), mu_n (by omega), mu_n (by omega), mu_s]
    · rw [mu_n (by omega), mu_n (by omega), mu_s]
  have go : ∀ j, j = 4 ∨ j = 5 ∨ j = 6 → s3 C (wrongM M s v) j = s3 C M j := fun j q => s3_ext fun u => wrong_o (by omega)
  unfold ivS
  rw [g7, go 5 (by decide), go 6 (by decide), go 4 (by decide), f0, s2_ext (fun u => wrong_o (by omega)), wrong_o (j := 0) (g := 1) (by omega), wrong_o (j := 2) (g := 1) (by omega), wrong_o (j := 3) (g := 1) (by omega), wrong_o (j := 4) (g := 1) (by omega), wrong_o (j := 5) (g := 1) (by omega), e11, wrongM_z]
  refine ⟨h1, by omega, h3, by omega, h5, fun u => ?_, by omega, h8, h9⟩
  have q := h6 u
  rw [wrong_o (j := 1) (g := 2) (by omega)]
  refine Nat.le_trans q ?_
  unfold wrongM
  split
  · rw [mu_n (by omega), mu_n (by omega), mu_n (by omega), mu_n (by omega), mu_n (by omega), mu_at]
    split
    · rename_i g; obtain ⟨-, rfl, -⟩ := g; omega
    · exact Nat.le_refl _
  · rw [mu_n (by omega), mu_n (by omega), mu_n (by omega), mu_at]
    split
    · rename_i g; obtain ⟨-, rfl, -⟩ := g; omega
    · exact Nat.le_refl _
theorem ivP_wrong (h : ivP M) {s v : Nat} (hi : M 3 s 2 ≤ 1) : ivP (wrongM M s v) := fun u => by
  have q := h u
  rw [wrong_o (j := 3) (by omega)]
  by_cases g : u = s
  · subst g
    unfold wrongM
    split
    · rw [mu_n (by omega), mu_n (by omega), mu_s, mu_n (by omega), mu_s]
      exact ⟨by omega, by omega, q.2.2⟩
    · rw [mu_s, mu_n (by omega), mu_n (by omega), mu_n (by omega), mu_n (by omega)]
      exact ⟨by omega, by omega, q.2.2⟩
  · unfold wrongM
    split
    · rw [mu_n (by omega), mu_n (by omega), mu_n (by omega), mu_n (by omega), mu_n (by omega), mu_n (by omega), mu_n (by omega), mu_n (by omega), mu_n (by omega), mu_n (by omega), mu_n (by omega), mu_n (by omega)]
      exact q
    · rw [mu_n (by omega), mu_n (by omega), mu_n (by omega), mu_n (by omega), mu_n (by omega), mu_n (by omega), mu_n (by omega), mu_n (by omega)]
      exact q
/-! orders -/
theorem hintM_o {g i j : Nat} (h : ¬ (g = 3 ∧ (j = 1 ∨ j = 5)) ∧ ¬ (g = 0 ∧ j = 5) ∧ ¬ (g = 1 ∧ j = 2)) : hintM M g i j = M g i j := by
  unfold hintM
  rw [mu_n (by omega), mu_n (by omega), mu_n (by omega), mu_n (by omega)]
theorem orM_o {g i j : Nat} (h : ¬ (g = 3 ∧ (j = 1 ∨ j = 5)) ∧ ¬ (g = 0 ∧ j = 5) ∧ ¬ (g = 1 ∧ j = 2)) : ∀ n o (M : MD), (orM C n o M).2 g i j = M g i j
  | 0, _, _ => rfl
  | n + 1, o, M => by
    rw [orM]
    split
    · rw [orM_o h n (o + 1) (hintM M), hintM_o h]
    · split
      · rfl
      · exact orM_o h n (o + 1) M
theorem ivS_orA (C : CD) (e a : Nat) : ∀ n o (M : MD), M 0 0 4 < C 0 0 3 → ivS C e a M → ivS C e a (orM C n o M).2
  | 0, _, _, _, h => h
  | n + 1, o, M, hs, h => by
    rw [orM]
    split
    · exact ivS_orA C e a n (o + 1) (hintM M) (by rw [hintM_z M (by decide)]; exact hs) (ivS_hint h hs)
    · split
      · exact h
      · exact ivS_orA C e a n (o + 1) M hs h
theorem ivS_or (hs : M 0 0 4 < C 0 0 3) (n o : Nat) (h : ivS C e a M) : ivS C e a (orM C n o M).2 := ivS_orA C e a n o M hs h
theorem ivP_or (n o : Nat) (h : ivP M) : ivP (orM C n o M).2 := h.same fun s j q => orM_o (by omega) n o M
/-! a word spelled -/
theorem ivS_spell (hk : CfOk C) (h : ivS C 0 0 M) (hs : M 0 0 4 < C 0 0 3) (hv : wordM C M < C 0 0 2) (ha : M 3 (M 0 0 4) 4 ≤ 1) : ivS C 1 0 (spellM C M) := by
  have key : ∀ s v, s < C 0 0 3 → v < C 0 0 2 → M 3 s 4 ≤ 1 → ivS C 1 0 (outcomeM C M s v) := by
    intro s v hs hv ha
    have h1 : ivS C 0 1 M := ⟨h.1, h.2.1, h.2.2.1, h.2.2.2.1, h.2.2.2.2.1, h.2.2.2.2.2.1, h.2.2.2.2.2.2.1, by have := h.2.2.2.2.2.2.2.1; omega, h.2.2.2.2.2.2.2.2⟩
    unfold outcomeM
    split
    · refine ivS_right (e := 0) (a := 0) ?_ hs hv
      refine ivS.same (M := M) h1 (fun u j q1 q2 => ?_) (fun u j => ?_) (fun j => ?_) ?_ <;> rw [hearM_n _ _ _ _ (by decide), mu_n (by omega)]
    · split
      · rename_i g1 g2
        split
        · refine ivS_right (e := 0) (a := 0) ?_ hs hv
          obtain ⟨h1, h2, h3, h4, h5, h6, h7, h8, h9⟩ := h
          have go : ∀ j, ¬ j = 1 → s3 C (mu (mu M 3 s 1 (M 3 s 1 + 1)) 1 0 4 (M 1 0 4 + 1)) j = s3 C M j := fun j q => by rw [s3_mo (by omega), s3_mo (by omega)]
          have e1 : ∀ j, ¬ j = 4 → mu (mu M 3 s 1 (M 3 s 1 + 1)) 1 0 4 (M 1 0 4 + 1) 1 0 j = M 1 0 j := fun j q => by rw [mu_n (by omega), mu_n (by omega)]
          have e2 : ∀ u j, mu (mu M 3 s 1 (M 3 s 1 + 1)) 1 0 4 (M 1 0 4 + 1) 2 u j = M 2 u j := fun u j => by rw [mu_n (by omega), mu_n (by omega)]
          unfold ivS
          rw [go 4 (by decide), go 5 (by decide), go 6 (by decide), go 7 (by decide), s2_ext (fun u => e2 u 0), s2_ext (fun u => e2 u 1), e1 0 (by decide), e1 1 (by decide), e1 2 (by decide), e1 3 (by decide), e1 5 (by decide), mu_s, mu_n (by omega), mu_n (by omega)]
          simp only [e2]
          exact ⟨h1, h2, h3, h4, h5, h6, h7, by omega, h9⟩
        · refine ivS_wrong (e := 0) (a := 0) ?_ hs hv
          have e4 := s3_mu (M := M) (j := 4) (x := 0) hs
          obtain ⟨h1, h2, h3, h4, h5, h6, h7, h8, h9⟩ := h
          have go : ∀ j, ¬ j = 4 → s3 C (mu (mu M 3 s 4 0) 1 0 5 (M 1 0 5 + 1)) j = s3 C M j := fun j q => by rw [s3_mo (by omega), s3_mo (by omega)]
          have e1 : ∀ j, ¬ j = 5 → mu (mu M 3 s 4 0) 1 0 5 (M 1 0 5 + 1) 1 0 j = M 1 0 j := fun j q => by rw [mu_n (by omega), mu_n (by omega)]
          have e2 : ∀ u j, mu (mu M 3 s 4 0) 1 0 5 (M 1 0 5 + 1) 2 u j = M 2 u j := fun u j => by rw [mu_n (by omega), mu_n (by omega)]
          unfold ivS
          rw [go 5 (by decide), go 6 (by decide), go 7 (by decide), s2_ext (fun u => e2 u 0), s2_ext (fun u => e2 u 1), e1 0 (by decide), e1 1 (by decide), e1 2 (by decide), e1 3 (by decide), e1 4 (by decide), mu_s, mu_n (by omega), mu_n (by omega), s3_mo (by omega)]
          simp only [e2]
          exact ⟨h1, h2, h3, h4, h5, h6, h7, h8, by omega⟩
      · exact ivS_wrong (e := 0) (a := 0) h hs hv
  unfold spellM
  refine ivS.same (key _ _ hs hv ha) (fun u j q1 q2 => ?_) (fun u j => ?_) (fun j => ?_) ?_ <;> rw [mu_n (by omega), mu_n (by omega)]
theorem ivP_spell (h : ivP M) (hi : M 3 (M 0 0 4) 0 = 1) : ivP (spellM C M) := by
  have q := (h (M 0 0 4)).2.1 hi
  have key : ∀ s v, M 3 s 2 ≤ 1 → ivP (outcomeM C M s v) := by
    intro s v q
    unfold outcomeM
    split
    · exact ivP_right (h.same fun u j q => by rw [hearM_n _ _ _ _ (by decide), mu_n (by omega)])
    · split
      · split
        · exact ivP_right (h.same fun u j q => by rw [mu_n (by omega), mu_n (by omega)])
        · exact ivP_wrong (h.same fun u j q => by rw [mu_n (by omega), mu_n (by omega)]) (by rw [mu_n (by omega), mu_n (by omega)]; exact q)
      · exact ivP_wrong h q
  unfold spellM
  exact ivP.same (key _ _ q) fun u j q => by rw [mu_n (by omega), mu_n (by omega)]
end
