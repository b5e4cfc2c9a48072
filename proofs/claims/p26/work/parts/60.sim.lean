/-! ===== the law's bee: a word spelled, as the model says ===== -/
section
variable {d B σ : Nat} {w : MW} {C : CD} {M : MD}
theorem eqA {g i j s v n K x : Nat} (hv : SV C g i j) : rgM (hearM C s v n (mu (sumsM (mu M 2 v 0 (M 2 v 0 + 1)) 0 0) 3 s 1 (sumsM (mu M 2 v 0 (M 2 v 0 + 1)) 0 0 3 s 1 + K))) s v g i j = mu (mu (rightM (hearM C s v n (mu M 3 s 1 (M 3 s 1 + K))) s v) 0 0 3 x) 8 0 3 (M 8 0 3 + 1) g i j := by
  unfold SV at hv
  unfold rgM rightM sumsM
  rcases hv with ⟨rfl, rfl, hj⟩ | ⟨rfl, rfl, hj⟩ | ⟨rfl, hi, hj⟩ | ⟨rfl, hi, hj⟩ | ⟨rfl, hi, hj⟩ | ⟨rfl, hi, hj⟩ | ⟨rfl, rfl, h1, h2⟩
  · rcases hj with rfl | rfl | rfl <;> simp [mu_at, hearM_o]
  · simp only [mu_at, hearM_o C s v n _ (show ¬ 1 = 5 by decide)]
    simp
    repeat' split
    all_goals first | rfl | omega | simp_all
  · simp [mu_at, hearM_o]
  · simp [mu_at, hearM_o]
  · simp [mu_at, hearM_o]
  · simp [mu_at]
    exact hearM_5 _ _ _ _ (fun _ _ => by simp [mu_at]) _ _
  · simp [mu_at, hearM_o]
theorem eqB {g i j s v x : Nat} (hv : SV C g i j) : rgM (mu (sumsM (mu M 2 v 0 (M 2 v 0 + 1)) 1 0) 3 s 1 (sumsM (mu M 2 v 0 (M 2 v 0 + 1)) 1 0 3 s 1 + 1)) s v g i j = mu (mu (rightM (mu (mu M 3 s 1 (M 3 s 1 + 1)) 1 0 4 (M 1 0 4 + 1)) s v) 0 0 3 x) 8 0 3 (M 8 0 3 + 1) g i j := by
  unfold SV at hv
  unfold rgM rightM sumsM
  rcases hv with ⟨rfl, rfl, hj⟩ | ⟨rfl, rfl, hj⟩ | ⟨rfl, hi, hj⟩ | ⟨rfl, hi, hj⟩ | ⟨rfl, hi, hj⟩ | ⟨rfl, hi, hj⟩ | ⟨rfl, rfl, h1, h2⟩
  · rcases hj with rfl | rfl | rfl <;> simp [mu_at]
  · simp [mu_at]
    repeat' split
    all_goals first | rfl | omega | simp_all
  · simp [mu_at]
  · simp [mu_at]
  · simp [mu_at]
  · simp [mu_at]
  · simp [mu_at]
theorem eqW {g i j s v x : Nat} (hv : SV C g i j) : wgM (sumsM (mu M 2 v 0 (M 2 v 0 + 1)) 0 0) s g i j = mu (mu (wrongM M s v) 0 0 3 x) 8 0 3 (M 8 0 3 + 1) g i j := by
  unfold SV at hv
  have e : sumsM (mu M 2 v 0 (M 2 v 0 + 1)) 0 0 3 s 2 = M 3 s 2 := by unfold sumsM; simp [mu_at]
  unfold wgM wrongM
  rw [e]
  unfold sumsM
  rcases hv with ⟨rfl, rfl, hj⟩ | ⟨rfl, rfl, hj⟩ | ⟨rfl, hi, hj⟩ | ⟨rfl, hi, hj⟩ | ⟨rfl, hi, hj⟩ | ⟨rfl, hi, hj⟩ | ⟨rfl, rfl, h1, h2⟩
  all_goals split
  all_goals simp [mu_at]
  all_goals repeat' split
  all_goals first | rfl | omega | simp_all
theorem eqL {g i j s v x : Nat} (hv : SV C g i j) : wgM (sumsM (mu (mu M 2 v 0 (M 2 v 0 + 1)) 3 s 4 0) 0 1) s g i j = mu (mu (wrongM (mu (mu M 3 s 4 0) 1 0 5 (M 1 0 5 + 1)) s v) 0 0 3 x) 8 0 3 (M 8 0 3 + 1) g i j := by
  unfold SV at hv
  have e : sumsM (mu (mu M 2 v 0 (M 2 v 0 + 1)) 3 s 4 0) 0 1 3 s 2 = M 3 s 2 := by unfold sumsM; simp [mu_at]
  have e2 : mu (mu M 3 s 4 0) 1 0 5 (M 1 0 5 + 1) 3 s 2 = M 3 s 2 := by simp [mu_at]
  unfold wgM wrongM
  rw [e, e2]
  unfold sumsM
  rcases hv with ⟨rfl, rfl, hj⟩ | ⟨rfl, rfl, hj⟩ | ⟨rfl, hi, hj⟩ | ⟨rfl, hi, hj⟩ | ⟨rfl, hi, hj⟩ | ⟨rfl, hi, hj⟩ | ⟨rfl, rfl, h1, h2⟩
  all_goals split
  all_goals simp [mu_at]
  all_goals repeat' split
  all_goals first | rfl | omega | simp_all
theorem c_sSpell (h : SW w σ C M) (hm : MOk C B M) (ho : SOk C B M) (hB : B < 1000000000) (hg : ¬ M 0 0 4 = NEG) : ∃ w', mK (d + 5) 141 [.ref σ] w = some (.inl none, w') ∧ upS σ C w w' (spellM C M) := by
  obtain ⟨w', e, u⟩ := c_sSpell0 (d := d) h hm ho hB hg
  refine ⟨w', e, u.ext fun g i j hv => ?_⟩
  unfold spellM outcomeM
  by_cases c0 : hardM C (wordM C M) ≤ strongM C M (M 0 0 4) (wordM C M)
  · rw [if_pos c0, if_pos c0]
    exact eqA hv
  · rw [if_neg c0, if_neg c0]
    by_cases c1 : M 3 (M 0 0 4) 4 = 1 ∧ wantsM C M (C 0 0 5) = true
    · rw [if_pos c1, if_pos c1]
      by_cases c2 : hardM C (wordM C M) ≤ strongM C M (M 0 0 4) (wordM C M) + 2
      · rw [if_pos c2, if_pos c2]
        exact eqB hv
      · rw [if_neg c2, if_neg c2]
        exact eqL hv
    · rw [if_neg c1, if_neg c1]
      exact eqW hv
end
