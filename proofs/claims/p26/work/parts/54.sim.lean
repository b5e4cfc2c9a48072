/-! ===== the law's bee: the end of a lap ===== -/
section
variable {d B σ : Nat} {w : MW} {C : CD} {M : MD}
theorem backM_ag (n m : Nat) (M : MD) (hnm : n ≤ m) {g i j : Nat} (h : ¬ (g = 3 ∧ n ≤ i)) : backM m M g i j = backM n M g i j := by
  by_cases e : g = 3 ∧ (j = 0 ∨ j = 2 ∨ j = 8)
  · obtain ⟨e1, e2⟩ := e
    subst e1
    have hi : i < n := by omega
    rcases e2 with e2 | e2 | e2
    · subst e2; rw [backM_0 m M (by omega), backM_0 n M hi]
    · subst e2; rw [backM_2 m M (by omega), backM_2 n M hi]
    · subst e2; rw [backM_8 m M (by omega), backM_8 n M hi]
  · rw [backM_n m M (by omega), backM_n n M (by omega)]
theorem s_back (h : SW w σ C M) (hm : MOk C B M) : ∃ w', mX d 143 10 [.ref σ, .ref (gR w σ 12), .int (nI (C 0 0 3)), .int (nI 0), mJ, mJ, mJ] [] w = mX d 143 58 [.ref σ, mJ, mJ, mJ, mJ, mJ, mJ] [] w' ∧ upS σ C w w' (backM 6 M) := by
  have hk1 := h.k.1
  suffices key : ∀ m i w, i + m = C 0 0 3 → SW w σ C (backM i M) → ∃ w', mX d 143 10 [.ref σ, .ref (gR w σ 12), .int (nI (C 0 0 3)), .int (nI i), mJ, mJ, mJ] [] w = mX d 143 58 [.ref σ, mJ, mJ, mJ, mJ, mJ, mJ] [] w' ∧ upS σ C w w' (backM (C 0 0 3) M) by
    obtain ⟨w', e, u⟩ := key _ 0 w (Nat.zero_add _) h
    exact ⟨w', e, u.ext fun g i j hv => (backM_ag _ 6 M (by omega) (by unfold SV at hv; omega)).symm⟩
  intro m
  induction m with
  | zero =>
    intro i w hi h
    have hi : i = C 0 0 3 := hi
    subst hi
    exact ⟨w, by rw [b_143_10, if_pos (by rw [jle (by omega) (by omega)]; exact Nat.le_refl _)], h.refl⟩
  | succ m ih =>
    intro i w him h
    have hi : i < C 0 0 3 := by omega
    have S := h.s
    have tg := S.tg
    have lb := S.b12 hi
    have r12 := S.r12; have t12 := S.t12; have n12 := S.n12
    obtain ⟨e12i, u12i, l12i⟩ := S.e12 i hi
    have k0 : 0 < mLn w (gR w (gR w σ 12) i) := by omega
    have k2 : 2 < mLn w (gR w (gR w σ 12) i) := by omega
    have k8 : 8 < mLn w (gR w (gR w σ 12) i) := by omega
    have p8 : backM i M 3 i 8 = M 3 i 8 := backM_n i M (by omega)
    have p6 : backM i M 0 0 6 = M 0 0 6 := backM_n i M (by omega)
    have q8 := (hm.2.2.2.2.2.1 i).2.1
    have q6 := hm.2.2.2.1
    have one : (¬ (M 3 i 8 = 1 ∧ M 0 0 6 = 0)) → ∃ w', mX d 143 46 [.ref σ, .ref (gR w σ 12), .int (nI (C 0 0 3)), .int (nI i), .ref (gR w (gR w σ 12) i), mJ, mJ] [] w = mX d 143 58 [.ref σ, mJ, mJ, mJ, mJ, mJ, mJ] [] w' ∧ upS σ C w w' (backM (C 0 0 3) M) := fun q => by
      have hb : backM (i + 1) M = mu (backM i M) 3 i 8 0 := by rw [backM, p8, if_neg q]
      have u1 := h.ual hi (j := 8) (by decide) 0
      rw [← hb] at u1
      obtain ⟨w', e9, u⟩ := ih (i + 1) _ (by omega) (h.up u1)
      refine ⟨w', ?_, u1.trans u⟩
      rw [b_143_46 u12i lb k8, b_143_52, jadd]
      exact e9
    have pre : mX d 143 10 [.ref σ, .ref (gR w σ 12), .int (nI (C 0 0 3)), .int (nI i), mJ, mJ, mJ] [] w = if ¬ M 3 i 8 = 1 then mX d 143 46 [.ref σ, .ref (gR w σ 12), .int (nI (C 0 0 3)), .int (nI i), .ref (gR w (gR w σ 12) i), mJ, mJ] [] w else (if ¬ M 0 0 6 = 0 then mX d 143 46 [.ref σ, .ref (gR w σ 12), .int (nI (C 0 0 3)), .int (nI i), .ref (gR w (gR w σ 12) i), mJ, mJ] [] w else mX d 143 36 [.ref σ, .ref (gR w σ 12), .int (nI (C 0 0 3)), .int (nI i), .ref (gR w (gR w σ 12) i), mJ, mJ] [] w) := by
      rw [b_143_10, ijle (by omega) (by omega), if_neg (by omega)]
      refine Eq.trans (b_143_15 (by first | assumption | omega) (by first | assumption | omega) (by first | assumption | omega) (by first | assumption | omega) (by first | assumption | omega) (by first | assumption | omega)) ?_
      rw [h.al hi (j := 8) (by decide), p8, ijne (by omega) (by omega), b_143_29 tg, h.z6, p6, ijne (by omega) (by decide)]
    by_cases e8 : M 3 i 8 = 1
    · by_cases e6 : M 0 0 6 = 0
      · have hb : backM (i + 1) M = mu (mu (mu (backM i M) 3 i 0 1) 3 i 2 1) 3 i 8 0 := by rw [backM, p8, if_pos ⟨e8, e6⟩]
        have u1 := h.ual hi (j := 0) (by decide) 1
        have h1 := h.up u1
        have u2 := h1.ual hi (j := 2) (by decide) 1
        have h2 := h1.up u2
        have u3 := h2.ual hi (j := 8) (by decide) 0
        have u := (u1.trans u2).trans u3
        rw [← hb] at u
        obtain ⟨w', e9, u9⟩ := ih (i + 1) _ (by omega) (h.up u)
        refine ⟨w', ?_, u.trans u9⟩
        rw [pre, if_neg (fun q => q e8), if_neg (fun q => q e6), b_143_36 u12i lb k0]
        refine Eq.trans (b_143_41 (by exact u12i) (by exact lb) (by exact k2)) ?_
        refine Eq.trans (b_143_46 (by exact u12i) (by exact lb) (by exact k8)) ?_
        rw [b_143_52, jadd]
        exact e9
      · obtain ⟨w', e9, u⟩ := one (fun q => e6 q.2)
        exact ⟨w', by rw [pre, if_neg (fun q => q e8), if_pos e6, e9], u⟩
    · obtain ⟨w', e9, u⟩ := one (fun q => e8 q.1)
      exact ⟨w', by rw [pre, if_pos e8, e9], u⟩
theorem s_lap (h : SW w σ C M) (hm : MOk C B M) : ∃ w', mK d 143 [.ref σ] w = mX d 143 73 [.ref σ, mJ, mJ, mJ, mJ, mJ, mJ] [] w' ∧ upS σ C w w' (lapM M) := by
  have S := h.s
  have tg := S.tg
  have r12 := S.r12; have t12 := S.t12; have n12 := S.n12
  obtain ⟨w1, e1, u1⟩ := s_back (d := d) h hm
  have h1 := h.up u1
  have u2 := h1.uz6 0
  have h2 := h1.up u2
  have u3 := h2.uy2 (M 8 0 2 + 1)
  have v3 : _ = nI (M 8 0 2) := h2.y2.trans (by rw [mu_n (by omega), backM_n 6 M (by omega)])
  refine ⟨_, ?_, ((u1.trans u2).trans u3).ext fun g i j hv => ?_⟩
  · rw [e_143]
    refine Eq.trans (b_143_0 (by first | assumption | omega) (by first | assumption | omega) (by first | assumption | omega)) ?_
    rw [n12, e1, b_143_58 h1.s.tg h1.s.bs, b_143_63 h2.s.tg h2.s.bs, v3, jadd]
  · have hn : ¬ (g = 0 ∧ i = 0 ∧ j = 2) := by unfold SV at hv; omega
    unfold lapM
    rw [mu_at, mu_at (mu (mu (backM 6 M) 0 0 6 0) 0 0 2 (M 0 0 2 + 1)), mu_n hn]
theorem s_who (hi : ∀ s, M 3 s 0 ≤ 1) : ∀ m s w, s + m + 1 = C 0 0 3 → SW w σ C (mu M 8 0 4 s) → ∃ w', mX d 143 301 [.ref σ, mJ, mJ, mJ, mJ, mJ, mJ] [] w = some (.inl none, w') ∧ upS σ C w w' (mu M 8 0 4 (whoM M m s)) := by
  intro m
  induction m with
  | zero =>
    intro s w hs h
    have hk1 := h.k.1
    have S := h.s
    have tg := S.tg
    have r12 := S.r12; have t12 := S.t12; have n12 := S.n12
    refine ⟨w, ?_, h.refl⟩
    refine Eq.trans (b_143_301 (by first | assumption | omega) (by first | assumption | omega) (by first | assumption | omega)) ?_
    rw [n12, h.y4, mu_s, jadd, ijle (by omega) (by omega), if_pos (by omega), b_143_342]
  | succ m ih =>
    intro s w hs h
    have hk1 := h.k.1
    have S := h.s
    have tg := S.tg
    have r12 := S.r12; have t12 := S.t12; have n12 := S.n12
    have hs3 : s < C 0 0 3 := by omega
    obtain ⟨e12s, u12s, l12s⟩ := S.e12 s hs3
    have y4 : mI w σ 4 = nI s := by rw [h.y4, mu_s]
    have q := hi s
    have pre : mX d 143 301 [.ref σ, mJ, mJ, mJ, mJ, mJ, mJ] [] w = if ¬ M 3 s 0 = 0 then some (.inl none, w) else mX d 143 329 [.ref σ, mJ, mJ, mJ, mJ, mJ, mJ] [] w := by
      refine Eq.trans (b_143_301 (by first | assumption | omega) (by first | assumption | omega) (by first | assumption | omega)) ?_
      rw [n12, y4, jadd, ijle (by omega) (by omega), if_neg (by omega)]
      refine Eq.trans (b_143_315 (by first | assumption | omega) (by first | assumption | omega) (by first | assumption | omega) y4 (by first | assumption | omega) (by first | assumption | omega) (by first | assumption | omega) (by first | assumption | omega) (by first | assumption | omega)) ?_
      rw [h.al hs3 (j := 0) (by decide), mu_n (by omega), ijne (by omega) (by decide), b_143_342]
    by_cases e : M 3 s 0 = 0
    · have u1 := (h.uy4 (s + 1)).ext (M' := mu M 8 0 4 (s + 1)) (fun g i j _ => by
        rw [mu_at, mu_at, mu_at]
        repeat' split
        all_goals first | rfl | contradiction)
      obtain ⟨w', e9, u⟩ := ih (s + 1) _ (by omega) (h.up u1)
      refine ⟨w', ?_, ?_⟩
      · rw [pre, if_neg (fun q => q e), b_143_329 tg S.bs, y4, jadd, b_143_339, e9]
      · have hw : whoM M (m + 1) s = whoM M m (s + 1) := by rw [whoM, if_pos e]
        rw [hw]
        exact u1.trans u
    · have hw : whoM M (m + 1) s = s := by rw [whoM, if_neg e]
      rw [hw]
      exact ⟨w, by rw [pre, if_pos e], h.refl⟩
end
