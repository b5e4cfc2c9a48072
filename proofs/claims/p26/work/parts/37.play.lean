/-! ===== turns go by ===== -/
section
variable {d b t B : Nat} {w : MW} {C : CD} {M : MD}
theorem lap_i (hi : ∀ s, M 3 s 0 ≤ 1) : ∀ s, lapM M 3 s 0 ≤ 1 := by
  intro s
  unfold lapM
  rw [mu_n (by omega), mu_n (by omega), mu_n (by omega)]
  by_cases e : s < 6
  · rw [backM_0 6 M e]; split
    · omega
    · exact hi s
  · rw [backM_n 6 M (by omega)]; exact hi s
theorem lap_1 : lapM M 0 0 1 = M 0 0 1 := by
  unfold lapM
  rw [mu_n (by omega), mu_n (by omega), mu_n (by omega), backM_n 6 M (by omega)]
theorem lap_p (s : Nat) : lapM M 3 s 1 = M 3 s 1 := by
  unfold lapM
  rw [mu_n (by omega), mu_n (by omega), mu_n (by omega), backM_n 6 M (by omega)]
theorem c_endLap (h : BW w b t C M) (hi : ∀ s, M 3 s 0 ≤ 1) (ho : ∀ s, M 3 s 8 ≤ 1) (h6 : M 0 0 6 ≤ 1) (hB : ∀ s, M 3 s 1 < 1073741824) (hq : M 0 0 1 < C 0 0 4) (hl : M 0 0 2 < 1073741824) : ∃ w', mK (d + 4) 26 [.ref b] w = some (.inl none, w') ∧ upB b w w' (endLapM C M) := by
  have h8 := h.b.lo
  have hk := h.k.1
  have hr := h.k.2.2.2.2.2.1 _ hq
  have hc := (h.c.2.2.2.2.2.1 _ hq).2.1
  have key : ∀ m i w, i + m = 6 → BW w b t C (backM i M) → ∃ w', mX (d + 4) 26 2 [.ref b, .int (nI i), mJ] [] w = mX (d + 4) 26 49 [.ref b, mJ, mJ] [] w' ∧ upB b w w' (backM 6 M) := by
    intro m
    induction m with
    | zero =>
      intro i w hi h
      have hi : i = 6 := hi
      subst hi
      exact ⟨w, by rw [b_26_2, if_pos (by decide +kernel)], h.refl⟩
    | succ m ih =>
      intro i w him h
      have hi6 : i < 6 := by omega
      have pre : mX (d + 4) 26 2 [.ref b, .int (nI i), mJ] [] w = if M 3 i 8 = 0 then mX (d + 4) 26 38 [.ref b, .int (nI i), .ref (spc b i)] [] w else mX (d + 4) 26 21 [.ref b, .int (nI i), .ref (spc b i)] [] w := by
        have := ho i
        rw [b_26_2, ijle (by decide) (by omega), if_neg (by omega), b_26_8 (bT.t0 h.b), c_spAt h.b hi6]
        simp only [mThen_ok, Option.toList_some, Option.toList_none, List.cons_append, List.nil_append]
        rw [b_26_13 (bT.st h.b hi6), h.f8 hi6, backM_n i M (by omega), ijeq (by omega) (by decide)]
      have hE : mE ≤ spc b i := by show 166 ≤ b + 10 + 3 * i; omega
      have z6 : backM i M 0 0 6 = M 0 0 6 := backM_n i M (by omega)
      have z8 : backM i M 3 i 8 = M 3 i 8 := backM_n i M (by omega)
      by_cases e : M 3 i 8 = 1 ∧ M 0 0 6 = 0
      · have u1 := h.uf0 hi6 1
        have h1 := h.up u1
        have u2 := h1.uf2 hi6 1
        have h2 := h1.up u2
        have u3 := h2.uf8 hi6 0
        have h3 := h2.up u3
        have he : backM (i + 1) M = mu (mu (mu (backM i M) 3 i 0 1) 3 i 2 1) 3 i 8 0 := by rw [backM, if_pos (by rw [z8]; exact e)]
        obtain ⟨w', e9, u⟩ := ih (i + 1) _ (by omega) (by rw [he]; exact h3)
        refine ⟨w', ?_, ((u1.trans u2).trans u3).trans u⟩
        rw [pre, if_neg (by omega), b_26_21 (bT.t0 h.b), h.z6, z6, e.2, if_neg (by simp), b_26_28 (bT.st h.b hi6) hE (bT.st h.b.wI hi6), b_26_38 (bT.st h2.b hi6) hE, jadd, e9]
      · have u3 := h.uf8 hi6 0
        have h3 := h.up u3
        have he : backM (i + 1) M = mu (backM i M) 3 i 8 0 := by rw [backM, if_neg (by rw [z8]; exact e)]
        obtain ⟨w', e9, u⟩ := ih (i + 1) _ (by omega) (by rw [he]; exact h3)
        refine ⟨w', ?_, u3.trans u⟩
        by_cases e1 : M 3 i 8 = 0
        · rw [pre, if_pos e1, b_26_38 (bT.st h.b hi6) hE, jadd, e9]
        · have := ho i
          have e2 : M 0 0 6 = 1 := by omega
          rw [pre, if_neg e1, b_26_21 (bT.t0 h.b), h.z6, z6, e2, if_pos n10, b_26_38 (bT.st h.b hi6) hE, jadd, e9]
  obtain ⟨w1, e1, u1⟩ := key 6 0 w rfl h
  have h1 := h.up u1
  have zl : backM 6 M 0 0 2 = M 0 0 2 := backM_n 6 M (by omega)
  have u2 := h1.uz6 0
  have h2 := h1.up u2
  have u3 := h2.uz2 (M 0 0 2 + 1)
  have uL : upB b w (wI (wI w1 b 13 (nI 0)) b 9 (nI (M 0 0 2 + 1))) (lapM M) := ((u1.trans u2).trans u3).ign (by omega)
  have hL := h.up uL
  have zL2 : lapM M 0 0 2 = M 0 0 2 + 1 := by unfold lapM; rw [mu_n (by omega), mu_s]
  have hll : leftM C (lapM M) ≤ C 0 0 3 * 1 := su_le fun s hs => lap_i hi s
  have pre : mK (d + 4) 26 [.ref b] w = if leftM C (lapM M) < 2 then mX (d + 4) 26 76 [.ref b, mJ, mJ] [] (wI (wI w1 b 13 (nI 0)) b 9 (nI (M 0 0 2 + 1))) else mX (d + 4) 26 72 [.ref b, mJ, mJ] [] (wI (wI w1 b 13 (nI 0)) b 9 (nI (M 0 0 2 + 1))) := by
    have a1 : mI (wI w1 b 13 (nI 0)) b 9 = nI (M 0 0 2) := by rw [h2.z2, mu_n (by omega), zl]
    rw [e_26, b_26_0, e1, b_26_49 (bT.t0 h1.b) (by show 166 ≤ b; omega) (bT.t0 h1.b.wI) (bT.t0 h1.b.wI.wI), a1, jadd, c_left hL (lap_i hi)]
    simp only [mThen_ok, Option.toList_some, Option.toList_none, List.cons_append, List.nil_append]
    rw [b_26_68, ijlt (by omega) (by decide)]
  -- the last step
  have lastO : ∀ (w : MW) (M' : MD), BW w b t C M' → ∃ w', mX (d + 4) 26 108 [.ref b, .int (nI 0), mJ] [] w = some (.inl none, w') ∧ upB b w w' (overM M') := fun w M' h => by
    refine ⟨_, ?_, (h.uz4 4294967295).ign (by omega)⟩
    rw [b_26_108, if_pos rfl, b_26_121, jm1, b_26_122 (bT.t0 h.b) (by show 166 ≤ b; omega)]
  have lastS : ∀ (w : MW) (M' : MD), BW w b t C M' → (∀ s, M' 3 s 0 ≤ 1) → ∃ w', mX (d + 4) 26 108 [.ref b, .int (nI 1), mJ] [] w = some (.inl none, w') ∧ upB b w w' (startM C M') := fun w M' h hi => by
    refine ⟨_, ?_, h.uz4 (nextInM C M' 0)⟩
    rw [b_26_108, if_neg n10, b_26_113 (bT.t0 h.b), c_nextIn h hi (by decide)]
    simp only [mThen_ok, Option.toList_some, Option.toList_none, List.cons_append, List.nil_append]
    rw [b_26_118, b_26_122 (bT.t0 h.b) (by show 166 ≤ b; omega)]
  have fin : ∀ w', upB b w w' (endLap0M C M) → upB b w w' (endLapM C M) := fun w' u => u.ign (by omega)
  by_cases g1 : leftM C (lapM M) < 2
  · obtain ⟨w9, e9, u9⟩ := lastO _ _ hL
    refine ⟨w9, ?_, fin _ ?_⟩
    · rw [pre, if_pos g1, b_26_76, b_26_77, if_pos rfl, e9]
    · unfold endLap0M
      rw [if_pos g1]
      exact uL.trans u9
  · have pre2 : mK (d + 4) 26 [.ref b] w = if M 0 0 2 + 1 < C 7 (M 0 0 1) 1 then mX (d + 4) 26 108 [.ref b, .int (nI 1), mJ] [] (wI (wI w1 b 13 (nI 0)) b 9 (nI (M 0 0 2 + 1))) else mX (d + 4) 26 103 [.ref b, mJ, mJ] [] (wI (wI w1 b 13 (nI 0)) b 9 (nI (M 0 0 2 + 1))) := by
      have hcL := (hL.c.2.2.2.2.2.1 _ hq).2.1
      rw [pre, if_neg g1, b_26_72, b_26_77, if_neg n10, b_26_82 (bT.t0 hL.b) (bT.s0_0 hL.b) (by rw [bT.g0_0 hL.b]; exact tT.t0 hL.t) (by rw [bT.g0_0 hL.b]; exact tT.s0_11 hL.t), bT.g0_0 hL.b, tT.g0_11 hL.t, hL.z1, lap_1, hL.z2, zL2, c_getN (tT.t12 hL.t) (by rw [tT.l12 hL.t]; omega) (by rw [tT.l12 hL.t]; decide), hcL]
      simp only [mThen_ok, Option.toList_some, Option.toList_none, List.cons_append, List.nil_append]
      rw [b_26_100, ijlt (by omega) (by omega)]
    by_cases g2 : C 7 (M 0 0 1) 1 ≤ M 0 0 2 + 1
    · obtain ⟨w4, e4, u4⟩ := c_endRound (d := d) hL (lap_i hi) (fun s => by rw [lap_p]; exact hB s) (by rw [lap_1]; exact hq)
      rw [lap_1] at e4 u4
      have h4 := hL.up u4
      by_cases g3 : leftM C (roundEndM C (lapM M)) < 2 ∨ C 0 0 4 ≤ M 0 0 1 + 1
      · rw [if_pos g3] at u4 h4
        obtain ⟨w9, e9, u9⟩ := lastO _ _ h4
        refine ⟨w9, ?_, fin _ ?_⟩
        · rw [pre2, if_neg (by omega), b_26_103 (bT.t0 hL.b), e4, decide_eq_false (by omega)]
          simp only [mThen_ok, Option.toList_some, Option.toList_none, List.cons_append, List.nil_append]
          rw [b_26_107]
          exact e9
        · unfold endLap0M
          rw [if_neg g1, if_pos g2, if_pos g3]
          refine ((uL.trans u4).trans u9).ext fun g i j hv => ?_
          have hg : ¬ g = 8 := by rcases hv with q | q | q | q | q | q <;> omega
          unfold overM
          simp [mu_at, hg]
      · rw [if_neg g3] at u4 h4
        have h5 := h4.up (h4.refl.ext (M' := nextRoundM (roundEndM C (lapM M))) fun g i j hv => by
          have hg : ¬ g = 8 := by rcases hv with q | q | q | q | q | q <;> omega
          have z1 : roundEndM C (lapM M) 0 0 1 = M 0 0 1 := by rw [rnd_z 1 (by decide) 0, lap_1]
          unfold nextRoundM
          simp [mu_at, hg, z1])
        obtain ⟨w5, e9, u9⟩ := lastS _ _ h5 (fun s => by
          unfold nextRoundM
          have := rnd_i (C := C) (lap_i hi) s
          simpa [mu_at] using this)
        refine ⟨w5, ?_, fin _ ?_⟩
        · rw [pre2, if_neg (by omega), b_26_103 (bT.t0 hL.b), e4, decide_eq_true g3]
          simp only [mThen_ok, Option.toList_some, Option.toList_none, List.cons_append, List.nil_append]
          rw [b_26_107]
          exact e9
        · unfold endLap0M
          rw [if_neg g1, if_pos g2, if_neg g3]
          exact (uL.trans u4).trans u9
    · obtain ⟨w5, e9, u9⟩ := lastS _ _ hL (lap_i hi)
      refine ⟨w5, ?_, fin _ ?_⟩
      · rw [pre2, if_pos (by omega), e9]
      · unfold endLap0M
        rw [if_neg g1, if_neg g2]
        exact uL.trans u9
theorem nxM_spec (M : MD) : ∀ n s, (nxM M n s = NEG ∧ ∀ i, s ≤ i → i < s + n → M 3 i 0 = 0) ∨ (s ≤ nxM M n s ∧ nxM M n s < s + n ∧ ¬ M 3 (nxM M n s) 0 = 0 ∧ ∀ i, s ≤ i → i < nxM M n s → M 3 i 0 = 0)
  | 0, s => Or.inl ⟨rfl, fun i h1 h2 => by omega⟩
  | n + 1, s => by
    rw [nxM]
    by_cases e : M 3 s 0 = 0
    · rw [if_pos e]
      rcases nxM_spec M n (s + 1) with ⟨h1, h2⟩ | ⟨h1, h2, h3, h4⟩
      · refine Or.inl ⟨h1, fun i g1 g2 => ?_⟩
        by_cases q : i = s
        · subst q; exact e
        · exact h2 i (by omega) (by omega)
      · refine Or.inr ⟨by omega, by omega, h3, fun i g1 g2 => ?_⟩
        by_cases q : i = s
        · subst q; exact e
        · exact h4 i (by omega) (by omega)
    · rw [if_neg e]
      exact Or.inr ⟨Nat.le_refl _, by omega, e, fun i g1 g2 => by omega⟩
theorem nextIn_spec (C : CD) (M : MD) {s : Nat} (hs : s ≤ C 0 0 3) : (nextInM C M s = NEG ∧ ∀ i, s ≤ i → i < C 0 0 3 → M 3 i 0 = 0) ∨ (s ≤ nextInM C M s ∧ nextInM C M s < C 0 0 3 ∧ ¬ M 3 (nextInM C M s) 0 = 0) := by
  unfold nextInM
  rcases nxM_spec M (C 0 0 3 - s) s with ⟨h1, h2⟩ | ⟨h1, h2, h3, -⟩
  · exact Or.inl ⟨h1, fun i g1 g2 => h2 i g1 (by omega)⟩
  · exact Or.inr ⟨h1, by omega, h3⟩
theorem c_endTurn (h : BW w b t C M) (hm : MOk C B M) (hB : B ≤ 1000000000) (hn : ¬ M 0 0 4 = NEG) : ∃ w', mK (d + 5) 25 [.ref b] w = some (.inl none, w') ∧ upB b w w' (endTurnM C M) := by
  obtain ⟨hs, hq, hp, hlp⟩ := hm.who hn
  have hk := h.k.1
  have hr := h.k.2.2.2.2.2.1 _ hq
  have h8 := h.b.lo
  have u1 := h.uz0 (M 0 0 0 + 1)
  have h1 := h.up u1
  have u2 := h1.uz5 0
  have h2 := h1.up u2
  have hi2 : ∀ s, mu (mu M 0 0 0 (M 0 0 0 + 1)) 0 0 5 0 3 s 0 ≤ 1 := fun s => by rw [mu_n (by omega), mu_n (by omega)]; exact hm.i s
  have hnx : nextInM C (mu (mu M 0 0 0 (M 0 0 0 + 1)) 0 0 5 0) (M 0 0 4 + 1) = nextInM C M (M 0 0 4 + 1) := by
    unfold nextInM
    have : ∀ n s, nxM (mu (mu M 0 0 0 (M 0 0 0 + 1)) 0 0 5 0) n s = nxM M n s := by
      intro n
      induction n with
      | zero => intro s; rfl
      | succ n ih => intro s; rw [nxM, nxM, ih, mu_n (by omega), mu_n (by omega)]
    rw [this]
  have u3 := h2.uz4 (nextInM C M (M 0 0 4 + 1))
  have h3 := h2.up u3
  have pre : mK (d + 5) 25 [.ref b] w = if nI 0 ≤ nI (nextInM C M (M 0 0 4 + 1)) then mX (d + 5) 25 40 [mJ] [] (wI (wI (wI w b 7 (nI (M 0 0 0 + 1))) b 12 (nI 0)) b 11 (nI (nextInM C M (M 0 0 4 + 1)))) else mX (d + 5) 25 36 [.ref b] [] (wI (wI (wI w b 7 (nI (M 0 0 0 + 1))) b 12 (nI 0)) b 11 (nI (nextInM C M (M 0 0 4 + 1)))) := by
    have a1 : mI (wI (wI w b 7 (nI (M 0 0 0 + 1))) b 12 (nI 0)) b 11 = nI (M 0 0 4) := by rw [h2.z4]; simp [mu_at]
    have a2 : mI (wI (wI (wI w b 7 (nI (M 0 0 0 + 1))) b 12 (nI 0)) b 11 (nI (nextInM C M (M 0 0 4 + 1)))) b 11 = nI (nextInM C M (M 0 0 4 + 1)) := by rw [h3.z4]; simp [mu_at]
    rw [e_25, b_25_0 (bT.t0 h.b) (by show 166 ≤ b; omega) (bT.t0 h.b.wI) (bT.t0 h.b.wI.wI), h.z0, jadd, a1, jadd, c_nextIn h2 hi2 (by omega), hnx]
    simp only [mThen_ok, Option.toList_some, Option.toList_none, List.cons_append, List.nil_append]
    rw [b_25_26 (bT.t0 h2.b) (by show 166 ≤ b; omega) (bT.t0 h2.b.wI), a2]
  have u123 := (u1.trans u2).trans u3
  rcases nextIn_spec C M (s := M 0 0 4 + 1) (by omega) with ⟨g1, -⟩ | ⟨g1, g2, -⟩
  · rw [g1] at h3 u123
    obtain ⟨w4, e4, u4⟩ := c_endLap (d := d) h3 (fun s => by simp only [mu_at]; simpa using hm.i s) (fun s => by simp only [mu_at]; simpa using (hm.2.2.2.2.2.1 s).2.1) (by simp only [mu_at]; simpa using hm.2.2.2.1) (fun s => by have := hm.1 3 s 1 (by decide) (by decide); simp only [mu_at]; simp; omega) (by simp only [mu_at]; simpa using hq) (by simp only [mu_at]; simp; omega)
    refine ⟨w4, ?_, ?_⟩
    · rw [pre, g1, if_neg (by decide +kernel), b_25_36 (bT.t0 h3.b), e4]
      simp only [mThen_ok, Option.toList_some, Option.toList_none, List.cons_append, List.nil_append]
      rw [b_25_40]
    · unfold endTurnM
      rw [if_pos g1]
      exact u123.trans u4
  · refine ⟨wI (wI (wI w b 7 (nI (M 0 0 0 + 1))) b 12 (nI 0)) b 11 (nI (nextInM C M (M 0 0 4 + 1))), ?_, ?_⟩
    · rw [pre, if_pos (by rw [jle (by decide) (by omega)]; exact Nat.zero_le _), b_25_40]
    · unfold endTurnM
      rw [if_neg (by show ¬ nextInM C M (M 0 0 4 + 1) = 4294967295; omega)]
      exact u123.ign (by omega)
end
