/-! ===== the law's bee: an order's test ===== -/
section
variable {d B σ : Nat} {w : MW} {C : CD} {M : MD}
theorem c_sHolds (h : SW w σ C M) (hm : MOk C B M) (ho : SOk C B M) (hB : B ≤ 1000000000) {o : Nat} (hO : o < C 0 0 5) : mK (d + 3) 134 [.ref σ, .ref (gR w (gR w σ 17) o)] w = some (.inl (some (.int (bI (holdsM C M o)))), w) := by
  have S := h.s
  have hk := h.k
  have hk1 := hk.1
  have hB2 : B ≤ 1073741824 := by omega
  have tg := S.tg
  obtain ⟨g0, g1, g2, g3, g4, g5⟩ := hk.2.2.2.2.2.2 o hO
  have r12 := S.r12; have t12 := S.t12; have n12 := S.n12; have r17 := S.r17; have t17 := S.t17; have n17 := S.n17
  obtain ⟨e17o, u17o, l17o⟩ := S.e17 o hO
  obtain ⟨e12s, u12s, l12s⟩ := S.e12 (C 9 o 4) g4
  have cc := h.c.2.2.2.2.2 o hO
  have c2 := cc 2 (by decide)
  have c3 := cc 3 (by decide)
  have c4 := cc 4 (by decide)
  have c5 := cc 5 (by decide)
  have p1 := hm.1 3 (C 9 o 4) 1 (by decide) (by decide)
  have p2 := hm.1 3 (C 9 o 4) 2 (by decide) (by decide)
  have p3 := hm.1 3 (C 9 o 4) 3 (by decide) (by decide)
  have p0 := hm.2.1
  have pi := (hm.2.2.2.2.2.1 (C 9 o 4)).1
  have ph := hardM_le hk g5
  have pl := leftM_le hk hm
  have hcase : C 9 o 2 = 0 ∨ C 9 o 2 = 1 ∨ C 9 o 2 = 2 ∨ C 9 o 2 = 3 ∨ C 9 o 2 = 4 ∨ C 9 o 2 = 5 ∨ C 9 o 2 = 6 ∨ C 9 o 2 = 7 ∨ C 9 o 2 = 8 := by omega
  rw [e_134]
  rcases hcase with e | e | e | e | e | e | e | e | e
  · rw [e] at c2
    have hh : holdsM C M o = decide (nI (C 9 o 3) < gapM C M (C 9 o 4)) := by simp [holdsM, e]
    refine Eq.trans (s_134_0_0 (by first | assumption | omega) (by first | assumption | omega) (by first | assumption | omega) (by first | assumption | omega) (by first | assumption | omega)) ?_
    rw [c3, c4, b_134_56 tg, c_sGap h hm ho hB2 g4]
    simp only [mThen_ok, Option.toList_some, Option.toList_none, List.cons_append, List.nil_append]
    rw [b_134_61, hh]
    by_cases g : gapM C M (C 9 o 4) ≤ nI (C 9 o 3)
    · rw [if_pos g, b_134_69, b_134_70 kr0, decide_eq_false (Int32.not_lt.mpr g)]; rfl
    · rw [if_neg g, b_134_65, b_134_70 kr1, decide_eq_true (Int32.not_le.mp g)]; rfl
  · rw [e] at c2
    have hh : holdsM C M o = decide (C 9 o 3 ≤ M 3 (C 9 o 4) 1) := by simp [holdsM, e]
    refine Eq.trans (s_134_0_1 (by first | assumption | omega) (by first | assumption | omega) (by first | assumption | omega) (by first | assumption | omega) (by first | assumption | omega)) ?_
    rw [c3, c4]
    refine Eq.trans (b_134_71 (by first | assumption | omega) (by first | assumption | omega) (by first | assumption | omega) (by first | assumption | omega) (by first | assumption | omega) (by first | assumption | omega) (by first | assumption | omega) (by first | assumption | omega)) ?_
    rw [h.al g4 (j := 1) (by decide), ijlt (by omega) (by omega), hh]
    by_cases g : M 3 (C 9 o 4) 1 < C 9 o 3
    · rw [if_pos g, b_134_87, b_134_88 kr0, decide_eq_false (by omega)]; rfl
    · rw [if_neg g, b_134_83, b_134_88 kr1, decide_eq_true (by omega)]; rfl
  · rw [e] at c2
    have hh : holdsM C M o = decide (M 3 (C 9 o 4) 2 = 1) := by simp [holdsM, e]
    refine Eq.trans (s_134_0_2 (by first | assumption | omega) (by first | assumption | omega) (by first | assumption | omega) (by first | assumption | omega) (by first | assumption | omega)) ?_
    rw [c4]
    refine Eq.trans (b_134_89 (by first | assumption | omega) (by first | assumption | omega) (by first | assumption | omega) (by first | assumption | omega) (by first | assumption | omega) (by first | assumption | omega) (by first | assumption | omega) (by first | assumption | omega)) ?_
    rw [h.al g4 (j := 2) (by decide), ijne (by omega) (by omega), hh]
    by_cases g : M 3 (C 9 o 4) 2 = 1
    · rw [if_neg (fun q => q g), b_134_101, b_134_106 kr1, decide_eq_true g]; rfl
    · rw [if_pos g, b_134_105, b_134_106 kr0, decide_eq_false g]; rfl
  · rw [e] at c2
    have hh : holdsM C M o = decide (C 9 o 3 < M 0 0 0) := by simp [holdsM, e]
    refine Eq.trans (s_134_0_3 (by first | assumption | omega) (by first | assumption | omega) (by first | assumption | omega) (by first | assumption | omega) (by first | assumption | omega)) ?_
    rw [c3, b_134_107 tg, h.z0, ijle (by omega) (by omega), hh]
    by_cases g : M 0 0 0 ≤ C 9 o 3
    · rw [if_pos g, b_134_119, b_134_120 kr0, decide_eq_false (by omega)]; rfl
    · rw [if_neg g, b_134_115, b_134_120 kr1, decide_eq_true (by omega)]; rfl
  · rw [e] at c2
    have hh : holdsM C M o = (decide (leftM C M ≤ C 9 o 3) && decide (0 < M 3 (C 9 o 4) 3)) := by simp [holdsM, e]
    refine Eq.trans (s_134_0_4 (by first | assumption | omega) (by first | assumption | omega) (by first | assumption | omega) (by first | assumption | omega) (by first | assumption | omega)) ?_
    rw [c3, c4, b_134_121 tg, c_sLeft h]
    simp only [mThen_ok, Option.toList_some, Option.toList_none, List.cons_append, List.nil_append]
    rw [b_134_125, ijlt (by omega) (by omega), hh]
    by_cases g : C 9 o 3 < leftM C M
    · rw [if_pos g, b_134_144, b_134_145 kr0, decide_eq_false (p := leftM C M ≤ C 9 o 3) (by omega)]; rfl
    · rw [if_neg g, decide_eq_true (p := leftM C M ≤ C 9 o 3) (by omega), Bool.true_and]
      refine Eq.trans (b_134_129 (by first | assumption | omega) (by first | assumption | omega) (by first | assumption | omega) (by first | assumption | omega) (by first | assumption | omega) (by first | assumption | omega) (by first | assumption | omega) (by first | assumption | omega)) ?_
      rw [h.al g4 (j := 3) (by decide), ijle (by omega) (by omega)]
      by_cases g2 : M 3 (C 9 o 4) 3 ≤ 0
      · rw [if_pos g2, b_134_144, b_134_145 kr0, decide_eq_false (by omega)]; rfl
      · rw [if_neg g2, b_134_140, b_134_145 kr1, decide_eq_true (by omega)]; rfl
  · rw [e] at c2
    have hh : holdsM C M o = (!(decide (M 0 0 4 = C 9 o 4)) || decide (C 9 o 3 < hardM C (C 9 o 5))) := by simp [holdsM, e]
    refine Eq.trans (s_134_0_5 (by first | assumption | omega) (by first | assumption | omega) (by first | assumption | omega) (by first | assumption | omega) (by first | assumption | omega)) ?_
    rw [c3, c4, b_134_146 tg, h.y1, hh]
    by_cases g : M 0 0 4 = NEG
    · rw [ho.1.mp g, if_pos jneg_lt, b_134_172, b_134_177 kr1, g, decide_eq_false (p := NEG = C 9 o 4) (by show ¬ 4294967295 = _; omega)]; rfl
    · obtain ⟨a1, a2, a3, a4⟩ := ho.2.1 g
      obtain ⟨b1, b2, b3, b4⟩ := hm.who g
      rw [a1, if_neg (by rw [jlt (by omega) (by decide)]; omega), b_134_153 tg, h.y4, a3, ijne (by omega) (by omega)]
      by_cases g2 : M 0 0 4 = C 9 o 4
      · rw [if_neg (fun q => q g2), decide_eq_true g2]
        refine Eq.trans (b_134_161 (by first | assumption | omega) (by first | assumption | omega) (by first | assumption | omega)) ?_
        rw [c5, c_sHard h g5]
        simp only [mThen_ok, Option.toList_some, Option.toList_none, List.cons_append, List.nil_append]
        rw [b_134_168, ijle (by omega) (by omega)]
        by_cases g3 : hardM C (C 9 o 5) ≤ C 9 o 3
        · rw [if_pos g3, b_134_176, b_134_177 kr0, decide_eq_false (by omega)]; rfl
        · rw [if_neg g3, b_134_172, b_134_177 kr1, decide_eq_true (by omega)]; rfl
      · rw [if_pos g2, b_134_172, b_134_177 kr1, decide_eq_false g2]; rfl
  · rw [e] at c2
    have hh : holdsM C M o = (decide (M 3 (C 9 o 4) 0 = 1) && decide (gapM C M (C 9 o 4) - nI (hardM C (C 9 o 5) / 2) < nI (C 9 o 3))) := by simp [holdsM, e]
    refine Eq.trans (s_134_0_6 (by first | assumption | omega) (by first | assumption | omega) (by first | assumption | omega) (by first | assumption | omega) (by first | assumption | omega)) ?_
    rw [c3, c4]
    refine Eq.trans (b_134_178 (by first | assumption | omega) (by first | assumption | omega) (by first | assumption | omega) (by first | assumption | omega) (by first | assumption | omega) (by first | assumption | omega) (by first | assumption | omega) (by first | assumption | omega)) ?_
    rw [h.al g4 (j := 0) (by decide), ijne (by omega) (by omega), hh]
    by_cases g : M 3 (C 9 o 4) 0 = 1
    · rw [if_neg (fun q => q g), decide_eq_true g, b_134_190 tg, c_sGap h hm ho hB2 g4]
      simp only [mThen_ok, Option.toList_some, Option.toList_none, List.cons_append, List.nil_append]
      refine Eq.trans (b_134_195 (by first | assumption | omega) (by first | assumption | omega) (by first | assumption | omega)) ?_
      rw [c5, c_sHard h g5]
      simp only [mThen_ok, Option.toList_some, Option.toList_none, List.cons_append, List.nil_append]
      rw [b_134_202, jdiv (by omega) (by decide)]
      by_cases g2 : nI (C 9 o 3) ≤ gapM C M (C 9 o 4) - nI (hardM C (C 9 o 5) / 2)
      · rw [if_pos g2, b_134_213, b_134_214 kr0, decide_eq_false (Int32.not_lt.mpr g2)]; rfl
      · rw [if_neg g2, b_134_209, b_134_214 kr1, decide_eq_true (Int32.not_le.mp g2)]; rfl
    · rw [if_pos g, b_134_213, b_134_214 kr0, decide_eq_false g]; rfl
  · rw [e] at c2
    have hh : holdsM C M o = true := by simp [holdsM, e]
    refine Eq.trans (s_134_0_7 (by first | assumption | omega) (by first | assumption | omega) (by first | assumption | omega) (by first | assumption | omega) (by first | assumption | omega)) ?_
    rw [b_134_215, hh]; rfl
  · rw [e] at c2
    have hh : holdsM C M o = decide (M 0 0 0 / 3 < min (M 3 (C 9 o 4) 1) (C 9 o 3) * 2) := by simp [holdsM, e]
    have hmin : min (M 3 (C 9 o 4) 1) (C 9 o 3) ≤ 99 := Nat.le_trans (Nat.min_le_right _ _) g3
    have cd : (mI w (gR w (gR w σ 17) o) 2).toInt < 0 ∨ 7 < (mI w (gR w (gR w σ 17) o) 2).toInt := Or.inr (by rw [c2]; decide +kernel)
    refine Eq.trans (s_134_0_d (by first | assumption | omega) (by first | assumption | omega) (by first | assumption | omega) (by first | assumption | omega) (by first | assumption | omega)) ?_
    rw [c3, c4]
    refine Eq.trans (b_134_217 (by first | assumption | omega) (by first | assumption | omega) (by first | assumption | omega) (by first | assumption | omega) (by first | assumption | omega) (by first | assumption | omega) (by first | assumption | omega) (by first | assumption | omega)) ?_
    rw [h.al g4 (j := 1) (by decide), c_minN (by omega) (by omega)]
    simp only [mThen_ok, Option.toList_some, Option.toList_none, List.cons_append, List.nil_append]
    rw [b_134_229 tg, h.z0, jmul, jdiv (by omega) (by decide), ijle (by omega) (by omega), hh]
    by_cases g : min (M 3 (C 9 o 4) 1) (C 9 o 3) * 2 ≤ M 0 0 0 / 3
    · rw [if_pos g, b_134_244, b_134_245 kr0, decide_eq_false (by omega)]; rfl
    · rw [if_neg g, b_134_240, b_134_245 kr1, decide_eq_true (by omega)]; rfl
theorem c_sCanHint (h : SW w σ C M) (hm : MOk C B M) (ho : SOk C B M) (hB : B ≤ 1000000000) : mK d 135 [.ref σ] w = some (.inl (some (.int (bI (canHintM M)))), w) := by
  have S := h.s
  have hk1 := h.k.1
  have tg := S.tg
  have r12 := S.r12; have t12 := S.t12; have n12 := S.n12
  have h5 := hm.2.2.1
  rw [e_135, b_135_0 tg, h.y1]
  unfold canHintM
  by_cases g : M 0 0 4 = NEG
  · rw [ho.1.mp g, if_pos jneg_lt, b_135_33, b_135_34 kr0, decide_eq_false (p := ¬ M 0 0 4 = NEG) (fun q => q g)]; rfl
  · obtain ⟨a1, a2, a3, a4⟩ := ho.2.1 g
    obtain ⟨b1, b2, b3, b4⟩ := hm.who g
    have p1 := hm.1 3 (M 0 0 4) 1 (by decide) (by decide)
    have y4 : mI w σ 4 = nI (M 0 0 4) := by rw [h.y4, a3]
    obtain ⟨e12s, u12s, l12s⟩ := S.e12 (M 0 0 4) b1
    rw [a1, if_neg (by rw [jlt (by omega) (by decide)]; omega), b_135_7 tg, h.z5, ijle (by omega) (by omega), decide_eq_true (p := ¬ M 0 0 4 = NEG) g, Bool.true_and]
    by_cases g2 : 2 ≤ M 0 0 5
    · rw [if_pos g2, b_135_33, b_135_34 kr0, decide_eq_false (p := M 0 0 5 < 2) (by omega)]; rfl
    · rw [if_neg g2, decide_eq_true (p := M 0 0 5 < 2) (by omega), Bool.true_and]
      refine Eq.trans (b_135_15 (by first | assumption | omega) (by first | assumption | omega) (by first | assumption | omega) y4 (by first | assumption | omega) (by first | assumption | omega) (by first | assumption | omega) (by first | assumption | omega) (by first | assumption | omega)) ?_
      rw [h.al b1 (j := 1) (by decide), ijle (by omega) (by omega)]
      by_cases g3 : M 3 (M 0 0 4) 1 ≤ 0
      · rw [if_pos g3, b_135_33, b_135_34 kr0, decide_eq_false (by omega)]; rfl
      · rw [if_neg g3, b_135_29, b_135_34 kr1, decide_eq_true (by omega)]; rfl
theorem c_sCanPass (h : SW w σ C M) (hm : MOk C B M) (ho : SOk C B M) (hB : B ≤ 1000000000) : mK d 137 [.ref σ] w = some (.inl (some (.int (bI (canPassM M)))), w) := by
  have S := h.s
  have hk1 := h.k.1
  have tg := S.tg
  have r12 := S.r12; have t12 := S.t12; have n12 := S.n12
  rw [e_137, b_137_0 tg, h.y1]
  unfold canPassM
  by_cases g : M 0 0 4 = NEG
  · rw [ho.1.mp g, if_pos jneg_lt, b_137_25, b_137_26 kr0, decide_eq_false (p := ¬ M 0 0 4 = NEG) (fun q => q g)]; rfl
  · obtain ⟨a1, a2, a3, a4⟩ := ho.2.1 g
    obtain ⟨b1, b2, b3, b4⟩ := hm.who g
    have p3 := hm.1 3 (M 0 0 4) 3 (by decide) (by decide)
    have y4 : mI w σ 4 = nI (M 0 0 4) := by rw [h.y4, a3]
    obtain ⟨e12s, u12s, l12s⟩ := S.e12 (M 0 0 4) b1
    rw [a1, if_neg (by rw [jlt (by omega) (by decide)]; omega), decide_eq_true (p := ¬ M 0 0 4 = NEG) g, Bool.true_and]
    refine Eq.trans (b_137_7 (by first | assumption | omega) (by first | assumption | omega) (by first | assumption | omega) y4 (by first | assumption | omega) (by first | assumption | omega) (by first | assumption | omega) (by first | assumption | omega) (by first | assumption | omega)) ?_
    rw [h.al b1 (j := 3) (by decide), ijle (by omega) (by omega)]
    by_cases g3 : M 3 (M 0 0 4) 3 ≤ 0
    · rw [if_pos g3, b_137_25, b_137_26 kr0, decide_eq_false (by omega)]; rfl
    · rw [if_neg g3, b_137_21, b_137_26 kr1, decide_eq_true (by omega)]; rfl
/-! ===== a hint, a pass ===== -/
theorem ST.b12 (S : ST w σ C) {i : Nat} (hi : i < C 0 0 3) : mE ≤ gR w (gR w σ 12) i := by
  have := S.lo; have := S.sm; have := S.o1; have := S.o2; have := S.o3; have := S.o4 i hi
  show 166 ≤ _
  omega
theorem ST.b7 (S : ST w σ C) : mE ≤ gR w σ 7 := by
  have := S.lo; have := S.sm
  show 166 ≤ _
  omega
theorem ST.bs (S : ST w σ C) : mE ≤ σ := by
  have := S.lo
  show 166 ≤ _
  omega
theorem c_sHint (h : SW w σ C M) (hm : MOk C B M) (ho : SOk C B M) (hc : canHintM M = true) : ∃ w', mK d 136 [.ref σ] w = some (.inl none, w') ∧ upS σ C w w' (hintM M) := by
  have hk1 := h.k.1
  unfold canHintM at hc
  simp only [Bool.and_eq_true, decide_eq_true_eq] at hc
  obtain ⟨g, g2, g3⟩ := hc
  obtain ⟨a1, a2, a3, a4⟩ := ho.2.1 g
  obtain ⟨b1, b2, b3, b4⟩ := hm.who g
  have y4 : mI w σ 4 = nI (M 0 0 4) := by rw [h.y4, a3]
  have S := h.s
  have tg := S.tg
  have l1 := S.b12 b1
  have l2 := S.b7
  have l3 := S.bs
  have r7 := S.r7; have t7 := S.t7; have n7 := S.n7; have r12 := S.r12; have t12 := S.t12; have n12 := S.n12
  obtain ⟨e12s, u12s, l12s⟩ := S.e12 (M 0 0 4) b1
  have u1 := h.ual b1 (j := 1) (by decide) (M 3 (M 0 0 4) 1 - 1)
  have h1 := h.up u1
  have u2 := h1.ual b1 (j := 5) (by decide) (M 3 (M 0 0 4) 5 + 1)
  have h2 := h1.up u2
  have u3 := h2.uz5 (M 0 0 5 + 1)
  have h3 := h2.up u3
  have u4 := h3.usm (j := 2) (by decide) (M 1 0 2 + 1)
  refine ⟨_, ?_, ((u1.trans u2).trans u3).trans u4⟩
  have v2 : _ = nI (M 3 (M 0 0 4) 5) := (h1.al b1 (j := 5) (by decide)).trans (by rw [mu_n (by omega)])
  have v3 : _ = nI (M 0 0 5) := h2.z5.trans (by rw [mu_n (by omega), mu_n (by omega)])
  have v4 : _ = nI (M 1 0 2) := (h3.sm (j := 2) (by decide)).trans (by rw [mu_n (by omega), mu_n (by omega), mu_n (by omega)])
  have y41 : _ = nI (M 0 0 4) := h1.y4.trans (by rw [mu_n (by omega), a3])
  rw [e_136]
  refine Eq.trans (b_136_0 (by first | assumption | omega) (by first | assumption | omega) (by first | assumption | omega) y4 (by first | assumption | omega) (by first | assumption | omega) (by first | assumption | omega) (by first | assumption | omega) (by first | assumption | omega) (by first | assumption | omega)) ?_
  rw [h.al b1 (j := 1) (by decide), jsub g3]
  have S1 := h1.s
  have r12 := S1.r12; have t12 := S1.t12; have n12 := S1.n12
  obtain ⟨e12s, u12s, l12s⟩ := S1.e12 (M 0 0 4) b1
  have l11 := S1.b12 b1
  refine Eq.trans (b_136_15 (by first | assumption | omega) (by first | assumption | omega) (by first | assumption | omega) y41 (by first | assumption | omega) (by first | assumption | omega) (by first | assumption | omega) (by first | assumption | omega) (by first | assumption | omega) (by first | assumption | omega)) ?_
  rw [v2, jadd, b_136_30 h2.s.tg h2.s.bs, v3, jadd]
  have S3 := h3.s
  have r7 := S3.r7; have t7 := S3.t7; have n7 := S3.n7
  have l32 := S3.b7
  refine Eq.trans (b_136_40 (by first | assumption | omega) (by first | assumption | omega) (by first | assumption | omega) (by first | assumption | omega) (by first | assumption | omega)) ?_
  rw [v4, jadd, b_136_50]
end
