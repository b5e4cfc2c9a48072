/-! ===== the law's bee: the end of a lap, of a turn ===== -/
section
variable {d B σ : Nat} {w : MW} {C : CD} {M : MD}
theorem lapM_i (hm : MOk C B M) : ∀ s, lapM M 3 s 0 ≤ 1 := by
  intro s
  have q := (hm.2.2.2.2.2.1 s).1
  unfold lapM
  rw [mu_n (by omega), mu_n (by omega), mu_n (by omega)]
  by_cases e : s < 6
  · rw [backM_0 6 M e]; split <;> omega
  · rw [backM_n 6 M (by omega)]; exact q
theorem lapM_o (hm : MOk C B M) : ∀ s, C 0 0 3 ≤ s → s < 6 → lapM M 3 s 0 = 0 := by
  intro s h1 h2
  have q := hm.2.2.2.2.2.2 s h1 h2
  unfold lapM
  rw [mu_n (by omega), mu_n (by omega), mu_n (by omega), backM_0 6 M h2, if_neg (by omega)]
  exact q.1
theorem lapM_p (M : MD) (s : Nat) : lapM M 3 s 1 = M 3 s 1 := by
  unfold lapM
  rw [mu_n (by omega), mu_n (by omega), mu_n (by omega), backM_n 6 M (by omega)]
theorem whoM_ag {M' : MD} : ∀ n s, (∀ i, i < s + n → M 3 i 0 = M' 3 i 0) → whoM M n s = whoM M' n s
  | 0, _, _ => rfl
  | n + 1, s, h => by rw [whoM, whoM, h s (by omega), whoM_ag n (s + 1) (fun i hi => h i (by omega))]
theorem s_fin (h : SW w σ C M) (hi : ∀ s, M 3 s 0 ≤ 1) (hS : 1 ≤ C 0 0 3) : ∃ w', mX d 143 296 [.ref σ, mJ, mJ, mJ, mJ, mJ, mJ] [] w = some (.inl none, w') ∧ upS σ C w w' (mu M 8 0 4 (whoM M (C 0 0 3 - 1) 0)) := by
  have u1 := h.uy4 0
  obtain ⟨w', e, u⟩ := s_who (d := d) hi (C 0 0 3 - 1) 0 _ (by omega) (h.up u1)
  exact ⟨w', by rw [b_143_296 h.s.tg h.s.bs, e], u1.trans u⟩
theorem mneg : (-1 : Int32) = nI NEG := by decide +kernel
theorem c_sEndLap (h : SW w σ C M) (hm : MOk C B M) (hB : B ≤ 1000000000) (hS : 1 ≤ C 0 0 3) (hq : M 0 0 1 < C 0 0 4) (hl : M 0 0 2 < C 7 (M 0 0 1) 1) (a1 : M 8 0 1 = M 0 0 1) (a2 : M 8 0 2 = M 0 0 2) : ∃ w', mK (d + 1) 143 [.ref σ] w = some (.inl none, w') ∧ upS σ C w w' (endLapM C M) := by
  have hk := h.k
  have hk1 := hk.1
  have hr := hk.2.2.2.2.2.1 _ hq
  obtain ⟨w1, e1, u1⟩ := s_lap (d := d + 1) h hm
  have h1 := h.up u1
  have i1 := lapM_i hm
  have L1 : lapM M 0 0 1 = M 0 0 1 := by unfold lapM; rw [mu_n (by omega), mu_n (by omega), mu_n (by omega), backM_n 6 M (by omega)]
  have L2 : lapM M 8 0 1 = M 0 0 1 := by unfold lapM; rw [mu_n (by omega), mu_n (by omega), mu_n (by omega), backM_n 6 M (by omega), a1]
  have L3 : lapM M 8 0 2 = M 0 0 2 + 1 := by unfold lapM; rw [mu_s, a2]
  have hl1 : leftM C (lapM M) ≤ C 0 0 3 * 1 := su_le fun s _ => i1 s
  have fin : ∀ w2 M2 M3, SW w2 σ C M2 → (∀ s, M2 3 s 0 ≤ 1) → (∀ g i j, SV C g i j → M2 g i j = M3 g i j) → endLap0M C M = M3 → upS σ C w w2 M2 → ∃ w', mX (d + 1) 143 296 [.ref σ, mJ, mJ, mJ, mJ, mJ, mJ] [] w2 = some (.inl none, w') ∧ upS σ C w w' (endLapM C M) := by
    intro w2 M2 M3 h2 hi hag he u2
    obtain ⟨w', e, u⟩ := s_fin (d := d + 1) h2 hi hS
    refine ⟨w', e, (u2.trans u).ext fun g i j hv => ?_⟩
    unfold endLapM
    rw [he, whoM_ag (M' := M3) (C 0 0 3 - 1) 0 (fun i hi => hag 3 i 0 (Or.inr (Or.inr (Or.inr (Or.inl ⟨rfl, by omega, by decide⟩))))), mu_at, mu_at, hag g i j hv]
  have S1 := h1.s
  have tg := S1.tg
  have pre : mK (d + 1) 143 [.ref σ] w = if leftM C (lapM M) < 2 then mX (d + 1) 143 291 [.ref σ, mJ, mJ, mJ, mJ, mJ, mJ] [] w1 else mX (d + 1) 143 91 [.ref σ, .int (nI 0), mJ, mJ, mJ, mJ, mJ] [] w1 := by
    rw [e1, b_143_73 tg, c_sLeft h1]
    simp only [mThen_ok, Option.toList_some, Option.toList_none, List.cons_append, List.nil_append]
    rw [b_143_77, ijle (by decide) (by omega)]
    by_cases t : leftM C (lapM M) < 2
    · rw [if_neg (by omega), if_pos t, b_143_81, b_143_86, if_pos n10, b_143_287, if_neg n10]
    · rw [if_pos (by omega), if_neg t, b_143_85, b_143_86, if_neg (fun q => q rfl)]
  rw [pre]
  by_cases t : leftM C (lapM M) < 2
  · have u2 := h1.uy1 NEG
    obtain ⟨w', e, u⟩ := fin _ (mu (lapM M) 8 0 1 NEG) (overM (lapM M)) (h1.up u2) (fun s => by rw [mu_n (by omega)]; exact i1 s) (fun g i j hv => by
      unfold overM
      rw [mu_at, mu_at (mu (lapM M) 0 0 4 NEG), mu_n (SV.z hv (Or.inr (Or.inr (Or.inr rfl))))]) (by unfold endLap0M; rw [if_pos t]) (u1.trans u2)
    refine ⟨w', ?_, u⟩
    rw [if_pos t, b_143_291 tg S1.bs, mneg, e]
  · rw [if_neg t]
    have r15 := S1.r15; have t15 := S1.t15; have n15 := S1.n15
    obtain ⟨e15q, u15q, l15q⟩ := S1.e15 (M 0 0 1) hq
    have y1 : mI w1 σ 1 = nI (M 0 0 1) := by rw [h1.y1, L2]
    have hc1 := h1.c.2.2.2.1 _ hq 1 (by decide)
    have pre2 : mX (d + 1) 143 91 [.ref σ, .int (nI 0), mJ, mJ, mJ, mJ, mJ] [] w1 = if ¬ M 0 0 2 + 1 = C 7 (M 0 0 1) 1 then mX (d + 1) 143 296 [.ref σ, mJ, mJ, mJ, mJ, mJ, mJ] [] w1 else mX (d + 1) 143 109 [.ref σ, mJ, mJ, mJ, mJ, mJ, mJ] [] w1 := by
      refine Eq.trans (b_143_91 (by first | assumption | omega) (by first | assumption | omega) (by first | assumption | omega) y1 (by first | assumption | omega) (by first | assumption | omega) (by first | assumption | omega) (by first | assumption | omega) (by first | assumption | omega)) ?_
      rw [h1.y2, L3, hc1, ijne (by omega) (by omega), b_143_287, if_pos rfl]
    rw [pre2]
    by_cases t1 : M 0 0 2 + 1 = C 7 (M 0 0 1) 1
    · rw [if_neg (fun q => q t1)]
      obtain ⟨w2, e2, u2⟩ := s_round (d := d + 1) h1 i1 (lapM_o hm) (fun s => by
        have := hm.1 3 s 1 (by decide) (by decide)
        rw [lapM_p]; omega) (by rw [L1]; exact hq) (by rw [L1, L2])
      have h2 := h1.up u2
      have u02 := u1.trans u2
      have iR : ∀ s, roundEndM C (lapM M) 3 s 0 ≤ 1 := rnd_i i1
      have R1 : roundEndM C (lapM M) 8 0 1 = M 0 0 1 := (rnd_z 1 (by decide) 0).trans L2
      have hl2 : leftM C (roundEndM C (lapM M)) ≤ C 0 0 3 * 1 := su_le fun s _ => iR s
      have S2 := h2.s
      have y2 : mI w2 σ 1 = nI (M 0 0 1) := by rw [h2.y1, R1]
      have tg2 := S2.tg
      have r15 := S2.r15; have t15 := S2.t15; have n15 := S2.n15
      have n01 : ¬ nI 0 = nI 1 := by decide +kernel
      have u3 := h2.uy1 (M 0 0 1 + 1)
      have h3 := h2.up u3
      have u4 := h3.uy2 0
      have h4 := h3.up u4
      have u5 := h4.uy3 0
      have h5 := h4.up u5
      have u6 := h5.uy1 NEG
      have mid : ∀ x, mX (d + 1) 143 266 [.ref σ, mJ, mJ, mJ, mJ, mJ, mJ] [.int x] w2 = if x = nI 0 then mX (d + 1) 143 296 [.ref σ, mJ, mJ, mJ, mJ, mJ, mJ] [] (wI (wI (wI w2 σ 1 (nI (M 0 0 1 + 1))) σ 2 (nI 0)) σ 3 (nI 0)) else mX (d + 1) 143 291 [.ref σ, mJ, mJ, mJ, mJ, mJ, mJ] [] (wI (wI (wI w2 σ 1 (nI (M 0 0 1 + 1))) σ 2 (nI 0)) σ 3 (nI 0)) := fun x => by
        rw [b_143_266 tg2 S2.bs, y2, jadd, b_143_277 h3.s.tg S2.bs, b_143_282 h4.s.tg S2.bs, b_143_287]
      have pre3 : mX (d + 1) 143 239 [.ref σ, mJ, mJ, mJ, mJ, mJ, mJ] [] w2 = if leftM C (roundEndM C (lapM M)) < 2 ∨ C 0 0 4 ≤ M 0 0 1 + 1 then mX (d + 1) 143 261 [.ref σ, mJ, mJ, mJ, mJ, mJ, mJ] [] w2 else mX (d + 1) 143 265 [.ref σ, mJ, mJ, mJ, mJ, mJ, mJ] [] w2 := by
        rw [b_143_239 tg2, c_sLeft h2]
        simp only [mThen_ok, Option.toList_some, Option.toList_none, List.cons_append, List.nil_append]
        rw [b_143_243, ijlt (by omega) (by decide)]
        by_cases g1 : leftM C (roundEndM C (lapM M)) < 2
        · rw [if_pos g1, if_pos (Or.inl g1)]
        · rw [if_neg g1]
          refine Eq.trans (b_143_247 (by first | assumption | omega) (by first | assumption | omega) (by first | assumption | omega)) ?_
          rw [y2, n15, jsub (by omega), ijne (by omega) (by omega)]
          by_cases g2 : C 0 0 4 ≤ M 0 0 1 + 1
          · rw [if_neg (by omega), if_pos (Or.inr g2)]
          · rw [if_pos (by omega), if_neg (by omega)]
      rw [e2, pre3]
      by_cases g : leftM C (roundEndM C (lapM M)) < 2 ∨ C 0 0 4 ≤ M 0 0 1 + 1
      · rw [if_pos g, b_143_261, mid, if_neg n10]
        obtain ⟨w', e, u⟩ := fin _ _ (overM (mu (mu (roundEndM C (lapM M)) 8 0 2 0) 8 0 3 0)) (h5.up u6) (fun s => by rw [mu_n (by omega), mu_n (by omega), mu_n (by omega), mu_n (by omega)]; exact iR s) (fun g i j hv => by
          unfold overM
          have n4 := SV.z hv (k := 4) (by omega)
          by_cases e : g = 8 ∧ i = 0 ∧ j = 1
          · obtain ⟨e1, e2, e3⟩ := e
            subst e1 e2 e3
            rw [mu_s, mu_s]
          · rw [mu_n e, mu_n e, mu_n n4]
            simp only [mu_at, if_neg e]) (by unfold endLap0M; rw [if_neg t, if_pos (by omega), if_pos g]) (((u02.trans u3).trans u4).trans u5 |>.trans u6)
        refine ⟨w', ?_, u⟩
        rw [b_143_291 h5.s.tg S2.bs, mneg, e]
      · rw [if_neg g, b_143_265, mid, if_pos rfl]
        exact fin _ _ (startM C (nextRoundM (roundEndM C (lapM M)))) h5 (fun s => by rw [mu_n (by omega), mu_n (by omega), mu_n (by omega)]; exact iR s) (fun g i j hv => by
          unfold startM nextRoundM
          have n1 := SV.z hv (k := 1) (by omega)
          have n2 := SV.z hv (k := 2) (by omega)
          have n3 := SV.z hv (k := 3) (by omega)
          have n4 := SV.z hv (k := 4) (by omega)
          rw [mu_n n4, R1]
          simp only [mu_at, if_neg n1, if_neg n2, if_neg n3]) (by unfold endLap0M; rw [if_neg t, if_pos (by omega), if_neg g]) (((u02.trans u3).trans u4).trans u5)
    · rw [if_pos t1]
      exact fin _ _ (startM C (lapM M)) h1 i1 (fun g i j hv => by
        unfold startM
        rw [mu_n (SV.z hv (Or.inr (Or.inr (Or.inr rfl))))]) (by unfold endLap0M; rw [if_neg t, if_neg (by omega)]) u1
theorem c_sNext (h : SW w σ C M) (hm : MOk C B M) (ho : SOk C B M) (hB : B < 1000000000) (hg : ¬ M 0 0 4 = NEG) : ∃ w', mK (d + 2) 142 [.ref σ] w = some (.inl none, w') ∧ upS σ C w w' (endTurnM C M) := by
  have hk := h.k
  have hk1 := hk.1
  obtain ⟨a1, a2, a3, a4⟩ := ho.2.1 hg
  obtain ⟨b1, b2, b3, b4⟩ := hm.who hg
  have u1 := h.uz0 (M 0 0 0 + 1)
  have h1 := h.up u1
  have u2 := h1.uz5 0
  have h2 := h1.up u2
  have S := h.s
  have S2 := h2.s
  have tg2 := S2.tg
  have r12 := S2.r12; have t12 := S2.t12; have n12 := S2.n12
  have y4 : _ = nI (M 0 0 4) := h2.y4.trans (by rw [mu_n (by omega), mu_n (by omega), a3])
  have pre : mK (d + 2) 142 [.ref σ] w = mX (d + 2) 142 22 [.ref σ, .int (nI (M 0 0 4 + 1))] [] (wI (wI w σ 0 (nI (M 0 0 0 + 1))) σ 5 (nI 0)) := by
    rw [e_142, b_142_0 S.tg S.bs, h.z0, jadd, b_142_10 h1.s.tg S.bs, b_142_15 tg2, y4, jadd]
  have loop : ∀ m s, s + m = C 0 0 3 → mX (d + 2) 142 22 [.ref σ, .int (nI s)] [] (wI (wI w σ 0 (nI (M 0 0 0 + 1))) σ 5 (nI 0)) = if nxM M m s = NEG then mX (d + 2) 142 57 [.ref σ, mJ] [] (wI (wI w σ 0 (nI (M 0 0 0 + 1))) σ 5 (nI 0)) else mX (d + 2) 142 45 [.ref σ, .int (nI (nxM M m s))] [] (wI (wI w σ 0 (nI (M 0 0 0 + 1))) σ 5 (nI 0)) := by
    intro m
    induction m with
    | zero =>
      intro s hs
      refine Eq.trans (b_142_22 (by first | assumption | omega) (by first | assumption | omega) (by first | assumption | omega)) ?_
      rw [n12, ijle (by omega) (by omega), if_pos (by omega), nxM, if_pos rfl]
    | succ m ih =>
      intro s hs
      have hs3 : s < C 0 0 3 := by omega
      have q := (hm.2.2.2.2.2.1 s).1
      obtain ⟨e12s, u12s, l12s⟩ := S2.e12 s hs3
      refine Eq.trans (b_142_22 (by first | assumption | omega) (by first | assumption | omega) (by first | assumption | omega)) ?_
      rw [n12, ijle (by omega) (by omega), if_neg (by omega)]
      refine Eq.trans (b_142_31 (by first | assumption | omega) (by first | assumption | omega) (by first | assumption | omega) (by first | assumption | omega) (by first | assumption | omega) (by first | assumption | omega) (by first | assumption | omega) (by first | assumption | omega)) ?_
      rw [h2.al hs3 (j := 0) (by decide), mu_n (by omega), mu_n (by omega), ijne (by omega) (by decide), nxM]
      by_cases e : M 3 s 0 = 0
      · rw [if_neg (fun q => q e), if_pos e, b_142_42, jadd, ih (s + 1) (by omega)]
      · rw [if_pos e, if_neg e, if_neg (by show ¬ s = 4294967295; omega)]
  rw [pre, loop (C 0 0 3 - (M 0 0 4 + 1)) (M 0 0 4 + 1) (by omega)]
  unfold endTurnM nextInM
  have u12 := u1.trans u2
  by_cases e : nxM M (C 0 0 3 - (M 0 0 4 + 1)) (M 0 0 4 + 1) = NEG
  · rw [if_pos e, if_pos e]
    have u3 := u12.ext (M' := mu (mu (mu M 0 0 0 (M 0 0 0 + 1)) 0 0 5 0) 0 0 4 NEG) (fun g i j hv => (mu_n (SV.z hv (Or.inr (Or.inr (Or.inr rfl))))).symm)
    have h3 := h.up u3
    have hm3 : MOk C (B + 1) (mu (mu (mu M 0 0 0 (M 0 0 0 + 1)) 0 0 5 0) 0 0 4 NEG) := by
      refine ⟨fun g i j g1 g2 => ?_, ?_, ?_, ?_, Or.inl ?_, fun s => ?_, fun s s1 s2 => ?_⟩
      · rw [mu_n (by omega), mu_n (by omega), mu_n (by omega)]; have := hm.1 g i j g1 g2; omega
      · rw [mu_n (by omega), mu_n (by omega), mu_s]; have := hm.2.1; omega
      · rw [mu_n (by omega), mu_s]; omega
      · rw [mu_n (by omega), mu_n (by omega), mu_n (by omega)]; exact hm.2.2.2.1
      · rw [mu_s]
      · rw [mu_n (by omega), mu_n (by omega), mu_n (by omega), mu_n (by omega), mu_n (by omega), mu_n (by omega), mu_n (by omega), mu_n (by omega), mu_n (by omega)]; exact hm.2.2.2.2.2.1 s
      · rw [mu_n (by omega), mu_n (by omega), mu_n (by omega), mu_n (by omega), mu_n (by omega), mu_n (by omega), mu_n (by omega), mu_n (by omega), mu_n (by omega)]; exact hm.2.2.2.2.2.2 s s1 s2
    have z1 : mu (mu (mu M 0 0 0 (M 0 0 0 + 1)) 0 0 5 0) 0 0 4 NEG 0 0 1 = M 0 0 1 := by rw [mu_n (by omega), mu_n (by omega), mu_n (by omega)]
    have z2 : mu (mu (mu M 0 0 0 (M 0 0 0 + 1)) 0 0 5 0) 0 0 4 NEG 0 0 2 = M 0 0 2 := by rw [mu_n (by omega), mu_n (by omega), mu_n (by omega)]
    have z3 : mu (mu (mu M 0 0 0 (M 0 0 0 + 1)) 0 0 5 0) 0 0 4 NEG 8 0 1 = M 8 0 1 := by rw [mu_n (by omega), mu_n (by omega), mu_n (by omega)]
    have z4 : mu (mu (mu M 0 0 0 (M 0 0 0 + 1)) 0 0 5 0) 0 0 4 NEG 8 0 2 = M 8 0 2 := by rw [mu_n (by omega), mu_n (by omega), mu_n (by omega)]
    obtain ⟨w', e9, u⟩ := c_sEndLap (d := d) h3 hm3 (by omega) (by omega) (by rw [z1]; exact b2) (by rw [z1, z2]; exact b4) (by rw [z1, z3]; exact a1) (by rw [z2, z4]; exact a2)
    refine ⟨w', ?_, u3.trans u⟩
    rw [b_142_57 tg2, e9]
    simp only [mThen_ok, Option.toList_some, Option.toList_none, List.cons_append, List.nil_append]
    rw [b_142_61]
  · rw [if_neg e, if_neg e]
    have u3 := h2.uy4 (nxM M (C 0 0 3 - (M 0 0 4 + 1)) (M 0 0 4 + 1))
    refine ⟨_, ?_, (u12.trans u3).ext fun g i j hv => ?_⟩
    · rw [b_142_45 tg2 S2.bs, b_142_50]
    · have n4 := SV.z hv (k := 4) (by omega)
      simp only [mu_at, if_neg n4]
end
