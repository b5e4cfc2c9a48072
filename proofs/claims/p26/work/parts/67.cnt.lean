/-! ===== the law's bee: what it counts ===== -/
section
variable {d B σ hi : Nat} {w w' : MW} {C : CD} {M : MD}
/-- the row of counts, of which the first k are written -/
def cRow (w : MW) (σ : Nat) (C : CD) (M : MD) (k : Nat) (w' : MW) : Prop := SW w' σ C M ∧ mTg w' (mSz w) = 50 ∧ mLn w' (mSz w) = 18 ∧ agr w w' 0 (mSz w) ∧ mSz w' = mSz w + 1 ∧ mSl w' = mSl w + 18 ∧ ∀ j, j < k → mI w' (mSz w) j = nI (countM C M j)
theorem cRow.next {k : Nat} (h : cRow w σ C M k w') (b : SB w σ C hi) (hh : hi ≤ mSz w) (h2 : 276 ≤ hi) (S : ST w σ C) (x : Int32) (hx : x = nI (countM C M k)) : cRow w σ C M (k + 1) (wI w' (mSz w) k x) := by
  obtain ⟨h1, h3, h4, h5, h6, h7, h8⟩ := h
  have a2 : agr w w' 276 hi := h5.mono (by omega) hh
  have b1 : SB w' σ C hi := b.ag S a2
  refine ⟨h1.wI b1 (Or.inl hh), h3, h4, h5.trans (agr.wI (Or.inl (Nat.le_refl _))), h6, h7, fun j hj => ?_⟩
  rw [mI_wI]
  by_cases e : j = k
  · subst e; rw [if_pos ⟨rfl, rfl⟩, hx]
  · rw [if_neg (by omega), h8 j (by omega)]
theorem c_sCounted (h : SW w σ C M) (b : SB w σ C hi) (hh : hi ≤ mSz w) (h276 : 276 ≤ hi) (hm : MOk C B M) (ho : SOk C B M) (hB : B ≤ 1000000000) {x : Nat} (hx : x < 18) : ∃ w', mK (d + 1) 146 [.ref σ, .int (nI x), .int (nI (C 0 0 0))] w = some (.inl (some (.int (nI (countM C M x)))), w') ∧ agr w w' 0 (mSz w) ∧ mSz w' = mSz w + 1 ∧ mSl w' = mSl w + 18 := by
  have S0 := h.s
  have hk := h.k
  have hk1 := hk.1
  have z4 : M 0 0 4 = NEG ∨ M 0 0 4 < C 0 0 3 := hm.2.2.2.2.1.imp id (fun q => q.1)
  have eE : mE ≤ mSz w := by have : mE = 166 := rfl; omega
  have y1v : mI w σ 1 = nI (countM C M 7) := by
    rw [h.y1]
    show _ = nI (if M 0 0 4 = NEG then NEG else M 0 0 1)
    by_cases e : M 0 0 4 = NEG
    · rw [if_pos e, ho.1.mp e]
    · rw [if_neg e, (ho.2.1 e).1]
  have R0 : cRow w σ C M 0 (wN w 50 18 18) := by
    refine ⟨h.wN b hh, if_pos rfl, if_pos rfl, agr.wN (Nat.le_refl _), rfl, rfl, fun j hj => absurd hj (by omega)⟩
  have step : ∀ (k : Nat) (w' : MW), cRow w σ C M k w' → ∀ x, x = nI (countM C M k) → cRow w σ C M (k + 1) (wI w' (mSz w) k x) := fun k w' q x hx => q.next b hh h276 S0 x hx
  generalize hv0 : wN w 50 18 18 = v0 at R0
  have Q0 : mX (d + 1) 146 4 [.ref σ, .int (nI x), .int (nI (C 0 0 0)), mJ] [.ref (mSz w)] v0 = mX (d + 1) 146 11 [.ref σ, .int (nI x), .int (nI (C 0 0 0)), mJ] [.ref (mSz w)] (wI v0 (mSz w) 0 (nI (countM C M 0))) := by
    obtain ⟨S, t50, n18, ag, sz, sl, rd⟩ := R0
    have tg := S.s.tg
    refine Eq.trans (b_146_4 (by first | assumption | omega) (by first | assumption | omega) (by first | assumption | omega) (by first | assumption | omega)) ?_
    rw [S.z0]; rfl
  have R1 := step 0 _ R0 _ rfl
  generalize hv1 : wI v0 (mSz w) 0 (nI (countM C M 0)) = v1 at R1 Q0
  have Q1 : mX (d + 1) 146 11 [.ref σ, .int (nI x), .int (nI (C 0 0 0)), mJ] [.ref (mSz w)] v1 = mX (d + 1) 146 15 [.ref σ, .int (nI x), mJ, mJ] [.ref (mSz w)] (wI v1 (mSz w) 1 (nI (countM C M 1))) := by
    obtain ⟨S, t50, n18, ag, sz, sl, rd⟩ := R1
    have tg := S.s.tg
    refine Eq.trans (b_146_11 (by first | assumption | omega) (by first | assumption | omega) (by first | assumption | omega)) ?_
    rfl
  have R2 := step 1 _ R1 _ rfl
  generalize hv2 : wI v1 (mSz w) 1 (nI (countM C M 1)) = v2 at R2 Q1
  have Q2 : mX (d + 1) 146 15 [.ref σ, .int (nI x), mJ, mJ] [.ref (mSz w)] v2 = mX (d + 1) 146 23 [.ref σ, .int (nI x), mJ, mJ] [.ref (mSz w)] (wI v2 (mSz w) 2 (nI (countM C M 2))) := by
    obtain ⟨S, t50, n18, ag, sz, sl, rd⟩ := R2
    have tg := S.s.tg
    have r9 := S.s.r9; have t9 := S.s.t9; have n9 := S.s.n9
    refine Eq.trans (b_146_15 (by first | assumption | omega) (by first | assumption | omega) (by first | assumption | omega) (by first | assumption | omega) (by first | assumption | omega) (by first | assumption | omega)) ?_
    rw [n9]; rfl
  have R3 := step 2 _ R2 _ rfl
  generalize hv3 : wI v2 (mSz w) 2 (nI (countM C M 2)) = v3 at R3 Q2
  have Q3 : mX (d + 1) 146 23 [.ref σ, .int (nI x), mJ, mJ] [.ref (mSz w)] v3 = mX (d + 1) 146 31 [.ref σ, .int (nI x), mJ, mJ] [.ref (mSz w)] (wI v3 (mSz w) 3 (nI (countM C M 3))) := by
    obtain ⟨S, t50, n18, ag, sz, sl, rd⟩ := R3
    have tg := S.s.tg
    have r10 := S.s.r10; have t10 := S.s.t10; have n10 := S.s.n10
    refine Eq.trans (b_146_23 (by first | assumption | omega) (by first | assumption | omega) (by first | assumption | omega) (by first | assumption | omega) (by first | assumption | omega) (by first | assumption | omega)) ?_
    rw [n10]; rfl
  have R4 := step 3 _ R3 _ rfl
  generalize hv4 : wI v3 (mSz w) 3 (nI (countM C M 3)) = v4 at R4 Q3
  have Q4 : mX (d + 1) 146 31 [.ref σ, .int (nI x), mJ, mJ] [.ref (mSz w)] v4 = mX (d + 1) 146 39 [.ref σ, .int (nI x), mJ, mJ] [.ref (mSz w)] (wI v4 (mSz w) 4 (nI (countM C M 4))) := by
    obtain ⟨S, t50, n18, ag, sz, sl, rd⟩ := R4
    have tg := S.s.tg
    have r12 := S.s.r12; have t12 := S.s.t12; have n12 := S.s.n12
    refine Eq.trans (b_146_31 (by first | assumption | omega) (by first | assumption | omega) (by first | assumption | omega) (by first | assumption | omega) (by first | assumption | omega) (by first | assumption | omega)) ?_
    rw [n12]; rfl
  have R5 := step 4 _ R4 _ rfl
  generalize hv5 : wI v4 (mSz w) 4 (nI (countM C M 4)) = v5 at R5 Q4
  have Q5 : mX (d + 1) 146 39 [.ref σ, .int (nI x), mJ, mJ] [.ref (mSz w)] v5 = mX (d + 1) 146 47 [.ref σ, .int (nI x), mJ, mJ] [.ref (mSz w)] (wI v5 (mSz w) 5 (nI (countM C M 5))) := by
    obtain ⟨S, t50, n18, ag, sz, sl, rd⟩ := R5
    have tg := S.s.tg
    have r15 := S.s.r15; have t15 := S.s.t15; have n15 := S.s.n15
    refine Eq.trans (b_146_39 (by first | assumption | omega) (by first | assumption | omega) (by first | assumption | omega) (by first | assumption | omega) (by first | assumption | omega) (by first | assumption | omega)) ?_
    rw [n15]; rfl
  have R6 := step 5 _ R5 _ rfl
  generalize hv6 : wI v5 (mSz w) 5 (nI (countM C M 5)) = v6 at R6 Q5
  have Q6 : mX (d + 1) 146 47 [.ref σ, .int (nI x), mJ, mJ] [.ref (mSz w)] v6 = mX (d + 1) 146 56 [.ref σ, .int (nI x), mJ, mJ] [.ref (mSz w)] (wI v6 (mSz w) 6 (nI (countM C M 6))) := by
    obtain ⟨S, t50, n18, ag, sz, sl, rd⟩ := R6
    have tg := S.s.tg
    have r17 := S.s.r17; have t17 := S.s.t17; have n17 := S.s.n17
    refine Eq.trans (b_146_47 (by first | assumption | omega) (by first | assumption | omega) (by first | assumption | omega) (by first | assumption | omega) (by first | assumption | omega) (by first | assumption | omega)) ?_
    rw [n17]; rfl
  have R7 := step 6 _ R6 _ rfl
  generalize hv7 : wI v6 (mSz w) 6 (nI (countM C M 6)) = v7 at R7 Q6
  have Q7 : mX (d + 1) 146 56 [.ref σ, .int (nI x), mJ, mJ] [.ref (mSz w)] v7 = mX (d + 1) 146 64 [.ref σ, .int (nI x), mJ, mJ] [.ref (mSz w)] (wI v7 (mSz w) 7 (nI (countM C M 7))) := by
    obtain ⟨S, t50, n18, ag, sz, sl, rd⟩ := R7
    have tg := S.s.tg
    refine Eq.trans (b_146_56 (by first | assumption | omega) (by first | assumption | omega) (by first | assumption | omega) (by first | assumption | omega)) ?_
    rw [← y1v, (ag σ (by have := S0.lo; omega) (by have := b.1; omega)).2.2.1]
  have R8 := step 7 _ R7 _ rfl
  generalize hv8 : wI v7 (mSz w) 7 (nI (countM C M 7)) = v8 at R8 Q7
  have Q8 : mX (d + 1) 146 64 [.ref σ, .int (nI x), mJ, mJ] [.ref (mSz w)] v8 = mX (d + 1) 146 83 [.ref σ, .int (nI x), mJ, mJ] [.ref (mSz w)] (wI v8 (mSz w) 8 (nI (countM C M 8))) := by
    obtain ⟨S, t50, n18, ag, sz, sl, rd⟩ := R8
    have tg := S.s.tg
    have y1 : mI v8 σ 1 = nI (countM C M 7) := by rw [← y1v, (ag σ (by have := S0.lo; omega) (by have := b.1; omega)).2.2.1]
    have c8 : countM C M 8 = M 0 0 4 := rfl
    have c7 : countM C M 7 = if M 0 0 4 = NEG then NEG else M 0 0 1 := rfl
    rw [b_146_64 tg, y1, c7]
    by_cases e : M 0 0 4 = NEG
    · rw [if_pos e, if_neg (jneg_nle (by decide)), b_146_74]
      refine Eq.trans (b_146_82 t50 eE (by decide) (by omega)) ?_
      rw [c8, e, mneg]
    · have q := hm.who e
      rw [if_neg e, ijle (by decide) (by omega), if_pos (Nat.zero_le _), b_146_78 tg]
      refine Eq.trans (b_146_82 t50 eE (by decide) (by omega)) ?_
      rw [c8, S.y4, (ho.2.1 e).2.2.1]
  have R9 := step 8 _ R8 _ rfl
  generalize hv9 : wI v8 (mSz w) 8 (nI (countM C M 8)) = v9 at R9 Q8
  have Q9 : mX (d + 1) 146 83 [.ref σ, .int (nI x), mJ, mJ] [.ref (mSz w)] v9 = mX (d + 1) 146 91 [.ref σ, .int (nI x), mJ, mJ] [.ref (mSz w)] (wI v9 (mSz w) 9 (nI (countM C M 9))) := by
    obtain ⟨S, t50, n18, ag, sz, sl, rd⟩ := R9
    rw [b_146_83 S.s.tg, c_sWord S hm ho (by omega)]
    simp only [mThen_ok, Option.toList_some, Option.toList_none, List.cons_append, List.nil_append]
    exact b_146_90 t50 eE (by decide) (by omega)
  have R10 := step 9 _ R9 _ rfl
  generalize hv10 : wI v9 (mSz w) 9 (nI (countM C M 9)) = v10 at R10 Q9
  have Q10 : mX (d + 1) 146 91 [.ref σ, .int (nI x), mJ, mJ] [.ref (mSz w)] v10 = mX (d + 1) 146 99 [.ref σ, .int (nI x), mJ, mJ] [.ref (mSz w)] (wI v10 (mSz w) 10 (nI (countM C M 10))) := by
    obtain ⟨S, t50, n18, ag, sz, sl, rd⟩ := R10
    rw [b_146_91 S.s.tg, c_sLeft S]
    simp only [mThen_ok, Option.toList_some, Option.toList_none, List.cons_append, List.nil_append]
    exact b_146_98 t50 eE (by decide) (by omega)
  have R11 := step 10 _ R10 _ rfl
  generalize hv11 : wI v10 (mSz w) 10 (nI (countM C M 10)) = v11 at R11 Q10
  have Q11 : mX (d + 1) 146 99 [.ref σ, .int (nI x), mJ, mJ] [.ref (mSz w)] v11 = mX (d + 1) 146 109 [.ref σ, .int (nI x), mJ, mJ] [.ref (mSz w)] (wI v11 (mSz w) 11 (nI (countM C M 11))) := by
    obtain ⟨S, t50, n18, ag, sz, sl, rd⟩ := R11
    have tg := S.s.tg
    have r7 := S.s.r7; have t7 := S.s.t7; have n7 := S.s.n7
    refine Eq.trans (b_146_99 (by first | assumption | omega) (by first | assumption | omega) (by first | assumption | omega) (by first | assumption | omega) (by first | assumption | omega) (by first | assumption | omega) (by first | assumption | omega)) ?_
    rw [S.sm (j := 0) (by decide)]; rfl
  have R12 := step 11 _ R11 _ rfl
  generalize hv12 : wI v11 (mSz w) 11 (nI (countM C M 11)) = v12 at R12 Q11
  have Q12 : mX (d + 1) 146 109 [.ref σ, .int (nI x), mJ, mJ] [.ref (mSz w)] v12 = mX (d + 1) 146 119 [.ref σ, .int (nI x), mJ, mJ] [.ref (mSz w)] (wI v12 (mSz w) 12 (nI (countM C M 12))) := by
    obtain ⟨S, t50, n18, ag, sz, sl, rd⟩ := R12
    have tg := S.s.tg
    have r7 := S.s.r7; have t7 := S.s.t7; have n7 := S.s.n7
    refine Eq.trans (b_146_109 (by first | assumption | omega) (by first | assumption | omega) (by first | assumption | omega) (by first | assumption | omega) (by first | assumption | omega) (by first | assumption | omega) (by first | assumption | omega)) ?_
    rw [S.sm (j := 1) (by decide)]; rfl
  have R13 := step 12 _ R12 _ rfl
  generalize hv13 : wI v12 (mSz w) 12 (nI (countM C M 12)) = v13 at R13 Q12
  have Q13 : mX (d + 1) 146 119 [.ref σ, .int (nI x), mJ, mJ] [.ref (mSz w)] v13 = mX (d + 1) 146 129 [.ref σ, .int (nI x), mJ, mJ] [.ref (mSz w)] (wI v13 (mSz w) 13 (nI (countM C M 13))) := by
    obtain ⟨S, t50, n18, ag, sz, sl, rd⟩ := R13
    have tg := S.s.tg
    have r7 := S.s.r7; have t7 := S.s.t7; have n7 := S.s.n7
    refine Eq.trans (b_146_119 (by first | assumption | omega) (by first | assumption | omega) (by first | assumption | omega) (by first | assumption | omega) (by first | assumption | omega) (by first | assumption | omega) (by first | assumption | omega)) ?_
    rw [S.sm (j := 2) (by decide)]; rfl
  have R14 := step 13 _ R13 _ rfl
  generalize hv14 : wI v13 (mSz w) 13 (nI (countM C M 13)) = v14 at R14 Q13
  have Q14 : mX (d + 1) 146 129 [.ref σ, .int (nI x), mJ, mJ] [.ref (mSz w)] v14 = mX (d + 1) 146 139 [.ref σ, .int (nI x), mJ, mJ] [.ref (mSz w)] (wI v14 (mSz w) 14 (nI (countM C M 14))) := by
    obtain ⟨S, t50, n18, ag, sz, sl, rd⟩ := R14
    have tg := S.s.tg
    have r7 := S.s.r7; have t7 := S.s.t7; have n7 := S.s.n7
    refine Eq.trans (b_146_129 (by first | assumption | omega) (by first | assumption | omega) (by first | assumption | omega) (by first | assumption | omega) (by first | assumption | omega) (by first | assumption | omega) (by first | assumption | omega)) ?_
    rw [S.sm (j := 3) (by decide)]; rfl
  have R15 := step 14 _ R14 _ rfl
  generalize hv15 : wI v14 (mSz w) 14 (nI (countM C M 14)) = v15 at R15 Q14
  have Q15 : mX (d + 1) 146 139 [.ref σ, .int (nI x), mJ, mJ] [.ref (mSz w)] v15 = mX (d + 1) 146 149 [.ref σ, .int (nI x), mJ, mJ] [.ref (mSz w)] (wI v15 (mSz w) 15 (nI (countM C M 15))) := by
    obtain ⟨S, t50, n18, ag, sz, sl, rd⟩ := R15
    have tg := S.s.tg
    have r7 := S.s.r7; have t7 := S.s.t7; have n7 := S.s.n7
    refine Eq.trans (b_146_139 (by first | assumption | omega) (by first | assumption | omega) (by first | assumption | omega) (by first | assumption | omega) (by first | assumption | omega) (by first | assumption | omega) (by first | assumption | omega)) ?_
    rw [S.sm (j := 4) (by decide)]; rfl
  have R16 := step 15 _ R15 _ rfl
  generalize hv16 : wI v15 (mSz w) 15 (nI (countM C M 15)) = v16 at R16 Q15
  have Q16 : mX (d + 1) 146 149 [.ref σ, .int (nI x), mJ, mJ] [.ref (mSz w)] v16 = mX (d + 1) 146 159 [mJ, .int (nI x), mJ, mJ] [.ref (mSz w)] (wI v16 (mSz w) 16 (nI (countM C M 16))) := by
    obtain ⟨S, t50, n18, ag, sz, sl, rd⟩ := R16
    have tg := S.s.tg
    have r7 := S.s.r7; have t7 := S.s.t7; have n7 := S.s.n7
    refine Eq.trans (b_146_149 (by first | assumption | omega) (by first | assumption | omega) (by first | assumption | omega) (by first | assumption | omega) (by first | assumption | omega) (by first | assumption | omega) (by first | assumption | omega)) ?_
    rw [S.sm (j := 5) (by decide)]; rfl
  have R17 := step 16 _ R16 _ rfl
  generalize hv17 : wI v16 (mSz w) 16 (nI (countM C M 16)) = v17 at R17 Q16
  have Q17 : mX (d + 1) 146 159 [mJ, .int (nI x), mJ, mJ] [.ref (mSz w)] v17 = mX (d + 1) 146 164 [mJ, .int (nI x), mJ, mJ] [.ref (mSz w)] (wI v17 (mSz w) 17 (nI (countM C M 17))) := by
    obtain ⟨S, t50, n18, ag, sz, sl, rd⟩ := R17
    refine Eq.trans (b_146_159 (by first | assumption | omega) (by first | assumption | omega) (by first | assumption | omega)) ?_
    rfl
  have R18 := step 17 _ R17 _ rfl
  generalize hv18 : wI v17 (mSz w) 17 (nI (countM C M 17)) = v18 at R18 Q17
  obtain ⟨S, t50, n18, ag, sz, sl, rd⟩ := R18
  refine ⟨v18, ?_, ag, sz, sl⟩
  rw [e_146, b_146_0, hv0, Q0, Q1, Q2, Q3, Q4, Q5, Q6, Q7, Q8, Q9, Q10, Q11, Q12, Q13, Q14, Q15, Q16, Q17, b_146_164 t50 (by omega) (by omega), rd x hx]
end
