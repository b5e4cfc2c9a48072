/-! ===== the law's bee: turns ===== -/
section
variable {d B σ : Nat} {w : MW} {C : CD} {M : MD}
theorem c_sTurn (h : SW w σ C M) (hm : MOk C B M) (ho : SOk C B M) (hB : B + 100 < 1000000000) (hg : ¬ M 0 0 4 = NEG) : ∃ w', mK (d + 6) 144 [.ref σ] w = some (.inl none, w') ∧ upS σ C w w' (turnM C M) := by
  have hk := h.k
  have hk1 := hk.1
  have S := h.s
  have tg := S.tg
  have r17 := S.r17; have t17 := S.t17; have n17 := S.n17
  obtain ⟨w1, e1, u1⟩ := c_sPassed (d + 1) σ C (C 0 0 5) 0 w M B (Nat.zero_add _) h hm ho (by omega) hg
  have h1 := h.up u1
  obtain ⟨o1, o2, o3⟩ := orM_ok (C 0 0 5) 0 B M hm
  have s1 := sok_or (C := C) (C 0 0 5) 0 B M ho
  have hg1 : ¬ (orM C (C 0 0 5) 0 M).2 0 0 4 = NEG := by rw [o2 4 (by decide)]; exact hg
  have tg1 := h1.s.tg
  have q0 : mX (d + 5) 139 0 [.ref σ, mJ, mJ, mJ, mJ] [] w = mX (d + 5) 139 10 [.ref σ, .ref (gR w σ 17), .int (nI (C 0 0 5)), .int (nI 0), mJ] [] w := by
    refine Eq.trans (b_139_0 (by first | assumption | omega) (by first | assumption | omega) (by first | assumption | omega)) ?_
    rw [n17]
  have pre : mK (d + 6) 144 [.ref σ] w = if bI (orM C (C 0 0 5) 0 M).1 = nI 0 then mX (d + 6) 144 14 [.ref σ] [] w1 else mX (d + 6) 144 7 [.ref σ] [] w1 := by
    rw [e_144, b_144_0 tg, e_139, q0, e1]
    simp only [mThen_ok, Option.toList_some, Option.toList_none, List.cons_append, List.nil_append]
    rw [b_144_4]
  unfold turnM
  rw [pre]
  rcases Bool.eq_false_or_eq_true (orM C (C 0 0 5) 0 M).1 with e | e
  · rw [if_pos e, e, if_neg nbt]
    obtain ⟨_, hp⟩ := canPass_and.mp (o3 e)
    obtain ⟨w2, e2, u2⟩ := c_sPass (d := d + 2) h1 o1 s1 (by omega) hg1 hp
    refine ⟨w2, ?_, u1.trans u2⟩
    rw [b_144_7 tg1, e2]
    simp only [mThen_ok, Option.toList_some, Option.toList_none, List.cons_append, List.nil_append]
    rw [b_144_11, b_144_22]
  · rw [e, if_pos nbf, if_neg (show ¬ false = true by decide)]
    obtain ⟨w2, e2, u2⟩ := c_sSpell (d := d) h1 o1 s1 (by omega) hg1
    have h2 := h1.up u2
    have hg2 : ¬ spellM C (orM C (C 0 0 5) 0 M).2 0 0 4 = NEG := by rw [spellM_z (by decide)]; exact hg1
    obtain ⟨w3, e3, u3⟩ := c_sNext (d := d + 3) h2 (spellM_ok hk o1 hg1) (sok_le (sok_spell hk o1 s1 hg1) (by omega)) (by omega) hg2
    refine ⟨w3, ?_, (u1.trans u2).trans u3⟩
    rw [b_144_14 tg1, e2]
    simp only [mThen_ok, Option.toList_some, Option.toList_none, List.cons_append, List.nil_append]
    rw [b_144_18 h2.s.tg, e3]
    simp only [mThen_ok, Option.toList_some, Option.toList_none, List.cons_append, List.nil_append]
    rw [b_144_22]
theorem sok_turn (hk : CfOk C) (hm : MOk C B M) (ho : SOk C B M) (hg : ¬ M 0 0 4 = NEG) : SOk C (B + 42) (turnM C M) := by
  have hk1 := hk.1
  obtain ⟨o1, o2, o3⟩ := orM_ok (C 0 0 5) 0 B M hm
  have s1 := sok_or (C := C) (C 0 0 5) 0 B M ho
  have hg1 : ¬ (orM C (C 0 0 5) 0 M).2 0 0 4 = NEG := by rw [o2 4 (by decide)]; exact hg
  unfold turnM
  split
  · exact sok_le (sok_endTurn hk (passM_ok o1) (sok_pass s1) (by rw [passM_z]; exact hg1)) (by omega)
  · exact sok_le (sok_endTurn hk (spellM_ok hk o1 hg1) (sok_le (sok_spell hk o1 s1 hg1) (by omega)) (by rw [spellM_z (by decide)]; exact hg1)) (by omega)
theorem sok_play (hk : CfOk C) : ∀ (m B : Nat) (M : MD), MOk C B M → SOk C B M → SOk C (B + 42 * m) (playM C m M)
  | 0, _, _, _, h => h
  | m + 1, B, M, hm, h => by
    rw [playM]
    split
    · exact sok_le h (by omega)
    · rename_i hg
      exact sok_le (sok_play hk m (B + 42) _ (turnM_ok hk hm hg) (sok_turn hk hm h hg)) (by omega)
theorem c_sGo (d σ : Nat) (C : CD) : ∀ (m i n : Nat) (w : MW) (M : MD) (B : Nat), i + m = n → n ≤ 10000 → SW w σ C M → MOk C B M → SOk C B M → B + 42 * m ≤ 900000000 → ∃ w', mX (d + 7) 145 2 [.ref σ, .int (nI n), .int (nI i)] [] w = some (.inl (some (.int (nI (i + playedM C m M)))), w') ∧ upS σ C w w' (playM C m M) := by
  intro m
  induction m with
  | zero =>
    intro i n w M B hi hn h hm ho hB
    have hi : i = n := hi
    subst hi
    exact ⟨w, by rw [b_145_2, if_pos (by rw [jle (by omega) (by omega)]; exact Nat.le_refl _), b_145_24]; rfl, h.refl⟩
  | succ m ih =>
    intro i n w M B him hn h hm ho hB
    have hk := h.k
    have hk1 := hk.1
    have tg := h.s.tg
    have pre : mX (d + 7) 145 2 [.ref σ, .int (nI n), .int (nI i)] [] w = if mI w σ 1 < nI 0 then mX (d + 7) 145 24 [mJ, mJ, .int (nI i)] [] w else mX (d + 7) 145 14 [.ref σ, .int (nI n), .int (nI i)] [] w := by
      rw [b_145_2, ijle (by omega) (by omega), if_neg (by omega), b_145_7 tg]
    rw [pre, h.y1]
    by_cases hg : M 0 0 4 = NEG
    · refine ⟨w, ?_, by rw [playM, if_pos hg]; exact h.refl⟩
      rw [ho.1.mp hg, if_pos jneg_lt, b_145_24, playedM, if_pos hg]
      rfl
    · obtain ⟨a1, a2, a3, a4⟩ := ho.2.1 hg
      obtain ⟨b1, b2, b3, b4⟩ := hm.who hg
      obtain ⟨w1, e1, u1⟩ := c_sTurn (d := d) h hm ho (by omega) hg
      have h1 := h.up u1
      obtain ⟨w2, e2, u2⟩ := ih (i + 1) n w1 _ (B + 42) (by omega) hn h1 (turnM_ok hk hm hg) (sok_turn hk hm ho hg) (by omega)
      refine ⟨w2, ?_, by rw [playM, if_neg hg]; exact u1.trans u2⟩
      rw [a1, if_neg (by rw [jlt (by omega) (by decide)]; omega), b_145_14 tg, e1]
      simp only [mThen_ok, Option.toList_some, Option.toList_none, List.cons_append, List.nil_append]
      rw [b_145_18, jadd, e2, playedM, if_neg hg, show i + 1 + playedM C m (turnM C M) = i + (playedM C m (turnM C M) + 1) by omega]
theorem c_sPlay (h : SW w σ C M) (hm : MOk C B M) (ho : SOk C B M) {n : Nat} (hn : n ≤ 10000) (hB : B ≤ 400000000) : ∃ w', mK (d + 7) 145 [.ref σ, .int (nI n)] w = some (.inl (some (.int (nI (playedM C n M)))), w') ∧ upS σ C w w' (playM C n M) := by
  obtain ⟨w', e, u⟩ := c_sGo d σ C n 0 n w M B (Nat.zero_add _) hn h hm ho (by omega)
  refine ⟨w', ?_, u⟩
  rw [e_145, b_145_0, e, Nat.zero_add]
end
