/-! ===== the bounds over a turn; many turns ===== -/
section
variable {d b t B : Nat} {w : MW} {C : CD} {M : MD}
theorem hearM_ok {s v : Nat} : ∀ n, MOk C B M → MOk C (B + n) (hearM C s v n M)
  | 0, h => h
  | n + 1, h => by
    have h1 := hearM_ok (s := s) (v := v) n h
    have q := h1.1 5 s (C 4 v n) (by decide) (by decide)
    rw [hearM]
    exact (h1.le (by omega)).g (by omega) (by omega) (by omega)
theorem rightM_ok (h : MOk C B M) {s v : Nat} : MOk C (B + 1) (rightM M s v) := by
  have h' : MOk C (B + 1) M := h.le (by omega)
  have q1 := h.1 2 v 0 (by decide) (by decide)
  have q2 := h.1 2 v 1 (by decide) (by decide)
  have q3 := h.1 3 s 6 (by decide) (by decide)
  have q4 := h.1 1 0 0 (by decide) (by decide)
  exact ((((h'.g (g := 2) (i := v) (j := 0) (x := M 2 v 0 + 1) (by omega) (by omega) (by omega)).g (g := 2) (i := v) (j := 1) (x := M 2 v 1 + 1) (by omega) (by omega) (by omega)).g (g := 3) (i := s) (j := 6) (x := M 3 s 6 + 1) (by omega) (by omega) (by omega)).z (j := 6) (x := 1) (by omega)).g (g := 1) (i := 0) (j := 0) (x := M 1 0 0 + 1) (by omega) (by omega) (by omega)
theorem wrongM_ok (h : MOk C B M) {s v : Nat} (hs : s < C 0 0 3) : MOk C (B + 1) (wrongM M s v) := by
  have h' : MOk C (B + 1) M := h.le (by omega)
  have q1 := h.1 2 v 0 (by decide) (by decide)
  have q2 := h.1 1 0 1 (by decide) (by decide)
  have q3 := h.1 3 s 7 (by decide) (by decide)
  have q4 := h.1 3 s 2 (by decide) (by decide)
  have a := (((h'.g (g := 2) (i := v) (j := 0) (x := M 2 v 0 + 1) (by omega) (by omega) (by omega)).g (g := 1) (i := 0) (j := 1) (x := M 1 0 1 + 1) (by omega) (by omega) (by omega)).g (g := 3) (i := s) (j := 7) (x := M 3 s 7 + 1) (by omega) (by omega) (by omega)).g (g := 3) (i := s) (j := 2) (x := M 3 s 2 + 1) (by omega) (by omega) (fun _ => ⟨by omega, by omega, by omega, fun _ => Or.inl hs⟩)
  unfold wrongM
  split
  · exact (a.s3 hs (by omega) (by omega) (by omega)).s3 hs (by omega) (by omega) (by omega)
  · exact a
theorem outcomeM_ok (hk : CfOk C) (h : MOk C B M) {s v : Nat} (hs : s < C 0 0 3) (hv : v < C 0 0 2) : MOk C (B + 20) (outcomeM C M s v) := by
  have hh := hardM_le hk hv
  have hsz := (hk.2.2.2.1 v hv).2.1
  have q1 := h.1 3 s 1 (by decide) (by decide)
  have q2 := h.1 1 0 4 (by decide) (by decide)
  have q3 := h.1 1 0 5 (by decide) (by decide)
  unfold outcomeM
  split
  · have a : MOk C (B + 12) (mu M 3 s 1 (M 3 s 1 + (1 + hardM C v / 4))) := (h.le (by omega)).g (by omega) (by omega) (by omega)
    exact (rightM_ok (hearM_ok (C 3 v 0) a)).le (by omega)
  · split
    · split
      · have a : MOk C (B + 1) (mu (mu M 3 s 1 (M 3 s 1 + 1)) 1 0 4 (M 1 0 4 + 1)) := ((h.le (by omega)).g (by omega) (by omega) (by omega)).g (by omega) (by omega) (by omega)
        exact (rightM_ok a).le (by omega)
      · have a : MOk C (B + 1) (mu (mu M 3 s 4 0) 1 0 5 (M 1 0 5 + 1)) := ((h.le (by omega)).s3 hs (by omega) (by omega) (by omega)).g (by omega) (by omega) (by omega)
        exact (wrongM_ok a hs).le (by omega)
    · exact (wrongM_ok h hs).le (by omega)
theorem spellM_ok (hk : CfOk C) (h : MOk C B M) (hn : ¬ M 0 0 4 = NEG) : MOk C (B + 20) (spellM C M) := by
  obtain ⟨hs, hq, hp, hl⟩ := h.who hn
  have hw : wordM C M < C 0 0 2 := (hk.2.2.2.2.2.1 _ hq).2.2.2.2.2 _ hp
  have a := outcomeM_ok hk h hs hw
  unfold spellM
  refine (a.z (j := 3) (Or.inr (Or.inr (Or.inr ⟨rfl, ?_⟩)))).ig (by omega)
  rw [outcomeM_z _ _ (by decide)]
  split <;> omega
theorem spellM_z {j : Nat} (hj : ¬ j = 6 ∧ ¬ j = 3) : spellM C M 0 0 j = M 0 0 j := by
  unfold spellM
  rw [mu_n (by omega), mu_n (by omega), outcomeM_z _ _ hj.1]
/-- what is kept in the midst of a lap's end -/
def MWk (C : CD) (B : Nat) (M : MD) : Prop := (∀ g i j, 1 ≤ g → g ≤ 5 → M g i j ≤ B) ∧ M 0 0 0 ≤ B ∧ M 0 0 5 ≤ 2 ∧ M 0 0 6 ≤ 1 ∧ (∀ s, M 3 s 0 ≤ 1 ∧ M 3 s 8 ≤ 1 ∧ M 3 s 4 ≤ 1) ∧ (∀ s, C 0 0 3 ≤ s → s < 6 → M 3 s 0 = 0 ∧ M 3 s 8 = 0 ∧ M 3 s 2 = 0)
theorem MOk.wk (h : MOk C B M) : MWk C B M := ⟨h.1, h.2.1, h.2.2.1, h.2.2.2.1, h.2.2.2.2.2.1, h.2.2.2.2.2.2⟩
theorem MWk.ok (h : MWk C B M) (h5 : M 0 0 4 = NEG ∨ (M 0 0 4 < C 0 0 3 ∧ M 0 0 1 < C 0 0 4 ∧ M 0 0 3 < C 7 (M 0 0 1) 2 ∧ M 0 0 2 < C 7 (M 0 0 1) 1)) : MOk C B M := ⟨h.1, h.2.1, h.2.2.1, h.2.2.2.1, h5, h.2.2.2.2.1, h.2.2.2.2.2⟩
theorem MWk.same {M' : MD} (h : MWk C B M) (e : ∀ g i j, 1 ≤ g → g ≤ 5 → M' g i j = M g i j) (h0 : M' 0 0 0 = M 0 0 0) (h5 : M' 0 0 5 = M 0 0 5) (h6 : M' 0 0 6 ≤ 1) : MWk C B M' := by
  obtain ⟨a1, a2, a3, a4, a6, a7⟩ := h
  refine ⟨fun g i j h1 h2 => by rw [e _ _ _ h1 h2]; exact a1 _ _ _ h1 h2, by rw [h0]; exact a2, by rw [h5]; exact a3, h6, fun s => ?_, fun s h1 h2 => ?_⟩
  · rw [e _ _ _ (by omega) (by omega), e _ _ _ (by omega) (by omega), e _ _ _ (by omega) (by omega)]; exact a6 s
  · rw [e _ _ _ (by omega) (by omega), e _ _ _ (by omega) (by omega), e _ _ _ (by omega) (by omega)]; exact a7 s h1 h2
theorem MWk.back (h : MWk C B M) (hB : 1 ≤ B) : MWk C B (backM 6 M) := by
  obtain ⟨a1, a2, a3, a4, a6, a7⟩ := h
  refine ⟨fun g i j h1 h2 => ?_, by rw [backM_n 6 M (by omega)]; exact a2, by rw [backM_n 6 M (by omega)]; exact a3, by rw [backM_n 6 M (by omega)]; exact a4, fun s => ?_, fun s h1 h2 => ?_⟩
  · by_cases e : g = 3 ∧ i < 6 ∧ (j = 0 ∨ j = 2 ∨ j = 8)
    · obtain ⟨rfl, e1, rfl | rfl | rfl⟩ := e
      · rw [backM_0 6 M e1]; split
        · omega
        · exact a1 _ _ _ h1 h2
      · rw [backM_2 6 M e1]; split
        · omega
        · exact a1 _ _ _ h1 h2
      · rw [backM_8 6 M e1]; omega
    · rw [backM_n 6 M e]; exact a1 _ _ _ h1 h2
  · by_cases e : s < 6
    · rw [backM_0 6 M e, backM_8 6 M e, backM_n 6 M (g := 3) (i := s) (j := 4) (by omega)]
      have := a6 s
      split <;> omega
    · rw [backM_n 6 M (by omega), backM_n 6 M (by omega), backM_n 6 M (by omega)]; exact a6 s
  · have := a7 s h1 h2
    rw [backM_0 6 M h2, backM_8 6 M h2, backM_2 6 M h2, if_neg (by omega), if_neg (by omega)]
    omega
theorem MWk.rnd (h : MWk C B M) (hB : 1 ≤ B) : MWk C B (roundEndM C M) := by
  obtain ⟨a1, a2, a3, a4, a6, a7⟩ := h
  have p0 : ∀ s, roundEndM C M 3 s 0 ≤ 1 ∧ (M 3 s 0 = 0 → roundEndM C M 3 s 0 = 0) := fun s => by
    have := a6 s
    unfold roundEndM
    rw [clearM_n 6 _ (by omega)]
    split
    · by_cases e : s < 6
      · rw [payM_s _ _ _ e]; split <;> omega
      · rw [payM_n _ _ _ (by omega)]; omega
    · omega
  have pn : ∀ g i j, ¬ (g = 3 ∧ (j = 0 ∨ j = 2)) → roundEndM C M g i j = M g i j := fun g i j hg => by
    unfold roundEndM
    rw [clearM_n 6 _ (by omega)]
    split
    · rw [payM_n _ _ _ (by omega)]
    · rfl
  have p2 : ∀ s, roundEndM C M 3 s 2 = if s < 6 then 0 else M 3 s 2 := fun s => by
    unfold roundEndM
    by_cases e : s < 6
    · rw [clearM_s 6 _ e, if_pos e]
    · rw [clearM_n 6 _ (by omega), if_neg e]
      split
      · rw [payM_n _ _ _ (by omega)]
      · rfl
  refine ⟨fun g i j h1 h2 => ?_, by rw [pn _ _ _ (by omega)]; exact a2, by rw [pn _ _ _ (by omega)]; exact a3, by rw [pn _ _ _ (by omega)]; exact a4, fun s => ?_, fun s h1 h2 => ?_⟩
  · by_cases e : g = 3 ∧ (j = 0 ∨ j = 2)
    · obtain ⟨rfl, rfl | rfl⟩ := e
      · have := (p0 i).1; omega
      · rw [p2]; split
        · omega
        · exact a1 _ _ _ h1 h2
    · rw [pn _ _ _ e]; exact a1 _ _ _ h1 h2
  · have q1 := a6 s
    rw [pn 3 s 8 (by omega), pn 3 s 4 (by omega)]
    exact ⟨(p0 s).1, q1.2⟩
  · have q1 := a7 s h1 h2
    rw [pn 3 s 8 (by omega), p2, if_pos h2]
    exact ⟨(p0 s).2 q1.1, q1.2.1, rfl⟩
theorem su_zero {n : Nat} {f : Nat → Nat} (h : ∀ i, i < n → f i = 0) : su n f = 0 := by
  induction n with
  | zero => rfl
  | succ n ih => rw [su, ih (fun i hi => h i (by omega)), h n (by omega)]
theorem nextIn_left (C : CD) (M : MD) (h : 2 ≤ leftM C M) : nextInM C M 0 < C 0 0 3 ∧ ¬ M 3 (nextInM C M 0) 0 = 0 := by
  rcases nextIn_spec C M (s := 0) (Nat.zero_le _) with ⟨-, h2⟩ | ⟨-, h2, h3⟩
  · have : leftM C M = 0 := su_zero fun i hi => h2 i (Nat.zero_le _) hi
    omega
  · exact ⟨h2, h3⟩
theorem endLap0M_ok (hk : CfOk C) (h : MWk C B M) (hB : 1 ≤ B) (hq : M 0 0 1 < C 0 0 4) (hp : M 0 0 3 < C 7 (M 0 0 1) 2) : MOk C B (endLap0M C M) := by
  have hr := hk.2.2.2.2.2.1 _ hq
  have hL : MWk C B (lapM M) := (h.back hB).same (fun g i j h1 h2 => by unfold lapM; rw [mu_n (by omega), mu_n (by omega), mu_n (by omega)]) (by unfold lapM; rw [mu_n (by omega), mu_n (by omega), mu_n (by omega)]) (by unfold lapM; rw [mu_n (by omega), mu_n (by omega), mu_n (by omega)]) (by unfold lapM; rw [mu_n (by omega), mu_n (by omega), mu_s]; omega)
  have ov : ∀ M', MWk C B M' → MOk C B (overM M') := fun M' h' => (h'.same (M' := overM M') (fun g i j h1 h2 => by unfold overM; rw [mu_n (by omega), mu_n (by omega)]) (by unfold overM; rw [mu_n (by omega), mu_n (by omega)]) (by unfold overM; rw [mu_n (by omega), mu_n (by omega)]) (by unfold overM; rw [mu_n (by omega), mu_n (by omega)]; exact h'.2.2.2.1)).ok (Or.inl (by unfold overM; rw [mu_n (by omega), mu_s]))
  have st : ∀ M', MWk C B M' → 2 ≤ leftM C M' → M' 0 0 1 < C 0 0 4 → M' 0 0 3 < C 7 (M' 0 0 1) 2 → M' 0 0 2 < C 7 (M' 0 0 1) 1 → MOk C B (startM C M') := fun M' h' h2 g1 g2 g3 => by
    have := nextIn_left C M' h2
    refine (h'.same (M' := startM C M') (fun g i j h1 h2 => by unfold startM; rw [mu_n (by omega)]) (by unfold startM; rw [mu_n (by omega)]) (by unfold startM; rw [mu_n (by omega)]) (by unfold startM; rw [mu_n (by omega)]; exact h'.2.2.2.1)).ok (Or.inr ?_)
    unfold startM
    rw [mu_s, mu_n (by omega), mu_n (by omega), mu_n (by omega)]
    exact ⟨this.1, g1, g2, g3⟩
  have l1 : lapM M 0 0 1 = M 0 0 1 := lap_1
  have l2 : lapM M 0 0 2 = M 0 0 2 + 1 := by unfold lapM; rw [mu_n (by omega), mu_s]
  have l3 : lapM M 0 0 3 = M 0 0 3 := by unfold lapM; rw [mu_n (by omega), mu_n (by omega), mu_n (by omega), backM_n 6 M (by omega)]
  unfold endLap0M
  split
  · exact ov _ hL
  · split
    · split
      · refine ov _ ((hL.rnd hB).same (fun g i j h1 h2 => by rw [mu_n (by omega), mu_n (by omega)]) (by rw [mu_n (by omega), mu_n (by omega)]) (by rw [mu_n (by omega), mu_n (by omega)]) (by rw [mu_n (by omega), mu_n (by omega)]; exact (hL.rnd hB).2.2.2.1))
      · rename_i g1 g2 g3
        have hR := hL.rnd hB
        have z1 : roundEndM C (lapM M) 0 0 1 = M 0 0 1 := by rw [rnd_z 1 (by decide) 0, lap_1]
        have n1 : nextRoundM (roundEndM C (lapM M)) 0 0 1 = M 0 0 1 + 1 := by unfold nextRoundM; rw [mu_n (by omega), mu_n (by omega), mu_n (by omega), mu_n (by omega), mu_n (by omega), mu_s, z1]
        have n2 : nextRoundM (roundEndM C (lapM M)) 0 0 2 = 0 := by unfold nextRoundM; rw [mu_n (by omega), mu_n (by omega), mu_n (by omega), mu_n (by omega), mu_s]
        have n3 : nextRoundM (roundEndM C (lapM M)) 0 0 3 = 0 := by unfold nextRoundM; rw [mu_n (by omega), mu_n (by omega), mu_n (by omega), mu_s]
        have ng : ∀ g i j, 1 ≤ g → g ≤ 5 → nextRoundM (roundEndM C (lapM M)) g i j = roundEndM C (lapM M) g i j := fun g i j h1 h2 => by unfold nextRoundM; rw [mu_n (by omega), mu_n (by omega), mu_n (by omega), mu_n (by omega), mu_n (by omega), mu_n (by omega)]
        have nz : ∀ j, j = 0 ∨ j = 5 ∨ j = 6 → nextRoundM (roundEndM C (lapM M)) 0 0 j = roundEndM C (lapM M) 0 0 j := fun j hj => by unfold nextRoundM; rw [mu_n (by omega), mu_n (by omega), mu_n (by omega), mu_n (by omega), mu_n (by omega), mu_n (by omega)]
        have hr2 := hk.2.2.2.2.2.1 (M 0 0 1 + 1) (by omega)
        have hle : leftM C (nextRoundM (roundEndM C (lapM M))) = leftM C (roundEndM C (lapM M)) := by
          unfold leftM
          exact congrArg (su (C 0 0 3)) (funext fun s => ng 3 s 0 (by omega) (by omega))
        exact st _ (hR.same ng (nz 0 (by omega)) (nz 5 (by omega)) (by rw [nz 6 (by omega)]; exact hR.2.2.2.1)) (by rw [hle]; omega) (by rw [n1]; omega) (by rw [n1, n3]; omega) (by rw [n1, n2]; omega)
    · exact st _ hL (by omega) (by rw [l1]; exact hq) (by rw [l1, l3]; exact hp) (by rw [l1, l2]; omega)
theorem endTurnM_ok (hk : CfOk C) (h : MOk C B M) (hn : ¬ M 0 0 4 = NEG) : MOk C (B + 1) (endTurnM C M) := by
  obtain ⟨hs, hq, hp, hl⟩ := h.who hn
  have a : MOk C (B + 1) (mu (mu M 0 0 0 (M 0 0 0 + 1)) 0 0 5 0) := ((h.le (B' := B + 1) (by omega)).z (j := 0) (by have := h.2.1; omega)).z (j := 5) (by omega)
  unfold endTurnM
  split
  · unfold endLapM
    refine MOk.ig ?_ (by omega)
    refine endLap0M_ok hk (a.wk.same (fun g i j h1 h2 => by rw [mu_n (by omega)]) (by rw [mu_n (by omega)]) (by rw [mu_n (by omega)]) (by rw [mu_n (by omega)]; exact a.2.2.2.1)) (by omega) ?_ ?_
    · rw [mu_n (by omega), mu_n (by omega), mu_n (by omega)]; exact hq
    · rw [mu_n (by omega), mu_n (by omega), mu_n (by omega), mu_n (by omega), mu_n (by omega), mu_n (by omega)]; exact hp
  · rename_i g
    refine MOk.ig ?_ (by omega)
    rcases nextIn_spec C M (s := M 0 0 4 + 1) (by omega) with ⟨g1, -⟩ | ⟨g1, g2, -⟩
    · exact absurd g1 g
    · refine (a.wk.same (fun g i j h1 h2 => by rw [mu_n (by omega)]) (by rw [mu_n (by omega)]) (by rw [mu_n (by omega)]) (by rw [mu_n (by omega)]; exact a.2.2.2.1)).ok (Or.inr ?_)
      rw [mu_s, mu_n (by omega), mu_n (by omega), mu_n (by omega), mu_n (by omega), mu_n (by omega), mu_n (by omega), mu_n (by omega), mu_n (by omega), mu_n (by omega)]
      exact ⟨g2, hq, hp, hl⟩
theorem turnM_ok (hk : CfOk C) (h : MOk C B M) (hn : ¬ M 0 0 4 = NEG) : MOk C (B + 42) (turnM C M) := by
  have hk1 := hk.1
  obtain ⟨a1, a2, a3⟩ := orM_ok (C 0 0 5) 0 B M h
  have hn2 : ¬ (orM C (C 0 0 5) 0 M).2 0 0 4 = NEG := by rw [a2 4 (by decide)]; exact hn
  unfold turnM
  split
  · exact (endTurnM_ok hk (passM_ok a1) (by rw [passM_z]; exact hn2)).le (by omega)
  · exact (endTurnM_ok hk (spellM_ok hk a1 hn2) (by rw [spellM_z (by decide)]; exact hn2)).le (by omega)
theorem c_play : ∀ (m i n : Nat) (w : MW) (M : MD) (B : Nat), i + m = n → n ≤ 10000 → BW w b t C M → MOk C B M → B + 42 * m ≤ 900000000 → ∃ w', mX (d + 7) 17 2 [.ref b, .int (nI n), .int (nI i)] [] w = some (.inl (some (.int (nI (i + playedM C m M)))), w') ∧ upB b w w' (playM C m M)
  | 0, i, n, w, M, B, hi, hn, h, hm, hB => by
    have hi : i = n := hi
    subst hi
    refine ⟨w, ?_, h.refl⟩
    rw [b_17_2, if_pos (by rw [jle (by omega) (by omega)]; exact Nat.le_refl _), b_17_35]
    rfl
  | m + 1, i, n, w, M, B, hi, hn, h, hm, hB => by
    have pre : mX (d + 7) 17 2 [.ref b, .int (nI n), .int (nI i)] [] w = mX (d + 7) 17 11 [.ref b, .int (nI n), .int (nI i)] [.int (bI (decide (M 0 0 4 = NEG)))] w := by
      rw [b_17_2, if_neg (by rw [jle (by omega) (by omega)]; omega), b_17_7 (bT.t0 h.b), c_isOver h hm (by omega)]
      simp only [mThen_ok, Option.toList_some, Option.toList_none, List.cons_append, List.nil_append]
    by_cases e : M 0 0 4 = NEG
    · refine ⟨w, ?_, ?_⟩
      · rw [pre, decide_eq_true e, b_17_11, if_pos nbt, b_17_35, playedM, if_pos e]
        rfl
      · rw [playM, if_pos e]; exact h.refl
    · have hk1 := h.k.1
      obtain ⟨w1, e1, u1⟩ := c_orders (d := d + 1) (C 0 0 5) 0 w M B (Nat.zero_add _) h hm (by omega)
      obtain ⟨a1, a2, a3⟩ := orM_ok (C 0 0 5) 0 B M hm
      have hn2 : ¬ (orM C (C 0 0 5) 0 M).2 0 0 4 = NEG := by rw [a2 4 (by decide)]; exact e
      have h1 := h.up u1
      have hm3 := turnM_ok h.k hm e
      have mid : ∃ w3, mX (d + 7) 17 11 [.ref b, .int (nI n), .int (nI i)] [.int (bI (decide (M 0 0 4 = NEG)))] w = mX (d + 7) 17 29 [.ref b, .int (nI n), .int (nI i)] [] w3 ∧ upB b w w3 (turnM C M) := by
        have e0 : mK (d + 6) 18 [.ref b] w = some (.inl (some (.int (bI (orM C (C 0 0 5) 0 M).1))), w1) := by rw [e_18, b_18_0]; exact e1
        unfold orEnd at u1 h1
        unfold turnM
        rcases Bool.eq_false_or_eq_true (orM C (C 0 0 5) 0 M).1 with q | q
        · rw [if_pos q] at u1 h1
          obtain ⟨w3, e3, u3⟩ := c_endTurn (d := d + 1) h1 (passM_ok a1) (by omega) (by rw [passM_z]; exact hn2)
          refine ⟨w3, ?_, by rw [if_pos q]; exact u1.trans u3⟩
          rw [decide_eq_false e, b_17_11, if_neg (by simp [nbf]), b_17_14 (bT.t0 h.b), e0, q]
          simp only [mThen_ok, Option.toList_some, Option.toList_none, List.cons_append, List.nil_append]
          rw [b_17_18, if_pos nbt, b_17_25 (bT.t0 h1.b), e3]
          simp only [mThen_ok, Option.toList_some, Option.toList_none, List.cons_append, List.nil_append]
        · rw [if_neg (by simp [q])] at u1 h1
          obtain ⟨w2, e2, u2⟩ := c_spell (d := d) h1 a1 (by omega) hn2
          have h2 := h1.up u2
          obtain ⟨w3, e3, u3⟩ := c_endTurn (d := d + 1) h2 (spellM_ok h.k a1 hn2) (by omega) (by rw [spellM_z (by decide)]; exact hn2)
          refine ⟨w3, ?_, by rw [if_neg (by simp [q])]; exact (u1.trans u2).trans u3⟩
          rw [decide_eq_false e, b_17_11, if_neg (by simp [nbf]), b_17_14 (bT.t0 h.b), e0, q]
          simp only [mThen_ok, Option.toList_some, Option.toList_none, List.cons_append, List.nil_append]
          rw [b_17_18, if_neg (by simp [nbf]), b_17_21 (bT.t0 h1.b), e2]
          simp only [mThen_ok, Option.toList_some, Option.toList_none, List.cons_append, List.nil_append]
          rw [b_17_25 (bT.t0 h2.b), e3]
          simp only [mThen_ok, Option.toList_some, Option.toList_none, List.cons_append, List.nil_append]
      obtain ⟨w3, e3, u3⟩ := mid
      obtain ⟨w4, e4, u4⟩ := c_play m (i + 1) n w3 (turnM C M) (B + 42) (by omega) hn (h.up u3) hm3 (by omega)
      refine ⟨w4, ?_, ?_⟩
      · rw [pre, e3, b_17_29, jadd, e4, playedM, if_neg e, show i + (playedM C m (turnM C M) + 1) = i + 1 + playedM C m (turnM C M) by omega]
      · rw [playM, if_neg e]; exact u3.trans u4
end
