/-! ===== the class's own methods: by hand, turns, and what would be ===== -/
section
variable {d B : Nat} {w w' : MW} {C : CD} {M M' : MD}
theorem c_hint1 (h : GW w C M) (hm : MOk C B M) (hB : B ≤ 1073741824) (hc : canHintM M = true) : ∃ w', mK (d + 3) 107 [.ref 166] w = some (.inl (some (.int (nI (hintM M 3 (M 0 0 4) 1)))), w') ∧ upB 220 w w' (hintM M) := by
  have hk1 := h.bw.k.1
  have hp := canHint_and.mp hc
  have hs := (hm.who hp.1).1
  obtain ⟨w1, e1, u1⟩ := c_takeHint (d := d) h.bw (by omega) hp.2.2
  have h1 := h.up u1
  have z4 : hintM M 0 0 4 = M 0 0 4 := hintM_z M (by decide)
  refine ⟨w1, ?_, u1⟩
  rw [e_107, b_107_0 h.q h.s6 h.b0, h.g6, c_can1 h.bw hm hB, hc]
  simp only [mThen_ok, Option.toList_some, Option.toList_none, List.cons_append, List.nil_append]
  rw [b_107_8, if_pos nbt, b_107_21 h.q h.s6 h.b0, h.g6, e1]
  simp only [mThen_ok, Option.toList_some, Option.toList_none, List.cons_append, List.nil_append]
  rw [b_107_28 h1.q h1.s6 h1.b0, h1.g6, h1.bw.z4, z4, c_spAt h1.bw.b (by omega)]
  simp only [mThen_ok, Option.toList_some, Option.toList_none, List.cons_append, List.nil_append]
  rw [b_107_42 (bT.st h1.bw.b (by omega)), h1.bw.f1 (by omega)]
theorem c_hint0 (h : GW w C M) (hm : MOk C B M) (hB : B ≤ 1073741824) (hc : canHintM M = false) : mK (d + 3) 107 [.ref 166] w = some (.inr 1, wN w 61 0 6) := by
  rw [e_107, b_107_0 h.q h.s6 h.b0, h.g6, c_can1 h.bw hm hB, hc]
  simp only [mThen_ok, Option.toList_some, Option.toList_none, List.cons_append, List.nil_append]
  rw [b_107_8, if_neg (by simp [nbf]), b_107_11]
theorem c_skip1 (h : GW w C M) (hm : MOk C B M) (hB : B ≤ 900000000) (hc : canPassM M = true) : ∃ w', mK (d + 6) 108 [.ref 166] w = some (.inl (some (.int (nI (endTurnM C (passM M) 0 0 4)))), w') ∧ upB 220 w w' (endTurnM C (passM M)) := by
  have hk1 := h.bw.k.1
  have hp := canPass_and.mp hc
  have hs := (hm.who hp.1).1
  obtain ⟨w1, e1, u1⟩ := c_usePass (d := d + 3) h.bw (by omega) hp.2
  have h1 := h.up u1
  obtain ⟨w2, e2, u2⟩ := c_endTurn (d := d) h1.bw (passM_ok hm) (by omega) (by rw [passM_z]; exact hp.1)
  have h2 := h1.up u2
  refine ⟨w2, ?_, u1.trans u2⟩
  rw [e_108, b_108_0 h.q h.s6 h.b0, h.g6, c_can2 h.bw hm (by omega), hc]
  simp only [mThen_ok, Option.toList_some, Option.toList_none, List.cons_append, List.nil_append]
  rw [b_108_8, if_pos nbt, b_108_21 h.q h.s6 h.b0, h.g6, e1]
  simp only [mThen_ok, Option.toList_some, Option.toList_none, List.cons_append, List.nil_append]
  rw [b_108_28 h1.q h1.s6 h1.b0, h1.g6, e2]
  simp only [mThen_ok, Option.toList_some, Option.toList_none, List.cons_append, List.nil_append]
  rw [b_108_35 h2.q h2.s6 h2.b0, h2.g6, h2.bw.z4]
theorem c_skip0 (h : GW w C M) (hm : MOk C B M) (hB : B ≤ 1073741824) (hc : canPassM M = false) : mK (d + 6) 108 [.ref 166] w = some (.inr 1, wN w 61 0 6) := by
  rw [e_108, b_108_0 h.q h.s6 h.b0, h.g6, c_can2 h.bw hm (by omega), hc]
  simp only [mThen_ok, Option.toList_some, Option.toList_none, List.cons_append, List.nil_append]
  rw [b_108_8, if_neg (by simp [nbf]), b_108_11]
theorem c_learn (h : GW w C M) (hm : MOk C B M) (hB : B ≤ 1073741824) {s k y : Nat} (hs : s < C 0 0 3) (hk : k < C 0 0 0) (hy : 1 ≤ y ∧ y ≤ 9) : ∃ w', mK (d + 2) 109 [.ref 166, .int (nI s), .int (nI k), .int (nI y)] w = some (.inl (some (.int (nI (min 20 (M 4 s k + y))))), w') ∧ upB 220 w w' (mu M 4 s k (min 20 (M 4 s k + y))) := by
  have hk1 := h.bw.k.1
  have hb := h.bw.b
  have hs6 : s < 6 := by omega
  have q := hm.1 4 s k (by decide) (by decide)
  have u1 := h.bw.ukn hs6 (j := k) (by omega) (min 20 (M 4 s k + y))
  have h1 := h.up u1
  refine ⟨_, ?_, u1⟩
  rw [e_109, b_109_0 h.q h.s2 h.t8, h.g2, c_has h.bw.t h.bw.c (by decide) (by omega) (by omega), decide_eq_true hs]
  simp only [mThen_ok, Option.toList_some, Option.toList_none, List.cons_append, List.nil_append]
  rw [b_109_9, if_neg nbt, b_109_12 h.q h.s2 h.t8, h.g2, c_has h.bw.t h.bw.c (by decide) (by omega) (by omega), decide_eq_true hk]
  simp only [mThen_ok, Option.toList_some, Option.toList_none, List.cons_append, List.nil_append]
  rw [b_109_21, if_pos nbt, b_109_34, ijlt (by omega) (by decide), if_neg (by omega), b_109_39, ijle (by omega) (by decide), if_pos (by omega), b_109_55 h.q h.s6 h.b0, h.g6, c_spAt hb hs6]
  simp only [mThen_ok, Option.toList_some, Option.toList_none, List.cons_append, List.nil_append]
  rw [b_109_63 (bT.st hb hs6) (bT.ks hb hs6), bT.kg hb hs6, c_getN (bT.kt hb hs6) (by rw [bT.kl hb hs6]; omega) (by rw [bT.kl hb hs6]; decide), h.bw.kn hs6 (by omega)]
  simp only [mThen_ok, Option.toList_some, Option.toList_none, List.cons_append, List.nil_append]
  rw [b_109_79, jadd, c_minN (by decide) (by omega)]
  simp only [mThen_ok, Option.toList_some, Option.toList_none, List.cons_append, List.nil_append]
  rw [b_109_84, c_putN (bT.kt hb hs6) (by show 166 ≤ 220 + 11 + 3 * s; omega) (by rw [bT.kl hb hs6]; omega) (by rw [bT.kl hb hs6]; decide)]
  simp only [mThen_ok, Option.toList_some, Option.toList_none, List.cons_append, List.nil_append]
  rw [b_109_87, c_getN (bT.kt h1.bw.b hs6) (by rw [bT.kl h1.bw.b hs6]; omega) (by rw [bT.kl h1.bw.b hs6]; decide), h1.bw.kn hs6 (by omega), mu_s]
  simp only [mThen_ok, Option.toList_some, Option.toList_none, List.cons_append, List.nil_append]
  rw [b_109_93]
theorem c_award (h : GW w C M) (hm : MOk C B M) (hB : B ≤ 1073741824) {s y : Nat} (hs : s < C 0 0 3) (hy : 1 ≤ y ∧ y ≤ 20) : ∃ w', mK (d + 2) 110 [.ref 166, .int (nI s), .int (nI y)] w = some (.inl (some (.int (nI (M 3 s 1 + y)))), w') ∧ upB 220 w w' (mu M 3 s 1 (M 3 s 1 + y)) := by
  have hk1 := h.bw.k.1
  have hb := h.bw.b
  have hs6 : s < 6 := by omega
  have u1 := h.bw.uf1 hs6 (M 3 s 1 + y)
  have h1 := h.up u1
  refine ⟨_, ?_, u1⟩
  rw [e_110, b_110_0 h.q h.s2 h.t8, h.g2, c_has h.bw.t h.bw.c (by decide) (by omega) (by omega), decide_eq_true hs]
  simp only [mThen_ok, Option.toList_some, Option.toList_none, List.cons_append, List.nil_append]
  rw [b_110_9, if_pos nbt, b_110_22, ijlt (by omega) (by decide), if_neg (by omega), b_110_27, ijle (by omega) (by decide), if_pos (by omega), b_110_43 h.q h.s6 h.b0, h.g6, c_spAt hb hs6]
  simp only [mThen_ok, Option.toList_some, Option.toList_none, List.cons_append, List.nil_append]
  rw [b_110_51 (bT.st hb hs6) (by show 166 ≤ 220 + 10 + 3 * s; omega) (bT.st hb.wI hs6), h.bw.f1 hs6, jadd, h1.bw.f1 hs6, mu_s]
theorem c_playB {b t : Nat} (h : BW w b t C M) (hm : MOk C B M) {n : Nat} (hn : n ≤ 10000) (hB : B + 42 * n ≤ 900000000) : ∃ w', mK (d + 7) 17 [.ref b, .int (nI n)] w = some (.inl (some (.int (nI (playedM C n M)))), w') ∧ upB b w w' (playM C n M) := by
  obtain ⟨w1, e1, u1⟩ := c_play (d := d) n 0 n w M B (Nat.zero_add _) hn h hm hB
  refine ⟨w1, ?_, u1⟩
  rw [e_17, b_17_0, e1, Nat.zero_add]
theorem c_go (h : GW w C M) (hm : MOk C B M) (hB : B ≤ 800000000) {n : Nat} (hn : 1 ≤ n ∧ n ≤ 60) : ∃ w', mK (d + 8) 111 [.ref 166, .int (nI n)] w = some (.inl (some (.int (nI (playedM C n M)))), w') ∧ upB 220 w w' (playM C n M) := by
  obtain ⟨w1, e1, u1⟩ := c_playB (d := d) h.bw hm (n := n) (by omega) (by omega)
  refine ⟨w1, ?_, u1⟩
  rw [e_111, b_111_0, ijlt (by omega) (by decide), if_neg (by omega), b_111_5, ijle (by omega) (by decide), if_pos (by omega), b_111_21 h.q h.s6 h.b0, h.g6, e1]
  simp only [mThen_ok, Option.toList_some, Option.toList_none, List.cons_append, List.nil_append]
  rw [b_111_29]
/-- the ghost, as a bee -/
theorem GW.gb (h : GW w C M) (u : upB 248 w w' M') : BW w' 248 175 C M' := by
  have e : ∀ c, c < 248 → mI w' c = mI w c := fun c hc => u.out (Or.inl hc)
  have hc := h.bw.c.same fun c _ q => e c (by omega)
  have hh := h.bw.h.same (e _ (by omega))
  obtain ⟨J, rfl, -, a3⟩ := u
  exact ⟨h.gh, h.bw.t, hc, hh, h.bw.k, a3⟩
theorem playM_ok (hk : CfOk C) : ∀ (n B : Nat) (M : MD), MOk C B M → MOk C (B + 42 * n) (playM C n M)
  | 0, B, M, h => h
  | n + 1, B, M, h => by
    rw [playM]
    split
    · exact h.le (by omega)
    · rename_i e
      exact (playM_ok hk n _ _ (turnM_ok hk h e)).le (by omega)
theorem c_foresee (h : GW w C M) (hm : MOk C B M) (hB : B ≤ 800000000) {n x : Nat} (hn : 1 ≤ n ∧ n ≤ 60) (hx : 10 ≤ x ∧ x ≤ 16) : ∃ w', mK (d + 8) 112 [.ref 166, .int (nI n), .int (nI x)] w = some (.inl (some (.int (nI (tallyM C (playM C n M) x)))), w') ∧ frB 248 276 w w' := by
  obtain ⟨w1, e1, u1⟩ := c_copyB (d := d + 4) h.bw h.gh (by omega) hm
  have h1 := h.gs u1.fr
  have g1 := h.gb u1
  obtain ⟨w2, e2, u2⟩ := c_playB (d := d) g1 hm (n := n) (by omega) (by omega)
  have h2 := h1.gs u2.fr
  have g2 := g1.up u2
  refine ⟨w2, ?_, u1.fr.trans u2.fr⟩
  rw [e_112, b_112_0, ijlt (by omega) (by decide), if_neg (by omega), b_112_5, ijle (by omega) (by decide), if_pos (by omega), b_112_21, ijlt (by omega) (by decide), if_neg (by omega), b_112_27, ijle (by omega) (by decide), if_pos (by omega), b_112_43 h.q h.s7 h.s6 h.h0, h.g7, h.g6, e1]
  simp only [mThen_ok, Option.toList_some, Option.toList_none, List.cons_append, List.nil_append]
  rw [b_112_54 h1.q h1.s7 h1.h0, h1.g7, e2]
  simp only [mThen_ok, Option.toList_some, Option.toList_none, List.cons_append, List.nil_append]
  rw [b_112_62 h2.q h2.s7 h2.h0, h2.g7, c_tally g2 (playM_ok h.bw.k n B M hm).i (by omega)]
  simp only [mThen_ok, Option.toList_some, Option.toList_none, List.cons_append, List.nil_append]
  rw [b_112_71]
/-- behind how many turns she is out -/
def untilM (C : CD) (s : Nat) : Nat → Nat → MD → Nat
  | 0, i, M => if M 3 s 0 = 0 then i else NEG
  | n + 1, i, M => if M 3 s 0 = 0 then i else if M 0 0 4 = NEG then NEG else untilM C s n (i + 1) (turnM C M)
theorem c_untilL {s : Nat} (hs : s < 6) {M0 : MD} : ∀ (m i : Nat) (w : MW) (M : MD) (B : Nat), i + m = 10000 → GW w C M0 → BW w 248 175 C M → MOk C B M → B + 42 * m ≤ 900000000 → ∃ w', mX (d + 8) 113 35 [.ref 166, .int (nI s), .int (nI i)] [] w = some (.inl (some (.int (nI (untilM C s m i M)))), w') ∧ frB 248 276 w w' := by
  -- from 81 on
  have fin : ∀ (i : Nat) (w : MW) (M : MD) (B : Nat), GW w C M0 → BW w 248 175 C M → MOk C B M → mX (d + 8) 113 81 [.ref 166, .int (nI s), .int (nI i)] [] w = some (.inl (some (.int (nI (if M 3 s 0 = 0 then i else NEG)))), w) := fun i w M B h g hm => by
    have := hm.i s
    rw [b_113_81 h.q h.s7 h.h0, h.g7, c_spAt g.b hs]
    simp only [mThen_ok, Option.toList_some, Option.toList_none, List.cons_append, List.nil_append]
    rw [b_113_89 (bT.st g.b hs), g.f0 hs, ijeq (by omega) (by decide)]
    by_cases e : M 3 s 0 = 0
    · rw [if_pos e, if_pos e, b_113_99, b_113_100]
    · rw [if_neg e, if_neg e, b_113_95, b_113_100, jm1]
  intro m
  induction m with
  | zero =>
    intro i w M B hi h g hm hB
    refine ⟨w, ?_, frB.refl _ _ _⟩
    rw [b_113_35, ijle (by decide) (by omega), if_pos (by omega), fin i w M B h g hm]
    rfl
  | succ m ih =>
    intro i w M B hi h g hm hB
    have q0 := hm.i s
    have pre : mX (d + 8) 113 35 [.ref 166, .int (nI s), .int (nI i)] [] w = if M 3 s 0 = 0 then mX (d + 8) 113 81 [.ref 166, .int (nI s), .int (nI i)] [] w else mX (d + 8) 113 56 [.ref 166, .int (nI s), .int (nI i)] [] w := by
      rw [b_113_35, ijle (by decide) (by omega), if_neg (by omega), b_113_42 h.q h.s7 h.h0, h.g7, c_spAt g.b hs]
      simp only [mThen_ok, Option.toList_some, Option.toList_none, List.cons_append, List.nil_append]
      rw [b_113_50 (bT.st g.b hs), g.f0 hs, ijeq (by omega) (by decide)]
    by_cases e : M 3 s 0 = 0
    · refine ⟨w, ?_, frB.refl _ _ _⟩
      rw [pre, if_pos e, fin i w M B h g hm, untilM]
      simp only [if_pos e]
    · by_cases e2 : M 0 0 4 = NEG
      · refine ⟨w, ?_, frB.refl _ _ _⟩
        rw [pre, if_neg e, b_113_56 h.q h.s7 h.h0, h.g7, c_isOver g hm (by omega), decide_eq_true e2]
        simp only [mThen_ok, Option.toList_some, Option.toList_none, List.cons_append, List.nil_append]
        rw [b_113_63, if_pos nbt, fin i w M B h g hm, untilM]
        simp only [if_neg e, if_pos e2]
      · obtain ⟨w1, e1, u1⟩ := c_playB (d := d) g hm (n := 1) (by decide) (by omega)
        have ep : playM C 1 M = turnM C M := by rw [playM, if_neg e2]; rfl
        rw [ep] at u1
        obtain ⟨w2, e3, u2⟩ := ih (i + 1) w1 (turnM C M) (B + 42) (by omega) (h.gs u1.fr) (g.up u1) (turnM_ok g.k hm e2) (by omega)
        refine ⟨w2, ?_, u1.fr.trans u2⟩
        rw [pre, if_neg e, b_113_56 h.q h.s7 h.h0, h.g7, c_isOver g hm (by omega), decide_eq_false e2]
        simp only [mThen_ok, Option.toList_some, Option.toList_none, List.cons_append, List.nil_append]
        rw [b_113_63, if_neg (by simp [nbf]), b_113_66 h.q h.s7 h.h0, h.g7, e1]
        simp only [mThen_ok, Option.toList_some, Option.toList_none, List.cons_append, List.nil_append]
        rw [b_113_74, jadd, e3, untilM]
        simp only [if_neg e, if_neg e2]
theorem c_until (h : GW w C M) (hm : MOk C B M) (hB : B ≤ 400000000) {s : Nat} (hs : s < C 0 0 3) : ∃ w', mK (d + 8) 113 [.ref 166, .int (nI s)] w = some (.inl (some (.int (nI (untilM C s 10000 0 M)))), w') ∧ frB 248 276 w w' := by
  have hk1 := h.bw.k.1
  obtain ⟨w1, e1, u1⟩ := c_copyB (d := d + 4) h.bw h.gh (by omega) hm
  obtain ⟨w2, e2, u2⟩ := c_untilL (d := d) (s := s) (by omega) 10000 0 w1 M B rfl (h.gs u1.fr) (h.gb u1) hm (by omega)
  refine ⟨w2, ?_, u1.fr.trans u2⟩
  rw [e_113, b_113_0 h.q h.s2 h.t8, h.g2, c_has h.bw.t h.bw.c (by decide) (by omega) (by omega), decide_eq_true hs]
  simp only [mThen_ok, Option.toList_some, Option.toList_none, List.cons_append, List.nil_append]
  rw [b_113_9, if_pos nbt, b_113_22 h.q h.s7 h.s6 h.h0, h.g7, h.g6, e1]
  simp only [mThen_ok, Option.toList_some, Option.toList_none, List.cons_append, List.nil_append]
  rw [b_113_33, e2]
/-- the first of rank 0 -/
def fr0M (C : CD) (M : MD) : Nat → Nat → Nat
  | 0, _ => NEG
  | n + 1, s => if rankM C M s = 0 then s else fr0M C M n (s + 1)
def winnerM (C : CD) (M : MD) : Nat := fr0M C (playM C 10000 M) (C 0 0 3) 0
theorem rankM_le (C : CD) (M : MD) (s : Nat) : rankM C M s ≤ C 0 0 3 := by
  have : rankM C M s ≤ C 0 0 3 * 1 := su_le fun o _ => by split <;> omega
  omega
theorem c_winner (h : GW w C M) (hm : MOk C B M) (hB : B ≤ 400000000) : ∃ w', mK (d + 8) 114 [.ref 166] w = some (.inl (some (.int (nI (winnerM C M)))), w') ∧ frB 248 276 w w' := by
  have hk1 := h.bw.k.1
  obtain ⟨w1, e1, u1⟩ := c_copyB (d := d + 4) h.bw h.gh (by omega) hm
  have h1 := h.gs u1.fr
  have g1 := h.gb u1
  obtain ⟨w2, e2, u2⟩ := c_playB (d := d) g1 hm (n := 10000) (by omega) (by omega)
  have h2 := h1.gs u2.fr
  have g2 := g1.up u2
  have hm2 := playM_ok h.bw.k 10000 B M hm
  have key : ∀ m i, i + m = C 0 0 3 → mX (d + 8) 114 24 [.ref 166, .int (nI i)] [] w2 = some (.inl (some (.int (nI (fr0M C (playM C 10000 M) m i)))), w2) := by
    intro m
    induction m with
    | zero =>
      intro i hi
      rw [b_114_24 h2.q h2.s2 h2.t8, h2.g2, c_cnt h2.bw.t h2.bw.c (by decide)]
      simp only [mThen_ok, Option.toList_some, Option.toList_none, List.cons_append, List.nil_append]
      rw [b_114_33, if_pos (by rw [jle (by omega) (by omega)]; omega), b_114_55, jm1]
      rfl
    | succ m ih =>
      intro i hi
      have := rankM_le C (playM C 10000 M) i
      rw [b_114_24 h2.q h2.s2 h2.t8, h2.g2, c_cnt h2.bw.t h2.bw.c (by decide)]
      simp only [mThen_ok, Option.toList_some, Option.toList_none, List.cons_append, List.nil_append]
      rw [b_114_33, if_neg (by rw [jle (by omega) (by omega)]; omega), b_114_36 h2.q h2.s7 h2.h0, h2.g7, c_rank g2 hm2 (by omega) (by omega)]
      simp only [mThen_ok, Option.toList_some, Option.toList_none, List.cons_append, List.nil_append]
      rw [b_114_44, ijne (by omega) (by decide), fr0M]
      by_cases e : rankM C (playM C 10000 M) i = 0
      · rw [if_neg (by omega), if_pos e, b_114_47]
      · rw [if_pos e, if_neg e, b_114_49, jadd, ih (i + 1) (by omega)]
  refine ⟨w2, ?_, u1.fr.trans u2.fr⟩
  rw [e_114, b_114_0 h.q h.s7 h.s6 h.h0, h.g7, h.g6, e1]
  simp only [mThen_ok, Option.toList_some, Option.toList_none, List.cons_append, List.nil_append]
  rw [b_114_11 h1.q h1.s7 h1.h0, h1.g7, e2]
  simp only [mThen_ok, Option.toList_some, Option.toList_none, List.cons_append, List.nil_append]
  rw [b_114_21, key _ 0 (Nat.zero_add _)]
  rfl
theorem c_adviseO (h : GW w C M) (hm : MOk C B M) (hB : B ≤ 1073741824) (hn : M 0 0 4 = NEG) : mK (d + 8) 115 [.ref 166] w = some (.inl (some (.int (nI NEG))), w) := by
  rw [e_115, b_115_0 h.q h.s6 h.b0, h.g6, c_isOver h.bw hm hB, decide_eq_true hn]
  simp only [mThen_ok, Option.toList_some, Option.toList_none, List.cons_append, List.nil_append]
  rw [b_115_7, if_neg nbt, b_115_10, jm1]
theorem c_canX (h : GW w C M) (hm : MOk C B M) (hB : B ≤ 1073741824) (hn : ¬ M 0 0 4 = NEG) {x : Nat} (hx : x < 3) : mK (d + 1) 12 [.ref 220, .int (nI x)] w = some (.inl (some (.int (bI (if x = 0 then true else if x = 1 then canHintM M else canPassM M)))), w) := by
  rcases (show x = 0 ∨ x = 1 ∨ x = 2 by omega) with e | e | e <;> subst e
  · rw [c_can0 h.bw hm hB, decide_eq_true hn]; rfl
  · exact c_can1 h.bw hm hB
  · exact c_can2 h.bw hm hB
/-- something done by hand, to the ghost -/
theorem c_byHand {b t : Nat} (h : BW w b t C M) (hm : MOk C B M) (hB : B ≤ 900000000) (hn : ¬ M 0 0 4 = NEG) {x : Nat} (hx : x < 3) (hc : (if x = 0 then true else if x = 1 then canHintM M else canPassM M) = true) : ∃ w' M', mK (d + 6) 13 [.ref b, .int (nI x)] w = some (.inl none, w') ∧ upB b w w' M' ∧ MOk C (B + 2) M' := by
  have hk1 := h.k.1
  have hs := (hm.who hn).1
  rcases (show x = 0 ∨ x = 1 ∨ x = 2 by omega) with e | e | e <;> subst e
  · refine ⟨w, M, ?_, h.refl, hm.le (by omega)⟩
    rw [e_13, b_13_0, if_pos (by decide +kernel), b_13_12, if_pos (by decide +kernel), b_13_25]
  · have hc' : canHintM M = true := hc
    obtain ⟨w1, e1, u1⟩ := c_takeHint (d := d + 3) h (by omega) (canHint_and.mp hc').2.2
    refine ⟨w1, _, ?_, u1, (hintM_ok hm hc').le (by omega)⟩
    rw [e_13, b_13_0, if_neg (by simp), b_13_5 (bT.t0 h.b), e1]
    simp only [mThen_ok, Option.toList_some, Option.toList_none, List.cons_append, List.nil_append]
    rw [b_13_9, b_13_25]
  · have hc' : canPassM M = true := hc
    obtain ⟨w1, e1, u1⟩ := c_usePass (d := d + 3) h (by omega) (canPass_and.mp hc').2
    have h1 := h.up u1
    obtain ⟨w2, e2, u2⟩ := c_endTurn (d := d) h1 (passM_ok hm) (by omega) (by rw [passM_z]; exact hn)
    refine ⟨w2, _, ?_, u1.trans u2, (endTurnM_ok h.k (passM_ok hm) (by rw [passM_z]; exact hn)).le (by omega)⟩
    rw [e_13, b_13_0, if_pos (by decide +kernel), b_13_12, if_neg (by simp), b_13_17 (bT.t0 h.b), e1]
    simp only [mThen_ok, Option.toList_some, Option.toList_none, List.cons_append, List.nil_append]
    rw [b_13_21 (bT.t0 h1.b), e2]
    simp only [mThen_ok, Option.toList_some, Option.toList_none, List.cons_append, List.nil_append]
    rw [b_13_25]
theorem c_advise (h0 : GW w C M) (hm : MOk C B M) (hB : B ≤ 400000000) (hn : ¬ M 0 0 4 = NEG) : ∃ w' x, x ≤ 2 ∧ mK (d + 8) 115 [.ref 166] w = some (.inl (some (.int (nI x))), w') ∧ frB 248 276 w w' := by
  have hk1 := h0.bw.k.1
  have hs := (hm.who hn).1
  have key : ∀ m i (w : MW) (x1 x2 : Nat), i + m = 3 → x1 ≤ 2 → x2 ≤ 6 → GW w C M → ∃ w' x, x ≤ 2 ∧ mX (d + 8) 115 19 [.ref 166, .int (nI x1), .int (nI x2), .int (nI i), mJ] [] w = some (.inl (some (.int (nI x))), w') ∧ frB 248 276 w w' := by
    intro m
    induction m with
    | zero =>
      intro i w x1 x2 hi h1 h2 h
      refine ⟨w, x1, h1, ?_, frB.refl _ _ _⟩
      rw [b_115_19, ijlt (by decide) (by omega), if_pos (by omega), b_115_98]
    | succ m ih =>
      intro i w x1 x2 hi h1 h2 h
      have pre : mX (d + 8) 115 19 [.ref 166, .int (nI x1), .int (nI x2), .int (nI i), mJ] [] w = mX (d + 8) 115 32 [.ref 166, .int (nI x1), .int (nI x2), .int (nI i), mJ] [.int (bI (if i = 0 then true else if i = 1 then canHintM M else canPassM M))] w := by
        rw [b_115_19, ijlt (by decide) (by omega), if_neg (by omega), b_115_24 h.q h.s6 h.b0, h.g6, c_canX h hm (by omega) hn (by omega)]
        simp only [mThen_ok, Option.toList_some, Option.toList_none, List.cons_append, List.nil_append]
      have go92 : ∀ (w : MW) (x1 x2 : Nat), x1 ≤ 2 → x2 ≤ 6 → GW w C M → ∃ w' x, x ≤ 2 ∧ mX (d + 8) 115 92 [.ref 166, .int (nI x1), .int (nI x2), .int (nI i), mJ] [] w = some (.inl (some (.int (nI x))), w') ∧ frB 248 276 w w' := fun w x1 x2 h1 h2 h => by
        obtain ⟨w', x, a1, a2, a3⟩ := ih (i + 1) w x1 x2 (by omega) h1 h2 h
        exact ⟨w', x, a1, by rw [b_115_92, jadd, a2], a3⟩
      rcases Bool.eq_false_or_eq_true (if i = 0 then true else if i = 1 then canHintM M else canPassM M) with e | e
      · obtain ⟨w1, e1, u1⟩ := c_copyB (d := d + 4) h.bw h.gh (by omega) hm
        have h1' := h.gs u1.fr
        have g1 := h.gb u1
        obtain ⟨w2, M2, e2, u2, hm2⟩ := c_byHand (d := d + 1) g1 hm (by omega) hn (x := i) (by omega) e
        have h2' := h1'.gs u2.fr
        have g2 := g1.up u2
        obtain ⟨w3, e3, u3⟩ := c_playB (d := d) g2 hm2 (n := 10000) (by omega) (by omega)
        have h3' := h2'.gs u3.fr
        have g3 := g2.up u3
        have hr := rankM_le C (playM C 10000 M2) (M 0 0 4)
        have pre2 : mX (d + 8) 115 19 [.ref 166, .int (nI x1), .int (nI x2), .int (nI i), mJ] [] w = if x2 ≤ rankM C (playM C 10000 M2) (M 0 0 4) then mX (d + 8) 115 92 [.ref 166, .int (nI x1), .int (nI x2), .int (nI i), mJ] [] w3 else mX (d + 8) 115 87 [.ref 166, mJ, mJ, .int (nI i), .int (nI (rankM C (playM C 10000 M2) (M 0 0 4)))] [] w3 := by
          rw [pre, e, b_115_32, if_neg nbt, b_115_35 h.q h.s7 h.s6 h.h0, h.g7, h.g6, e1]
          simp only [mThen_ok, Option.toList_some, Option.toList_none, List.cons_append, List.nil_append]
          rw [b_115_46 h1'.q h1'.s7 h1'.h0, h1'.g7, e2]
          simp only [mThen_ok, Option.toList_some, Option.toList_none, List.cons_append, List.nil_append]
          rw [b_115_54 h2'.q h2'.s7 h2'.h0, h2'.g7, e3]
          simp only [mThen_ok, Option.toList_some, Option.toList_none, List.cons_append, List.nil_append]
          rw [b_115_64 h3'.q h3'.s7 h3'.s6 h3'.b0 h3'.h0, h3'.g7, h3'.g6, h3'.bw.z4, c_rank g3 (playM_ok h.bw.k 10000 _ M2 hm2) (by omega) (by omega)]
          simp only [mThen_ok, Option.toList_some, Option.toList_none, List.cons_append, List.nil_append]
          rw [b_115_79, ijle (by omega) (by omega)]
        have uu := (u1.fr.trans u2.fr).trans u3.fr
        by_cases e4 : x2 ≤ rankM C (playM C 10000 M2) (M 0 0 4)
        · obtain ⟨w', x, a1, a2, a3⟩ := go92 w3 x1 x2 h1 h2 h3'
          exact ⟨w', x, a1, by rw [pre2, if_pos e4, a2], uu.trans a3⟩
        · obtain ⟨w', x, a1, a2, a3⟩ := go92 w3 i (rankM C (playM C 10000 M2) (M 0 0 4)) (by omega) (by omega) h3'
          exact ⟨w', x, a1, by rw [pre2, if_neg e4, b_115_87, a2], uu.trans a3⟩
      · obtain ⟨w', x, a1, a2, a3⟩ := go92 w x1 x2 h1 h2 h
        exact ⟨w', x, a1, by rw [pre, e, b_115_32, if_pos nbf, a2], a3⟩
  obtain ⟨w', x, a1, a2, a3⟩ := key 3 0 w 0 6 rfl (by omega) (by omega) h0
  refine ⟨w', x, a1, ?_, a3⟩
  rw [e_115, b_115_0 h0.q h0.s6 h0.b0, h0.g6, c_isOver h0.bw hm (by omega), decide_eq_false hn]
  simp only [mThen_ok, Option.toList_some, Option.toList_none, List.cons_append, List.nil_append]
  rw [b_115_7, if_pos nbf, b_115_12, a2]
end
