/-! ===== the end of a turn, of a lap, of a round ===== -/
section
variable {d b t B : Nat} {w : MW} {C : CD} {M : MD}
theorem kn01 {x : Nat} (hx : x ≤ 1) : mNar (mTy 4 2) (nI x) = true := by
  rcases (show x = 0 ∨ x = 1 by omega) with e | e <;> subst e <;> decide +kernel
theorem anyM_i {toll n : Nat} : anyM M toll n = true ↔ ∃ s, s < n ∧ M 3 s 0 = 1 ∧ toll ≤ M 3 s 1 := by
  induction n with
  | zero => simp [anyM]
  | succ n ih =>
    simp only [anyM, Bool.or_eq_true, ih, Bool.and_eq_true, decide_eq_true_eq]
    constructor
    · rintro (⟨o, h1, h2⟩ | h)
      · exact ⟨o, by omega, h2⟩
      · exact ⟨n, by omega, h⟩
    · rintro ⟨o, h1, h2⟩
      by_cases e : o = n
      · subst e; exact Or.inr h2
      · exact Or.inl ⟨o, by omega, h2⟩
theorem payM_n (toll n : Nat) (M : MD) {g i j : Nat} (h : ¬ (g = 3 ∧ i < n ∧ j = 0)) : payM toll n M g i j = M g i j := by
  induction n with
  | zero => rfl
  | succ n ih => rw [payM, mu_n (by omega), ih (by omega)]
theorem payM_s (toll n : Nat) (M : MD) {i : Nat} (h : i < n) : payM toll n M 3 i 0 = if M 3 i 0 = 1 ∧ toll ≤ M 3 i 1 then 1 else 0 := by
  induction n with
  | zero => omega
  | succ n ih =>
    rw [payM, mu_at]
    by_cases e : i = n
    · subst e; rw [if_pos ⟨rfl, rfl, rfl⟩]
    · rw [if_neg (by omega), ih (by omega)]
theorem clearM_n (n : Nat) (M : MD) {g i j : Nat} (h : ¬ (g = 3 ∧ i < n ∧ j = 2)) : clearM n M g i j = M g i j := by
  induction n with
  | zero => rfl
  | succ n ih => rw [clearM, mu_n (by omega), ih (by omega)]
theorem clearM_s (n : Nat) (M : MD) {i : Nat} (h : i < n) : clearM n M 3 i 2 = 0 := by
  induction n with
  | zero => omega
  | succ n ih =>
    rw [clearM, mu_at]
    by_cases e : i = n
    · subst e; rw [if_pos ⟨rfl, rfl, rfl⟩]
    · rw [if_neg (by omega), ih (by omega)]
theorem backM_n (n : Nat) (M : MD) {g i j : Nat} (h : ¬ (g = 3 ∧ i < n ∧ (j = 0 ∨ j = 2 ∨ j = 8))) : backM n M g i j = M g i j := by
  induction n with
  | zero => rfl
  | succ n ih =>
    rw [backM]
    split
    · rw [mu_n (by omega), mu_n (by omega), mu_n (by omega), ih (by omega)]
    · rw [mu_n (by omega), ih (by omega)]
theorem backM_0 (n : Nat) (M : MD) {i : Nat} (h : i < n) : backM n M 3 i 0 = if M 3 i 8 = 1 ∧ M 0 0 6 = 0 then 1 else M 3 i 0 := by
  induction n with
  | zero => omega
  | succ n ih =>
    rw [backM]
    by_cases e : i = n
    · subst e
      rw [backM_n i M (g := 3) (i := i) (j := 8) (by omega)]
      split
      · rw [mu_n (by omega), mu_n (by omega), mu_s]
      · rw [mu_n (by omega), backM_n i M (by omega)]
    · split
      · rw [mu_n (by omega), mu_n (by omega), mu_n (by omega), ih (by omega)]
      · rw [mu_n (by omega), ih (by omega)]
theorem backM_2 (n : Nat) (M : MD) {i : Nat} (h : i < n) : backM n M 3 i 2 = if M 3 i 8 = 1 ∧ M 0 0 6 = 0 then 1 else M 3 i 2 := by
  induction n with
  | zero => omega
  | succ n ih =>
    rw [backM]
    by_cases e : i = n
    · subst e
      rw [backM_n i M (g := 3) (i := i) (j := 8) (by omega)]
      split
      · rw [mu_n (by omega), mu_s]
      · rw [mu_n (by omega), backM_n i M (by omega)]
    · split
      · rw [mu_n (by omega), mu_n (by omega), mu_n (by omega), ih (by omega)]
      · rw [mu_n (by omega), ih (by omega)]
theorem backM_8 (n : Nat) (M : MD) {i : Nat} (h : i < n) : backM n M 3 i 8 = 0 := by
  induction n with
  | zero => omega
  | succ n ih =>
    rw [backM]
    by_cases e : i = n
    · subst e
      split <;> rw [mu_s]
    · split
      · rw [mu_n (by omega), mu_n (by omega), mu_n (by omega), ih (by omega)]
      · rw [mu_n (by omega), ih (by omega)]
theorem c_toll (h : BW w b t C M) (hi : ∀ s, M 3 s 0 ≤ 1) (hB : ∀ s, M 3 s 1 < 1073741824) {toll : Nat} (ht : toll ≤ 99) : ∃ w', mK (d + 1) 28 [.ref b, .int (nI toll)] w = some (.inl none, w') ∧ upB b w w' (if anyM M toll 6 = true then payM toll 6 M else M) := by
  have h8 := h.b.lo
  have k1 := loop0 (fun i => mX (d + 1) 28 4 [.ref b, .int (nI toll), .int (bI (anyM M toll i)), .int (nI i), mJ] [] w) 6 (fun i hi6 => by
    have q1 := hi i
    have q2 := hB i
    rw [b_28_4, ijle (by decide) (by omega), if_neg (by omega), b_28_10 (bT.t0 h.b), c_spAt h.b hi6]
    simp only [mThen_ok, Option.toList_some, Option.toList_none, List.cons_append, List.nil_append]
    rw [b_28_15]
    rcases Bool.eq_false_or_eq_true (anyM M toll i) with e | e
    · rw [e, if_pos nbt, b_28_38, b_28_43, jadd, anyM, e]; rfl
    · rw [e, if_neg (by simp [nbf]), b_28_21 (bT.st h.b hi6), h.f0 hi6, ijeq (by omega) (by decide), anyM, e]
      by_cases e1 : M 3 i 0 = 0
      · rw [if_pos e1, b_28_42, b_28_43, jadd, decide_eq_false (by omega)]; rfl
      · rw [if_neg e1, b_28_29 (bT.st h.b hi6), h.f1 hi6, ijlt (by omega) (by omega), decide_eq_true (show M 3 i 0 = 1 by omega)]
        by_cases e2 : toll ≤ M 3 i 1
        · rw [if_neg (by omega), b_28_38, b_28_43, jadd, decide_eq_true e2]; rfl
        · rw [if_pos (by omega), b_28_42, b_28_43, jadd, decide_eq_false e2]; rfl)
  have k1' : mX (d + 1) 28 4 [.ref b, .int (nI toll), .int (nI 0), .int (nI 0), mJ] [] w = mX (d + 1) 28 4 [.ref b, .int (nI toll), .int (bI (anyM M toll 6)), .int (nI 6), mJ] [] w := k1
  have pre : mK (d + 1) 28 [.ref b, .int (nI toll)] w = mX (d + 1) 28 52 [.ref b, .int (nI toll), .int (bI (anyM M toll 6)), .int (nI 0), mJ] [] w := by
    rw [e_28, b_28_0, k1', b_28_4, if_pos (by decide +kernel), b_28_50]
  rcases Bool.eq_false_or_eq_true (anyM M toll 6) with e | e
  · rw [if_pos e]
    suffices key : ∀ m i w, i + m = 6 → BW w b t C (payM toll i M) → ∃ w', mX (d + 1) 28 52 [.ref b, .int (nI toll), .int (nI 1), .int (nI i), mJ] [] w = some (.inl none, w') ∧ upB b w w' (payM toll 6 M) by
      obtain ⟨w', e9, u⟩ := key 6 0 w rfl h
      refine ⟨w', ?_, u⟩
      rw [pre, e]
      exact e9
    intro m
    induction m with
    | zero =>
      intro i w hi h
      have hi : i = 6 := hi
      subst hi
      exact ⟨w, by rw [b_28_52, if_pos (by decide +kernel), b_28_102], h.refl⟩
    | succ m ih =>
      intro i w him h
      have hi6 : i < 6 := by omega
      have q1 := hi i
      have q2 := hB i
      have u1 := h.uf0 hi6 (if M 3 i 0 = 1 ∧ toll ≤ M 3 i 1 then 1 else 0)
      have h1 := h.up u1
      obtain ⟨w', e9, u⟩ := ih (i + 1) _ (by omega) h1
      refine ⟨w', ?_, u1.trans u⟩
      rw [b_28_52, ijle (by decide) (by omega), if_neg (by omega), b_28_58, if_neg n10, b_28_62 (bT.t0 h.b), c_spAt h.b hi6]
      simp only [mThen_ok, Option.toList_some, Option.toList_none, List.cons_append, List.nil_append]
      rw [b_28_67 (bT.st h.b hi6), h.f0 hi6, payM_n toll i M (by omega), ijeq (by omega) (by decide)]
      by_cases e1 : M 3 i 0 = 0
      · rw [if_pos e1, b_28_92, b_28_93 (bT.st h.b hi6) (by show 166 ≤ b + 10 + 3 * i; omega) (kn01 (by decide)), jadd]
        rw [if_neg (by omega)] at e9
        exact e9
      · rw [if_neg e1, b_28_79 (bT.st h.b hi6), h.f1 hi6, payM_n toll i M (by omega), ijlt (by omega) (by omega)]
        by_cases e2 : toll ≤ M 3 i 1
        · rw [if_neg (by omega), b_28_88, b_28_93 (bT.st h.b hi6) (by show 166 ≤ b + 10 + 3 * i; omega) (kn01 (by decide)), jadd]
          rw [if_pos ⟨by omega, e2⟩] at e9
          exact e9
        · rw [if_pos (by omega), b_28_92, b_28_93 (bT.st h.b hi6) (by show 166 ≤ b + 10 + 3 * i; omega) (kn01 (by decide)), jadd]
          rw [if_neg (fun g => e2 g.2)] at e9
          exact e9
  · refine ⟨w, ?_, by rw [e]; exact h.refl⟩
    rw [pre, e, b_28_52, ijle (by decide) (by decide), if_neg (by omega), b_28_58, if_pos nbf, b_28_102]
/-- what the end of a round answers and leaves -/
def rnd2M (C : CD) (M : MD) : MD := clearM 6 (if anyM M (C 7 (M 0 0 1) 0) 6 = true then payM (C 7 (M 0 0 1) 0) 6 M else M)
theorem rnd_i (hi : ∀ s, M 3 s 0 ≤ 1) : ∀ s, roundEndM C M 3 s 0 ≤ 1 := by
  intro s
  unfold roundEndM
  rw [clearM_n 6 _ (by omega)]
  split
  · by_cases e : s < 6
    · rw [payM_s _ _ _ e]; split <;> omega
    · rw [payM_n _ _ _ (by omega)]; exact hi s
  · exact hi s
theorem rnd_z (j : Nat) {g : Nat} (hg : ¬ g = 3) (i : Nat) : roundEndM C M g i j = M g i j := by
  unfold roundEndM
  rw [clearM_n 6 _ (by omega)]
  split
  · rw [payM_n _ _ _ (by omega)]
  · rfl
theorem c_endRound (h : BW w b t C M) (hi : ∀ s, M 3 s 0 ≤ 1) (hB : ∀ s, M 3 s 1 < 1073741824) (hq : M 0 0 1 < C 0 0 4) : ∃ w', mK (d + 3) 27 [.ref b] w = some (.inl (some (.int (bI (decide (¬ (leftM C (roundEndM C M) < 2 ∨ C 0 0 4 ≤ M 0 0 1 + 1)))))), w') ∧ upB b w w' (if leftM C (roundEndM C M) < 2 ∨ C 0 0 4 ≤ M 0 0 1 + 1 then roundEndM C M else mu (mu (mu (roundEndM C M) 0 0 1 (M 0 0 1 + 1)) 0 0 2 0) 0 0 3 0) := by
  have h8 := h.b.lo
  have hk := h.k.1
  have hr := h.k.2.2.2.2.2.1 _ hq
  have hc := (h.c.2.2.2.2.2.1 _ hq).1
  obtain ⟨w1, e1, u1⟩ := c_toll (d := d + 1) h hi hB hr.1
  have h1 := h.up u1
  have key : ∀ m i w, i + m = 6 → BW w b t C (clearM i (if anyM M (C 7 (M 0 0 1) 0) 6 = true then payM (C 7 (M 0 0 1) 0) 6 M else M)) → ∃ w', mX (d + 3) 27 20 [.ref b, .int (nI i)] [] w = mX (d + 3) 27 41 [.ref b, mJ] [] w' ∧ upB b w w' (roundEndM C M) := by
    intro m
    induction m with
    | zero =>
      intro i w hi h
      have hi : i = 6 := hi
      subst hi
      exact ⟨w, by rw [b_27_20, if_pos (by decide +kernel)], h.refl⟩
    | succ m ih =>
      intro i w him h
      have hi6 : i < 6 := by omega
      have u1 := h.uf2 hi6 0
      have h1 := h.up u1
      obtain ⟨w', e9, u⟩ := ih (i + 1) _ (by omega) h1
      refine ⟨w', ?_, u1.trans u⟩
      rw [b_27_20, ijle (by decide) (by omega), if_neg (by omega), b_27_26 (bT.t0 h.b), c_spAt h.b hi6]
      simp only [mThen_ok, Option.toList_some, Option.toList_none, List.cons_append, List.nil_append]
      rw [b_27_31 (bT.st h.b hi6) (by show 166 ≤ b + 10 + 3 * i; omega), jadd, e9]
  obtain ⟨w2, e2, u2⟩ := key 6 0 w1 rfl h1
  have h2 := h1.up u2
  have u := u1.trans u2
  have hz1 : roundEndM C M 0 0 1 = M 0 0 1 := rnd_z 1 (by decide) 0
  have pre : mK (d + 3) 27 [.ref b] w = if leftM C (roundEndM C M) < 2 then mX (d + 3) 27 66 [mJ, mJ] [] w2 else mX (d + 3) 27 49 [.ref b, mJ] [] w2 := by
    have hl : leftM C (roundEndM C M) ≤ C 0 0 3 * 1 := su_le fun s hs => rnd_i hi s
    rw [e_27, b_27_0 (bT.t0 h.b) (bT.s0_0 h.b) (by rw [bT.g0_0 h.b]; exact tT.t0 h.t) (by rw [bT.g0_0 h.b]; exact tT.s0_10 h.t), bT.g0_0 h.b, tT.g0_10 h.t, h.z1, c_getN (tT.t11 h.t) (by rw [tT.l11 h.t]; omega) (by rw [tT.l11 h.t]; decide), hc]
    simp only [mThen_ok, Option.toList_some, Option.toList_none, List.cons_append, List.nil_append]
    rw [b_27_15 (bT.t0 h.b), e1]
    simp only [mThen_ok, Option.toList_some, Option.toList_none, List.cons_append, List.nil_append]
    rw [b_27_18, e2, b_27_41 (bT.t0 h2.b), c_left h2 (rnd_i hi)]
    simp only [mThen_ok, Option.toList_some, Option.toList_none, List.cons_append, List.nil_append]
    rw [b_27_45, ijlt (by omega) (by decide)]
  by_cases g1 : leftM C (roundEndM C M) < 2
  · refine ⟨w2, ?_, by rw [if_pos (Or.inl g1)]; exact u⟩
    rw [pre, if_pos g1, b_27_66, decide_eq_false (by omega)]; rfl
  · have pre2 : mK (d + 3) 27 [.ref b] w = if M 0 0 1 + 1 < C 0 0 4 then mX (d + 3) 27 68 [.ref b, mJ] [] w2 else mX (d + 3) 27 66 [mJ, mJ] [] w2 := by
      rw [pre, if_neg g1, b_27_49 (bT.t0 h2.b) (bT.s0_0 h2.b) (by rw [bT.g0_0 h2.b]; exact tT.t0 h2.t), bT.g0_0 h2.b, c_cnt h2.t h2.c (by decide), h2.z1, hz1, jadd]
      simp only [mThen_ok, Option.toList_some, Option.toList_none, List.cons_append, List.nil_append]
      rw [b_27_63, ijlt (by omega) (by omega)]
    by_cases g2 : M 0 0 1 + 1 < C 0 0 4
    · have u3 := h2.uz1 (M 0 0 1 + 1)
      have h3 := h2.up u3
      have u4 := h3.uz2 0
      have h4 := h3.up u4
      have u5 := h4.uz3 0
      refine ⟨_, ?_, by rw [if_neg (by omega)]; exact ((u.trans u3).trans u4).trans u5⟩
      rw [pre2, if_pos g2, b_27_68 (bT.t0 h2.b) (by show 166 ≤ b; omega) (bT.t0 h2.b.wI) (bT.t0 h2.b.wI.wI), h2.z1, hz1, jadd, decide_eq_true (by omega)]; rfl
    · refine ⟨w2, ?_, by rw [if_pos (Or.inr (by omega))]; exact u⟩
      rw [pre2, if_neg g2, b_27_66, decide_eq_false (by omega)]; rfl
end
