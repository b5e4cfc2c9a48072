/-! ===== the bounds kept; orders of hint and pass; a word spelled ===== -/
section
variable {d b t B : Nat} {w : MW} {C : CD} {M : MD}
theorem MOk.le {B' : Nat} (h : MOk C B M) (hB : B ≤ B') : MOk C B' M := ⟨fun g i j h1 h2 => Nat.le_trans (h.1 g i j h1 h2) hB, Nat.le_trans h.2.1 hB, h.2.2⟩
theorem MOk.g (h : MOk C B M) {g i j x : Nat} (hg : 1 ≤ g) (hx : x ≤ B) (h3 : g = 3 → ¬ j = 0 ∧ ¬ j = 8 ∧ ¬ j = 4 ∧ (j = 2 → i < C 0 0 3 ∨ x = 0)) : MOk C B (mu M g i j x) := by
  obtain ⟨a1, a2, a3, a4, a5, a6, a7⟩ := h
  have z : ∀ i' j', mu M g i j x 0 i' j' = M 0 i' j' := fun i' j' => mu_n (by omega)
  refine ⟨fun g' i' j' h1 h2 => ?_, by rw [z]; exact a2, by rw [z]; exact a3, by rw [z]; exact a4, by rw [z, z, z, z]; exact a5, fun s => ?_, fun s h1 h2 => ?_⟩
  · rw [mu_at]; split
    · exact hx
    · exact a1 _ _ _ h1 h2
  · have q := fun j' (hj : j' = 0 ∨ j' = 8 ∨ j' = 4) => show mu M g i j x 3 s j' = M 3 s j' from mu_n (by
      rintro ⟨e1, e2, e3⟩
      have := h3 e1.symm
      omega)
    rw [q 0 (by omega), q 8 (by omega), q 4 (by omega)]
    exact a6 s
  · have q := fun j' (hj : j' = 0 ∨ j' = 8) => show mu M g i j x 3 s j' = M 3 s j' from mu_n (by
      rintro ⟨e1, e2, e3⟩
      have := h3 e1.symm
      omega)
    rw [q 0 (by omega), q 8 (by omega)]
    refine ⟨(a7 s h1 h2).1, (a7 s h1 h2).2.1, ?_⟩
    rw [mu_at]
    split
    · rename_i e
      have := h3 e.1.symm
      omega
    · exact (a7 s h1 h2).2.2
theorem MOk.s3 (h : MOk C B M) {s j x : Nat} (hs : s < C 0 0 3) (hx : x ≤ 1) (hB : 1 ≤ B) (hj : j = 0 ∨ j = 8 ∨ j = 4) : MOk C B (mu M 3 s j x) := by
  obtain ⟨a1, a2, a3, a4, a5, a6, a7⟩ := h
  have z : ∀ i' j', mu M 3 s j x 0 i' j' = M 0 i' j' := fun i' j' => mu_n (by omega)
  refine ⟨fun g' i' j' h1 h2 => ?_, by rw [z]; exact a2, by rw [z]; exact a3, by rw [z]; exact a4, by rw [z, z, z, z]; exact a5, fun s' => ?_, fun s' h1 h2 => ?_⟩
  · rw [mu_at]; split
    · omega
    · exact a1 _ _ _ h1 h2
  · have := a6 s'
    simp only [mu_at]
    refine ⟨?_, ?_, ?_⟩ <;> split <;> omega
  · have := a7 s' h1 h2
    simp only [mu_at]
    refine ⟨?_, ?_, ?_⟩ <;> rw [if_neg (by omega)] <;> omega
theorem MOk.z (h : MOk C B M) {j x : Nat} (hj : (j = 0 ∧ x ≤ B) ∨ (j = 5 ∧ x ≤ 2) ∨ (j = 6 ∧ x ≤ 1) ∨ (j = 3 ∧ x < C 7 (M 0 0 1) 2)) : MOk C B (mu M 0 0 j x) := by
  obtain ⟨a1, a2, a3, a4, a5, a6, a7⟩ := h
  have z : ∀ g' i' j', 1 ≤ g' → mu M 0 0 j x g' i' j' = M g' i' j' := fun g' i' j' hg => mu_n (by omega)
  refine ⟨fun g' i' j' h1 h2 => by rw [z _ _ _ h1]; exact a1 _ _ _ h1 h2, ?_, ?_, ?_, ?_, fun s => by rw [z _ _ _ (by omega), z _ _ _ (by omega), z _ _ _ (by omega)]; exact a6 s, fun s h1 h2 => by rw [z _ _ _ (by omega), z _ _ _ (by omega), z _ _ _ (by omega)]; exact a7 s h1 h2⟩
  · rw [mu_at]; split <;> omega
  · rw [mu_at]; split <;> omega
  · rw [mu_at]; split <;> omega
  · have e1 : mu M 0 0 j x 0 0 4 = M 0 0 4 := mu_n (by omega)
    have e2 : mu M 0 0 j x 0 0 1 = M 0 0 1 := mu_n (by omega)
    have e3 : mu M 0 0 j x 0 0 2 = M 0 0 2 := mu_n (by omega)
    rw [e1, e2, e3, mu_at]
    rcases a5 with q | q
    · exact Or.inl q
    · refine Or.inr ⟨q.1, q.2.1, ?_, q.2.2.2⟩
      split
      · rename_i e; omega
      · exact q.2.2.1
theorem MOk.ig (h : MOk C B M) {g i j x : Nat} (hg : 6 ≤ g) : MOk C B (mu M g i j x) := by
  obtain ⟨a1, a2, a3, a4, a5, a6, a7⟩ := h
  have z : ∀ g' i' j', g' ≤ 5 → mu M g i j x g' i' j' = M g' i' j' := fun g' i' j' hg => mu_n (by omega)
  refine ⟨fun g' i' j' h1 h2 => by rw [z _ _ _ h2]; exact a1 _ _ _ h1 h2, by rw [z _ _ _ (by omega)]; exact a2, by rw [z _ _ _ (by omega)]; exact a3, by rw [z _ _ _ (by omega)]; exact a4, by rw [z _ _ _ (by omega), z _ _ _ (by omega), z _ _ _ (by omega), z _ _ _ (by omega)]; exact a5, fun s => by rw [z _ _ _ (by omega), z _ _ _ (by omega), z _ _ _ (by omega)]; exact a6 s, fun s h1 h2 => by rw [z _ _ _ (by omega), z _ _ _ (by omega), z _ _ _ (by omega)]; exact a7 s h1 h2⟩
theorem canHint_and : canHintM M = true ↔ ¬ M 0 0 4 = NEG ∧ M 0 0 5 < 2 ∧ 1 ≤ M 3 (M 0 0 4) 1 := by
  unfold canHintM
  simp only [Bool.and_eq_true, decide_eq_true_eq]
theorem canPass_and : canPassM M = true ↔ ¬ M 0 0 4 = NEG ∧ 1 ≤ M 3 (M 0 0 4) 3 := by
  unfold canPassM
  simp only [Bool.and_eq_true, decide_eq_true_eq]
theorem MOk.who (h : MOk C B M) (hn : ¬ M 0 0 4 = NEG) : M 0 0 4 < C 0 0 3 ∧ M 0 0 1 < C 0 0 4 ∧ M 0 0 3 < C 7 (M 0 0 1) 2 ∧ M 0 0 2 < C 7 (M 0 0 1) 1 := by
  rcases h.2.2.2.2.1 with e | e
  · exact absurd e hn
  · exact e
theorem hintM_ok (h : MOk C B M) (hc : canHintM M = true) : MOk C (B + 1) (hintM M) := by
  obtain ⟨h1, h2, h3⟩ := canHint_and.mp hc
  have hw := (h.who h1).1
  have h' : MOk C (B + 1) M := h.le (by omega)
  have q1 := h.1 3 (M 0 0 4) 1 (by decide) (by decide)
  have q2 := h.1 3 (M 0 0 4) 5 (by decide) (by decide)
  have q3 := h.1 1 0 2 (by decide) (by decide)
  exact (((h'.g (g := 3) (i := M 0 0 4) (j := 1) (x := M 3 (M 0 0 4) 1 - 1) (by omega) (by omega) (by omega)).g (g := 3) (i := M 0 0 4) (j := 5) (x := M 3 (M 0 0 4) 5 + 1) (by omega) (by omega) (by omega)).z (j := 5) (x := M 0 0 5 + 1) (by omega)).g (g := 1) (i := 0) (j := 2) (x := M 1 0 2 + 1) (by omega) (by omega) (by omega)
theorem passM_ok (h : MOk C B M) : MOk C (B + 1) (passM M) := by
  have h' : MOk C (B + 1) M := h.le (by omega)
  have q1 := h.1 3 (M 0 0 4) 3 (by decide) (by decide)
  have q3 := h.1 1 0 3 (by decide) (by decide)
  exact (h'.g (g := 3) (i := M 0 0 4) (j := 3) (x := M 3 (M 0 0 4) 3 - 1) (by omega) (by omega) (by omega)).g (g := 1) (i := 0) (j := 3) (x := M 1 0 3 + 1) (by omega) (by omega) (by omega)
theorem hintM_z (M : MD) {j : Nat} (hj : ¬ j = 5) : hintM M 0 0 j = M 0 0 j := by
  unfold hintM
  simp [mu_at, hj]
theorem passM_z (M : MD) (j : Nat) : passM M 0 0 j = M 0 0 j := by
  unfold passM
  simp [mu_at]
theorem orM_ok : ∀ (n o B : Nat) (M : MD), MOk C B M → MOk C (B + n) (orM C n o M).2 ∧ (∀ j, ¬ j = 5 → (orM C n o M).2 0 0 j = M 0 0 j) ∧ ((orM C n o M).1 = true → canPassM (orM C n o M).2 = true)
  | 0, o, B, M, h => ⟨h, fun _ _ => rfl, fun q => absurd q (by simp [orM])⟩
  | n + 1, o, B, M, h => by
    rw [orM]
    split
    · rename_i hc
      obtain ⟨a1, a2, a3⟩ := orM_ok n (o + 1) (B + 1) (hintM M) (hintM_ok h hc.2.2.1)
      exact ⟨a1.le (by omega), fun j hj => by rw [a2 j hj, hintM_z M hj], a3⟩
    · split
      · rename_i hc
        exact ⟨h.le (by omega), fun _ _ => rfl, fun _ => hc.2.2.1⟩
      · obtain ⟨a1, a2, a3⟩ := orM_ok n (o + 1) B M h
        exact ⟨a1.le (by omega), a2, a3⟩
theorem c_isO0 (h : BW w b t C M) (hm : MOk C B M) {o : Nat} (ho : o < C 0 0 5) : mK (d + 1) 19 [.ref b, .int (nI o), .int (nI 15)] w = some (.inl (some (.int (bI (decide (C 9 o 1 = M 0 0 4 ∧ C 9 o 0 = 0))))), w) := c_isOrder (x := 0) h hm ho (by decide)
theorem c_isO1 (h : BW w b t C M) (hm : MOk C B M) {o : Nat} (ho : o < C 0 0 5) : mK (d + 1) 19 [.ref b, .int (nI o), .int (nI 16)] w = some (.inl (some (.int (bI (decide (C 9 o 1 = M 0 0 4 ∧ C 9 o 0 = 1))))), w) := c_isOrder (x := 1) h hm ho (by decide)
theorem c_isO2 (h : BW w b t C M) (hm : MOk C B M) {o : Nat} (ho : o < C 0 0 5) : mK (d + 1) 19 [.ref b, .int (nI o), .int (nI 17)] w = some (.inl (some (.int (bI (decide (C 9 o 1 = M 0 0 4 ∧ C 9 o 0 = 2))))), w) := c_isOrder (x := 2) h hm ho (by decide)
theorem wantsM_iff {n : Nat} : wantsM C M n = true ↔ ∃ o, o < n ∧ C 9 o 1 = M 0 0 4 ∧ C 9 o 0 = 2 ∧ holdsM C M o = true := by
  induction n with
  | zero => simp [wantsM]
  | succ n ih =>
    simp only [wantsM, Bool.or_eq_true, ih, Bool.and_eq_true, decide_eq_true_eq]
    constructor
    · rintro (⟨o, h1, h2⟩ | h)
      · exact ⟨o, by omega, h2⟩
      · exact ⟨n, by omega, h⟩
    · rintro ⟨o, h1, h2⟩
      by_cases e : o = n
      · subst e; exact Or.inr h2
      · exact Or.inl ⟨o, by omega, h2⟩
theorem c_wants (h : BW w b t C M) (hm : MOk C B M) (hB : B ≤ 1073741824) : ∃ w', mK (d + 5) 22 [.ref b] w = some (.inl (some (.int (bI (wantsM C M (C 0 0 5))))), w') ∧ upB b w w' M := by
  have hk := h.k.1
  suffices key : ∀ m i w, i + m = C 0 0 5 → BW w b t C M → wantsM C M i = false → ∃ w', mX (d + 5) 22 2 [.ref b, .int (nI i)] [] w = some (.inl (some (.int (bI (wantsM C M (C 0 0 5))))), w') ∧ upB b w w' M by
    obtain ⟨w', e, u⟩ := key _ 0 w (Nat.zero_add _) h rfl
    exact ⟨w', by rw [e_22, b_22_0, e], u⟩
  intro m
  induction m with
  | zero =>
    intro i w hi h hf
    have hi : i = C 0 0 5 := hi
    subst hi
    refine ⟨w, ?_, h.refl⟩
    rw [b_22_2 (bT.t0 h.b) (bT.s0_0 h.b) (by rw [bT.g0_0 h.b]; exact tT.t0 h.t), bT.g0_0 h.b, c_cnt h.t h.c (by decide)]
    simp only [mThen_ok, Option.toList_some, Option.toList_none, List.cons_append, List.nil_append]
    rw [b_22_11, if_pos (by rw [jle (by omega) (by omega)]; exact Nat.le_refl _), b_22_44, hf]
    rfl
  | succ m ih =>
    intro i w hi h hf
    have pre : mX (d + 5) 22 2 [.ref b, .int (nI i)] [] w = mX (d + 5) 22 21 [.ref b, .int (nI i)] [.int (bI (decide (C 9 i 1 = M 0 0 4 ∧ C 9 i 0 = 2)))] w := by
      rw [b_22_2 (bT.t0 h.b) (bT.s0_0 h.b) (by rw [bT.g0_0 h.b]; exact tT.t0 h.t), bT.g0_0 h.b, c_cnt h.t h.c (by decide)]
      simp only [mThen_ok, Option.toList_some, Option.toList_none, List.cons_append, List.nil_append]
      rw [b_22_11, if_neg (by rw [jle (by omega) (by omega)]; omega), b_22_14 (bT.t0 h.b), c_isO2 h hm (by omega)]
      simp only [mThen_ok, Option.toList_some, Option.toList_none, List.cons_append, List.nil_append]
    have go : ∀ w, BW w b t C M → wantsM C M (i + 1) = false → ∃ w', mX (d + 5) 22 38 [.ref b, .int (nI i)] [] w = some (.inl (some (.int (bI (wantsM C M (C 0 0 5))))), w') ∧ upB b w w' M := fun w h hf => by
      obtain ⟨w', e, u⟩ := ih (i + 1) w (by omega) h hf
      exact ⟨w', by rw [b_22_38, jadd, e], u⟩
    by_cases q : C 9 i 1 = M 0 0 4 ∧ C 9 i 0 = 2
    · obtain ⟨w1, e1, u1⟩ := c_holds (d := d) h hm hB (o := i) (by omega)
      have h1 := h.up u1
      cases hh : holdsM C M i with
      | true =>
        refine ⟨w1, ?_, u1⟩
        rw [pre, decide_eq_true q, b_22_21, if_neg nbt, b_22_24 (bT.t0 h.b) (bT.s0_1 h.b) (by rw [bT.g0_1 h.b]; exact bT.t1 h.b), bT.g0_1 h.b, e1, hh]
        simp only [mThen_ok, Option.toList_some, Option.toList_none, List.cons_append, List.nil_append]
        rw [b_22_33, if_neg nbt, b_22_36]
        have : wantsM C M (C 0 0 5) = true := wantsM_iff.mpr ⟨i, by omega, q.1, q.2, hh⟩
        rw [this]
        rfl
      | false =>
        obtain ⟨w2, e2, u2⟩ := go w1 h1 (by simp [wantsM, hf, hh])
        refine ⟨w2, ?_, u1.trans u2⟩
        rw [pre, decide_eq_true q, b_22_21, if_neg nbt, b_22_24 (bT.t0 h.b) (bT.s0_1 h.b) (by rw [bT.g0_1 h.b]; exact bT.t1 h.b), bT.g0_1 h.b, e1, hh]
        simp only [mThen_ok, Option.toList_some, Option.toList_none, List.cons_append, List.nil_append]
        rw [b_22_33, if_pos nbf, e2]
    · obtain ⟨w2, e2, u2⟩ := go w h (by
        simp only [wantsM, hf, Bool.false_or]
        by_cases g1 : C 9 i 1 = M 0 0 4
        · by_cases g2 : C 9 i 0 = 2
          · exact absurd ⟨g1, g2⟩ q
          · simp [g2]
        · simp [g1])
      refine ⟨w2, ?_, u2⟩
      rw [pre, decide_eq_false q, b_22_21, if_pos nbf, e2]
/-- what the orders come to -/
def orEnd (r : Bool × MD) : MD := if r.1 = true then passM r.2 else r.2
theorem c_orders : ∀ (m i : Nat) (w : MW) (M : MD) (B : Nat), i + m = C 0 0 5 → BW w b t C M → MOk C B M → B + m ≤ 1073741824 → ∃ w', mX (d + 5) 18 2 [.ref b, .int (nI i)] [] w = some (.inl (some (.int (bI (orM C m i M).1))), w') ∧ upB b w w' (orEnd (orM C m i M))
  | 0, i, w, M, B, hi, h, hm, hB => by
    have hk := h.k.1
    have hi : i = C 0 0 5 := hi
    subst hi
    refine ⟨w, ?_, h.refl⟩
    rw [b_18_2 (bT.t0 h.b) (bT.s0_0 h.b) (by rw [bT.g0_0 h.b]; exact tT.t0 h.t), bT.g0_0 h.b, c_cnt h.t h.c (by decide)]
    simp only [mThen_ok, Option.toList_some, Option.toList_none, List.cons_append, List.nil_append]
    rw [b_18_11, if_pos (by rw [jle (by omega) (by omega)]; exact Nat.le_refl _), b_18_90]
    rfl
  | m + 1, i, w, M, B, hi, h, hm, hB => by
    have hk := h.k.1
    have pre : mX (d + 5) 18 2 [.ref b, .int (nI i)] [] w = mX (d + 5) 18 21 [.ref b, .int (nI i)] [.int (bI (decide (C 9 i 1 = M 0 0 4 ∧ C 9 i 0 = 0)))] w := by
      rw [b_18_2 (bT.t0 h.b) (bT.s0_0 h.b) (by rw [bT.g0_0 h.b]; exact tT.t0 h.t), bT.g0_0 h.b, c_cnt h.t h.c (by decide)]
      simp only [mThen_ok, Option.toList_some, Option.toList_none, List.cons_append, List.nil_append]
      rw [b_18_11, if_neg (by rw [jle (by omega) (by omega)]; omega), b_18_14 (bT.t0 h.b), c_isO0 h hm (by omega)]
      simp only [mThen_ok, Option.toList_some, Option.toList_none, List.cons_append, List.nil_append]
    -- from 48 on, where no hint was taken
    have p48 : ∀ w, BW w b t C M → ¬ (C 9 i 1 = M 0 0 4 ∧ C 9 i 0 = 0 ∧ canHintM M = true ∧ holdsM C M i = true) → ∃ w', mX (d + 5) 18 48 [.ref b, .int (nI i)] [] w = some (.inl (some (.int (bI (orM C (m + 1) i M).1))), w') ∧ upB b w w' (orEnd (orM C (m + 1) i M)) := fun w h hn => by
      have hd : mX (d + 5) 18 48 [.ref b, .int (nI i)] [] w = mX (d + 5) 18 55 [.ref b, .int (nI i)] [.int (bI (decide (C 9 i 1 = M 0 0 4 ∧ C 9 i 0 = 1)))] w := by
        rw [b_18_48 (bT.t0 h.b), c_isO1 h hm (by omega)]
        simp only [mThen_ok, Option.toList_some, Option.toList_none, List.cons_append, List.nil_append]
      have go : ∀ w, BW w b t C M → orM C (m + 1) i M = orM C m (i + 1) M → ∃ w', mX (d + 5) 18 84 [.ref b, .int (nI i)] [] w = some (.inl (some (.int (bI (orM C (m + 1) i M).1))), w') ∧ upB b w w' (orEnd (orM C (m + 1) i M)) := fun w h he => by
        obtain ⟨w', e, u⟩ := c_orders m (i + 1) w M B (by omega) h hm (by omega)
        exact ⟨w', by rw [b_18_84, jadd, e, he], by rw [he]; exact u⟩
      have hR : orM C (m + 1) i M = if C 9 i 1 = M 0 0 4 ∧ C 9 i 0 = 1 ∧ canPassM M = true ∧ holdsM C M i = true then (true, M) else orM C m (i + 1) M := by rw [orM, if_neg hn]
      by_cases q : C 9 i 1 = M 0 0 4 ∧ C 9 i 0 = 1
      · rcases Bool.eq_false_or_eq_true (canPassM M) with hc | hc
        · obtain ⟨w1, e1, u1⟩ := c_holds (d := d) h hm (by omega) (o := i) (by omega)
          have h1 := h.up u1
          rcases Bool.eq_false_or_eq_true (holdsM C M i) with hh | hh
          · have hp := canPass_and.mp hc
            obtain ⟨w2, e2, u2⟩ := c_usePass (d := d + 2) h1 (by have := (hm.who hp.1).1; omega) hp.2
            have hR2 : orM C (m + 1) i M = (true, M) := by rw [hR, if_pos ⟨q.1, q.2, hc, hh⟩]
            rw [hR2]
            refine ⟨w2, ?_, u1.trans u2⟩
            rw [hd, decide_eq_true q, b_18_55, if_neg nbt, b_18_58 (bT.t0 h.b), c_can2 h hm (by omega), hc]
            simp only [mThen_ok, Option.toList_some, Option.toList_none, List.cons_append, List.nil_append]
            rw [b_18_63, if_neg nbt, b_18_66 (bT.t0 h.b) (bT.s0_1 h.b) (by rw [bT.g0_1 h.b]; exact bT.t1 h.b), bT.g0_1 h.b, e1, hh]
            simp only [mThen_ok, Option.toList_some, Option.toList_none, List.cons_append, List.nil_append]
            rw [b_18_75, if_neg nbt, b_18_78 (bT.t0 h1.b), e2]
            simp only [mThen_ok, Option.toList_some, Option.toList_none, List.cons_append, List.nil_append]
            rw [b_18_82]
            rfl
          · obtain ⟨w', e, u⟩ := go w1 h1 (by rw [hR, if_neg (by simp [hh])])
            refine ⟨w', ?_, u1.trans u⟩
            rw [hd, decide_eq_true q, b_18_55, if_neg nbt, b_18_58 (bT.t0 h.b), c_can2 h hm (by omega), hc]
            simp only [mThen_ok, Option.toList_some, Option.toList_none, List.cons_append, List.nil_append]
            rw [b_18_63, if_neg nbt, b_18_66 (bT.t0 h.b) (bT.s0_1 h.b) (by rw [bT.g0_1 h.b]; exact bT.t1 h.b), bT.g0_1 h.b, e1, hh]
            simp only [mThen_ok, Option.toList_some, Option.toList_none, List.cons_append, List.nil_append]
            rw [b_18_75, if_pos nbf, e]
        · obtain ⟨w', e, u⟩ := go w h (by rw [hR, if_neg (by simp [hc])])
          refine ⟨w', ?_, u⟩
          rw [hd, decide_eq_true q, b_18_55, if_neg nbt, b_18_58 (bT.t0 h.b), c_can2 h hm (by omega), hc]
          simp only [mThen_ok, Option.toList_some, Option.toList_none, List.cons_append, List.nil_append]
          rw [b_18_63, if_pos nbf, e]
      · obtain ⟨w', e, u⟩ := go w h (by rw [hR, if_neg (fun g => q ⟨g.1, g.2.1⟩)])
        refine ⟨w', ?_, u⟩
        rw [hd, decide_eq_false q, b_18_55, if_pos nbf, e]
    by_cases q : C 9 i 1 = M 0 0 4 ∧ C 9 i 0 = 0
    · rcases Bool.eq_false_or_eq_true (canHintM M) with hc | hc
      rotate_left
      ·
        obtain ⟨w', e, u⟩ := p48 w h (by simp [hc])
        refine ⟨w', ?_, u⟩
        rw [pre, decide_eq_true q, b_18_21, if_neg nbt, b_18_24 (bT.t0 h.b), c_can1 h hm (by omega), hc]
        simp only [mThen_ok, Option.toList_some, Option.toList_none, List.cons_append, List.nil_append]
        rw [b_18_29, if_pos nbf, e]
      · obtain ⟨w1, e1, u1⟩ := c_holds (d := d) h hm (by omega) (o := i) (by omega)
        have h1 := h.up u1
        rcases Bool.eq_false_or_eq_true (holdsM C M i) with hh | hh
        rotate_left
        ·
          obtain ⟨w', e, u⟩ := p48 w1 h1 (by simp [hh])
          refine ⟨w', ?_, u1.trans u⟩
          rw [pre, decide_eq_true q, b_18_21, if_neg nbt, b_18_24 (bT.t0 h.b), c_can1 h hm (by omega), hc]
          simp only [mThen_ok, Option.toList_some, Option.toList_none, List.cons_append, List.nil_append]
          rw [b_18_29, if_neg nbt, b_18_32 (bT.t0 h.b) (bT.s0_1 h.b) (by rw [bT.g0_1 h.b]; exact bT.t1 h.b), bT.g0_1 h.b, e1, hh]
          simp only [mThen_ok, Option.toList_some, Option.toList_none, List.cons_append, List.nil_append]
          rw [b_18_41, if_pos nbf, e]
        · have hp := canHint_and.mp hc
          obtain ⟨w2, e2, u2⟩ := c_takeHint (d := d + 2) h1 (by have := (hm.who hp.1).1; omega) hp.2.2
          have h2 := h1.up u2
          have hm2 := hintM_ok hm hc
          obtain ⟨w3, e3, u3⟩ := c_orders m (i + 1) w2 (hintM M) (B + 1) (by omega) h2 hm2 (by omega)
          have he : orM C (m + 1) i M = orM C m (i + 1) (hintM M) := by rw [orM, if_pos ⟨q.1, q.2, hc, hh⟩]
          refine ⟨w3, ?_, by rw [he]; exact (u1.trans u2).trans u3⟩
          rw [he, pre, decide_eq_true q, b_18_21, if_neg nbt, b_18_24 (bT.t0 h.b), c_can1 h hm (by omega), hc]
          simp only [mThen_ok, Option.toList_some, Option.toList_none, List.cons_append, List.nil_append]
          rw [b_18_29, if_neg nbt, b_18_32 (bT.t0 h.b) (bT.s0_1 h.b) (by rw [bT.g0_1 h.b]; exact bT.t1 h.b), bT.g0_1 h.b, e1, hh]
          simp only [mThen_ok, Option.toList_some, Option.toList_none, List.cons_append, List.nil_append]
          rw [b_18_41, if_neg nbt, b_18_44 (bT.t0 h1.b), e2]
          simp only [mThen_ok, Option.toList_some, Option.toList_none, List.cons_append, List.nil_append]
          rw [b_18_48 (bT.t0 h2.b), c_isO1 h2 hm2 (by omega)]
          simp only [mThen_ok, Option.toList_some, Option.toList_none, List.cons_append, List.nil_append]
          rw [b_18_55, decide_eq_false (by omega), if_pos nbf, b_18_84, jadd, e3]
    · obtain ⟨w', e, u⟩ := p48 w h (fun g => q ⟨g.1, g.2.1⟩)
      refine ⟨w', ?_, u⟩
      rw [pre, decide_eq_false q, b_18_21, if_pos nbf, e]
end
