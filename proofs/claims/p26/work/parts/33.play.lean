/-! ===== a bee of the class plays: hints, passes, words spelled ===== -/
section
variable {d b t B : Nat} {w : MW} {C : CD} {M : MD}
theorem c_add (h : BW w b t C M) {j : Nat} (hj : j < 6) : ∃ w', mK (d + 1) 16 [.ref b, .int (nI j)] w = some (.inl none, w') ∧ upB b w w' (mu M 1 0 j (M 1 0 j + 1)) := by
  have h8 := h.b.lo
  refine ⟨wI w (b + 7) j (nI (M 1 0 j + 1)), ?_, h.uto hj _⟩
  rw [e_16, b_16_0 (bT.t0 h.b) (bT.s0_4 h.b), bT.g0_4 h.b, c_getN (bT.t7 h.b) (by rw [bT.l7 h.b]; exact hj) (by rw [bT.l7 h.b]; decide), h.to hj]
  simp only [mThen_ok, Option.toList_some, Option.toList_none, List.cons_append, List.nil_append]
  rw [b_16_13, jadd, c_putN (bT.t7 h.b) (by show 166 ≤ b + 7; omega) (by rw [bT.l7 h.b]; exact hj) (by rw [bT.l7 h.b]; decide)]
  simp only [mThen_ok, Option.toList_some, Option.toList_none, List.cons_append, List.nil_append]
  rw [b_16_18]
theorem c_takeHint (h : BW w b t C M) (hs : M 0 0 4 < 6) (hp : 1 ≤ M 3 (M 0 0 4) 1) : ∃ w', mK (d + 2) 14 [.ref b] w = some (.inl none, w') ∧ upB b w w' (hintM M) := by
  have h8 := h.b.lo
  have u1 := h.uf1 hs (M 3 (M 0 0 4) 1 - 1)
  have h1 := h.up u1
  have u2 := h1.uf5 hs (M 3 (M 0 0 4) 5 + 1)
  have h2 := h1.up u2
  have u3 := h2.uz5 (M 0 0 5 + 1)
  have h3 := h2.up u3
  obtain ⟨w4, e4, u4⟩ := c_add (d := d) h3 (j := 2) (by decide)
  refine ⟨w4, ?_, ?_⟩
  · have a1 : mI (wI w (spc b (M 0 0 4)) 5 (nI (M 3 (M 0 0 4) 1 - 1))) (spc b (M 0 0 4)) 8 = nI (M 3 (M 0 0 4) 5) := by rw [h1.f5 hs]; simp [mu_at]
    have a2 : mI (wI (wI w (spc b (M 0 0 4)) 5 (nI (M 3 (M 0 0 4) 1 - 1))) (spc b (M 0 0 4)) 8 (nI (M 3 (M 0 0 4) 5 + 1))) b 12 = nI (M 0 0 5) := by rw [h2.z5]; simp [mu_at]
    rw [e_14, b_14_0 (bT.t0 h.b), h.z4, c_spAt h.b hs]
    simp only [mThen_ok, Option.toList_some, Option.toList_none, List.cons_append, List.nil_append]
    rw [b_14_8 (bT.st h.b hs) (by show 166 ≤ b + 10 + 3 * M 0 0 4; omega) (bT.st h.b.wI hs) (bT.t0 h.b.wI.wI) (by show 166 ≤ b; omega), h.f1 hs, jsub hp, a1, jadd, a2, jadd, b_14_39 (bT.t0 h3.b), e4]
    simp only [mThen_ok, Option.toList_some, Option.toList_none, List.cons_append, List.nil_append]
    rw [b_14_44]
  · have u := ((u1.trans u2).trans u3).trans u4
    refine u.ext fun g i j _ => ?_
    unfold hintM
    simp [mu_at]
theorem c_usePass (h : BW w b t C M) (hs : M 0 0 4 < 6) (hp : 1 ≤ M 3 (M 0 0 4) 3) : ∃ w', mK (d + 2) 15 [.ref b] w = some (.inl none, w') ∧ upB b w w' (passM M) := by
  have h8 := h.b.lo
  have u1 := h.uf3 hs (M 3 (M 0 0 4) 3 - 1)
  have h1 := h.up u1
  obtain ⟨w4, e4, u4⟩ := c_add (d := d) h1 (j := 3) (by decide)
  refine ⟨w4, ?_, ?_⟩
  · rw [e_15, b_15_0 (bT.t0 h.b), h.z4, c_spAt h.b hs]
    simp only [mThen_ok, Option.toList_some, Option.toList_none, List.cons_append, List.nil_append]
    rw [b_15_8 (bT.st h.b hs) (by show 166 ≤ b + 10 + 3 * M 0 0 4; omega) (bT.t0 h.b.wI), h.f3 hs, jsub hp, e4]
    simp only [mThen_ok, Option.toList_some, Option.toList_none, List.cons_append, List.nil_append]
    rw [b_15_22]
  · refine (u1.trans u4).ext fun g i j _ => ?_
    unfold passM
    simp [mu_at]
theorem c_hear (h : BW w b t C M) {s v : Nat} (hs : s < 6) (hv : v < C 0 0 2) : ∃ w', mK (d + 2) 21 [.ref b, .ref (spc b s), .int (nI v)] w = some (.inl none, w') ∧ upB b w w' (hearM C s v (C 3 v 0) M) := by
  have hk := h.k
  have h2 := hk.2.2.2.1 v hv
  have hk1 := hk.1
  have h8 := h.b.lo
  suffices key : ∀ m i w, i + m = C 3 v 0 → BW w b t C (hearM C s v i M) → ∃ w', mX (d + 2) 21 2 [.ref b, .ref (spc b s), .int (nI v), .int (nI i), mJ] [] w = some (.inl none, w') ∧ upB b w w' (hearM C s v (C 3 v 0) M) by
    obtain ⟨w', e, u⟩ := key _ 0 w (Nat.zero_add _) h
    exact ⟨w', by rw [e_21, b_21_0, e], u⟩
  intro m
  induction m with
  | zero =>
    intro i w hi h
    have hi : i = C 3 v 0 := hi
    subst hi
    refine ⟨w, ?_, h.refl⟩
    rw [b_21_2 (bT.t0 h.b) (bT.s0_0 h.b) (by rw [bT.g0_0 h.b]; exact tT.t0 h.t) (by rw [bT.g0_0 h.b]; exact tT.s0_5 h.t), bT.g0_0 h.b, tT.g0_5 h.t, c_size h.t h.c hk hv]
    simp only [mThen_ok, Option.toList_some, Option.toList_none, List.cons_append, List.nil_append]
    rw [b_21_14, if_pos (by rw [jle (by omega) (by omega)]; exact Nat.le_refl _), b_21_54]
  | succ m ih =>
    intro i w hi h
    have hr := h2.2.2 i (by omega)
    have u1 := h.uhe hs (j := C 4 v i) (by omega) (hearM C s v i M 5 s (C 4 v i) + 1)
    have h1 := h.up u1
    obtain ⟨w', e, u⟩ := ih (i + 1) _ (by omega) h1
    refine ⟨w', ?_, u1.trans u⟩
    rw [b_21_2 (bT.t0 h.b) (bT.s0_0 h.b) (by rw [bT.g0_0 h.b]; exact tT.t0 h.t) (by rw [bT.g0_0 h.b]; exact tT.s0_5 h.t), bT.g0_0 h.b, tT.g0_5 h.t, c_size h.t h.c hk hv]
    simp only [mThen_ok, Option.toList_some, Option.toList_none, List.cons_append, List.nil_append]
    rw [b_21_14, if_neg (by rw [jle (by omega) (by omega)]; omega), b_21_17 (bT.t0 h.b) (bT.s0_0 h.b) (by rw [bT.g0_0 h.b]; exact tT.t0 h.t), bT.g0_0 h.b, c_part h.t h.c hk hv (by omega)]
    simp only [mThen_ok, Option.toList_some, Option.toList_none, List.cons_append, List.nil_append]
    rw [b_21_26 (bT.st h.b hs) (bT.hs h.b hs), bT.hg h.b hs, c_getN (bT.ht h.b hs) (by rw [bT.hl h.b hs]; omega) (by rw [bT.hl h.b hs]; decide), h.he hs (by omega)]
    simp only [mThen_ok, Option.toList_some, Option.toList_none, List.cons_append, List.nil_append]
    rw [b_21_43, jadd, c_putN (bT.ht h.b hs) (by show 166 ≤ b + 12 + 3 * s; omega) (by rw [bT.hl h.b hs]; omega) (by rw [bT.hl h.b hs]; decide)]
    simp only [mThen_ok, Option.toList_some, Option.toList_none, List.cons_append, List.nil_append]
    rw [b_21_48, jadd, e]
theorem c_decide1 (h : BW w b t C M) {s : Nat} (hs : s < 6) : ∃ w', mK (d + 2) 23 [.ref b, .ref (spc b s), .int (nI 1)] w = some (.inl none, w') ∧ upB b w w' (mu (mu M 3 s 1 (M 3 s 1 + 1)) 1 0 4 (M 1 0 4 + 1)) := by
  have h8 := h.b.lo
  have u1 := h.uf1 hs (M 3 s 1 + 1)
  have h1 := h.up u1
  obtain ⟨w4, e4, u4⟩ := c_add (d := d) h1 (j := 4) (by decide)
  refine ⟨w4, ?_, (u1.trans u4).ext fun g i j _ => by simp [mu_at]⟩
  rw [e_23, b_23_0, if_neg n10, b_23_4 (bT.st h.b hs) (by show 166 ≤ b + 10 + 3 * s; omega) (bT.t0 h.b.wI), h.f1 hs, jadd, e4]
  simp only [mThen_ok, Option.toList_some, Option.toList_none, List.cons_append, List.nil_append]
  rw [b_23_19, b_23_32]
theorem c_decide0 (h : BW w b t C M) {s : Nat} (hs : s < 6) : ∃ w', mK (d + 2) 23 [.ref b, .ref (spc b s), .int (nI 0)] w = some (.inl none, w') ∧ upB b w w' (mu (mu M 3 s 4 0) 1 0 5 (M 1 0 5 + 1)) := by
  have h8 := h.b.lo
  have u1 := h.uf4 hs 0
  have h1 := h.up u1
  obtain ⟨w4, e4, u4⟩ := c_add (d := d) h1 (j := 5) (by decide)
  refine ⟨w4, ?_, (u1.trans u4).ext fun g i j _ => by simp [mu_at]⟩
  rw [e_23, b_23_0, if_pos rfl, b_23_22 (bT.st h.b hs) (by show 166 ≤ b + 10 + 3 * s; omega) (bT.t0 h.b.wI), e4]
  simp only [mThen_ok, Option.toList_some, Option.toList_none, List.cons_append, List.nil_append]
  rw [b_23_32]
theorem c_right (h : BW w b t C M) {s v : Nat} (hs : s < 6) (hv : v < 12) : ∃ w', mK (d + 2) 24 [.ref b, .ref (spc b s), .int (nI v), .int (nI 1)] w = some (.inl none, w') ∧ upB b w w' (rightM M s v) := by
  have h8 := h.b.lo
  have u1 := h.uws hv (M 2 v 0 + 1)
  have h1 := h.up u1
  have u2 := h1.uwr hv (M 2 v 1 + 1)
  have h2 := h1.up u2
  have u3 := h2.uf6 hs (M 3 s 6 + 1)
  have h3 := h2.up u3
  have u4 := h3.uz6 1
  have h4 := h3.up u4
  obtain ⟨w5, e5, u5⟩ := c_add (d := d) h4 (j := 0) (by decide)
  have u := (((u1.trans u2).trans u3).trans u4).trans u5
  refine ⟨w5, ?_, u.ext fun g i j _ => ?_⟩
  · have a1 : mI (wI w (b + 8) v (nI (M 2 v 0 + 1))) (b + 9) v = nI (M 2 v 1) := by rw [h1.wr hv]; simp [mu_at]
    have a2 : mI (wI (wI w (b + 8) v (nI (M 2 v 0 + 1))) (b + 9) v (nI (M 2 v 1 + 1))) (spc b s) 9 = nI (M 3 s 6) := by rw [h2.f6 hs]; simp [mu_at]
    rw [e_24, b_24_0 (bT.t0 h.b) (bT.s0_5 h.b), bT.g0_5 h.b, c_getN (bT.t8 h.b) (by rw [bT.l8 h.b]; exact hv) (by rw [bT.l8 h.b]; decide), h.ws hv]
    simp only [mThen_ok, Option.toList_some, Option.toList_none, List.cons_append, List.nil_append]
    rw [b_24_13, jadd, c_putN (bT.t8 h.b) (by show 166 ≤ b + 8; omega) (by rw [bT.l8 h.b]; exact hv) (by rw [bT.l8 h.b]; decide)]
    simp only [mThen_ok, Option.toList_some, Option.toList_none, List.cons_append, List.nil_append]
    rw [b_24_18, if_neg n10, b_24_22 (bT.t0 h1.b) (bT.s0_6 h1.b), bT.g0_6 h1.b, c_getN (bT.t9 h1.b) (by rw [bT.l9 h1.b]; exact hv) (by rw [bT.l9 h1.b]; decide), a1]
    simp only [mThen_ok, Option.toList_some, Option.toList_none, List.cons_append, List.nil_append]
    rw [b_24_35, jadd, c_putN (bT.t9 h1.b) (by show 166 ≤ b + 9; omega) (by rw [bT.l9 h1.b]; exact hv) (by rw [bT.l9 h1.b]; decide)]
    simp only [mThen_ok, Option.toList_some, Option.toList_none, List.cons_append, List.nil_append]
    rw [b_24_40 (bT.st h2.b hs) (by show 166 ≤ b + 10 + 3 * s; omega) (bT.t0 h2.b.wI) (by show 166 ≤ b; omega) (bT.t0 h2.b.wI.wI), a2, jadd, e5]
    simp only [mThen_ok, Option.toList_some, Option.toList_none, List.cons_append, List.nil_append]
    rw [b_24_60]
  · unfold rightM
    simp [mu_at]
theorem c_wrong (h : BW w b t C M) {s v : Nat} (hs : s < 6) (hv : v < 12) (hm : M 3 s 2 + 1 < 2147483648) : ∃ w', mK (d + 2) 24 [.ref b, .ref (spc b s), .int (nI v), .int (nI 0)] w = some (.inl none, w') ∧ upB b w w' (wrongM M s v) := by
  have h8 := h.b.lo
  have u1 := h.uws hv (M 2 v 0 + 1)
  have h1 := h.up u1
  obtain ⟨w2, e2, u2⟩ := c_add (d := d) h1 (j := 1) (by decide)
  have h2 := h1.up u2
  have u3 := h2.uf7 hs (M 3 s 7 + 1)
  have h3 := h2.up u3
  have u4 := h3.uf2 hs (M 3 s 2 + 1)
  have h4 := h3.up u4
  have u := ((u1.trans u2).trans u3).trans u4
  have a2 : mI w2 (spc b s) 10 = nI (M 3 s 7) := by rw [h2.f7 hs]; simp [mu_at]
  have a3 : mI (wI w2 (spc b s) 10 (nI (M 3 s 7 + 1))) (spc b s) 6 = nI (M 3 s 2) := by rw [h3.f2 hs]; simp [mu_at]
  have a4 : mI (wI (wI w2 (spc b s) 10 (nI (M 3 s 7 + 1))) (spc b s) 6 (nI (M 3 s 2 + 1))) (spc b s) 6 = nI (M 3 s 2 + 1) := by rw [h4.f2 hs]; simp [mu_at]
  have pre : mK (d + 2) 24 [.ref b, .ref (spc b s), .int (nI v), .int (nI 0)] w = if M 3 s 2 + 1 < 2 then mX (d + 2) 24 104 [mJ, mJ, mJ, mJ] [] (wI (wI w2 (spc b s) 10 (nI (M 3 s 7 + 1))) (spc b s) 6 (nI (M 3 s 2 + 1))) else mX (d + 2) 24 94 [mJ, .ref (spc b s), mJ, mJ] [] (wI (wI w2 (spc b s) 10 (nI (M 3 s 7 + 1))) (spc b s) 6 (nI (M 3 s 2 + 1))) := by
    rw [e_24, b_24_0 (bT.t0 h.b) (bT.s0_5 h.b), bT.g0_5 h.b, c_getN (bT.t8 h.b) (by rw [bT.l8 h.b]; exact hv) (by rw [bT.l8 h.b]; decide), h.ws hv]
    simp only [mThen_ok, Option.toList_some, Option.toList_none, List.cons_append, List.nil_append]
    rw [b_24_13, jadd, c_putN (bT.t8 h.b) (by show 166 ≤ b + 8; omega) (by rw [bT.l8 h.b]; exact hv) (by rw [bT.l8 h.b]; decide)]
    simp only [mThen_ok, Option.toList_some, Option.toList_none, List.cons_append, List.nil_append]
    rw [b_24_18, if_pos rfl, b_24_61 (bT.t0 h1.b), e2]
    simp only [mThen_ok, Option.toList_some, Option.toList_none, List.cons_append, List.nil_append]
    rw [b_24_66 (bT.st h2.b hs) (by show 166 ≤ b + 10 + 3 * s; omega) (bT.st h2.b.wI hs) (bT.st h2.b.wI.wI hs), a2, jadd, a3, jadd, a4, ijlt hm (by decide)]
  by_cases e : 2 ≤ M 3 s 2 + 1
  · have u5 := h4.uf0 hs 0
    have h5 := h4.up u5
    have u6 := h5.uf8 hs 1
    refine ⟨_, ?_, ((u.trans u5).trans u6).ext fun g i j _ => ?_⟩
    · rw [pre, if_neg (by omega), b_24_94 (bT.st h4.b hs) (by show 166 ≤ b + 10 + 3 * s; omega) (bT.st h4.b.wI hs), b_24_104]
    · unfold wrongM
      rw [if_pos e]
      simp [mu_at]
  · refine ⟨_, ?_, u.ext fun g i j _ => ?_⟩
    · rw [pre, if_pos (by omega), b_24_104]
    · unfold wrongM
      rw [if_neg e]
      simp [mu_at]
end
