/-! ===== a word spelled ===== -/
theorem jgap {a b c : Nat} (ha : a < 1073741824) (hb : b < 1073741824) (hc : c < 1073741824) : nI c < nI a - nI b ↔ b + c < a := by
  by_cases h : b ≤ a
  · rw [jsub h, jlt (by omega) (by omega)]
    omega
  · constructor
    · intro q
      exfalso
      have e1 : nI a - nI b = -(nI (b - a)) := by
        have e2 : nI (b - a) + nI a = nI b := by rw [jadd]; congr 1; omega
        rw [← e2]
        grind
      rw [e1, Int32.lt_iff_toInt_lt, jti (by omega), Int32.toInt_neg, jti (by omega), Int.bmod_eq_of_le_mul_two (by omega) (by omega)] at q
      omega
    · intro q
      omega
theorem ijgap {α : Type} {a b c : Nat} {x y : α} (ha : a < 1073741824) (hb : b < 1073741824) (hc : c < 1073741824) : (if nI c < nI a - nI b then x else y) = if b + c < a then x else y := by simp only [jgap ha hb hc]
section
variable {d b t B : Nat} {w : MW} {C : CD} {M : MD}
theorem hearM_n (s v n : Nat) (M : MD) {g i j : Nat} (hg : ¬ g = 5) : hearM C s v n M g i j = M g i j := by
  induction n with
  | zero => rfl
  | succ n ih => rw [hearM, mu_n (by omega), ih]
theorem rightM_z (s v : Nat) {j : Nat} (hj : ¬ j = 6) : rightM M s v 0 0 j = M 0 0 j := by
  unfold rightM
  simp [mu_at, hj]
theorem wrongM_z (s v j : Nat) : wrongM M s v 0 0 j = M 0 0 j := by
  unfold wrongM
  split <;> simp [mu_at]
theorem outcomeM_z (s v : Nat) {j : Nat} (hj : ¬ j = 6) : outcomeM C M s v 0 0 j = M 0 0 j := by
  unfold outcomeM
  split
  · rw [rightM_z s v hj, hearM_n _ _ _ _ (by decide), mu_n (by omega)]
  · split
    · split
      · rw [rightM_z s v hj, mu_n (by omega), mu_n (by omega)]
      · rw [wrongM_z, mu_n (by omega), mu_n (by omega)]
    · rw [wrongM_z]
theorem strongM_le (hk : CfOk C) (hm : MOk C B M) {s v : Nat} (hv : v < C 0 0 2) : strongM C M s v ≤ B + 20 := by
  have h1 := leastM_le (s := s) hm hk hv (C 3 v 0) (Nat.le_refl _)
  have h2 := hm.2.2.1
  unfold strongM
  split <;> omega
/-- behind the outcome: written down, and the next place -/
theorem c_spellEnd (h : BW w b t C M) {v : Nat} {M1 : MD} {x5 : Int32} {s : Nat} (hs : s < 6) (hq : M 0 0 1 < C 0 0 4) (hp : M 0 0 3 < C 7 (M 0 0 1) 2) (hz : ∀ j, ¬ j = 6 → M1 0 0 j = M 0 0 j)
    (hw : ∃ w', mK (d + 5) 24 [.ref b, .ref (spc b s), .int (nI v), .int x5] w = some (.inl none, w') ∧ upB b w w' M1) : ∃ w', mX (d + 6) 20 107 [.ref b, .ref (spc b s), .int (nI v), mJ, mJ, .int x5] [] w = some (.inl none, w') ∧ upB b w w' (mu (mu M1 0 0 3 (if M 0 0 3 + 1 < C 7 (M 0 0 1) 2 then M 0 0 3 + 1 else 0)) 8 0 3 (M1 8 0 3 + 1)) := by
  obtain ⟨w1, e1, u1⟩ := hw
  have h1 := h.up u1
  have hk := h.k.1
  have h8 := h.b.lo
  have hc := (h1.c.2.2.2.2.2.1 _ hq).2.2.1
  have hsz := (h.k.2.2.2.2.2.1 _ hq)
  have pre : mX (d + 6) 20 107 [.ref b, .ref (spc b s), .int (nI v), mJ, mJ, .int x5] [] w = if C 7 (M 0 0 1) 2 ≤ M 0 0 3 + 1 then mX (d + 6) 20 148 [mJ, mJ, mJ, mJ, mJ, mJ] [.ref b] w1 else mX (d + 6) 20 139 [.ref b, mJ, mJ, mJ, mJ, mJ] [.ref b] w1 := by
    rw [b_20_107 (bT.t0 h.b), e1]
    simp only [mThen_ok, Option.toList_some, Option.toList_none, List.cons_append, List.nil_append]
    rw [b_20_115 (bT.t0 h1.b) (bT.s0_0 h1.b) (by rw [bT.g0_0 h1.b]; exact tT.t0 h1.t) (by rw [bT.g0_0 h1.b]; exact tT.s0_12 h1.t), bT.g0_0 h1.b, tT.g0_12 h1.t, h1.z1, h1.z3, hz 1 (by decide), hz 3 (by decide), jadd, c_getN (tT.t13 h1.t) (by rw [tT.l13 h1.t]; omega) (by rw [tT.l13 h1.t]; decide), hc]
    simp only [mThen_ok, Option.toList_some, Option.toList_none, List.cons_append, List.nil_append]
    rw [b_20_136, ijle (by omega) (by omega)]
  by_cases e : M 0 0 3 + 1 < C 7 (M 0 0 1) 2
  · have u2 := h1.uz3 (M 0 0 3 + 1)
    refine ⟨_, ?_, ((u1.trans u2).ign (g := 8) (i := 0) (j := 3) (x := M1 8 0 3 + 1) (by omega)).ext fun g i j _ => ?_⟩
    · rw [pre, if_neg (by omega), b_20_139 (bT.t0 h1.b), h1.z3, hz 3 (by decide), jadd, b_20_149 (bT.t0 h1.b) (by show 166 ≤ b; omega)]
    · rw [if_pos e]
  · have u2 := h1.uz3 0
    refine ⟨_, ?_, ((u1.trans u2).ign (g := 8) (i := 0) (j := 3) (x := M1 8 0 3 + 1) (by omega)).ext fun g i j _ => ?_⟩
    · rw [pre, if_pos (by omega), b_20_148, b_20_149 (bT.t0 h1.b) (by show 166 ≤ b; omega)]
    · rw [if_neg e]
theorem c_spell (h : BW w b t C M) (hm : MOk C B M) (hB : B ≤ 1000000000) (hn : ¬ M 0 0 4 = NEG) : ∃ w', mK (d + 6) 20 [.ref b] w = some (.inl none, w') ∧ upB b w w' (spellM C M) := by
  obtain ⟨hs, hq, hp, -⟩ := hm.who hn
  have hk := h.k.1
  have h8 := h.b.lo
  have hs6 : M 0 0 4 < 6 := by omega
  have hw2 := (h.k.2.2.2.2.2.1 _ hq).2.2.2.2.2 _ hp
  have hw : wordM C M < C 0 0 2 := hw2
  have hwN : wordN C M = wordM C M := if_neg hn
  have hh := hardM_le h.k hw
  have hg := strongM_le (s := M 0 0 4) h.k hm hw
  have q2 := hm.1 3 (M 0 0 4) 2 (by decide) (by decide)
  have pre : mK (d + 6) 20 [.ref b] w = if strongM C M (M 0 0 4) (wordM C M) + 0 < hardM C (wordM C M) then mX (d + 6) 20 67 [.ref b, .ref (spc b (M 0 0 4)), .int (nI (wordM C M)), mJ, .int (nI (hardM C (wordM C M)) - nI (strongM C M (M 0 0 4) (wordM C M))), mJ] [] w
      else mX (d + 6) 20 44 [.ref b, .ref (spc b (M 0 0 4)), .int (nI (wordM C M)), .int (nI (hardM C (wordM C M))), mJ, .int (nI 1)] [] w := by
    rw [e_20, b_20_0 (bT.t0 h.b), h.z4, c_spAt h.b hs6]
    simp only [mThen_ok, Option.toList_some, Option.toList_none, List.cons_append, List.nil_append]
    rw [b_20_8 (bT.t0 h.b), c_word h hm (by omega), hwN]
    simp only [mThen_ok, Option.toList_some, Option.toList_none, List.cons_append, List.nil_append]
    rw [b_20_13 (bT.t0 h.b) (bT.s0_0 h.b) (by rw [bT.g0_0 h.b]; exact tT.t0 h.t), bT.g0_0 h.b, c_hard h.t h.k h.h hw]
    simp only [mThen_ok, Option.toList_some, Option.toList_none, List.cons_append, List.nil_append]
    rw [b_20_22 (bT.t0 h.b), h.z4, c_strong h hm (by omega) hs6 hw]
    simp only [mThen_ok, Option.toList_some, Option.toList_none, List.cons_append, List.nil_append]
    rw [b_20_33, ijgap (by omega) (by omega) (by decide)]
  have hz := fun j (hj : ¬ j = 6) => outcomeM_z (C := C) (M := M) (M 0 0 4) (wordM C M) (j := j) hj
  have h83 : outcomeM C M (M 0 0 4) (wordM C M) 8 0 3 = M 8 0 3 := by
    unfold outcomeM rightM wrongM
    repeat' split
    all_goals simp [mu_at, hearM_n]
  -- the outcome's world, whatever it is
  have fin : ∀ (w1 : MW) (M0 : MD) (x5 : Int32), upB b w w1 M0 → (∀ j, ¬ j = 6 → M0 0 0 j = M 0 0 j) → (∃ w', mK (d + 5) 24 [.ref b, .ref (spc b (M 0 0 4)), .int (nI (wordM C M)), .int x5] w1 = some (.inl none, w') ∧ upB b w1 w' (outcomeM C M (M 0 0 4) (wordM C M))) → ∃ w', mX (d + 6) 20 107 [.ref b, .ref (spc b (M 0 0 4)), .int (nI (wordM C M)), mJ, mJ, .int x5] [] w1 = some (.inl none, w') ∧ upB b w w' (spellM C M) := fun w1 M0 x5 u1 hz0 hx => by
    obtain ⟨w', e, u⟩ := c_spellEnd (h.up u1) (M1 := outcomeM C M (M 0 0 4) (wordM C M)) hs6 (by rw [hz0 1 (by decide)]; exact hq) (by rw [hz0 1 (by decide), hz0 3 (by decide)]; exact hp) (fun j hj => by rw [hz j hj, hz0 j hj]) hx
    refine ⟨w', e, (u1.trans u).ext fun g i j _ => ?_⟩
    unfold spellM
    rw [hz0 3 (by decide), hz0 1 (by decide), h83]
  by_cases e : hardM C (wordM C M) ≤ strongM C M (M 0 0 4) (wordM C M)
  · have u1 := h.uf1 hs6 (M 3 (M 0 0 4) 1 + (1 + hardM C (wordM C M) / 4))
    have h1 := h.up u1
    obtain ⟨w2, e2, u2⟩ := c_hear (d := d + 3) h1 hs6 hw
    have h2 := h1.up u2
    obtain ⟨w3, e3, u3⟩ := c_right (d := d + 3) h2 hs6 (v := wordM C M) (by omega)
    obtain ⟨w', e9, u9⟩ := fin w2 _ (nI 1) (u1.trans u2) (fun j hj => by rw [hearM_n _ _ _ _ (by decide), mu_n (by omega)]) ⟨w3, e3, u3.ext fun g i j _ => by unfold outcomeM; rw [if_pos e]⟩
    refine ⟨w', ?_, u9⟩
    rw [pre, if_neg (by omega), b_20_44 (bT.st h.b hs6) (by show 166 ≤ b + 10 + 3 * M 0 0 4; omega) (bT.t0 h.b.wI), h.f1 hs6, jdiv (by omega) (by decide), jadd, jadd, e2]
    simp only [mThen_ok, Option.toList_some, Option.toList_none, List.cons_append, List.nil_append]
    rw [b_20_64, e9]
  · have q4 := (hm.2.2.2.2.2.1 (M 0 0 4)).2.2
    have go104 : ∀ w1, upB b w w1 M → ¬ (M 3 (M 0 0 4) 4 = 1 ∧ wantsM C M (C 0 0 5) = true) → ∃ w', mX (d + 6) 20 104 [.ref b, .ref (spc b (M 0 0 4)), .int (nI (wordM C M)), mJ, mJ, mJ] [] w1 = some (.inl none, w') ∧ upB b w w' (spellM C M) := fun w1 u1 hno => by
      obtain ⟨w3, e3, u3⟩ := c_wrong (d := d + 3) (h.up u1) hs6 (v := wordM C M) (by omega) (by omega)
      obtain ⟨w', e9, u9⟩ := fin w1 _ (nI 0) u1 (fun j hj => rfl) ⟨w3, e3, u3.ext fun g i j _ => by unfold outcomeM; rw [if_neg e, if_neg hno]⟩
      exact ⟨w', by rw [b_20_104, e9], u9⟩
    by_cases ea : M 3 (M 0 0 4) 4 = 1
    · obtain ⟨w1, e1, u1⟩ := c_wants (d := d) h hm (by omega)
      have h1 := h.up u1
      rcases Bool.eq_false_or_eq_true (wantsM C M (C 0 0 5)) with hv | hv
      · have mid : mK (d + 6) 20 [.ref b] w = if strongM C M (M 0 0 4) (wordM C M) + 2 < hardM C (wordM C M) then mX (d + 6) 20 91 [.ref b, .ref (spc b (M 0 0 4)), .int (nI (wordM C M)), mJ, mJ, mJ] [] w1 else mX (d + 6) 20 87 [.ref b, .ref (spc b (M 0 0 4)), .int (nI (wordM C M)), mJ, mJ, mJ] [] w1 := by
          rw [pre, if_pos (by omega), b_20_67 (bT.st h.b hs6), h.f4 hs6, ea, if_neg n10, b_20_74 (bT.t0 h.b), e1, hv]
          simp only [mThen_ok, Option.toList_some, Option.toList_none, List.cons_append, List.nil_append]
          rw [b_20_78, if_neg nbt, b_20_81, ijgap (by omega) (by omega) (by decide)]
        by_cases e2 : hardM C (wordM C M) ≤ strongM C M (M 0 0 4) (wordM C M) + 2
        · obtain ⟨w2, e3, u2⟩ := c_decide1 (d := d + 3) h1 hs6
          have h2 := h1.up u2
          obtain ⟨w3, e4, u3⟩ := c_right (d := d + 3) h2 hs6 (v := wordM C M) (by omega)
          obtain ⟨w', e9, u9⟩ := fin w2 _ (nI 1) (u1.trans u2) (fun j hj => by rw [mu_n (by omega), mu_n (by omega)]) ⟨w3, e4, u3.ext fun g i j _ => by unfold outcomeM; rw [if_neg e, if_pos ⟨ea, hv⟩, if_pos e2]⟩
          refine ⟨w', ?_, u9⟩
          rw [mid, if_neg (by omega), b_20_87, b_20_92 (bT.t0 h1.b), e3]
          simp only [mThen_ok, Option.toList_some, Option.toList_none, List.cons_append, List.nil_append]
          rw [b_20_101, e9]
        · obtain ⟨w2, e3, u2⟩ := c_decide0 (d := d + 3) h1 hs6
          have h2 := h1.up u2
          obtain ⟨w3, e4, u3⟩ := c_wrong (d := d + 3) h2 hs6 (v := wordM C M) (by omega) (by rw [mu_n (by omega), mu_n (by omega)]; omega)
          obtain ⟨w', e9, u9⟩ := fin w2 _ (nI 0) (u1.trans u2) (fun j hj => by rw [mu_n (by omega), mu_n (by omega)]) ⟨w3, e4, u3.ext fun g i j _ => by unfold outcomeM; rw [if_neg e, if_pos ⟨ea, hv⟩, if_neg e2]⟩
          refine ⟨w', ?_, u9⟩
          rw [mid, if_pos (by omega), b_20_91, b_20_92 (bT.t0 h1.b), e3]
          simp only [mThen_ok, Option.toList_some, Option.toList_none, List.cons_append, List.nil_append]
          rw [b_20_101, e9]
      · obtain ⟨w', e9, u9⟩ := go104 w1 u1 (by simp [hv])
        refine ⟨w', ?_, u9⟩
        rw [pre, if_pos (by omega), b_20_67 (bT.st h.b hs6), h.f4 hs6, ea, if_neg n10, b_20_74 (bT.t0 h.b), e1, hv]
        simp only [mThen_ok, Option.toList_some, Option.toList_none, List.cons_append, List.nil_append]
        rw [b_20_78, if_pos nbf, e9]
    · obtain ⟨w', e9, u9⟩ := go104 w h.refl (fun q => ea q.1)
      refine ⟨w', ?_, u9⟩
      rw [pre, if_pos (by omega), b_20_67 (bT.st h.b hs6), h.f4 hs6, show M 3 (M 0 0 4) 4 = 0 by omega, if_pos rfl, e9]
end
