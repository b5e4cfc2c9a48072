/-! ===== the law, from what its own list does ===== -/
section
variable {d : Nat} {w : MW}
/-- a new StringBuilder -/
theorem c_newSB (hz : 166 ≤ mSz w) : ∃ w', mK (d + 1) 158 [.ref (mSz w)] (wN w 12 0 (mNf 12)) = some (.inl none, w') ∧ SBW w' (mSz w) [] ∧ sm w w' (fun _ => False) ∧ mSz w' = mSz w + 2 ∧ mSl w' = mSl w + 20 ∧ gR w' (mSz w) 0 = mSz w + 1 := by
  have eE : mE = 166 := rfl
  have zz : mSz (wN w 12 0 (mNf 12)) = mSz w + 1 := rfl
  have t0 : mTg (wN w 12 0 (mNf 12)) (mSz w) = 12 := if_pos rfl
  have t1 : mTg (wN (wN w 12 0 (mNf 12)) 51 16 16) (mSz w) = 12 := (tgN (w := wN w 12 0 (mNf 12)) (by omega)).trans t0
  have t2 : mTg (wR (wN (wN w 12 0 (mNf 12)) 51 16 16) (mSz w) 0 (some (mSz w + 1))) (mSz w) = 12 := t1
  have v0 : mR (wI (wR (wN (wN w 12 0 (mNf 12)) 51 16 16) (mSz w) 0 (some (mSz w + 1))) (mSz w) 1 (nI 0)) (mSz w) 0 = some (mSz w + 1) := if_pos ⟨rfl, rfl⟩
  have g0 : gR (wI (wR (wN (wN w 12 0 (mNf 12)) 51 16 16) (mSz w) 0 (some (mSz w + 1))) (mSz w) 1 (nI 0)) (mSz w) 0 = mSz w + 1 := gR_of v0
  have n1 : mTg (wN (wN w 12 0 (mNf 12)) 51 16 16) (mSz w + 1) = 51 := if_pos rfl
  have n2 : mLn (wN (wN w 12 0 (mNf 12)) 51 16 16) (mSz w + 1) = 16 := if_pos rfl
  have m3 : mI (wN (wN w 12 0 (mNf 12)) 51 16 16) (mSz w) 3 = nI 0 := by
    rw [miN (w := wN w 12 0 (mNf 12)) (by omega)]
    exact (if_pos rfl).trans (by decide +kernel)
  refine ⟨wI (wR (wN (wN w 12 0 (mNf 12)) 51 16 16) (mSz w) 0 (some (mSz w + 1))) (mSz w) 1 (nI 0), ?_, ⟨t2, ?_, ?_, ?_, ?_, ?_, by omega, ?_, ?_, ?_, ?_, fun j hj => absurd hj (Nat.not_lt_zero _)⟩, ?_, rfl, rfl, g0⟩
  · rw [e_158, b_158_0 (by omega), e_170, b_170_0 (by omega), b_170_10 (x1 := 16) (by decide) (by decide), zz, b_170_14 t1 (by omega), b_170_17 t2 (by omega), b_170_22]
    simp only [mThen_ok, Option.toList_some, Option.toList_none, List.cons_append, List.nil_append]
    rw [b_158_6]
  · rw [g0]; exact v0
  · rw [g0]; exact n1
  · rw [g0]; omega
  · rw [g0]; show mSz w + 1 < mSz w + 1 + 1; omega
  · rw [g0]; omega
  · rw [miI, if_pos ⟨rfl, rfl⟩]
  · rw [miI, if_neg (by omega)]; exact m3
  · exact Nat.zero_le _
  · rw [g0]
    have : mLn (wI (wR (wN (wN w 12 0 (mNf 12)) 51 16 16) (mSz w) 0 (some (mSz w + 1))) (mSz w) 1 (nI 0)) (mSz w + 1) = 16 := n2
    rw [this]; decide
  · refine (((sm.wN (X := fun _ => False)).trans (sm.wN (X := fun _ => False)) (fun c _ q => q)).trans (sm.wR (X := fun c => c = mSz w) rfl) (fun c hc q => ?_)).trans (sm.wI (X := fun c => c = mSz w) rfl) (fun c hc q => ?_)
    · have : c = mSz w := q; omega
    · have : c = mSz w := q; omega
/-- what the law's own list has to do -/
def WRT : Prop := ∀ (u : MW) (d : Nat), KW u → TX u → DGW u → mTg u 1 = 50 → mLn u 1 < 2147483648 → SBW u 276 [] → mSz u = 278 → gR u 276 0 = 277 →
  ∃ w' σ, mK (d + 20) 167 [.ref 1, .ref 276] u = some (.inl (some (.ref σ)), w') ∧ SW w' σ (CS (ce u 1)) (begM (CS (ce u 1)) 0) ∧ SB w' σ (CS (ce u 1)) (mSz w') ∧ SBW w' 276 (flat (EL (CS (ce u 1)))) ∧ (∀ c, c < 276 → mTg w' c = mTg u c ∧ mLn w' c = mLn u c ∧ mI w' c = mI u c ∧ mR w' c = mR u c) ∧ 278 ≤ mSz w' ∧ mSz w' ≤ mSz u + 1000 ∧ mSl w' ≤ mSl u + 5000000
theorem lawRuns_of (hW : WRT) : lawRuns := by
  intro L xs hL
  have eE : mE = 166 := rfl
  have z0 : mSz (W0 L xs) = 166 := rfl
  have h00 : CW (W0 L xs) (W0 L xs) 0 0 0 := ⟨⟨rfl, Nat.le_refl _⟩, fun i hi => absurd hi (by omega), fun j hj => absurd hj (by omega), fun j hj => absurd hj (by omega), fun c k q1 q2 => absurd q2 (by omega), fun c _ _ => ⟨rfl, rfl, rfl, rfl⟩⟩
  have h1 : CW (W0 L xs) (wN (W0 L xs) 9 0 (mNf 9)) 1 0 0 := CW.N rfl (by decide) h00
  obtain ⟨w2, e2, c2⟩ := c_ctor (d := 35) h1
  have k2 := c2.kw
  have z2 : mSz w2 = 276 := c2.1.1
  have a2 : agr (W0 L xs) w2 0 166 := c2.2.2.2.2.2
  have x2 : TX w2 := TX.W0.of a2
  obtain ⟨w4, e4, s4, f4, z4, y4, g4⟩ := c_newSB (d := 38) (w := w2) (by omega)
  rw [z2] at e4 s4 z4 g4
  have k4 : KW w4 := k2.of f4.1 (fun c q1 q2 => by have q := f4.2 c (by omega) id; exact ⟨q.1, q.2.1, q.2.2.2⟩)
  have same4 : ∀ c, c < 276 → mTg w4 c = mTg w2 c ∧ mLn w4 c = mLn w2 c ∧ mI w4 c = mI w2 c ∧ mR w4 c = mR w2 c := fun c hc => f4.2 c (by omega) id
  have x4 : TX w4 := x2.of (fun c _ q2 => same4 c (by omega))
  have low : ∀ c, c < 166 → mTg w4 c = mTg (W0 L xs) c ∧ mLn w4 c = mLn (W0 L xs) c ∧ mI w4 c = mI (W0 L xs) c ∧ mR w4 c = mR (W0 L xs) c := fun c hc => by
    obtain ⟨p1, p2, p3, p4⟩ := same4 c (by omega)
    obtain ⟨q1, q2, q3, q4⟩ := a2 c (Nat.zero_le _) hc
    exact ⟨p1.trans q1, p2.trans q2, p3.trans q3, p4.trans q4⟩
  have d4 : DGW w4 := by
    have h := DGW.W0 (L := L) (xs := xs)
    obtain ⟨p1, p2, p3, _⟩ := low 2 (by decide)
    obtain ⟨q1, q2, q3, _⟩ := low 3 (by decide)
    unfold DGW
    rw [p1, p2, p3, q1, q2, q3]
    exact h
  have t1 : mTg w4 1 = 50 := (low 1 (by decide)).1
  have l1 : mLn w4 1 = L := (low 1 (by decide)).2.1
  obtain ⟨w5, σ, e5, sw5, sb5, tx5, low5, z5, z5', y5⟩ := hW w4 19 k4 x4 d4 t1 (by omega) s4 (by omega) g4
  have hC : CB (CS (ce w4 1)) := CS_cb _
  generalize hCC : CS (ce w4 1) = C at sw5 sb5 tx5 hC
  have tl := text_len hC
  have k5 : KW w5 := k4.of (by omega) (fun c q1 q2 => by have q := low5 c (by omega); exact ⟨q.1, q.2.1, q.2.2.2⟩)
  obtain ⟨w6, e6, s6, f6, b6, g6, z6⟩ := c_toStr (d := 33) tx5 (by omega)
  have k6 : KW w6 := k5.of f6.1 (fun c q1 q2 => by have q := f6.2 c (by omega) id; exact ⟨q.1, q.2.1, q.2.2.2⟩)
  have same6 : ∀ c, c < mSz w5 → mTg w6 c = mTg w5 c ∧ mLn w6 c = mLn w5 c ∧ mI w6 c = mI w5 c ∧ mR w6 c = mR w5 c := fun c hc => f6.2 c hc id
  have to2 : ∀ c, c < 276 → mTg w6 c = mTg w2 c ∧ mLn w6 c = mLn w2 c ∧ mI w6 c = mI w2 c ∧ mR w6 c = mR w2 c := fun c hc => by
    obtain ⟨p1, p2, p3, p4⟩ := same6 c (by omega)
    obtain ⟨q1, q2, q3, q4⟩ := low5 c hc
    obtain ⟨r1, r2, r3, r4⟩ := same4 c hc
    exact ⟨p1.trans (q1.trans r1), p2.trans (q2.trans r2), p3.trans (q3.trans r3), p4.trans (q4.trans r4)⟩
  have zero2 : ∀ c k, 166 ≤ c → c < 276 → ¬ c = 166 → ¬ c = 220 → ¬ c = 248 → mI w2 c k = nI 0 := fun c k q1 q2 => c2.2.2.2.2.1 c k q1 q2
  obtain ⟨w7, e7, tp7, z7, y7, f7⟩ := c_tape (d := 33) k6 s6 ⟨by omega, by rw [g6]; omega, by omega, by rw [g6]; omega⟩ tl (text_lt hC) (by rw [(to2 167 (by decide)).2.2.1]; exact zero2 167 1 (by decide) (by decide) (by decide) (by decide) (by decide))
  have x6 : TX w6 := x2.of (fun c _ q2 => to2 c (by omega))
  have x7 : TX w7 := x6.of (fun c _ q2 => f7 c (by omega) (by omega) (by omega))
  obtain ⟨w8, e8, g8, f8⟩ := c_teach (d := 21) hC.cf hC.kn hC.rg hC.sp (by have := hC.1; omega) (by have := hC.1; omega) rfl rfl (EL_len hC) (PL_len hC) (lex_EL hC) rfl tl (EL_role hC) tp7 x7
    (fun c hc j => by rw [(f7 c (by omega) (by omega) (by omega)).2.2.1, (to2 c (by omega)).2.2.1]; exact zero2 c j (by omega) (by omega) (by omega) (by omega) (by omega))
    (by rw [(f7 218 (by omega) (by omega) (by omega)).2.2.1, (to2 218 (by decide)).2.2.1]; exact zero2 218 3 (by decide) (by decide) (by decide) (by decide) (by decide))
    (by rw [(f7 220 (by omega) (by omega) (by omega)).2.2.1, (to2 220 (by decide)).2.2.1]; exact (c2.2.2.2.1 0 (by decide)).1)
  -- the law's bee is as it was
  have ag8 : agr w5 w8 276 (mSz w5) := fun c q1 q2 => by
    obtain ⟨p1, p2, p3, p4⟩ := f7 c (by omega) (by omega) (by omega)
    obtain ⟨r1, r2, r3, r4⟩ := same6 c q2
    obtain ⟨J, rfl, a⟩ := f8
    exact ⟨p1.trans r1, p2.trans r2, (funext fun j => a c j (Or.inr (by omega))).trans (p3.trans r3), p4.trans r4⟩
  have lw : LW w8 σ (mSz w5) C (begM C 0) := by
    refine ⟨g8, sw5.ag sb5 ag8, SB.ag sw5.1 sb5 ag8, by omega, ?_, ?_⟩
    · obtain ⟨J, rfl, a⟩ := f8
      show mSz w5 ≤ mSz w7
      omega
    · obtain ⟨J, rfl, a⟩ := f8
      obtain ⟨p1, p2, _, _⟩ := f7 1 (by omega) (by omega) (by omega)
      obtain ⟨r1, r2, _, _⟩ := same6 1 (by omega)
      obtain ⟨q1, q2, _, _⟩ := low5 1 (by decide)
      exact ⟨p1.trans (r1.trans (q1.trans t1)), by show mLn w7 1 < _; rw [p2, r2, q2, l1]; omega⟩
  obtain ⟨wf, ef, gf⟩ := law_rest (d := 30) lw (mok_beg hC) (sok_beg hC) (iv_beg hC) (by decide) (by have := hC.1; omega) (by have := hC.1; omega) (by have := hC.1; omega)
  refine ⟨wf, ?_, ?_, ?_⟩
  · have t5 : mTg w5 276 = 12 := tx5.1
    rw [e_169, b_169_0, z0, b_169_3 (by decide), e2]
    simp only [mThen_ok, Option.toList_some, Option.toList_none, List.cons_append, List.nil_append]
    rw [b_169_7, z2, b_169_11 (by decide), e4]
    simp only [mThen_ok, Option.toList_some, Option.toList_none, List.cons_append, List.nil_append]
    rw [b_169_15, e5]
    simp only [mThen_ok, Option.toList_some, Option.toList_none, List.cons_append, List.nil_append]
    rw [b_169_21 t5, e6]
    simp only [mThen_ok, Option.toList_some, Option.toList_none, List.cons_append, List.nil_append]
    rw [b_169_27, e7, e8]
    simp only [mThen_ok, Option.toList_some, Option.toList_none, List.cons_append, List.nil_append]
    rw [b_165_132]
    simp only [mThen_ok, Option.toList_some, Option.toList_none, List.cons_append, List.nil_append]
    rw [b_169_30, if_pos rfl]
    exact ef
  · have := gf.2.1
    have e : mSz w8 = mSz w7 := by obtain ⟨J, rfl, _⟩ := f8; rfl
    omega
  · have := gf.2.2
    have e : mSl w8 = mSl w7 := by obtain ⟨J, rfl, _⟩ := f8; rfl
    have e1 := b6.2
    have e2 := c2.1.2
    have e3 : mSl (W0 L xs) = 0 := rfl
    omega
end
