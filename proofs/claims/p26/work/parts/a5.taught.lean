/-! ===== taught: a text onto the tape, and taught ===== -/
section
variable {d A L p f k c : Nat} {u w : MW} {tx : List Nat}
/-- one number of four bytes -/
theorem td_k (g : FA u c A tx) (h : FT u w A f (byA tx)) (hk : k < 5) (hf : f ≤ 2000) : ∃ w', mX (d + 6) 165 17 [.ref 166, .ref c, .ref A, .int (nI f), .int (nI k), mJ] [] w = mX (d + 6) 165 17 [.ref 166, .ref c, .ref A, .int (nI f), .int (nI (k + 1)), mJ] [] w' ∧ FT u w' A f (byA tx) ∧ mI w' A k = nI (pkB (byA tx) (f + 4 * k) 4) ∧ ∀ k', ¬ k' = k → mI w' A k' = mI w A k' := by
  have eE : mE = 166 := rfl
  have tA : mTg w A = 50 := by obtain ⟨⟨J, rfl, _⟩, _⟩ := h; exact g.2.2.2.2.2.2.2.2.1
  have lA : mLn w A = 5 := by obtain ⟨⟨J, rfl, _⟩, _⟩ := h; exact g.2.2.2.2.2.2.2.2.2.1
  have hA : 276 ≤ A := g.2.2.2.2.2.2.2.2.2.2.1
  have h0 := h.setA (k := k) (x := nI 0) hA
  have m0 : mI (wI w A k (nI 0)) A k = nI (pkB (byA tx) (f + 4 * k) 0) := by rw [miI, if_pos ⟨rfl, rfl⟩]; rfl
  obtain ⟨w1, e1, h1, m1, o1⟩ := td_i (d := d) (j := 0) g h0 hk hf (by decide) m0
  obtain ⟨w2, e2, h2, m2, o2⟩ := td_i (d := d) (j := 1) g h1 hk hf (by decide) m1
  obtain ⟨w3, e3, h3, m3, o3⟩ := td_i (d := d) (j := 2) g h2 hk hf (by decide) m2
  obtain ⟨w4, e4, h4, m4, o4⟩ := td_i (d := d) (j := 3) g h3 hk hf (by decide) m3
  refine ⟨w4, ?_, h4, m4, fun k' hk' => by rw [o4 k' hk', o3 k' hk', o2 k' hk', o1 k' hk', miI, if_neg (fun z => hk' z.2)]⟩
  rw [b_165_17, ijle (by decide) (by omega), if_neg (by omega), b_165_23 tA (by omega) (by omega) (by omega), b_165_28, jmul, jadd]
  refine (e1.trans (e2.trans (e3.trans e4))).trans ?_
  rw [b_165_36, jmul, jadd, jadd, ijle (by omega) (by omega), if_pos (by omega), b_165_87, jadd]
/-- twenty bytes -/
theorem td_f (g : FA u c A tx) (h : FT u w A f (byA tx)) (hf : f + 20 ≤ 2000) (hl : f < tx.length) : ∃ w', mX (d + 6) 165 6 [.ref 166, .ref c, .ref A, .int (nI f), mJ, mJ] [] w = mX (d + 6) 165 6 [.ref 166, .ref c, .ref A, .int (nI (f + 20)), mJ, mJ] [] w' ∧ FT u w' A (f + 20) (byA tx) := by
  have hs := h.str g
  have len : mK (d + 5) 149 [.ref c] w = some (.inl (some (.int (nI tx.length))), w) := c_slen (d := d + 4) hs
  have hL : tx.length < 2000 := g.2.2.2.2.2.2.2.2.2.2.2.1
  have hA : 276 ≤ A := g.2.2.2.2.2.2.2.2.2.2.1
  obtain ⟨w1, e1, h1, m1, o1⟩ := td_k (d := d) (k := 0) g h (by decide) (by omega)
  obtain ⟨w2, e2, h2, m2, o2⟩ := td_k (d := d) (k := 1) g h1 (by decide) (by omega)
  obtain ⟨w3, e3, h3, m3, o3⟩ := td_k (d := d) (k := 2) g h2 (by decide) (by omega)
  obtain ⟨w4, e4, h4, m4, o4⟩ := td_k (d := d) (k := 3) g h3 (by decide) (by omega)
  obtain ⟨w5, e5, h5, m5, o5⟩ := td_k (d := d) (k := 4) g h4 (by decide) (by omega)
  have tA : mTg w5 A = 50 := by obtain ⟨⟨J, rfl, _⟩, _⟩ := h5; exact g.2.2.2.2.2.2.2.2.1
  have lA : mLn w5 A = 5 := by obtain ⟨⟨J, rfl, _⟩, _⟩ := h5; exact g.2.2.2.2.2.2.2.2.2.1
  have k5 := h5.kw g.1
  have q0 : mI w5 A 0 = nI (pkB (byA tx) f 4) := by rw [o5 0 (by decide), o4 0 (by decide), o3 0 (by decide), o2 0 (by decide)]; exact m1
  have q1 : mI w5 A 1 = nI (pkB (byA tx) (f + 4) 4) := by rw [o5 1 (by decide), o4 1 (by decide), o3 1 (by decide)]; exact m2
  have q2 : mI w5 A 2 = nI (pkB (byA tx) (f + 8) 4) := by rw [o5 2 (by decide), o4 2 (by decide)]; exact m3
  have q3 : mI w5 A 3 = nI (pkB (byA tx) (f + 12) 4) := by rw [o5 3 (by decide)]; exact m4
  have q4 : mI w5 A 4 = nI (pkB (byA tx) (f + 16) 4) := m5
  obtain ⟨w6, e6, h6⟩ := c_feed (d := d + 3) g.1 hA h5 hf (byA_lt g.2.2.2.2.2.2.2.2.2.2.2.2)
  refine ⟨w6, ?_, h6⟩
  rw [b_165_6 hs.1, len]
  simp only [mThen_ok, Option.toList_some, Option.toList_none, List.cons_append, List.nil_append]
  rw [b_165_11, ijle (by omega) (by omega), if_neg (by omega), b_165_14, e1, e2, e3, e4, e5, b_165_17, ijle (by decide) (by decide), if_pos (by decide), b_165_93 tA (by omega) (by omega) (by omega) (by omega) (by omega) k5.t9, q0, q1, q2, q3, q4, e6]
  simp only [mThen_ok, Option.toList_some, Option.toList_none, List.cons_append, List.nil_append]
  rw [b_165_112, jadd]
/-- the whole text -/
theorem td_all (g : FA u c A tx) : ∀ (m f : Nat) (w : MW), f + 20 * m ≤ 2000 → tx.length ≤ f + 20 * m → f ≤ tx.length + 19 → FT u w A f (byA tx) → ∃ w' f', mX (d + 6) 165 6 [.ref 166, .ref c, .ref A, .int (nI f), mJ, mJ] [] w = mX (d + 6) 165 119 [.ref 166, .ref c, mJ, mJ, mJ, mJ] [] w' ∧ FT u w' A f' (byA tx) ∧ tx.length ≤ f' ∧ f' ≤ 2000 := by
  intro m
  induction m with
  | zero =>
    intro f w h1 h2 h3 h
    have hs := h.str g
    have len : mK (d + 5) 149 [.ref c] w = some (.inl (some (.int (nI tx.length))), w) := c_slen (d := d + 4) hs
    have hL : tx.length < 2000 := g.2.2.2.2.2.2.2.2.2.2.2.1
    refine ⟨w, f, ?_, h, by omega, by omega⟩
    rw [b_165_6 hs.1, len]
    simp only [mThen_ok, Option.toList_some, Option.toList_none, List.cons_append, List.nil_append]
    rw [b_165_11, ijle (by omega) (by omega), if_pos (by omega)]
  | succ m ih =>
    intro f w h1 h2 h3 h
    have hs := h.str g
    have len : mK (d + 5) 149 [.ref c] w = some (.inl (some (.int (nI tx.length))), w) := c_slen (d := d + 4) hs
    have hL : tx.length < 2000 := g.2.2.2.2.2.2.2.2.2.2.2.1
    by_cases z : tx.length ≤ f
    · refine ⟨w, f, ?_, h, z, by omega⟩
      rw [b_165_6 hs.1, len]
      simp only [mThen_ok, Option.toList_some, Option.toList_none, List.cons_append, List.nil_append]
      rw [b_165_11, ijle (by omega) (by omega), if_pos z]
    · obtain ⟨w1, e1, t1⟩ := td_f (d := d) g h (by omega) (by omega)
      obtain ⟨w2, f2, e2, t2, t3, t4⟩ := ih (f + 20) w1 (by omega) (by omega) (by omega) t1
      exact ⟨w2, f2, e1.trans e2, t2, t3, t4⟩
/-- the text is on the tape: what is left is to teach -/
theorem c_tape (q : KW u) (hs : STR u c tx) (hc : c < mSz u ∧ gR u c 0 < mSz u ∧ 276 ≤ c ∧ 276 ≤ gR u c 0) (hl : tx.length < 2000) (hb : ∀ p, tx.getD p 0 < 128) (h0 : mI u 167 1 = nI 0) :
    ∃ w', mK (d + 6) 165 [.ref 166, .ref c] u = mThen (mK (d + 5) 98 [.ref 166] w') (fun v w9 => mX (d + 6) 165 132 [mJ, mJ, mJ, mJ, mJ, mJ] (v.toList ++ []) w9) ∧ TP w' tx ∧ mSz w' = mSz u + 1 ∧ mSl w' = mSl u + 5 ∧ ∀ a, a < mSz u → ¬ a = 167 → ¬ a = 168 → mTg w' a = mTg u a ∧ mLn w' a = mLn u a ∧ mI w' a = mI u a ∧ mR w' a = mR u a := by
  have eE : mE = 166 := rfl
  have hz := q.1
  have q1 : KW (wN u 50 5 5) := q.of (by show mSz u ≤ mSz u + 1; omega) (fun a h1 h2 => ⟨tgN (by omega), lnN (by omega), mrN (by omega)⟩)
  have s1 : STR (wN u 50 5 5) c tx := hs.sm (X := fun _ => False) sm.wN hc.1 hc.2.1 id id
  have gc : gR (wN u 50 5 5) c 0 = gR u c 0 := by unfold gR; rw [mrN (by omega)]
  have g : FA (wN u 50 5 5) c (mSz u) tx := ⟨q1, s1, by omega, by omega, by omega, by rw [gc]; omega, by rw [gc]; omega, by rw [gc]; omega, if_pos rfl, if_pos rfl, by omega, hl, hb⟩
  have h1 : FT (wN u 50 5 5) (wN u 50 5 5) (mSz u) 0 (byA tx) := ⟨⟨mI (wN u 50 5 5), (wJ_self _).symm, fun _ _ _ => rfl⟩, by rw [miN (by omega)]; exact h0, fun p hp => absurd hp (by omega)⟩
  obtain ⟨w1, f, e1, t1, t2, t3⟩ := td_all (d := d) g 100 0 _ (by omega) (by omega) (by omega) h1
  have k1 := t1.kw q1
  have s2 := t1.str g
  have len : mK (d + 5) 149 [.ref c] w1 = some (.inl (some (.int (nI tx.length))), w1) := c_slen (d := d + 4) s2
  have kk : KW (wI w1 167 1 (nI tx.length)) := k1.wI
  refine ⟨wI w1 167 1 (nI tx.length), ?_, ⟨kk, by rw [miI, if_pos ⟨rfl, rfl⟩], by omega, fun p hp => ?_, hb⟩, ?_, ?_, fun a ha n1 n2 => ?_⟩
  · rw [e_165, b_165_0, b_165_3, e1, b_165_119 s2.1, len]
    simp only [mThen_ok, Option.toList_some, Option.toList_none, List.cons_append, List.nil_append]
    rw [b_165_124 k1.t9, e_97, b_97_0, ijlt (by omega) (by decide), if_neg (by omega), b_97_4 k1.t9 k1.s90 k1.t90, k1.g90, t1.2.1, ijle (by omega) (by omega), if_pos t2, b_97_25 k1.t9 k1.s90 k1.t90 (by rw [k1.g90]; omega), k1.g90]
    simp only [mThen_ok, Option.toList_some, Option.toList_none, List.cons_append, List.nil_append]
    rw [b_165_127 kk.t9]
  · rw [miI, if_neg (by omega), t1.2.2 p (by omega)]
    unfold byA
    rw [if_pos hp]
  · obtain ⟨⟨J, rfl, _⟩, _⟩ := t1; rfl
  · obtain ⟨⟨J, rfl, _⟩, _⟩ := t1; rfl
  · obtain ⟨⟨J, rfl, a1⟩, _⟩ := t1
    refine ⟨tgN (t := 50) (n := 5) (k := 5) (by omega), lnN (t := 50) (n := 5) (k := 5) (by omega), ?_, mrN (t := 50) (n := 5) (k := 5) (by omega)⟩
    funext j
    rw [miI, if_neg (by omega)]
    exact (a1 a j (by omega)).trans (congrFun (miN (by omega)) j)
end
