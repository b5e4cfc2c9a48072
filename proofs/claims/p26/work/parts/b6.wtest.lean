/-! ===== the law writes a test: method 166 ===== -/
section
variable {d s n v m a : Nat} {u : MW}
theorem c_test (hm : m < 9) (hs : s < 10) (hv : v < 10) (hn : n < 100) (ht : TX u) (hd : DGW u) (hz : 276 ≤ mSz u) (ha : mTg u a = 50 ∧ mLn u a = 6 ∧ a < mSz u) (h2 : mI u a 2 = nI m) (h3 : mI u a 3 = nI n) (h4 : mI u a 4 = nI s) (h5 : mI u a 5 = nI v) :
    ∃ w' b, mK (d + 7) 166 [.ref a] u = some (.inl (some (.ref b)), w') ∧ STR w' b (flat (testL m s n v)) ∧ b < mSz w' ∧ gR w' b 0 < mSz w' ∧ ((b = 106 ∧ gR w' b 0 = 107) ∨ (mSz u ≤ b ∧ gR w' b 0 = b + 1)) ∧ sm u w' (fun _ => False) ∧ TX w' ∧ DGW w' ∧ gz 40 u w' := by
  have eE : mE = 166 := rfl
  have q33 := sB_le (i := 33) (by decide)
  have q34 := sB_le (i := 34) (by decide)
  have l33 : (sB 33).length = 2 := by decide +kernel
  have l34 : (sB 34).length = 2 := by decide +kernel
  have ds := (dec_len s).1
  have dv := (dec_len v).1
  obtain ⟨w0, e0, r0⟩ := BR.new (d := d + 5) ht hd hz
  obtain ⟨w1, e1, r1⟩ := r0.app (d := d) (i := 33) (by decide) (by simp only [List.length_nil]; omega)
  obtain ⟨w2, e2, r2⟩ := r1.appI (d := d) (n := s) (by omega) (by simp only [List.length_append, List.length_nil]; omega)
  obtain ⟨wA, eA, sA, fA, xA, dA, gA, bA, zA, mA⟩ := r2.str (d := d) (by simp only [List.length_append, List.length_nil]; omega)
  have sA' : STR wA (mSz w2) (sB 33 ++ dec s) := sA
  obtain ⟨a1, a2, a3, a4⟩ := r1.2.2.2.2.2.1 a (Nat.zero_le _) ha.2.2
  obtain ⟨p0, e3, r3⟩ := BR.new (d := d + 5) xA dA (by omega)
  obtain ⟨p1, e4, r4⟩ := r3.app (d := d) (i := 34) (by decide) (by simp only [List.length_nil]; omega)
  obtain ⟨p2, e5, r5⟩ := r4.appI (d := d) (n := v) (by omega) (by simp only [List.length_append, List.length_nil]; omega)
  obtain ⟨wB, eB, sB', fB, xB, dB, gB, bB, zB, mB⟩ := r5.str (d := d) (by simp only [List.length_append, List.length_nil]; omega)
  have sB2 : STR wB (mSz p2) (sB 34 ++ dec v) := sB'
  have sA2 : STR wB (mSz w2) (sB 33 ++ dec s) := sA'.sm fB (by omega) (by rw [bA]; omega) id id
  have gA2 : gR wB (mSz w2) 0 = mSz w2 + 1 := by unfold gR; rw [(fB.2 (mSz w2) (by omega) id).2.2.2]; exact bA
  obtain ⟨b1, b2, b3, b4⟩ := fA.2 a ha.2.2 id
  obtain ⟨c1, c2, c3, c4⟩ := r4.2.2.2.2.2.1 a (Nat.zero_le _) (by omega)
  obtain ⟨f1, f2, f3, f4⟩ := fB.2 a (by omega) id
  have u2 : mI wB a 2 = nI m := by rw [f3, b3]; exact h2
  have uT : mTg wB a = 50 := f1.trans (b1.trans ha.1)
  have uL : mLn wB a = 6 := f2.trans (b2.trans ha.2.1)
  have pre : mK (d + 7) 166 [.ref a] u = mX (d + 7) 166 47 [.ref a, .int (nI n), .ref (mSz w2), mJ] [.ref (mSz p2)] wB := by
    rw [e_166, b_166_0 ha.1 (by omega), h3, b_166_7 (show mE ≤ mSz u by omega), e0]
    simp only [mThen_ok, Option.toList_some, Option.toList_none, List.cons_append, List.nil_append]
    rw [b_166_11 r0.1.1, e1]
    simp only [mThen_ok, Option.toList_some, Option.toList_none, List.cons_append, List.nil_append]
    rw [b_166_16 (a1.trans ha.1) (by rw [a2]; omega) r1.1.1, a3, h4, e2]
    simp only [mThen_ok, Option.toList_some, Option.toList_none, List.cons_append, List.nil_append]
    rw [b_166_22 r2.1.1, eA]
    simp only [mThen_ok, Option.toList_some, Option.toList_none, List.cons_append, List.nil_append]
    rw [b_166_25, b_166_29 (show mE ≤ mSz wA by omega), e3]
    simp only [mThen_ok, Option.toList_some, Option.toList_none, List.cons_append, List.nil_append]
    rw [b_166_33 r3.1.1, e4]
    simp only [mThen_ok, Option.toList_some, Option.toList_none, List.cons_append, List.nil_append]
    rw [b_166_38 (c1.trans (b1.trans ha.1)) (by rw [c2, b2]; omega) r4.1.1, c3, b3, h5, e5]
    simp only [mThen_ok, Option.toList_some, Option.toList_none, List.cons_append, List.nil_append]
    rw [b_166_44 r5.1.1, eB]
    simp only [mThen_ok, Option.toList_some, Option.toList_none, List.cons_append, List.nil_append]
  rw [pre]
  have fin : ∀ {pc : Nat} {L : List Value} {tx : List Nat}, OT (d + 7) pc L [] wB tx → ∃ w' b, mX (d + 7) 166 pc L [] wB = some (.inl (some (.ref b)), w') ∧ STR w' b tx ∧ b < mSz w' ∧ gR w' b 0 < mSz w' ∧ ((b = 106 ∧ gR w' b 0 = 107) ∨ (mSz u ≤ b ∧ gR w' b 0 = b + 1)) ∧ sm u w' (fun _ => False) ∧ TX w' ∧ DGW w' ∧ gz 40 u w' := by
    intro pc L tx h
    obtain ⟨w', b, o1, o2, o3, o4, o5, o6, o7, o8, o9⟩ := h
    refine ⟨w', b, o1, o2, o3, o4, ?_, (fA.trans fB (fun _ _ q => q)).trans o6 (fun _ _ q => q), o7, o8, ((gA.trans gB).trans o9).mono (by omega)⟩
    rcases o5 with q | q
    · exact Or.inl q
    · exact Or.inr ⟨by omega, q.2⟩
  have k1 : mSz w2 < mSz wB ∧ gR wB (mSz w2) 0 < mSz wB := ⟨by omega, by rw [gA2]; omega⟩
  have k2 : mSz p2 < mSz wB ∧ gR wB (mSz p2) 0 < mSz wB := ⟨by omega, by rw [bB]; omega⟩
  have l1 : (sB 33 ++ dec s).length ≤ 10 := by rw [List.length_append]; omega
  have l2 : (sB 34 ++ dec v).length ≤ 10 := by rw [List.length_append]; omega
  have hzB : 276 ≤ mSz wB := by omega
  rcases (show m = 0 ∨ m = 1 ∨ m = 2 ∨ m = 3 ∨ m = 4 ∨ m = 5 ∨ m = 6 ∨ m = 7 ∨ m = 8 by omega) with z | z | z | z | z | z | z | z | z <;> subst z
  · rw [s_166_47_0 uT (by omega) u2, ← tst_tx0 hs (v := v)]
    exact fin (wt_0 xB dB hzB hn sA2 k1 l1 sB2 k2 l2)
  · rw [s_166_47_1 uT (by omega) u2, ← tst_tx1 hs (v := v)]
    exact fin (wt_1 xB dB hzB hn sA2 k1 l1 sB2 k2 l2)
  · rw [s_166_47_2 uT (by omega) u2, ← tst_tx2 hs (n := n) (v := v)]
    exact fin (wt_2 xB dB hzB hn sA2 k1 l1 sB2 k2 l2)
  · rw [s_166_47_3 uT (by omega) u2, ← tst_tx3 (s := s) (v := v)]
    exact fin (wt_3 xB dB hzB hn sA2 k1 l1 sB2 k2 l2)
  · rw [s_166_47_4 uT (by omega) u2, ← tst_tx4 hs (v := v)]
    exact fin (wt_4 xB dB hzB hn sA2 k1 l1 sB2 k2 l2)
  · rw [s_166_47_5 uT (by omega) u2, ← tst_tx5 hs hv (v := v)]
    exact fin (wt_5 xB dB hzB hn sA2 k1 l1 sB2 k2 l2)
  · rw [s_166_47_6 uT (by omega) u2, ← tst_tx6 hs hv (v := v)]
    exact fin (wt_6 xB dB hzB hn sA2 k1 l1 sB2 k2 l2)
  · rw [s_166_47_7 uT (by omega) u2]
    exact fin (wt_7 xB dB hzB)
  · rw [s_166_47_d uT (by omega) (by rw [u2, jti (by decide)]; omega), ← tst_tx8 hs (v := v)]
    exact fin (wt_8 xB dB hzB hn sA2 k1 l1 sB2 k2 l2)
end
