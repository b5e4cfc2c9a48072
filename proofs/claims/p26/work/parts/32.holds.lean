/-! ===== the tests, each reckoned ===== -/
section
variable {d b t B : Nat} {w : MW} {C : CD} {M : MD}
theorem dle {a b : Nat} (ha : a < 2147483648) (hb : b < 2147483648) : decide (nI a ≤ nI b) = decide (a ≤ b) := by simp only [jle ha hb]
theorem dlt {a b : Nat} (ha : a < 2147483648) (hb : b < 2147483648) : decide (nI a < nI b) = decide (a < b) := by simp only [jlt ha hb]
theorem deq {a b : Nat} (ha : a < 2147483648) (hb : b < 2147483648) : decide (nI a = nI b) = decide (a = b) := by simp only [jeq ha hb]
theorem su_le {n k : Nat} {f : Nat → Nat} (h : ∀ i, i < n → f i ≤ k) : su n f ≤ n * k := by
  induction n with
  | zero => simp [su]
  | succ n ih =>
    have h1 := ih (fun i hi => h i (by omega))
    have h2 := h n (by omega)
    rw [su, Nat.succ_mul]
    omega
theorem hardM_le (hk : CfOk C) {v : Nat} (hv : v < C 0 0 2) : hardM C v ≤ 45 := by
  have h2 := hk.2.2.2.1 v hv
  have a1 : lettersM C v ≤ C 3 v 0 * 9 := su_le fun p hp => (hk.2.2.1 _ (h2.2.2 p hp)).2.1
  have a2 : su (C 3 v 0) (fun p => C 2 (C 4 v p) 2) ≤ C 3 v 0 * 9 := su_le fun p hp => (hk.2.2.1 _ (h2.2.2 p hp)).2.2
  unfold hardM
  omega
theorem leftM_le (hk : CfOk C) (hm : MOk C B M) : leftM C M ≤ 6 := by
  have h1 : leftM C M ≤ C 0 0 3 * 1 := su_le fun s hs => (hm.2.2.2.2.2.1 s).1
  have h2 := hk.1
  omega
theorem code_ok (hk : CfOk C) (hm : MOk C B M) (hB : B ≤ 1073741824) {o : Nat} (ho : o < C 0 0 5) : ∃ L, codeM C o = L ++ [(59, 0)] ∧ okL C M L [] ∧ evL C M L [] = [bI (holdsM C M o)] := by
  have h9 := hk.2.2.2.2.2.2 o ho
  obtain ⟨g0, g1, g2, g3, g4, g5⟩ := h9
  have p1 := hm.1 3 (C 9 o 4) 1 (by decide) (by decide)
  have p2 := hm.1 3 (C 9 o 4) 2 (by decide) (by decide)
  have p3 := hm.1 3 (C 9 o 4) 3 (by decide) (by decide)
  have p0 := hm.2.1
  have pi := (hm.2.2.2.2.2.1 (C 9 o 4)).1
  have ph := hardM_le hk g5
  have pl := leftM_le hk hm
  have hcase : C 9 o 2 = 0 ∨ C 9 o 2 = 1 ∨ C 9 o 2 = 2 ∨ C 9 o 2 = 3 ∨ C 9 o 2 = 4 ∨ C 9 o 2 = 5 ∨ C 9 o 2 = 6 ∨ C 9 o 2 = 7 ∨ C 9 o 2 = 8 := by omega
  rcases hcase with e | e | e | e | e | e | e | e | e
  · refine ⟨[(23, C 9 o 4), (259, C 9 o 3), (62, 0)], by simp [codeM, e], by simp [okL, okQ, ev1, isOp, isJn, g4], ?_⟩
    simp [evL, ev1, isOp, opV, jn, holdsM, e, bI_le]
  · refine ⟨[(21, C 9 o 4), (259, C 9 o 3), (257, 0)], by simp [codeM, e], by simp [okL, okQ, ev1, isOp, isJn, g4], ?_⟩
    simp [evL, ev1, isOp, opV, jn, holdsM, e, bI_lt]
    rw [dle (by omega) (by omega)]
  · refine ⟨[(22, C 9 o 4), (259, 1), (61, 0)], by simp [codeM, e], by simp [okL, okQ, ev1, isOp, isJn, g4], ?_⟩
    simp [evL, ev1, isOp, opV, jn, holdsM, e, bI_eq]
    rw [deq (by omega) (by omega)]
  · refine ⟨[(19, 0), (259, C 9 o 3), (62, 0)], by simp [codeM, e], by simp [okL, okQ, ev1, isOp, isJn], ?_⟩
    simp [evL, ev1, isOp, opV, jn, holdsM, e, bI_le]
    rw [dlt (by omega) (by omega)]
  · refine ⟨[(20, 0), (259, C 9 o 3), (256, 0), (9, C 9 o 4), (259, 0), (62, 0), (27, 0)], by simp [codeM, e], by simp [okL, okQ, ev1, isOp, isJn, g4], ?_⟩
    simp [evL, ev1, isOp, opV, jn, holdsM, e, bI_le, bI_lt, bI_and]
    rw [dle (by omega) (by omega), dlt (by omega) (by omega)]
  · refine ⟨[(25, C 9 o 4), (26, 0), (5, C 9 o 5), (259, C 9 o 3), (62, 0), (28, 0)], by simp [codeM, e], by simp [okL, okQ, ev1, isOp, isJn, g4, g5], ?_⟩
    simp [evL, ev1, isOp, opV, jn, holdsM, e, bI_le, bI_not, bI_or]
    rw [dlt (by omega) (by omega)]
  · refine ⟨[(24, C 9 o 4), (23, C 9 o 4), (5, C 9 o 5), (259, 2), (47, 0), (45, 0), (259, C 9 o 3), (60, 0), (27, 0)], by simp [codeM, e], by simp [okL, okQ, ev1, isOp, isJn, g4, g5], ?_⟩
    have q1 : nI (M 3 (C 9 o 4) 0) = bI (decide (M 3 (C 9 o 4) 0 = 1)) := by
      rcases (show M 3 (C 9 o 4) 0 = 0 ∨ M 3 (C 9 o 4) 0 = 1 by omega) with q | q <;> rw [q] <;> rfl
    have q2 : ¬ nI 2 = nI 0 := by decide +kernel
    simp [evL, ev1, isOp, opV, jn, holdsM, e, bI_le, q1, q2, jdiv (show hardM C (C 9 o 5) < 2147483648 by omega) (show 2 < 2147483648 by omega), bI_and]
  · refine ⟨[(259, 1), (259, 1), (61, 0)], by simp [codeM, e], by simp [okL, okQ, ev1, isOp, isJn], ?_⟩
    simp [evL, ev1, isOp, opV, jn, holdsM, e]
    rfl
  · refine ⟨[(21, C 9 o 4), (259, C 9 o 3), (29, 0), (259, 2), (42, 0), (19, 0), (259, 3), (47, 0), (62, 0)], by simp [codeM, e], by simp [okL, okQ, ev1, isOp, isJn, g4], ?_⟩
    have q2 : ¬ nI 3 = nI 0 := by decide +kernel
    have q3 : (if nI (C 9 o 3) < nI (M 3 (C 9 o 4) 1) then nI (C 9 o 3) else nI (M 3 (C 9 o 4) 1)) = nI (min (M 3 (C 9 o 4) 1) (C 9 o 3)) := by
      rw [ijlt (by omega) (by omega)]
      split
      · rw [Nat.min_eq_right (by omega)]
      · rw [Nat.min_eq_left (by omega)]
    simp [evL, ev1, isOp, opV, jn, holdsM, e, bI_le, q2, q3, jdiv (show M 0 0 0 < 2147483648 by omega) (show 3 < 2147483648 by omega), jmul]
    rw [dlt (by omega) (by omega)]
theorem c_holds (h : BW w b t C M) (hm : MOk C B M) (hB : B ≤ 1073741824) {o : Nat} (ho : o < C 0 0 5) : ∃ w', mK (d + 4) 48 [.ref (b + 1), .ref b, .int (nI o)] w = some (.inl (some (.int (bI (holdsM C M o)))), w') ∧ upB b w w' M := by
  have hk := h.k.1
  have h8 := h.b.lo
  have hti := h.b.thi
  have hE : mE ≤ b + 1 := by show 166 ≤ b + 1; omega
  obtain ⟨P, z, hz4, hz, hP⟩ := h.c.2.2.2.2.2.2.2
  obtain ⟨hPo, hPl, hcode⟩ := hP o ho
  obtain ⟨L, hL, hok, hev⟩ := code_ok h.k hm hB ho
  have u0 : upB b w (wI w (b + 1) 1 (nI 0)) M := upB.junk h.m (by omega) (by omega)
  have h0 := h.up u0
  have r0 : RS (wI w (b + 1) 1 (nI 0)) b [] := ⟨by rw [mI_wI, if_pos ⟨rfl, rfl⟩]; rfl, fun i x hx => by simp at hx⟩
  have hlen : (codeM C o).length = L.length + 1 := by rw [hL]; simp
  obtain ⟨w1, e1, u1, r1⟩ := H_all (d := d) (z := z) hm hB hz4 L (P o) [] (wI w (b + 1) 1 (nI 0)) h0 r0 (by rw [u0.out (Or.inl (by omega))]; exact hz) (by omega) hok (fun k a x hk => by
    rw [u0.out (c := t + 19) (Or.inl (by omega)), u0.out (c := t + 20) (Or.inl (by omega))]
    refine hcode k a x ?_
    rw [hL, List.getElem?_append_left]
    · exact hk
    · rcases Nat.lt_or_ge k L.length with q | q
      · exact q
      · rw [List.getElem?_eq_none q] at hk; cases hk)
  have h1 := h0.up u1
  rw [hev] at r1
  have u01 := u0.trans u1
  have hlast := hcode L.length 59 0 (by rw [hL]; simp)
  obtain ⟨w2, e2, u2, r2⟩ := c_pop (d := d + 2) h1 r1 (by simp)
  refine ⟨w2, ?_, u01.trans u2⟩
  rw [e_48, b_48_0 (bT.t0 h.b) (bT.s0_0 h.b), bT.g0_0 h.b, c_word h hm hB]
  simp only [mThen_ok, Option.toList_some, Option.toList_none, List.cons_append, List.nil_append]
  rw [b_48_9 (bT.t1 h.b) hE (tT.t0 h0.t) (tT.s0_16 h0.t), tT.g0_16 h0.t, c_getN (tT.t17 h0.t) (by rw [tT.l17 h0.t]; omega) (by rw [tT.l17 h0.t]; decide), u0.out (c := t + 17) (Or.inl (by omega)), hPo]
  simp only [mThen_ok, Option.toList_some, Option.toList_none, List.cons_append, List.nil_append]
  rw [b_48_24]
  have e1' := e1
  unfold hdH at e1'
  rw [e1']
  have hg := H_get (d := d) (W := nI (wordN C M)) h1 (i := P o + L.length) (a := 59) (z := z) (by rw [u01.out (Or.inl (by omega))]; exact hz) (by omega) hz4 (by rw [u01.out (Or.inl (by omega))]; exact hlast.1)
  unfold hdH at hg
  rw [hg, s_48_64_59 rfl, b_48_377 (bT.t1 h1.b), e2]
  simp only [mThen_ok, Option.toList_some, Option.toList_none, List.cons_append, List.nil_append]
  rw [b_48_381]
  cases holdsM C M o with
  | true => rw [if_neg nbt, b_48_384, b_48_389 kr1]; rfl
  | false => rw [if_pos nbf, b_48_388, b_48_389 kr0]; rfl
end
