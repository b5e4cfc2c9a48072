/-! ===== the law's own list: its beginning ===== -/
section
variable {d k : Nat} {u w : MW}
theorem wr_beg (h : WS u w [] k) (hz : mSz w = 278) (h1 : mTg u 1 = 50) (l1 : mLn u 1 < 2147483648) :
    ∃ w', mK (d + 7) 167 [.ref 1, .ref 276] w = mX (d + 7) 167 27 [.ref 1, .ref 276, .ref 278, .int (nI 0), mJ, mJ, mJ, mJ, mJ] [] w' ∧ WS u w' [] (k + 12 + 1) ∧ mSz w' = 291 ∧ mTg w' 278 = 10 ∧ mR w' 278 7 = some 279 ∧ mR w' 278 8 = some 290 ∧ mTg w' 279 = 50 ∧ mLn w' 279 = 6 ∧ (∀ j, mI w' 279 j = nI 0) ∧ (∀ j, ¬ j = 1 → mI w' 278 j = nI 0) ∧ mTg w' 290 = 50 ∧ mLn w' 290 = CS (ce u 1) 0 0 0 := by
  have eE : mE = 166 := rfl
  obtain ⟨w1, e1, s1⟩ := c_simNew (d := d + 5) (u := w) (by omega)
  obtain ⟨z1, y1, f1, t1, r7, t7, l7, i7, i1⟩ := s1
  rw [hz] at e1 z1 t1 r7 t7 l7 i7 i1
  have a1 : WS u w1 [] (k + 12) := h.sm (f1.mono (fun _ _ q => False.elim q)) ⟨by omega, by omega⟩
  have cT : CS (ce u 1) 0 0 0 = 1 + bl (ce u 1 0) 3 := rfl
  have bT : bl (ce u 1 0) 3 < 3 := bl_lt _ (by decide)
  generalize hT : CS (ce u 1) 0 0 0 = T at cT
  have n1 : mTg (wN w1 50 T T) 278 = 10 := (tgN (w := w1) (t := 50) (n := T) (k := T) (by omega)).trans t1
  have a2 : WS u (wR (wN w1 50 T T) 278 8 (some 290)) [] (k + 12 + 1) := by
    refine a1.sm ?_ ⟨by show mSz w1 + 1 ≤ _; omega, by show mSl w1 + T ≤ _; omega⟩
    refine (sm.wN (X := fun c => 278 ≤ c ∧ ¬ mTg w1 c = 51)).trans (sm.wR (X := fun c => c = 278) rfl) (fun c hc q => ?_)
    have : c = 278 := q
    subst this
    exact ⟨Nat.le_refl _, by rw [t1]; decide⟩
  refine ⟨wR (wN w1 50 T T) 278 8 (some 290), ?_, a2, ?_, n1, ?_, (show (if 278 = 278 ∧ 8 = 8 then some 290 else mR (wN w1 50 T T) 278 8) = some 290 from if_pos ⟨rfl, rfl⟩), (tgN (w := w1) (t := 50) (n := T) (k := T) (by omega)).trans t7, (lnN (w := w1) (t := 50) (n := T) (k := T) (by omega)).trans l7, fun j => ?_, fun j hj => ?_, ?_, ?_⟩
  · rw [e_167, b_167_0, hz, b_167_3 (by omega), e1]
    simp only [mThen_ok, Option.toList_some, Option.toList_none, List.cons_append, List.nil_append]
    rw [b_167_7, a1.cell h1 l1 (by decide)]
    simp only [mThen_ok, Option.toList_some, Option.toList_none, List.cons_append, List.nil_append]
    rw [b_167_15, c_below _ (by decide) (by decide)]
    simp only [mThen_ok, Option.toList_some, Option.toList_none, List.cons_append, List.nil_append]
    rw [b_167_19 (z0 := T) (by rw [jadd, cT]) (by omega) (by omega), z1, b_167_22 n1 (by omega), b_167_25]
  · show mSz w1 + 1 = 291; omega
  · show (if 278 = 278 ∧ 7 = 8 then some 290 else mR (wN w1 50 T T) 278 7) = _
    rw [if_neg (by omega), mrN (by omega)]
    exact r7
  · show mI (wN w1 50 T T) 279 j = _
    rw [miN (by omega)]; exact i7 j
  · show mI (wN w1 50 T T) 278 j = _
    rw [miN (by omega)]; exact i1 j hj
  · exact if_pos (by show 290 = mSz w1; omega)
  · exact if_pos (by show 290 = mSz w1; omega)
end
