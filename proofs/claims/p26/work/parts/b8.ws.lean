/-! ===== the law's own list: what holds while it is written ===== -/
/-- cells from 276 on that are no StringBuilder, String or bytes stay as they are -/
def kpW (w w' : MW) : Prop := mSz w ≤ mSz w' ∧ ∀ c, 276 ≤ c → c < mSz w → ¬ mTg w c = 12 → ¬ mTg w c = 51 → ¬ mTg w c = 11 → mTg w' c = mTg w c ∧ mLn w' c = mLn w c ∧ mI w' c = mI w c ∧ mR w' c = mR w c
/-- the text so far is tx; the cells below 276 are as in u; at most k new cells -/
def WS (u w : MW) (tx : List Nat) (k : Nat) : Prop := SBW w 276 tx ∧ TX w ∧ DGW w ∧ (∀ c, c < 276 → mTg w c = mTg u c ∧ mLn w c = mLn u c ∧ mI w c = mI u c ∧ mR w c = mR u c) ∧ 278 ≤ mSz w ∧ gz k u w
section
variable {d i k n c j : Nat} {u w w' w1 : MW} {tx bs tx' : List Nat}
theorem kpW.refl : kpW w w := ⟨Nat.le_refl _, fun _ _ _ _ _ _ => ⟨rfl, rfl, rfl, rfl⟩⟩
theorem kpW.trans (h : kpW w w1) (g : kpW w1 w') : kpW w w' := by
  refine ⟨Nat.le_trans h.1 g.1, fun c q1 q2 n1 n2 n3 => ?_⟩
  obtain ⟨a1, a2, a3, a4⟩ := h.2 c q1 q2 n1 n2 n3
  obtain ⟨b1, b2, b3, b4⟩ := g.2 c q1 (Nat.lt_of_lt_of_le q2 h.1) (by rw [a1]; exact n1) (by rw [a1]; exact n2) (by rw [a1]; exact n3)
  exact ⟨b1.trans a1, b2.trans a2, b3.trans a3, b4.trans a4⟩
theorem kpW.sm (h : sm w w' (fun _ => False)) : kpW w w' := ⟨h.1, fun c _ q2 _ _ _ => h.2 c q2 id⟩
theorem WS.step (h : WS u w tx k) (s : SBW w' 276 tx') (g : sbs 276 j w w') : WS u w' tx' (k + j) ∧ kpW w w' := by
  obtain ⟨h1, h2, h3, h4, h5, h6⟩ := h
  have e1 := h1.2.2.2.2.2.1
  have lo : ∀ c, c < 276 → mTg w' c = mTg w c ∧ mLn w' c = mLn w c ∧ mI w' c = mI w c ∧ mR w' c = mR w c := fun c hc => g.1.2 c (by omega) (by rintro (q | q) <;> omega)
  refine ⟨⟨s, h2.of (fun c _ q2 => lo c (by omega)), ?_, fun c hc => ?_, by have := g.1.1; omega, h6.trans g.2.2⟩, g.1.1, fun c q1 q2 n1 n2 n3 => g.1.2 c q2 (by
    rintro (q | q)
    · exact n1 (by rw [q]; exact h1.1)
    · exact n2 (by rw [q]; exact h1.2.2.1))⟩
  · obtain ⟨p1, p2, p3, _⟩ := lo 2 (by decide)
    obtain ⟨q1, q2, q3, _⟩ := lo 3 (by decide)
    unfold DGW
    rw [p1, p2, p3, q1, q2, q3]
    exact h3
  · obtain ⟨p1, p2, p3, p4⟩ := lo c hc
    obtain ⟨q1, q2, q3, q4⟩ := h4 c hc
    exact ⟨p1.trans q1, p2.trans q2, p3.trans q3, p4.trans q4⟩
/-- a constant is written -/
theorem WS.app (h : WS u w tx k) (hi : i < 81) (hl : tx.length ≤ 2900) : ∃ w', mK (d + 6) 159 [.ref 276, .ref (4 + 2 * i)] w = some (.inl (some (.ref 276)), w') ∧ WS u w' (tx ++ sB i) (k + 1) ∧ kpW w w' := by
  have h0 := h
  obtain ⟨h1, h2, h3, h4, h5, h6⟩ := h
  have g := h2.g hi
  have e1 := h1.2.2.2.2.2.1
  have le := sB_le hi
  obtain ⟨w', e, s, b⟩ := c_app (d := d) h1 (h2.str hi) ⟨by omega, by rw [g]; omega⟩ ⟨by omega, by rw [g]; omega, by omega, by rw [g]; omega⟩ (by omega)
  obtain ⟨a, b'⟩ := h0.step s b
  exact ⟨w', e, a, b'⟩
/-- a number is written -/
theorem WS.appI (h : WS u w tx k) (hn : n < 100) (hl : tx.length ≤ 2900) : ∃ w', mK (d + 6) 160 [.ref 276, .int (nI n)] w = some (.inl (some (.ref 276)), w') ∧ WS u w' (tx ++ dec n) (k + 1) ∧ kpW w w' := by
  have h0 := h
  obtain ⟨h1, h2, h3, h4, h5, h6⟩ := h
  obtain ⟨w', e, s, b⟩ := c_appI (d := d) h1 h3 hn (by omega)
  obtain ⟨a, b'⟩ := h0.step s b
  exact ⟨w', e, a, b'⟩
/-- a String is written -/
theorem WS.appS (h : WS u w tx k) (hs : STR w c bs) (hc : c < mSz w ∧ gR w c 0 < mSz w) (hg : ¬ gR w c 0 = gR w 276 0) (hl : tx.length + bs.length ≤ 3000) : ∃ w', mK (d + 6) 159 [.ref 276, .ref c] w = some (.inl (some (.ref 276)), w') ∧ WS u w' (tx ++ bs) (k + 1) ∧ kpW w w' := by
  have h0 := h
  obtain ⟨h1, h2, h3, h4, h5, h6⟩ := h
  have t1 := h1.1
  have t2 := h1.2.2.1
  have s1 := hs.1
  have s2 := hs.2.2.1
  obtain ⟨w', e, s, b⟩ := c_app (d := d) h1 hs hc ⟨fun q => by rw [q, t1] at s1; exact absurd s1 (by decide), fun q => by rw [q, t1] at s2; exact absurd s2 (by decide), fun q => by rw [q, t2] at s1; exact absurd s1 (by decide), hg⟩ hl
  obtain ⟨a, b'⟩ := h0.step s b
  exact ⟨w', e, a, b'⟩
/-- new cells, or what is written into them: the text stays -/
theorem WS.sm {j : Nat} (h : WS u w tx k) (g : sm w w' (fun c => 278 ≤ c ∧ ¬ mTg w c = 51)) (hz : gz j w w') : WS u w' tx (k + j) := by
  obtain ⟨h1, h2, h3, h4, h5, h6⟩ := h
  have lo : ∀ c, c < 276 → mTg w' c = mTg w c ∧ mLn w' c = mLn w c ∧ mI w' c = mI w c ∧ mR w' c = mR w c := fun c hc => g.2 c (by omega) (by omega)
  refine ⟨h1.sm g (by omega) (fun q => q.2 h1.2.2.1), h2.of (fun c _ q2 => lo c (by omega)), h3.sm g (by omega) (by omega) (by omega), fun c hc => ?_, by have := g.1; omega, h6.trans hz⟩
  obtain ⟨p1, p2, p3, p4⟩ := lo c hc
  obtain ⟨q1, q2, q3, q4⟩ := h4 c hc
  exact ⟨p1.trans q1, p2.trans q2, p3.trans q3, p4.trans q4⟩
/-- the script's cells -/
theorem WS.cell (h : WS u w tx k) (ht : mTg u 1 = 50) (hl : mLn u 1 < 2147483648) (hk : n < 2147483648) : mK d 164 [.ref 1, .int (nI n)] w = some (.inl (some (.int (ce u 1 n))), w) := by
  obtain ⟨p1, p2, p3, _⟩ := h.2.2.2.1 1 (by decide)
  have e : ce w 1 n = ce u 1 n := by unfold ce; rw [p2, p3]
  rw [c_cell (p1.trans ht) (by rw [p2]; exact hl) hk, e]
end
