/-! ===== the law writes a test: by program (wip/p26/mkwtest.py) ===== -/
/-- a StringBuilder at β with the text tx; below it all is as in u; at most k new cells -/
def BR (u w : MW) (β : Nat) (tx : List Nat) (k : Nat) : Prop := SBW w β tx ∧ TX w ∧ DGW w ∧ 166 ≤ β ∧ β < mSz w ∧ agr u w 0 β ∧ gz k u w ∧ mSz u ≤ mSz w
section
variable {d i k n c β : Nat} {u w w' : MW} {tx bs : List Nat}
theorem sbs.below {j : Nat} (h : SBW w β tx) (g : sbs β j w w') (hz : β < mSz w) : agr w w' 0 β := fun c _ hc => g.1.2 c (by omega) (by
  have := h.2.2.2.2.2.1
  rintro (q | q) <;> omega)
theorem BR.step {tx' : List Nat} {j : Nat} (h : BR u w β tx k) (s : SBW w' β tx') (g : sbs β j w w') : BR u w' β tx' (k + j) := by
  obtain ⟨h1, h2, h3, h4, h5, h6, h7, h8⟩ := h
  have a := g.below h1 h5
  have l := g.1.1
  have e1 := h1.2.2.2.2.2.1
  refine ⟨s, h2.of (fun c q1 q2 => a c q1 (by omega)), ?_, h4, by omega, h6.trans a, h7.trans g.2.2, by omega⟩
  obtain ⟨p1, p2, p3, _⟩ := a 2 (by omega) (by omega)
  obtain ⟨q1, q2, q3, _⟩ := a 3 (by omega) (by omega)
  unfold DGW
  rw [p1, p2, p3, q1, q2, q3]
  exact h3
/-- a constant is appended -/
theorem BR.app (h : BR u w β tx k) (hi : i < 81) (hl : tx.length ≤ 2900) : ∃ w', mK (d + 6) 159 [.ref β, .ref (4 + 2 * i)] w = some (.inl (some (.ref β)), w') ∧ BR u w' β (tx ++ sB i) (k + 1) := by
  have h0 := h
  obtain ⟨h1, h2, h3, h4, h5, h6, h7, h8⟩ := h
  have g := h2.g hi
  have e1 := h1.2.2.2.2.2.1
  have le := sB_le hi
  obtain ⟨w', e, s, b⟩ := c_app (d := d) h1 (h2.str hi) ⟨by omega, by rw [g]; omega⟩ ⟨by omega, by rw [g]; omega, by omega, by rw [g]; omega⟩ (by omega)
  exact ⟨w', e, h0.step s b⟩
/-- a String below is appended -/
theorem BR.appS (h : BR u w β tx k) (hs : STR u c bs) (hc : c < β ∧ gR u c 0 < β) (hl : tx.length + bs.length ≤ 3000) : ∃ w', mK (d + 6) 159 [.ref β, .ref c] w = some (.inl (some (.ref β)), w') ∧ BR u w' β (tx ++ bs) (k + 1) := by
  have h0 := h
  obtain ⟨h1, h2, h3, h4, h5, h6, h7, h8⟩ := h
  obtain ⟨p1, p2, p3, p4⟩ := h6 c (Nat.zero_le _) hc.1
  obtain ⟨q1, q2, q3, q4⟩ := h6 _ (Nat.zero_le _) hc.2
  have g : gR w c 0 = gR u c 0 := by unfold gR; rw [p4]
  have e1 := h1.2.2.2.2.2.1
  have s' : STR w c bs := by
    unfold STR
    rw [g, p1, p4, q1, q2, p3, q3]
    exact hs
  obtain ⟨w', e, s, b⟩ := c_app (d := d) h1 s' ⟨by omega, by rw [g]; omega⟩ ⟨by omega, by rw [g]; omega, by omega, by rw [g]; omega⟩ hl
  exact ⟨w', e, h0.step s b⟩
/-- a number is appended -/
theorem BR.appI (h : BR u w β tx k) (hn : n < 100) (hl : tx.length ≤ 2900) : ∃ w', mK (d + 6) 160 [.ref β, .int (nI n)] w = some (.inl (some (.ref β)), w') ∧ BR u w' β (tx ++ dec n) (k + 1) := by
  have h0 := h
  obtain ⟨h1, h2, h3, h4, h5, h6, h7, h8⟩ := h
  obtain ⟨w', e, s, b⟩ := c_appI (d := d) h1 h3 hn (by omega)
  exact ⟨w', e, h0.step s b⟩
/-- a new one -/
theorem BR.new (ht : TX u) (hd : DGW u) (hz : 276 ≤ mSz u) : ∃ w', mK (d + 1) 158 [.ref (mSz u)] (wN u 12 0 (mNf 12)) = some (.inl none, w') ∧ BR u w' (mSz u) [] 2 := by
  obtain ⟨w', e, s, f, z, y, g⟩ := c_newSB (d := d) (w := u) (by omega)
  have a : agr u w' 0 (mSz u) := fun c _ hc => f.2 c hc id
  refine ⟨w', e, s, ht.of (fun c q1 q2 => a c q1 (by omega)), ?_, by omega, by omega, a, ⟨by omega, by omega⟩, by omega⟩
  obtain ⟨p1, p2, p3, _⟩ := a 2 (by omega) (by omega)
  obtain ⟨q1, q2, q3, _⟩ := a 3 (by omega) (by omega)
  unfold DGW
  rw [p1, p2, p3, q1, q2, q3]
  exact hd
/-- its text as a String: what was there before it is as it was -/
theorem BR.str (h : BR u w (mSz u) tx k) (hl : tx.length ≤ 3000) : ∃ w', mK (d + 6) 161 [.ref (mSz u)] w = some (.inl (some (.ref (mSz w))), w') ∧ STR w' (mSz w) tx ∧ sm u w' (fun _ => False) ∧ TX w' ∧ DGW w' ∧ gz (k + 2) u w' ∧ gR w' (mSz w) 0 = mSz w + 1 ∧ mSz w' = mSz w + 2 ∧ mSz u ≤ mSz w := by
  obtain ⟨h1, h2, h3, h4, h5, h6, h7, h8⟩ := h
  obtain ⟨w', e, s, f, g, b, z⟩ := c_toStr (d := d) h1 hl
  have a : ∀ c, c < mSz u → mTg w' c = mTg u c ∧ mLn w' c = mLn u c ∧ mI w' c = mI u c ∧ mR w' c = mR u c := fun c hc => by
    obtain ⟨p1, p2, p3, p4⟩ := h6 c (Nat.zero_le _) hc
    obtain ⟨q1, q2, q3, q4⟩ := f.2 c (by omega) id
    exact ⟨q1.trans p1, q2.trans p2, q3.trans p3, q4.trans p4⟩
  refine ⟨w', e, s, ⟨by omega, fun c hc _ => a c hc⟩, h2.of (fun c q1 q2 => f.2 c (by omega) id), h3.sm f (by omega) id id, h7.trans g, b, z, h8⟩
end
