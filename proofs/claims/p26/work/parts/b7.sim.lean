/-! ===== a new bee of the law's own: method 126 ===== -/
/-- σ is a new bee: its sums are there, its numbers are 0 -/
def SI (u w : MW) (n : Nat) : Prop := mSz w = mSz u + n ∧ mSl w ≤ mSl u + 40 ∧ sm u w (fun _ => False) ∧ mTg w (mSz u) = 10 ∧ mR w (mSz u) 7 = some (mSz u + 1) ∧ mTg w (mSz u + 1) = 50 ∧ mLn w (mSz u + 1) = 6 ∧ (∀ j, mI w (mSz u + 1) j = nI 0) ∧ ∀ j, ¬ j = 1 → mI w (mSz u) j = nI 0
section
variable {d n t f : Nat} {u w : MW}
theorem SI.step (h : SI u w n) (hn : 2 ≤ n) (hf : ¬ f = 7) : SI u (wR (wN w t 0 0) (mSz u) f (some (mSz w))) (n + 1) := by
  obtain ⟨h1, h2, h3, h4, h5, h6, h7, h8, h9⟩ := h
  refine ⟨by show mSz w + 1 = _; omega, h2, ?_, (tgN (w := w) (t := t) (n := 0) (k := 0) (by omega)).trans h4, ?_, (tgN (w := w) (t := t) (n := 0) (k := 0) (by omega)).trans h6, (lnN (w := w) (t := t) (n := 0) (k := 0) (by omega)).trans h7, fun j => ?_, fun j hj => ?_⟩
  · refine (h3.trans (sm.wN (X := fun _ => False)) (fun _ _ q => q)).trans (sm.wR (X := fun c => c = mSz u) rfl) (fun c hc q => ?_)
    have : c = mSz u := q
    omega
  · show (if mSz u = mSz u ∧ 7 = f then _ else mR (wN w t 0 0) (mSz u) 7) = _
    rw [if_neg (fun q => hf q.2.symm), mrN (by omega)]
    exact h5
  · show mI (wN w t 0 0) (mSz u + 1) j = _
    rw [miN (by omega)]; exact h8 j
  · show mI (wN w t 0 0) (mSz u) j = _
    rw [miN (by omega)]; exact h9 j hj
theorem c_simNew (hz : 166 ≤ mSz u) : ∃ w', mK (d + 1) 126 [.ref (mSz u)] (wN u 10 0 (mNf 10)) = some (.inl none, w') ∧ SI u w' 12 := by
  have eE : mE = 166 := rfl
  have z0 : mSz (wI (wN u 10 0 (mNf 10)) (mSz u) 1 (-1 : Int32)) = mSz u + 1 := rfl
  have t0 : mTg (wN u 10 0 (mNf 10)) (mSz u) = 10 := if_pos rfl
  have ta : mTg (wI (wN u 10 0 (mNf 10)) (mSz u) 1 (-1 : Int32)) (mSz u) = 10 := t0
  have tb : mTg (wN (wI (wN u 10 0 (mNf 10)) (mSz u) 1 (-1 : Int32)) 50 6 6) (mSz u) = 10 := (tgN (w := wI (wN u 10 0 (mNf 10)) (mSz u) 1 (-1 : Int32)) (by omega)).trans ta
  have s2 : SI u (wR (wN (wI (wN u 10 0 (mNf 10)) (mSz u) 1 (-1 : Int32)) 50 6 6) (mSz u) 7 (some (mSz u + 1))) 2 := by
    refine ⟨rfl, ?_, ?_, tb, if_pos ⟨rfl, rfl⟩, if_pos rfl, if_pos rfl, fun j => ?_, fun j hj => ?_⟩
    · show mSl u + mNf 10 + 6 ≤ _
      have : mNf 10 ≤ 30 := by decide
      omega
    · refine (((sm.wN (X := fun _ => False)).trans (sm.wI (X := fun c => c = mSz u) rfl) (fun c hc q => ?_)).trans (sm.wN (X := fun _ => False)) (fun _ _ q => q)).trans (sm.wR (X := fun c => c = mSz u) rfl) (fun c hc q => ?_)
      · have : c = mSz u := q; omega
      · have : c = mSz u := q; omega
    · exact (if_pos rfl).trans (by decide +kernel)
    · show mI (wN (wI (wN u 10 0 (mNf 10)) (mSz u) 1 (-1 : Int32)) 50 6 6) (mSz u) j = _
      rw [miN (by omega), miI, if_neg (fun q => hj q.2)]
      exact (if_pos rfl).trans (by decide +kernel)
  generalize hw2 : wR (wN (wI (wN u 10 0 (mNf 10)) (mSz u) 1 (-1 : Int32)) 50 6 6) (mSz u) 7 (some (mSz u + 1)) = w2 at s2
  have s3 := s2.step (t := 50) (f := 8) (by decide) (by decide)
  have m2 : mTg (wN w2 50 0 0) (mSz u) = 10 := (tgN (w := w2) (by have := s2.1; omega)).trans s2.2.2.2.1
  generalize hw3 : wR (wN w2 50 0 0) (mSz u) 8 (some (mSz w2)) = w3 at s3
  have s4 := s3.step (t := 52) (f := 9) (by decide) (by decide)
  have m3 : mTg (wN w3 52 0 0) (mSz u) = 10 := (tgN (w := w3) (by have := s3.1; omega)).trans s3.2.2.2.1
  generalize hw4 : wR (wN w3 52 0 0) (mSz u) 9 (some (mSz w3)) = w4 at s4
  have s5 := s4.step (t := 52) (f := 10) (by decide) (by decide)
  have m4 : mTg (wN w4 52 0 0) (mSz u) = 10 := (tgN (w := w4) (by have := s4.1; omega)).trans s4.2.2.2.1
  generalize hw5 : wR (wN w4 52 0 0) (mSz u) 10 (some (mSz w4)) = w5 at s5
  have s6 := s5.step (t := 52) (f := 11) (by decide) (by decide)
  have m5 : mTg (wN w5 52 0 0) (mSz u) = 10 := (tgN (w := w5) (by have := s5.1; omega)).trans s5.2.2.2.1
  generalize hw6 : wR (wN w5 52 0 0) (mSz u) 11 (some (mSz w5)) = w6 at s6
  have s7 := s6.step (t := 52) (f := 12) (by decide) (by decide)
  have m6 : mTg (wN w6 52 0 0) (mSz u) = 10 := (tgN (w := w6) (by have := s6.1; omega)).trans s6.2.2.2.1
  generalize hw7 : wR (wN w6 52 0 0) (mSz u) 12 (some (mSz w6)) = w7 at s7
  have s8 := s7.step (t := 52) (f := 13) (by decide) (by decide)
  have m7 : mTg (wN w7 52 0 0) (mSz u) = 10 := (tgN (w := w7) (by have := s7.1; omega)).trans s7.2.2.2.1
  generalize hw8 : wR (wN w7 52 0 0) (mSz u) 13 (some (mSz w7)) = w8 at s8
  have s9 := s8.step (t := 52) (f := 14) (by decide) (by decide)
  have m8 : mTg (wN w8 52 0 0) (mSz u) = 10 := (tgN (w := w8) (by have := s8.1; omega)).trans s8.2.2.2.1
  generalize hw9 : wR (wN w8 52 0 0) (mSz u) 14 (some (mSz w8)) = w9 at s9
  have s10 := s9.step (t := 52) (f := 15) (by decide) (by decide)
  have m9 : mTg (wN w9 52 0 0) (mSz u) = 10 := (tgN (w := w9) (by have := s9.1; omega)).trans s9.2.2.2.1
  generalize hw10 : wR (wN w9 52 0 0) (mSz u) 15 (some (mSz w9)) = w10 at s10
  have s11 := s10.step (t := 52) (f := 16) (by decide) (by decide)
  have m10 : mTg (wN w10 52 0 0) (mSz u) = 10 := (tgN (w := w10) (by have := s10.1; omega)).trans s10.2.2.2.1
  generalize hw11 : wR (wN w10 52 0 0) (mSz u) 16 (some (mSz w10)) = w11 at s11
  have s12 := s11.step (t := 52) (f := 17) (by decide) (by decide)
  have m11 : mTg (wN w11 52 0 0) (mSz u) = 10 := (tgN (w := w11) (by have := s11.1; omega)).trans s11.2.2.2.1
  generalize hw12 : wR (wN w11 52 0 0) (mSz u) 17 (some (mSz w11)) = w12 at s12
  refine ⟨w12, ?_, s12⟩
  rw [e_126, b_126_0 (show mE ≤ mSz u by omega) t0, b_126_9, z0, b_126_14 tb (by omega), hw2]
  rw [b_126_17, b_126_21 m2 (by omega), hw3]
  rw [b_126_24, b_126_29 m3 (by omega), hw4]
  rw [b_126_32, b_126_37 m4 (by omega), hw5]
  rw [b_126_40, b_126_45 m5 (by omega), hw6]
  rw [b_126_48, b_126_53 m6 (by omega), hw7]
  rw [b_126_56, b_126_61 m7 (by omega), hw8]
  rw [b_126_64, b_126_69 m8 (by omega), hw9]
  rw [b_126_72, b_126_77 m9 (by omega), hw10]
  rw [b_126_80, b_126_85 m10 (by omega), hw11]
  rw [b_126_88, b_126_93 m11 (by omega), hw12]
  rw [b_126_96]
end
