/-! ===== the law's bee: a word spelled ===== -/
def sumsM (M : MD) (a b : Nat) : MD := mu (mu (mu M 1 0 4 (M 1 0 4 + a)) 1 0 5 (M 1 0 5 + b)) 8 0 3 (M 8 0 3 + 1)
def rgM (M : MD) (s v : Nat) : MD := mu (mu (mu (mu M 3 s 6 (M 3 s 6 + 1)) 2 v 1 (M 2 v 1 + 1)) 1 0 0 (M 1 0 0 + 1)) 0 0 6 1
def wgM (M : MD) (s : Nat) : MD := if 2 ≤ M 3 s 2 + 1 then mu (mu (mu (mu (mu M 3 s 2 (M 3 s 2 + 1)) 3 s 7 (M 3 s 7 + 1)) 1 0 1 (M 1 0 1 + 1)) 3 s 0 0) 3 s 8 1 else mu (mu (mu M 3 s 2 (M 3 s 2 + 1)) 3 s 7 (M 3 s 7 + 1)) 1 0 1 (M 1 0 1 + 1)
section
variable {d B σ : Nat} {w : MW} {C : CD} {M : MD}
theorem hearM_o (C : CD) (s v n : Nat) (M : MD) {g i j : Nat} (h : ¬ g = 5) : hearM C s v n M g i j = M g i j := by
  induction n with
  | zero => rfl
  | succ n ih => rw [hearM, mu_n (by omega), ih]
theorem hearM_5 (C : CD) (s v n : Nat) {M M' : MD} (h : ∀ i j, M 5 i j = M' 5 i j) (i j : Nat) : hearM C s v n M 5 i j = hearM C s v n M' 5 i j := by
  induction n generalizing i j with
  | zero => exact h i j
  | succ n ih => rw [hearM, hearM, mu_at, mu_at, ih, ih]
theorem least_2 (C : CD) (M : MD) (v k x s u : Nat) : ∀ n, leastM C (mu M 2 v k x) s u n = leastM C M s u n
  | 0 => rfl
  | n + 1 => by
    have h4 : ∀ i j, mu M 2 v k x 4 i j = M 4 i j := fun i j => mu_n (by omega)
    have h5 : ∀ i j, mu M 2 v k x 5 i j = M 5 i j := fun i j => mu_n (by omega)
    rw [leastM, leastM, least_2 C M v k x s u n]
    unfold spM
    simp only [h4, h5]
theorem holds_2 (C : CD) (M : MD) (v k x o : Nat) : holdsM C (mu M 2 v k x) o = holdsM C M o := by
  have h0 : ∀ i j, mu M 2 v k x 0 i j = M 0 i j := fun i j => mu_n (by omega)
  have h3 : ∀ i j, mu M 2 v k x 3 i j = M 3 i j := fun i j => mu_n (by omega)
  unfold holdsM gapM strongM wordM leftM
  simp only [h0, h3, least_2]
theorem wants_2 (C : CD) (M : MD) (v k x : Nat) : ∀ n, wantsM C (mu M 2 v k x) n = wantsM C M n
  | 0 => rfl
  | n + 1 => by
    have h0 : ∀ i j, mu M 2 v k x 0 i j = M 0 i j := fun i j => mu_n (by omega)
    rw [wantsM, wantsM, wants_2 C M v k x n, holds_2, h0]
theorem gap_le {a b : Nat} (ha : a < 1073741824) (hb : b < 1073741824) : nI a - nI b ≤ nI 0 ↔ a ≤ b := by
  have z0 : (nI 0).toInt = 0 := by decide +kernel
  rw [Int32.le_iff_toInt_le, jsubI ha hb, z0]
  omega
theorem gap_lt {a b : Nat} (ha : a < 1073741824) (hb : b < 1073741824) : nI 0 < nI a - nI b ↔ b < a := by
  have z0 : (nI 0).toInt = 0 := by decide +kernel
  rw [Int32.lt_iff_toInt_lt, jsubI ha hb, z0]
  omega
theorem gap_3 {a b : Nat} (ha : a < 1073741824) (hb : b < 1073741824) : nI 3 ≤ nI a - nI b ↔ b + 3 ≤ a := by
  have z3 : (nI 3).toInt = 3 := by decide +kernel
  rw [Int32.le_iff_toInt_le, jsubI ha hb, z3]
  omega
/-- rightly, from the points on -/
theorem s_win1 (h : SW w σ C M) {s v : Nat} (hs : s < C 0 0 3) (hv : v < C 0 0 2) (hw4 : M 8 0 4 = s) {X : Int32} (hX : ¬ nI 0 < X) : ∃ w', mX (d + 2) 141 108 [.ref σ, .int (nI v), .int X, .ref (gR w (gR w σ 12) s), mJ, mJ, mJ, mJ, mJ] [] w = some (.inl none, w') ∧ upS σ C w w' (rgM (hearM C s v (C 3 v 0) (mu M 3 s 1 (M 3 s 1 + (1 + hardM C v / 4)))) s v) := by
  have hh := hardM_le h.k hv
  have S := h.s
  have tg := S.tg
  have l12 := S.b12 hs
  have r12 := S.r12; have t12 := S.t12; have n12 := S.n12
  obtain ⟨e12s, u12s, l12s⟩ := S.e12 s hs
  have k1 : 1 < mLn w (gR w (gR w σ 12) s) := by omega
  have u1 := h.ual hs (j := 1) (by decide) (M 3 s 1 + (1 + hardM C v / 4))
  have h1 := h.up u1
  obtain ⟨w2, e2, u2, g2⟩ := s_hear (d := d + 2) hs hv (by rw [mu_n (by omega)]; exact hw4) h1
  have h2 := h1.up u2
  obtain ⟨w3, e3, u3⟩ := s_right (d := d + 2) h2 hs hv
  refine ⟨w3, ?_, (u1.trans u2).trans u3⟩
  rw [b_141_108 u12s k1, if_neg hX, b_141_116 tg, c_sHard (d := d) h hv, h.al hs (j := 1) (by decide)]
  simp only [mThen_ok, Option.toList_some, Option.toList_none, List.cons_append, List.nil_append]
  rw [b_141_122, jdiv (by omega) (by decide), jadd, b_141_129 u12s l12 (by decide) k1, jadd, b_141_131, if_neg hX]
  refine Eq.trans e2 ?_
  rw [← g2]
  exact e3
theorem s_win2 (h : SW w σ C M) {s v : Nat} (hs : s < C 0 0 3) (hv : v < C 0 0 2) {X : Int32} (hX : nI 0 < X) : ∃ w', mX d 141 108 [.ref σ, .int (nI v), .int X, .ref (gR w (gR w σ 12) s), mJ, mJ, mJ, mJ, mJ] [] w = some (.inl none, w') ∧ upS σ C w w' (rgM (mu M 3 s 1 (M 3 s 1 + 1)) s v) := by
  have S := h.s
  have l12 := S.b12 hs
  have r12 := S.r12; have t12 := S.t12; have n12 := S.n12
  obtain ⟨e12s, u12s, l12s⟩ := S.e12 s hs
  have k1 : 1 < mLn w (gR w (gR w σ 12) s) := by omega
  have u1 := h.ual hs (j := 1) (by decide) (M 3 s 1 + 1)
  have h1 := h.up u1
  obtain ⟨w3, e3, u3⟩ := s_right (d := d) h1 hs hv
  refine ⟨w3, ?_, u1.trans u3⟩
  rw [b_141_108 u12s k1, if_pos hX, b_141_128, h.al hs (j := 1) (by decide), b_141_129 u12s l12 (by decide) k1, jadd, b_141_131, if_pos hX]
  exact e3
theorem strong_le (hk : CfOk C) (hm : MOk C B M) (ho : SOk C B M) {s v : Nat} (hs : s < C 0 0 3) (hv : v < C 0 0 2) : strongM C M s v ≤ 40 := by
  have h1 := leastM_lt hk ho hs hv (C 3 v 0) (Nat.le_refl _)
  have h5 := hm.2.2.1
  unfold strongM
  split <;> omega
theorem c_sSpell0 (h : SW w σ C M) (hm : MOk C B M) (ho : SOk C B M) (hB : B < 1000000000) (hg : ¬ M 0 0 4 = NEG) : ∃ w', mK (d + 5) 141 [.ref σ] w = some (.inl none, w') ∧ upS σ C w w' (
    if hardM C (wordM C M) ≤ strongM C M (M 0 0 4) (wordM C M) then rgM (hearM C (M 0 0 4) (wordM C M) (C 3 (wordM C M) 0) (mu (sumsM (mu M 2 (wordM C M) 0 (M 2 (wordM C M) 0 + 1)) 0 0) 3 (M 0 0 4) 1 (sumsM (mu M 2 (wordM C M) 0 (M 2 (wordM C M) 0 + 1)) 0 0 3 (M 0 0 4) 1 + (1 + hardM C (wordM C M) / 4)))) (M 0 0 4) (wordM C M)
    else if M 3 (M 0 0 4) 4 = 1 ∧ wantsM C M (C 0 0 5) = true then
      (if hardM C (wordM C M) ≤ strongM C M (M 0 0 4) (wordM C M) + 2 then rgM (mu (sumsM (mu M 2 (wordM C M) 0 (M 2 (wordM C M) 0 + 1)) 1 0) 3 (M 0 0 4) 1 (sumsM (mu M 2 (wordM C M) 0 (M 2 (wordM C M) 0 + 1)) 1 0 3 (M 0 0 4) 1 + 1)) (M 0 0 4) (wordM C M)
      else wgM (sumsM (mu (mu M 2 (wordM C M) 0 (M 2 (wordM C M) 0 + 1)) 3 (M 0 0 4) 4 0) 0 1) (M 0 0 4))
    else wgM (sumsM (mu M 2 (wordM C M) 0 (M 2 (wordM C M) 0 + 1)) 0 0) (M 0 0 4)) := by
  have hk := h.k
  have hk1 := hk.1
  obtain ⟨a1, a2, a3, a4⟩ := ho.2.1 hg
  obtain ⟨b1, b2, b3, b4⟩ := hm.who hg
  have y4 : mI w σ 4 = nI (M 0 0 4) := by rw [h.y4, a3]
  have hv : wordM C M < C 0 0 2 := (hk.2.2.2.2.2.1 _ b2).2.2.2.2.2 _ b3
  have hwN : wordN C M = wordM C M := if_neg hg
  have hh := hardM_le hk hv
  have hst := strong_le hk hm ho b1 hv
  have S := h.s
  have tg := S.tg
  have l11 := S.b11 hv
  have p2 := hm.1 2 (wordM C M) 0 (by decide) (by decide)
  have p32 := hm.1 3 (M 0 0 4) 2 (by decide) (by decide)
  have r11 := S.r11; have t11 := S.t11; have n11 := S.n11; have r12 := S.r12; have t12 := S.t12; have n12 := S.n12
  obtain ⟨e12s, u12s, l12s⟩ := S.e12 (M 0 0 4) b1
  obtain ⟨e11v, u11v, l11v⟩ := S.e11 (wordM C M) hv
  have u1 := h.ust hv (j := 0) (by decide) (M 2 (wordM C M) 0 + 1)
  have h1 := h.up u1
  have hm1 : MOk C (B + 1) (mu M 2 (wordM C M) 0 (M 2 (wordM C M) 0 + 1)) := (hm.le (by omega)).g (by decide) (by omega) (fun x => absurd x (by decide))
  have ho1 : SOk C (B + 1) (mu M 2 (wordM C M) 0 (M 2 (wordM C M) 0 + 1)) := sok_of ho (by omega) (fun j _ _ => mu_n (by omega)) (fun j => mu_n (by omega)) (fun s k => mu_n (by omega))
  have hgap : gapM C M (M 0 0 4) = nI (hardM C (wordM C M)) - nI (strongM C M (M 0 0 4) (wordM C M)) := if_neg hg
  have gl := gap_le (a := hardM C (wordM C M)) (b := strongM C M (M 0 0 4) (wordM C M)) (by omega) (by omega)
  have gt := gap_lt (a := hardM C (wordM C M)) (b := strongM C M (M 0 0 4) (wordM C M)) (by omega) (by omega)
  have g3 := gap_3 (a := hardM C (wordM C M)) (b := strongM C M (M 0 0 4) (wordM C M)) (by omega) (by omega)
  rw [← hgap] at gl gt g3
  have pre : mK (d + 5) 141 [.ref σ] w = if gapM C M (M 0 0 4) ≤ nI 0 then mX (d + 5) 141 48 [.ref σ, .int (nI (wordM C M)), .int (gapM C M (M 0 0 4)), .ref (gR w (gR w σ 12) (M 0 0 4)), mJ, mJ, mJ, mJ, mJ] [] (wI w (gR w (gR w σ 11) (wordM C M)) 0 (nI (M 2 (wordM C M) 0 + 1))) else mX (d + 5) 141 40 [.ref σ, .int (nI (wordM C M)), .int (gapM C M (M 0 0 4)), .ref (gR w (gR w σ 12) (M 0 0 4)), mJ, mJ, mJ, mJ, mJ] [] (wI w (gR w (gR w σ 11) (wordM C M)) 0 (nI (M 2 (wordM C M) 0 + 1))) := by
    rw [e_141, b_141_0 tg, c_sWord h hm ho (by omega), hwN]
    simp only [mThen_ok, Option.toList_some, Option.toList_none, List.cons_append, List.nil_append]
    rw [b_141_4 tg, y4, c_sGap (d := d + 2) h hm ho (by omega) b1]
    simp only [mThen_ok, Option.toList_some, Option.toList_none, List.cons_append, List.nil_append]
    refine Eq.trans (b_141_13 (by first | assumption | omega) (by first | assumption | omega) (by first | assumption | omega) y4 (by first | assumption | omega) (by first | assumption | omega) (by first | assumption | omega) (by first | assumption | omega) (by first | assumption | omega) (by first | assumption | omega) (by first | assumption | omega) (by first | assumption | omega) (by first | assumption | omega) (by first | assumption | omega) (by first | assumption | omega)) ?_
    rw [h.st hv (j := 0) (by decide), jadd, b_141_36]
  rw [pre]
  have fin : ∀ w2 M2, SW w2 σ C M2 → upS σ C w w2 M2 → gR w2 (gR w2 σ 12) (M 0 0 4) = gR w (gR w σ 12) (M 0 0 4) := fun w2 M2 _ u => by
    obtain ⟨J, hJ, _⟩ := u
    rw [hJ]
    rfl
  have n0 : nI 0 ≤ nI 0 := by decide +kernel
  by_cases c0 : hardM C (wordM C M) ≤ strongM C M (M 0 0 4) (wordM C M)
  · rw [if_pos (gl.mpr c0), if_pos c0, b_141_48]
    obtain ⟨w2, e2, u2⟩ := s_sums (d := d + 5) (a := 0) (b := 0) (r := nI 0) (x1 := nI (wordM C M)) (x2 := gapM C M (M 0 0 4)) (c := gR w (gR w σ 12) (M 0 0 4)) h1 (Or.inl ⟨n0, rfl⟩) (Or.inl ⟨n0, rfl⟩)
    have u12 := u1.trans u2
    have h2 := h.up u12
    have gr := fin _ _ h2 u12
    obtain ⟨w3, e3, u3⟩ := s_win1 (d := d + 3) h2 b1 hv (by rw [mu_n (by omega), mu_n (by omega), mu_n (by omega), mu_n (by omega)]; exact a3) (X := gapM C M (M 0 0 4)) (fun x => by have := gt.mp x; omega)
    refine ⟨w3, ?_, u12.trans u3⟩
    rw [e2, b_141_99, if_pos (gl.mpr c0), ← gr]
    exact e3
  · have hpos : nI 0 < gapM C M (M 0 0 4) := gt.mpr (by omega)
    have hng : ¬ gapM C M (M 0 0 4) ≤ nI 0 := fun x => c0 (gl.mp x)
    rw [if_neg hng, if_neg c0, b_141_40 h1.s.tg]
    have ha := c_sAppeal (d := d) h1 hm1 ho1 (by omega) (by rw [mu_n (by omega)]; exact hg) (gapM C M (M 0 0 4))
    have z04 : mu M 2 (wordM C M) 0 (M 2 (wordM C M) 0 + 1) 0 0 4 = M 0 0 4 := mu_n (by omega)
    have z34 : mu M 2 (wordM C M) 0 (M 2 (wordM C M) 0 + 1) 3 (M 0 0 4) 4 = M 3 (M 0 0 4) 4 := mu_n (by omega)
    rw [z04, z34, wants_2] at ha
    rw [ha]
    by_cases c1 : M 3 (M 0 0 4) 4 = 1 ∧ wantsM C M (C 0 0 5) = true
    · rw [if_pos c1, if_pos c1]
      by_cases c2 : hardM C (wordM C M) ≤ strongM C M (M 0 0 4) (wordM C M) + 2
      · rw [if_neg (fun x => by have := g3.mp x; omega), if_pos c2]
        simp only [mThen_ok, Option.toList_some, Option.toList_none, List.cons_append, List.nil_append]
        rw [b_141_45]
        obtain ⟨w2, e2, u2⟩ := s_sums (d := d + 5) (a := 1) (b := 0) (r := nI 1) (x1 := nI (wordM C M)) (x2 := gapM C M (M 0 0 4)) (c := gR w (gR w σ 12) (M 0 0 4)) h1 (Or.inr ⟨by decide +kernel, rfl⟩) (Or.inl ⟨by decide +kernel, rfl⟩)
        have u12 := u1.trans u2
        have h2 := h.up u12
        have gr := fin _ _ h2 u12
        obtain ⟨w3, e3, u3⟩ := s_win2 (d := d + 5) h2 b1 hv (X := gapM C M (M 0 0 4)) hpos
        refine ⟨w3, ?_, u12.trans u3⟩
        rw [e2, b_141_99, if_neg hng, b_141_103, if_neg (by decide +kernel), ← gr]
        exact e3
      · rw [if_pos (g3.mpr (by omega)), if_neg c2]
        simp only [mThen_ok, Option.toList_some, Option.toList_none, List.cons_append, List.nil_append]
        rw [b_141_45]
        have u2 := h1.ual b1 (j := 4) (by decide) 0
        have h2 := h1.up u2
        obtain ⟨w3, e3, u3⟩ := s_sums (d := d + 5) (a := 0) (b := 1) (r := (-1 : Int32)) (x1 := nI (wordM C M)) (x2 := gapM C M (M 0 0 4)) (c := gR w (gR w σ 12) (M 0 0 4)) h2 (Or.inl ⟨by decide +kernel, rfl⟩) (Or.inr ⟨by decide +kernel, rfl⟩)
        have u123 := (u1.trans u2).trans u3
        have h3 := h.up u123
        have gr := fin _ _ h3 u123
        obtain ⟨w4, e4, u4⟩ := s_wrong (d := d + 5) (x1 := mJ) (x2 := mJ) h3 b1 (by rw [mu_n (by omega), mu_n (by omega), mu_n (by omega), mu_n (by omega), mu_n (by omega)]; omega)
        refine ⟨w4, ?_, u123.trans u4⟩
        refine Eq.trans e3 ?_
        rw [b_141_99, if_neg hng, b_141_103, if_pos (by decide +kernel), ← gr]
        exact e4
    · rw [if_neg c1, if_neg c1]
      simp only [mThen_ok, Option.toList_some, Option.toList_none, List.cons_append, List.nil_append]
      rw [b_141_45]
      obtain ⟨w2, e2, u2⟩ := s_sums (d := d + 5) (a := 0) (b := 0) (r := nI 0) (x1 := nI (wordM C M)) (x2 := gapM C M (M 0 0 4)) (c := gR w (gR w σ 12) (M 0 0 4)) h1 (Or.inl ⟨n0, rfl⟩) (Or.inl ⟨n0, rfl⟩)
      have u12 := u1.trans u2
      have h2 := h.up u12
      have gr := fin _ _ h2 u12
      obtain ⟨w3, e3, u3⟩ := s_wrong (d := d + 5) (x1 := mJ) (x2 := mJ) h2 b1 (by rw [mu_n (by omega), mu_n (by omega), mu_n (by omega), mu_n (by omega)]; omega)
      refine ⟨w3, ?_, u12.trans u3⟩
      rw [e2, b_141_99, if_neg hng, b_141_103, if_pos n0, ← gr]
      exact e3
end
