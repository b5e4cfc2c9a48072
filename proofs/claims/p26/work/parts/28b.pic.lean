/-! ===== what a bee's cells hold, read and written ===== -/
theorem BW.b {w : MW} {b t : Nat} {C : CD} {M : MD} (h : BW w b t C M) : bT w b t := h.1
theorem BW.t {w : MW} {b t : Nat} {C : CD} {M : MD} (h : BW w b t C M) : tT w t := h.2.1
theorem BW.c {w : MW} {b t : Nat} {C : CD} {M : MD} (h : BW w b t C M) : CF w t C := h.2.2.1
theorem BW.h {w : MW} {b t : Nat} {C : CD} {M : MD} (h : BW w b t C M) : HF w t C := h.2.2.2.1
theorem BW.k {w : MW} {b t : Nat} {C : CD} {M : MD} (h : BW w b t C M) : CfOk C := h.2.2.2.2.1
theorem BW.m {w : MW} {b t : Nat} {C : CD} {M : MD} (h : BW w b t C M) : lnOk (BL b) w M := h.2.2.2.2.2
theorem BW.z {w : MW} {b t : Nat} {C : CD} {M : MD} (h : BW w b t C M) {j : Nat} (hj : j < 7) : mI w b (j + 7) = nI (M 0 0 j) := h.m.at (g := 0) (i := 0) (j := j) (Or.inl ⟨rfl, rfl, hj⟩) rfl
theorem BW.to {w : MW} {b t : Nat} {C : CD} {M : MD} (h : BW w b t C M) {j : Nat} (hj : j < 6) : mI w (b + 7) j = nI (M 1 0 j) := h.m.at (g := 1) (i := 0) (j := j) (Or.inr (Or.inl ⟨rfl, rfl, hj⟩)) rfl
theorem BW.ws {w : MW} {b t : Nat} {C : CD} {M : MD} (h : BW w b t C M) {v : Nat} (hv : v < 12) : mI w (b + 8) v = nI (M 2 v 0) := h.m.at (g := 2) (i := v) (j := 0) (Or.inr (Or.inr (Or.inl ⟨rfl, hv, by omega⟩))) rfl
theorem BW.wr {w : MW} {b t : Nat} {C : CD} {M : MD} (h : BW w b t C M) {v : Nat} (hv : v < 12) : mI w (b + 9) v = nI (M 2 v 1) := h.m.at (g := 2) (i := v) (j := 1) (Or.inr (Or.inr (Or.inl ⟨rfl, hv, by omega⟩))) rfl
theorem BW.sp {w : MW} {b t : Nat} {C : CD} {M : MD} (h : BW w b t C M) {s j : Nat} (hs : s < 6) (hj : j < 9) : mI w (spc b s) (psl j) = nI (M 3 s j) := h.m.at (g := 3) (i := s) (j := j) (Or.inr (Or.inr (Or.inr (Or.inl ⟨rfl, hs, hj⟩)))) rfl
theorem BW.kn {w : MW} {b t : Nat} {C : CD} {M : MD} (h : BW w b t C M) {s j : Nat} (hs : s < 6) (hj : j < 5) : mI w (knc b s) j = nI (M 4 s j) := h.m.at (g := 4) (i := s) (j := j) (Or.inr (Or.inr (Or.inr (Or.inr (Or.inl ⟨rfl, hs, hj⟩))))) rfl
theorem BW.he {w : MW} {b t : Nat} {C : CD} {M : MD} (h : BW w b t C M) {s j : Nat} (hs : s < 6) (hj : j < 10) : mI w (hrc b s) j = nI (M 5 s j) := h.m.at (g := 5) (i := s) (j := j) (Or.inr (Or.inr (Or.inr (Or.inr (Or.inr ⟨rfl, hs, hj⟩))))) rfl
theorem BW.z0 {w : MW} {b t : Nat} {C : CD} {M : MD} (h : BW w b t C M) : mI w b 7 = nI (M 0 0 0) := h.z (j := 0) (by omega)
theorem BW.z1 {w : MW} {b t : Nat} {C : CD} {M : MD} (h : BW w b t C M) : mI w b 8 = nI (M 0 0 1) := h.z (j := 1) (by omega)
theorem BW.z2 {w : MW} {b t : Nat} {C : CD} {M : MD} (h : BW w b t C M) : mI w b 9 = nI (M 0 0 2) := h.z (j := 2) (by omega)
theorem BW.z3 {w : MW} {b t : Nat} {C : CD} {M : MD} (h : BW w b t C M) : mI w b 10 = nI (M 0 0 3) := h.z (j := 3) (by omega)
theorem BW.z4 {w : MW} {b t : Nat} {C : CD} {M : MD} (h : BW w b t C M) : mI w b 11 = nI (M 0 0 4) := h.z (j := 4) (by omega)
theorem BW.z5 {w : MW} {b t : Nat} {C : CD} {M : MD} (h : BW w b t C M) : mI w b 12 = nI (M 0 0 5) := h.z (j := 5) (by omega)
theorem BW.z6 {w : MW} {b t : Nat} {C : CD} {M : MD} (h : BW w b t C M) : mI w b 13 = nI (M 0 0 6) := h.z (j := 6) (by omega)
theorem BW.f0 {w : MW} {b t : Nat} {C : CD} {M : MD} (h : BW w b t C M) {s : Nat} (hs : s < 6) : mI w (spc b s) 2 = nI (M 3 s 0) := h.sp (j := 0) hs (by omega)
theorem BW.f1 {w : MW} {b t : Nat} {C : CD} {M : MD} (h : BW w b t C M) {s : Nat} (hs : s < 6) : mI w (spc b s) 5 = nI (M 3 s 1) := h.sp (j := 1) hs (by omega)
theorem BW.f2 {w : MW} {b t : Nat} {C : CD} {M : MD} (h : BW w b t C M) {s : Nat} (hs : s < 6) : mI w (spc b s) 6 = nI (M 3 s 2) := h.sp (j := 2) hs (by omega)
theorem BW.f3 {w : MW} {b t : Nat} {C : CD} {M : MD} (h : BW w b t C M) {s : Nat} (hs : s < 6) : mI w (spc b s) 7 = nI (M 3 s 3) := h.sp (j := 3) hs (by omega)
theorem BW.f4 {w : MW} {b t : Nat} {C : CD} {M : MD} (h : BW w b t C M) {s : Nat} (hs : s < 6) : mI w (spc b s) 4 = nI (M 3 s 4) := h.sp (j := 4) hs (by omega)
theorem BW.f5 {w : MW} {b t : Nat} {C : CD} {M : MD} (h : BW w b t C M) {s : Nat} (hs : s < 6) : mI w (spc b s) 8 = nI (M 3 s 5) := h.sp (j := 5) hs (by omega)
theorem BW.f6 {w : MW} {b t : Nat} {C : CD} {M : MD} (h : BW w b t C M) {s : Nat} (hs : s < 6) : mI w (spc b s) 9 = nI (M 3 s 6) := h.sp (j := 6) hs (by omega)
theorem BW.f7 {w : MW} {b t : Nat} {C : CD} {M : MD} (h : BW w b t C M) {s : Nat} (hs : s < 6) : mI w (spc b s) 10 = nI (M 3 s 7) := h.sp (j := 7) hs (by omega)
theorem BW.f8 {w : MW} {b t : Nat} {C : CD} {M : MD} (h : BW w b t C M) {s : Nat} (hs : s < 6) : mI w (spc b s) 3 = nI (M 3 s 8) := h.sp (j := 8) hs (by omega)
/-- a bee's own cells written: what it is then -/
def upB (b : Nat) (w w' : MW) (M' : MD) : Prop := ∃ J, w' = wJ w J ∧ (∀ c k, c < b ∨ b + 28 ≤ c → J c k = mI w c k) ∧ lnOk (BL b) w' M'
theorem upB.refl {b : Nat} {w : MW} {M : MD} (h : lnOk (BL b) w M) : upB b w w M := ⟨mI w, (wJ_self w).symm, fun _ _ _ => rfl, h⟩
theorem upB.trans {b : Nat} {w w1 w2 : MW} {M1 M2 : MD} (h : upB b w w1 M1) (g : upB b w1 w2 M2) : upB b w w2 M2 := by
  obtain ⟨J, rfl, a2, a3⟩ := h
  obtain ⟨J', rfl, b2, b3⟩ := g
  exact ⟨J', rfl, fun c k hc => (b2 c k hc).trans (a2 c k hc), b3⟩
theorem upB.ext {b : Nat} {w w' : MW} {M M' : MD} (h : upB b w w' M) (he : ∀ g i j, BV g i j → M g i j = M' g i j) : upB b w w' M' := by
  obtain ⟨J, a1, a2, a3⟩ := h
  exact ⟨J, a1, a2, fun g i j hv => by rw [← he g i j hv]; exact a3 g i j hv⟩
theorem upB.out {b : Nat} {w w' : MW} {M : MD} (h : upB b w w' M) {c : Nat} (hc : c < b ∨ b + 28 ≤ c) : mI w' c = mI w c := by
  obtain ⟨J, rfl, a2, -⟩ := h
  funext k
  exact a2 c k hc
theorem upB.sz {b : Nat} {w w' : MW} {M : MD} (h : upB b w w' M) : mSz w' = mSz w ∧ mSl w' = mSl w ∧ mTg w' = mTg w ∧ mLn w' = mLn w ∧ mR w' = mR w := by
  obtain ⟨J, rfl, -, -⟩ := h
  exact ⟨rfl, rfl, rfl, rfl, rfl⟩
theorem CF.same {w w' : MW} {t : Nat} {C : CD} (h : CF w t C) (e : ∀ c, t ≤ c → c < t + 21 → mI w' c = mI w c) : CF w' t C := by
  unfold CF
  rw [e (t + 1) (by omega) (by omega), e (t + 2) (by omega) (by omega), e (t + 3) (by omega) (by omega), e (t + 4) (by omega) (by omega), e (t + 5) (by omega) (by omega), e (t + 6) (by omega) (by omega), e (t + 7) (by omega) (by omega), e (t + 9) (by omega) (by omega), e (t + 10) (by omega) (by omega), e (t + 11) (by omega) (by omega), e (t + 12) (by omega) (by omega), e (t + 13) (by omega) (by omega), e (t + 14) (by omega) (by omega), e (t + 15) (by omega) (by omega), e (t + 16) (by omega) (by omega), e (t + 17) (by omega) (by omega), e (t + 18) (by omega) (by omega), e (t + 19) (by omega) (by omega), e (t + 20) (by omega) (by omega)]
  exact h
theorem HF.same {w w' : MW} {t : Nat} {C : CD} (h : HF w t C) (e : mI w' (t + 8) = mI w (t + 8)) : HF w' t C := by
  unfold HF
  rw [e]
  exact h
theorem BW.up {b t : Nat} {w w' : MW} {C : CD} {M M' : MD} (h : BW w b t C M) (u : upB b w w' M') : BW w' b t C M' := by
  have hlo := h.b.thi
  have e : ∀ c, t ≤ c → c < t + 21 → mI w' c = mI w c := fun c _ g => u.out (Or.inl (by omega))
  have hc := h.c.same e
  have hh := h.h.same (e (t + 8) (by omega) (by omega))
  obtain ⟨J, rfl, a2, a3⟩ := u
  exact ⟨h.b, h.t, hc, hh, h.k, a3⟩
theorem BW.refl {b t : Nat} {w : MW} {C : CD} {M : MD} (h : BW w b t C M) : upB b w w M := upB.refl h.m
theorem lnOk.set {L : LN} {w : MW} {M : MD} (hL : lnInj L) (h : lnOk L w M) {g i j c k x : Nat} (hv : L.1 g i j) (hl : L.2 g i j = (c, k)) : lnOk L (wI w c k (nI x)) (mu M g i j x) := by
  intro g' i' j' hv'
  rw [mI_wI]
  by_cases e : g' = g ∧ i' = i ∧ j' = j
  · obtain ⟨rfl, rfl, rfl⟩ := e
    rw [hl, if_pos ⟨rfl, rfl⟩, mu_s]
  · rw [if_neg, mu_n e]
    · exact h g' i' j' hv'
    · intro q
      have : L.2 g' i' j' = L.2 g i j := by rw [hl]; exact Prod.ext q.1 q.2
      exact e (hL _ _ _ _ _ _ hv' hv this)
theorem lnOk.keep {L : LN} {w : MW} {M : MD} (h : lnOk L w M) {c k : Nat} {x : Int32} (hn : ¬ lnAt L c k) : lnOk L (wI w c k x) M := by
  intro g' i' j' hv'
  rw [mI_wI, if_neg]
  · exact h g' i' j' hv'
  · intro q
    exact hn ⟨(g', i', j'), hv', Prod.ext q.1 q.2⟩
theorem bloc_in {b g i j : Nat} (hv : BV g i j) : b ≤ (bloc b g i j).1 ∧ (bloc b g i j).1 < b + 28 := by
  rcases hv with ⟨rfl, h1, h2⟩ | ⟨rfl, h1, h2⟩ | ⟨rfl, h1, h2⟩ | ⟨rfl, h1, h2⟩ | ⟨rfl, h1, h2⟩ | ⟨rfl, h1, h2⟩ <;> simp [bloc, spc, knc, hrc] <;> omega
theorem upB.set {b : Nat} {w : MW} {M : MD} (h : lnOk (BL b) w M) {g i j c k x : Nat} (hv : BV g i j) (hl : bloc b g i j = (c, k)) : upB b w (wI w c k (nI x)) (mu M g i j x) := by
  refine ⟨_, wI_eq _ _ _ _, fun c' k' hc => ?_, h.set (BL_inj b) hv hl⟩
  have := bloc_in (b := b) hv
  rw [hl] at this
  unfold jw
  rw [if_neg]
  rintro ⟨rfl, rfl⟩
  have h1 := this.1
  have h2 := this.2
  dsimp only at h1 h2
  omega
/-- the reckoner's own cells: no place of the model -/
theorem BL_mid {b c k : Nat} (h1 : b < c) (h2 : c < b + 7) : ¬ lnAt (BL b) c k := by
  rintro ⟨⟨g, i, j⟩, hv, hl⟩
  simp only [BL, BV, bloc] at hv hl
  rcases hv with ⟨rfl, h1, h2⟩ | ⟨rfl, h1, h2⟩ | ⟨rfl, h1, h2⟩ | ⟨rfl, h1, h2⟩ | ⟨rfl, h1, h2⟩ | ⟨rfl, h1, h2⟩ <;> simp [spc, knc, hrc] at hl <;> omega
theorem upB.junk {b : Nat} {w : MW} {M : MD} (h : lnOk (BL b) w M) {c k : Nat} {x : Int32} (h1 : b < c) (h2 : c < b + 7) : upB b w (wI w c k x) M := by
  refine ⟨_, wI_eq _ _ _ _, fun c' k' hc => ?_, h.keep (BL_mid h1 h2)⟩
  unfold jw
  rw [if_neg]
  rintro ⟨rfl, rfl⟩
  omega
theorem BW.uz0 {w : MW} {b t : Nat} {C : CD} {M : MD} (h : BW w b t C M) (x : Nat) : upB b w (wI w b 7 (nI x)) (mu M 0 0 0 x) := upB.set h.m (g := 0) (i := 0) (j := 0) (Or.inl ⟨rfl, rfl, by omega⟩) rfl
theorem BW.uz1 {w : MW} {b t : Nat} {C : CD} {M : MD} (h : BW w b t C M) (x : Nat) : upB b w (wI w b 8 (nI x)) (mu M 0 0 1 x) := upB.set h.m (g := 0) (i := 0) (j := 1) (Or.inl ⟨rfl, rfl, by omega⟩) rfl
theorem BW.uz2 {w : MW} {b t : Nat} {C : CD} {M : MD} (h : BW w b t C M) (x : Nat) : upB b w (wI w b 9 (nI x)) (mu M 0 0 2 x) := upB.set h.m (g := 0) (i := 0) (j := 2) (Or.inl ⟨rfl, rfl, by omega⟩) rfl
theorem BW.uz3 {w : MW} {b t : Nat} {C : CD} {M : MD} (h : BW w b t C M) (x : Nat) : upB b w (wI w b 10 (nI x)) (mu M 0 0 3 x) := upB.set h.m (g := 0) (i := 0) (j := 3) (Or.inl ⟨rfl, rfl, by omega⟩) rfl
theorem BW.uz4 {w : MW} {b t : Nat} {C : CD} {M : MD} (h : BW w b t C M) (x : Nat) : upB b w (wI w b 11 (nI x)) (mu M 0 0 4 x) := upB.set h.m (g := 0) (i := 0) (j := 4) (Or.inl ⟨rfl, rfl, by omega⟩) rfl
theorem BW.uz5 {w : MW} {b t : Nat} {C : CD} {M : MD} (h : BW w b t C M) (x : Nat) : upB b w (wI w b 12 (nI x)) (mu M 0 0 5 x) := upB.set h.m (g := 0) (i := 0) (j := 5) (Or.inl ⟨rfl, rfl, by omega⟩) rfl
theorem BW.uz6 {w : MW} {b t : Nat} {C : CD} {M : MD} (h : BW w b t C M) (x : Nat) : upB b w (wI w b 13 (nI x)) (mu M 0 0 6 x) := upB.set h.m (g := 0) (i := 0) (j := 6) (Or.inl ⟨rfl, rfl, by omega⟩) rfl
theorem BW.uf0 {w : MW} {b t : Nat} {C : CD} {M : MD} (h : BW w b t C M) {s : Nat} (hs : s < 6) (x : Nat) : upB b w (wI w (spc b s) 2 (nI x)) (mu M 3 s 0 x) := upB.set h.m (g := 3) (i := s) (j := 0) (Or.inr (Or.inr (Or.inr (Or.inl ⟨rfl, hs, by omega⟩)))) rfl
theorem BW.uf1 {w : MW} {b t : Nat} {C : CD} {M : MD} (h : BW w b t C M) {s : Nat} (hs : s < 6) (x : Nat) : upB b w (wI w (spc b s) 5 (nI x)) (mu M 3 s 1 x) := upB.set h.m (g := 3) (i := s) (j := 1) (Or.inr (Or.inr (Or.inr (Or.inl ⟨rfl, hs, by omega⟩)))) rfl
theorem BW.uf2 {w : MW} {b t : Nat} {C : CD} {M : MD} (h : BW w b t C M) {s : Nat} (hs : s < 6) (x : Nat) : upB b w (wI w (spc b s) 6 (nI x)) (mu M 3 s 2 x) := upB.set h.m (g := 3) (i := s) (j := 2) (Or.inr (Or.inr (Or.inr (Or.inl ⟨rfl, hs, by omega⟩)))) rfl
theorem BW.uf3 {w : MW} {b t : Nat} {C : CD} {M : MD} (h : BW w b t C M) {s : Nat} (hs : s < 6) (x : Nat) : upB b w (wI w (spc b s) 7 (nI x)) (mu M 3 s 3 x) := upB.set h.m (g := 3) (i := s) (j := 3) (Or.inr (Or.inr (Or.inr (Or.inl ⟨rfl, hs, by omega⟩)))) rfl
theorem BW.uf4 {w : MW} {b t : Nat} {C : CD} {M : MD} (h : BW w b t C M) {s : Nat} (hs : s < 6) (x : Nat) : upB b w (wI w (spc b s) 4 (nI x)) (mu M 3 s 4 x) := upB.set h.m (g := 3) (i := s) (j := 4) (Or.inr (Or.inr (Or.inr (Or.inl ⟨rfl, hs, by omega⟩)))) rfl
theorem BW.uf5 {w : MW} {b t : Nat} {C : CD} {M : MD} (h : BW w b t C M) {s : Nat} (hs : s < 6) (x : Nat) : upB b w (wI w (spc b s) 8 (nI x)) (mu M 3 s 5 x) := upB.set h.m (g := 3) (i := s) (j := 5) (Or.inr (Or.inr (Or.inr (Or.inl ⟨rfl, hs, by omega⟩)))) rfl
theorem BW.uf6 {w : MW} {b t : Nat} {C : CD} {M : MD} (h : BW w b t C M) {s : Nat} (hs : s < 6) (x : Nat) : upB b w (wI w (spc b s) 9 (nI x)) (mu M 3 s 6 x) := upB.set h.m (g := 3) (i := s) (j := 6) (Or.inr (Or.inr (Or.inr (Or.inl ⟨rfl, hs, by omega⟩)))) rfl
theorem BW.uf7 {w : MW} {b t : Nat} {C : CD} {M : MD} (h : BW w b t C M) {s : Nat} (hs : s < 6) (x : Nat) : upB b w (wI w (spc b s) 10 (nI x)) (mu M 3 s 7 x) := upB.set h.m (g := 3) (i := s) (j := 7) (Or.inr (Or.inr (Or.inr (Or.inl ⟨rfl, hs, by omega⟩)))) rfl
theorem BW.uf8 {w : MW} {b t : Nat} {C : CD} {M : MD} (h : BW w b t C M) {s : Nat} (hs : s < 6) (x : Nat) : upB b w (wI w (spc b s) 3 (nI x)) (mu M 3 s 8 x) := upB.set h.m (g := 3) (i := s) (j := 8) (Or.inr (Or.inr (Or.inr (Or.inl ⟨rfl, hs, by omega⟩)))) rfl
theorem BW.uto {w : MW} {b t : Nat} {C : CD} {M : MD} (h : BW w b t C M) {j : Nat} (hj : j < 6) (x : Nat) : upB b w (wI w (b + 7) j (nI x)) (mu M 1 0 j x) := upB.set h.m (g := 1) (i := 0) (j := j) (Or.inr (Or.inl ⟨rfl, rfl, hj⟩)) rfl
theorem BW.uws {w : MW} {b t : Nat} {C : CD} {M : MD} (h : BW w b t C M) {v : Nat} (hv : v < 12) (x : Nat) : upB b w (wI w (b + 8) v (nI x)) (mu M 2 v 0 x) := upB.set h.m (g := 2) (i := v) (j := 0) (Or.inr (Or.inr (Or.inl ⟨rfl, hv, by omega⟩))) rfl
theorem BW.uwr {w : MW} {b t : Nat} {C : CD} {M : MD} (h : BW w b t C M) {v : Nat} (hv : v < 12) (x : Nat) : upB b w (wI w (b + 9) v (nI x)) (mu M 2 v 1 x) := upB.set h.m (g := 2) (i := v) (j := 1) (Or.inr (Or.inr (Or.inl ⟨rfl, hv, by omega⟩))) rfl
theorem BW.ukn {w : MW} {b t : Nat} {C : CD} {M : MD} (h : BW w b t C M) {s j : Nat} (hs : s < 6) (hj : j < 5) (x : Nat) : upB b w (wI w (knc b s) j (nI x)) (mu M 4 s j x) := upB.set h.m (g := 4) (i := s) (j := j) (Or.inr (Or.inr (Or.inr (Or.inr (Or.inl ⟨rfl, hs, hj⟩))))) rfl
theorem BW.uhe {w : MW} {b t : Nat} {C : CD} {M : MD} (h : BW w b t C M) {s j : Nat} (hs : s < 6) (hj : j < 10) (x : Nat) : upB b w (wI w (hrc b s) j (nI x)) (mu M 5 s j x) := upB.set h.m (g := 5) (i := s) (j := j) (Or.inr (Or.inr (Or.inr (Or.inr (Or.inr ⟨rfl, hs, hj⟩))))) rfl
theorem upB.ign {b : Nat} {w w' : MW} {M : MD} {g i j x : Nat} (h : upB b w w' M) (hg : 6 ≤ g) : upB b w w' (mu M g i j x) := h.ext fun g' i' j' hv => by
  rw [mu_n]
  rintro ⟨rfl, -, -⟩
  rcases hv with q | q | q | q | q | q <;> omega
