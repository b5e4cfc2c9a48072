/-! ===== lenses: a world whose numbers at given places are those of a model ===== -/
abbrev MD : Type := Nat → Nat → Nat → Nat
def mu (M : MD) (g i j x : Nat) : MD := fun a b c => if a = g ∧ b = i ∧ c = j then x else M a b c
theorem mu_s (M : MD) (g i j x : Nat) : mu M g i j x g i j = x := if_pos ⟨rfl, rfl, rfl⟩
theorem mu_n {M : MD} {g i j x a b c : Nat} (h : ¬ (a = g ∧ b = i ∧ c = j)) : mu M g i j x a b c = M a b c := if_neg h
theorem mu_at (M : MD) (g i j x a b c : Nat) : mu M g i j x a b c = if a = g ∧ b = i ∧ c = j then x else M a b c := rfl
/-- places: which there are, and where each lies -/
abbrev LN : Type := (Nat → Nat → Nat → Prop) × (Nat → Nat → Nat → Nat × Nat)
def lnInj (L : LN) : Prop := ∀ g i j g' i' j', L.1 g i j → L.1 g' i' j' → L.2 g i j = L.2 g' i' j' → g = g' ∧ i = i' ∧ j = j'
def lnAt (L : LN) (c k : Nat) : Prop := ∃ t : Nat × Nat × Nat, L.1 t.1 t.2.1 t.2.2 ∧ L.2 t.1 t.2.1 t.2.2 = (c, k)
noncomputable def lwJ (L : LN) (J : Nat → Nat → Int32) (M : MD) : Nat → Nat → Int32 := fun c k => @dite _ (lnAt L c k) (Classical.propDecidable _) (fun h => nI (M (Classical.choose h).1 (Classical.choose h).2.1 (Classical.choose h).2.2)) (fun _ => J c k)
theorem lwJ_in {L : LN} {J : Nat → Nat → Int32} {M : MD} {g i j c k : Nat} (hL : lnInj L) (hv : L.1 g i j) (hl : L.2 g i j = (c, k)) : lwJ L J M c k = nI (M g i j) := by
  have h : lnAt L c k := ⟨(g, i, j), hv, hl⟩
  unfold lwJ
  rw [dif_pos h]
  obtain ⟨h1, h2⟩ := Classical.choose_spec h
  obtain ⟨e1, e2, e3⟩ := hL _ _ _ _ _ _ h1 hv (h2.trans hl.symm)
  rw [e1, e2, e3]
theorem lwJ_out {L : LN} {J : Nat → Nat → Int32} {M : MD} {c k : Nat} (h : ¬ lnAt L c k) : lwJ L J M c k = J c k := by
  unfold lwJ
  rw [dif_neg h]
noncomputable def lw (L : LN) (w : MW) (M : MD) : MW := wJ w (lwJ L (mI w) M)
theorem mTg_lw (L : LN) (w : MW) (M : MD) : mTg (lw L w M) = mTg w := rfl
theorem mLn_lw (L : LN) (w : MW) (M : MD) : mLn (lw L w M) = mLn w := rfl
theorem mR_lw (L : LN) (w : MW) (M : MD) : mR (lw L w M) = mR w := rfl
theorem gR_lw (L : LN) (w : MW) (M : MD) : gR (lw L w M) = gR w := rfl
theorem mSz_lw (L : LN) (w : MW) (M : MD) : mSz (lw L w M) = mSz w := rfl
theorem mSl_lw (L : LN) (w : MW) (M : MD) : mSl (lw L w M) = mSl w := rfl
theorem mI_lw (L : LN) (w : MW) (M : MD) : mI (lw L w M) = lwJ L (mI w) M := rfl
theorem lw_in {L : LN} {w : MW} {M : MD} {g i j c k : Nat} (hL : lnInj L) (hv : L.1 g i j) (hl : L.2 g i j = (c, k)) : mI (lw L w M) c k = nI (M g i j) := lwJ_in hL hv hl
theorem lw_out {L : LN} {w : MW} {M : MD} {c k : Nat} (h : ¬ lnAt L c k) : mI (lw L w M) c k = mI w c k := lwJ_out h
/-- two number functions that agree with the model at its places and elsewhere with one another -/
theorem lwJ_uniq {L : LN} {J J' : Nat → Nat → Int32} {M : MD} (hL : lnInj L) (h1 : ∀ g i j, L.1 g i j → J' (L.2 g i j).1 (L.2 g i j).2 = nI (M g i j)) (h2 : ∀ c k, ¬ lnAt L c k → J' c k = J c k) : J' = lwJ L J M := by
  funext c k
  by_cases h : lnAt L c k
  · obtain ⟨⟨g, i, j⟩, hv, hl⟩ := h
    rw [lwJ_in hL hv hl, ← h1 g i j hv]
    have e : L.2 g i j = (c, k) := hl
    rw [e]
  · rw [lwJ_out h, h2 c k h]
theorem lw_ext {L : LN} {w : MW} {M M' : MD} (hL : lnInj L) (h : ∀ g i j, L.1 g i j → M g i j = M' g i j) : lw L w M = lw L w M' := by
  unfold lw
  congr 1
  refine lwJ_uniq hL (fun g i j hv => ?_) (fun c k hn => lwJ_out hn)
  rw [lwJ_in hL hv rfl, h g i j hv]
theorem lw_lw {L : LN} {w : MW} {M M' : MD} (hL : lnInj L) : lw L (lw L w M) M' = lw L w M' := by
  unfold lw
  rw [wJ_wJ]
  congr 1
  refine lwJ_uniq hL (fun g i j hv => lwJ_in hL hv rfl) (fun c k hn => ?_)
  rw [lwJ_out hn, mI_wJ, lwJ_out hn]
theorem lw_of {L : LN} {w : MW} {M : MD} (hL : lnInj L) (h : ∀ g i j, L.1 g i j → mI w (L.2 g i j).1 (L.2 g i j).2 = nI (M g i j)) : lw L w M = w := by
  unfold lw
  rw [← lwJ_uniq hL h (fun c k _ => rfl), wJ_self]
/-- a number of the model set -/
theorem lw_set {L : LN} {w : MW} {M : MD} {g i j c k x : Nat} (hL : lnInj L) (hv : L.1 g i j) (hl : L.2 g i j = (c, k)) : wI (lw L w M) c k (nI x) = lw L w (mu M g i j x) := by
  rw [wI_eq, mI_lw]
  unfold lw
  rw [wJ_wJ]
  congr 1
  refine lwJ_uniq hL (fun g' i' j' hv' => ?_) (fun c' k' hn => ?_)
  · unfold jw
    by_cases e : g' = g ∧ i' = i ∧ j' = j
    · obtain ⟨rfl, rfl, rfl⟩ := e
      rw [hl, if_pos ⟨rfl, rfl⟩, mu_s]
    · rw [if_neg, lwJ_in hL hv' rfl, mu_n e]
      intro h
      apply e
      have : L.2 g' i' j' = L.2 g i j := by rw [hl]; exact Prod.ext h.1 h.2
      exact hL _ _ _ _ _ _ hv' hv this
  · unfold jw
    rw [if_neg, lwJ_out hn]
    rintro ⟨rfl, rfl⟩
    exact hn ⟨(g, i, j), hv, hl⟩
/-- the same out of the world itself, where it holds the model -/
def lnOk (L : LN) (w : MW) (M : MD) : Prop := ∀ g i j, L.1 g i j → mI w (L.2 g i j).1 (L.2 g i j).2 = nI (M g i j)
theorem lnOk_lw {L : LN} {w : MW} {M : MD} (hL : lnInj L) : lnOk L (lw L w M) M := fun _ _ _ hv => lw_in hL hv rfl
theorem lw_set2 {L : LN} {w : MW} {M : MD} {g i j c k x : Nat} (hL : lnInj L) (h : lnOk L w M) (hv : L.1 g i j) (hl : L.2 g i j = (c, k)) : wI w c k (nI x) = lw L w (mu M g i j x) := by
  conv => lhs; rw [← lw_of hL h]
  exact lw_set hL hv hl
theorem lnOk.at {L : LN} {w : MW} {M : MD} (h : lnOk L w M) {g i j c k : Nat} (hv : L.1 g i j) (hl : L.2 g i j = (c, k)) : mI w c k = nI (M g i j) := by
  have := h g i j hv
  rw [hl] at this
  exact this
/-- lenses that have no place in common -/
def lnDis (L L' : LN) : Prop := ∀ c k, lnAt L c k → ¬ lnAt L' c k
theorem lw_comm {L L' : LN} {w : MW} {M M' : MD} (hL : lnInj L) (hL' : lnInj L') (hd : lnDis L L') : lw L (lw L' w M') M = lw L' (lw L w M) M' := by
  unfold lw
  rw [wJ_wJ, wJ_wJ]
  congr 1
  funext c k
  rw [mI_wJ, mI_wJ]
  by_cases h : lnAt L c k
  · have h' := hd c k h
    obtain ⟨⟨g, i, j⟩, hv, hl⟩ := h
    rw [lwJ_in hL hv hl, lwJ_out h', lwJ_in hL hv hl]
  · by_cases h' : lnAt L' c k
    · rw [lwJ_out h]
      obtain ⟨⟨g, i, j⟩, hv, hl⟩ := h'
      rw [lwJ_in hL' hv hl, lwJ_in hL' hv hl]
    · rw [lwJ_out h, lwJ_out h', lwJ_out h', lwJ_out h]
theorem lnOk.other {L L' : LN} {w : MW} {M M' : MD} (h : lnOk L w M) (hd : lnDis L L') : lnOk L (lw L' w M') M := fun g i j hv => by
  rw [lw_out (hd _ _ ⟨(g, i, j), hv, rfl⟩)]
  exact h g i j hv
/-! ===== a bee of the class: where its numbers lie ===== -/
def spc (b s : Nat) : Nat := b + 10 + 3 * s
def knc (b s : Nat) : Nat := b + 11 + 3 * s
def hrc (b s : Nat) : Nat := b + 12 + 3 * s
def psl (j : Nat) : Nat := if j = 0 then 2 else if j = 1 then 5 else if j = 2 then 6 else if j = 3 then 7 else if j = 4 then 4 else if j = 5 then 8 else if j = 6 then 9 else if j = 7 then 10 else 3
theorem psl_inj : ∀ j, j < 9 → ∀ j', j' < 9 → psl j = psl j' → j = j' := by decide
def BV (g i j : Nat) : Prop := (g = 0 ∧ i = 0 ∧ j < 7) ∨ (g = 1 ∧ i = 0 ∧ j < 6) ∨ (g = 2 ∧ i < 12 ∧ j < 2) ∨ (g = 3 ∧ i < 6 ∧ j < 9) ∨ (g = 4 ∧ i < 6 ∧ j < 5) ∨ (g = 5 ∧ i < 6 ∧ j < 10)
def bloc (b g i j : Nat) : Nat × Nat := if g = 0 then (b, j + 7) else if g = 1 then (b + 7, j) else if g = 2 then (b + 8 + j, i) else if g = 3 then (spc b i, psl j) else if g = 4 then (knc b i, j) else (hrc b i, j)
def BL (b : Nat) : LN := (BV, bloc b)
theorem BL_inj (b : Nat) : lnInj (BL b) := by
  intro g i j g' i' j' h h' e
  have hp := psl_inj j
  simp only [BL, BV] at h h'
  rcases h with ⟨rfl, h1, h2⟩ | ⟨rfl, h1, h2⟩ | ⟨rfl, h1, h2⟩ | ⟨rfl, h1, h2⟩ | ⟨rfl, h1, h2⟩ | ⟨rfl, h1, h2⟩ <;> rcases h' with ⟨rfl, g1, g2⟩ | ⟨rfl, g1, g2⟩ | ⟨rfl, g1, g2⟩ | ⟨rfl, g1, g2⟩ | ⟨rfl, g1, g2⟩ | ⟨rfl, g1, g2⟩ <;> simp [BL, bloc, spc, knc, hrc] at e <;> first
  | omega
  | (have := hp h2 j' g2 e.2; omega)
theorem BL_low {b c k : Nat} (h : c < b) : ¬ lnAt (BL b) c k := by
  rintro ⟨⟨g, i, j⟩, hv, hl⟩
  simp only [BL, BV, bloc] at hv hl
  rcases hv with ⟨rfl, h1, h2⟩ | ⟨rfl, h1, h2⟩ | ⟨rfl, h1, h2⟩ | ⟨rfl, h1, h2⟩ | ⟨rfl, h1, h2⟩ | ⟨rfl, h1, h2⟩ <;> simp [spc, knc, hrc] at hl <;> omega
theorem BL_high {b c k : Nat} (h : b + 28 ≤ c) : ¬ lnAt (BL b) c k := by
  rintro ⟨⟨g, i, j⟩, hv, hl⟩
  simp only [BL, BV, bloc] at hv hl
  rcases hv with ⟨rfl, h1, h2⟩ | ⟨rfl, h1, h2⟩ | ⟨rfl, h1, h2⟩ | ⟨rfl, h1, h2⟩ | ⟨rfl, h1, h2⟩ | ⟨rfl, h1, h2⟩ <;> simp [spc, knc, hrc] at hl <;> omega
theorem BL_dis {b b' : Nat} (h : b + 28 ≤ b') : lnDis (BL b) (BL b') := by
  intro c k h1 h2
  rcases Nat.lt_or_ge c b' with g | g
  · exact BL_low g h2
  · exact BL_high (by omega) h1
theorem BL_dis' {b b' : Nat} (h : b + 28 ≤ b') : lnDis (BL b') (BL b) := fun c k h1 h2 => BL_dis h c k h2 h1
