/-! ===== a bee begun anew, and a bee copied ===== -/
/-- in the bee's cells at g, what lies at the places P is the model's; nothing outside is changed -/
def cpB (g : Nat) (M : MD) (P : Nat → Nat → Prop) (w w' : MW) : Prop := ∃ J, w' = wJ w J ∧ (∀ c k, c < g ∨ g + 28 ≤ c → J c k = mI w c k) ∧ ∀ a i j, BV a i j → P (bloc g a i j).1 (bloc g a i j).2 → J (bloc g a i j).1 (bloc g a i j).2 = nI (M a i j)
theorem cpB.refl (g : Nat) (M : MD) (w : MW) : cpB g M (fun _ _ => False) w w := ⟨mI w, (wJ_self w).symm, fun _ _ _ => rfl, fun _ _ _ _ h => absurd h id⟩
theorem cpB.mono {g : Nat} {M : MD} {P P' : Nat → Nat → Prop} {w w' : MW} (h : cpB g M P w w') (hp : ∀ a i j, BV a i j → P' (bloc g a i j).1 (bloc g a i j).2 → P (bloc g a i j).1 (bloc g a i j).2) : cpB g M P' w w' := by
  obtain ⟨J, h1, h2, h3⟩ := h
  exact ⟨J, h1, h2, fun a i j hv hq => h3 a i j hv (hp a i j hv hq)⟩
theorem cpB.set {g : Nat} {M : MD} {P : Nat → Nat → Prop} {w w' : MW} (h : cpB g M P w w') {a i j c k : Nat} (hv : BV a i j) (hl : bloc g a i j = (c, k)) : cpB g M (fun c' k' => P c' k' ∨ (c' = c ∧ k' = k)) w (wI w' c k (nI (M a i j))) := by
  obtain ⟨J, rfl, h2, h3⟩ := h
  refine ⟨jw J c k (nI (M a i j)), rfl, fun c' k' hc => ?_, fun a' i' j' hv' hq => ?_⟩
  · have := bloc_in (b := g) hv
    rw [hl] at this
    have q1 := this.1
    have q2 := this.2
    dsimp only at q1 q2
    unfold jw
    rw [if_neg (by omega)]
    exact h2 c' k' hc
  · unfold jw
    by_cases e : (bloc g a' i' j').1 = c ∧ (bloc g a' i' j').2 = k
    · rw [if_pos e]
      have e2 : bloc g a' i' j' = bloc g a i j := by rw [hl]; exact Prod.ext e.1 e.2
      obtain ⟨r1, r2, r3⟩ := BL_inj g _ _ _ _ _ _ hv' hv e2
      rw [r1, r2, r3]
    · rw [if_neg e]
      rcases hq with q | q
      · exact h3 a' i' j' hv' q
      · exact absurd q e
theorem cpB.row {g : Nat} {M : MD} {P : Nat → Nat → Prop} {w w' : MW} (h : cpB g M P w w') {c : Nat} {f : Nat → Int32} (hc : g ≤ c ∧ c < g + 28) (hf : ∀ a i j, BV a i j → (bloc g a i j).1 = c → f (bloc g a i j).2 = nI (M a i j)) : cpB g M (fun c' k' => P c' k' ∨ c' = c) w (wJ w' (jr (mI w') c f)) := by
  obtain ⟨J, rfl, h2, h3⟩ := h
  refine ⟨jr J c f, rfl, fun c' k' hc' => ?_, fun a' i' j' hv' hq => ?_⟩
  · unfold jr
    rw [if_neg (by omega)]
    exact h2 c' k' hc'
  · unfold jr
    by_cases e : (bloc g a' i' j').1 = c
    · rw [if_pos e]
      exact hf a' i' j' hv' e
    · rw [if_neg e]
      rcases hq with q | q
      · exact h3 a' i' j' hv' q
      · exact absurd q e
theorem cpB.up {g : Nat} {M : MD} {P : Nat → Nat → Prop} {w w' : MW} (h : cpB g M P w w') (hp : ∀ a i j, BV a i j → P (bloc g a i j).1 (bloc g a i j).2) : upB g w w' M := by
  obtain ⟨J, rfl, h2, h3⟩ := h
  exact ⟨J, rfl, h2, fun a i j hv => h3 a i j hv (hp a i j hv)⟩
theorem cpB.out {g : Nat} {M : MD} {P : Nat → Nat → Prop} {w w' : MW} (h : cpB g M P w w') {c : Nat} (hc : c < g ∨ g + 28 ≤ c) : mI w' c = mI w c := by
  obtain ⟨J, rfl, h2, -⟩ := h
  funext k
  exact h2 c k hc
theorem cpB.sh {g b t : Nat} {M : MD} {P : Nat → Nat → Prop} {w w' : MW} (h : cpB g M P w w') (hb : bT w b t) : bT w' b t := by
  obtain ⟨J, rfl, -, -⟩ := h
  exact hb
theorem cpB.st {g t : Nat} {M : MD} {P : Nat → Nat → Prop} {w w' : MW} (h : cpB g M P w w') (hb : tT w t) : tT w' t := by
  obtain ⟨J, rfl, -, -⟩ := h
  exact hb
section
variable {d b g t B : Nat} {w : MW} {C : CD} {M : MD}
/-- the bee that is copied from stays -/
theorem cpB.src {P : Nat → Nat → Prop} {w0 w' : MW} (c : cpB g M P w0 w') (h : BW w0 b t C M) (hbg : b + 28 ≤ g) : BW w' b t C M := by
  have e : ∀ c', c' < b + 28 → mI w' c' = mI w0 c' := fun c' hc => c.out (Or.inl (by omega))
  have hti := h.b.thi
  refine ⟨c.sh h.b, c.st h.t, h.c.same fun c' _ q => e c' (by omega), h.h.same (e _ (by omega)), h.k, fun a i j hv => ?_⟩
  have := bloc_in (b := b) hv
  have hx := h.m a i j hv
  show mI w' (bloc b a i j).1 (bloc b a i j).2 = _
  rw [e _ this.2]
  exact hx
theorem kn3 {x : Nat} (hx : x ≤ 1) : mNar (mTy 4 3) (nI x) = true := by
  rcases (show x = 0 ∨ x = 1 by omega) with e | e <;> subst e <;> decide +kernel
theorem kn4 {x : Nat} (hx : x ≤ 1) : mNar (mTy 4 4) (nI x) = true := by
  rcases (show x = 0 ∨ x = 1 by omega) with e | e <;> subst e <;> decide +kernel
theorem kn13 {x : Nat} (hx : x ≤ 1) : mNar (mTy 0 13) (nI x) = true := by
  rcases (show x = 0 ∨ x = 1 by omega) with e | e <;> subst e <;> decide +kernel
theorem c_copyS {P : Nat → Nat → Prop} {w0 : MW} (c0 : cpB g M P w0 w) (h0 : BW w0 b t C M) (hg0 : bT w0 g t) (hbg : b + 28 ≤ g) {s : Nat} (hs : s < 6) (hm : M 3 s 0 ≤ 1 ∧ M 3 s 8 ≤ 1 ∧ M 3 s 4 ≤ 1) : ∃ w', mK (d + 2) 54 [.ref (spc g s), .ref (spc b s)] w = some (.inl none, w') ∧ cpB g M (fun c k => P c k ∨ c = spc g s ∨ c = knc g s ∨ c = hrc g s) w0 w' := by
  have h8 := h0.b.lo
  have hE : mE ≤ spc g s := by show 166 ≤ g + 10 + 3 * s; omega
  have vs : ∀ j, j < 9 → BV 3 s j := fun j hj => Or.inr (Or.inr (Or.inr (Or.inl ⟨rfl, hs, hj⟩)))
  have s0 := c0.src h0 hbg
  have c1 := c0.set (vs 0 (by omega)) (c := spc g s) (k := 2) rfl
  have s1 := c1.src h0 hbg
  have c2 := c1.set (vs 8 (by omega)) (c := spc g s) (k := 3) rfl
  have s2 := c2.src h0 hbg
  have c3 := c2.set (vs 4 (by omega)) (c := spc g s) (k := 4) rfl
  have s3 := c3.src h0 hbg
  have c4 := c3.set (vs 1 (by omega)) (c := spc g s) (k := 5) rfl
  have s4 := c4.src h0 hbg
  have c5 := c4.set (vs 2 (by omega)) (c := spc g s) (k := 6) rfl
  have s5 := c5.src h0 hbg
  have c6 := c5.set (vs 3 (by omega)) (c := spc g s) (k := 7) rfl
  have s6 := c6.src h0 hbg
  have c7 := c6.set (vs 5 (by omega)) (c := spc g s) (k := 8) rfl
  have s7 := c7.src h0 hbg
  have c8 := c7.set (vs 6 (by omega)) (c := spc g s) (k := 9) rfl
  have s8 := c8.src h0 hbg
  have c9 := c8.set (vs 7 (by omega)) (c := spc g s) (k := 10) rfl
  have s9 := c9.src h0 hbg
  have g0 := c0.sh hg0
  have g3 := c3.sh hg0
  have g6 := c6.sh hg0
  have g9 := c9.sh hg0
  have p1 : mX (d + 2) 54 0 [.ref (spc g s), .ref (spc b s)] [] w = mX (d + 2) 54 24 [.ref (spc g s), .ref (spc b s)] [] (wI (wI (wI w (spc g s) 2 (nI (M 3 s 0))) (spc g s) 3 (nI (M 3 s 8))) (spc g s) 4 (nI (M 3 s 4))) := by
    have a1 := s1.f8 hs
    have a2 := s2.f4 hs
    rw [b_54_0 (bT.st s0.b hs) (bT.st g0 hs) hE (by rw [s0.f0 hs]; exact kn01 hm.1) (bT.st s0.b.wI hs) (bT.st g0.wI hs) (by rw [s0.f0 hs, a1]; exact kn3 hm.2.1) (bT.st s0.b.wI.wI hs) (bT.st g0.wI.wI hs) (by rw [s0.f0 hs, a1, a2]; exact kn4 hm.2.2), s0.f0 hs, a1, a2]
  have p2 : mX (d + 2) 54 24 [.ref (spc g s), .ref (spc b s)] [] (wI (wI (wI w (spc g s) 2 (nI (M 3 s 0))) (spc g s) 3 (nI (M 3 s 8))) (spc g s) 4 (nI (M 3 s 4))) = mX (d + 2) 54 48 [.ref (spc g s), .ref (spc b s)] [] (wI (wI (wI (wI (wI (wI w (spc g s) 2 (nI (M 3 s 0))) (spc g s) 3 (nI (M 3 s 8))) (spc g s) 4 (nI (M 3 s 4))) (spc g s) 5 (nI (M 3 s 1))) (spc g s) 6 (nI (M 3 s 2))) (spc g s) 7 (nI (M 3 s 3))) := by
    have a1 := s4.f2 hs
    have a2 := s5.f3 hs
    rw [b_54_24 (bT.st s3.b hs) (bT.st g3 hs) hE (bT.st s3.b.wI hs) (bT.st g3.wI hs) (bT.st s3.b.wI.wI hs) (bT.st g3.wI.wI hs), s3.f1 hs, a1, a2]
  have p3 : mX (d + 2) 54 48 [.ref (spc g s), .ref (spc b s)] [] (wI (wI (wI (wI (wI (wI w (spc g s) 2 (nI (M 3 s 0))) (spc g s) 3 (nI (M 3 s 8))) (spc g s) 4 (nI (M 3 s 4))) (spc g s) 5 (nI (M 3 s 1))) (spc g s) 6 (nI (M 3 s 2))) (spc g s) 7 (nI (M 3 s 3))) = mX (d + 2) 54 72 [.ref (spc g s), .ref (spc b s)] [] (wI (wI (wI (wI (wI (wI (wI (wI (wI w (spc g s) 2 (nI (M 3 s 0))) (spc g s) 3 (nI (M 3 s 8))) (spc g s) 4 (nI (M 3 s 4))) (spc g s) 5 (nI (M 3 s 1))) (spc g s) 6 (nI (M 3 s 2))) (spc g s) 7 (nI (M 3 s 3))) (spc g s) 8 (nI (M 3 s 5))) (spc g s) 9 (nI (M 3 s 6))) (spc g s) 10 (nI (M 3 s 7))) := by
    have a1 := s7.f6 hs
    have a2 := s8.f7 hs
    rw [b_54_48 (bT.st s6.b hs) (bT.st g6 hs) hE (bT.st s6.b.wI hs) (bT.st g6.wI hs) (bT.st s6.b.wI.wI hs) (bT.st g6.wI.wI hs), s6.f5 hs, a1, a2]
  generalize (wI (wI (wI (wI (wI (wI (wI (wI (wI w (spc g s) 2 (nI (M 3 s 0))) (spc g s) 3 (nI (M 3 s 8))) (spc g s) 4 (nI (M 3 s 4))) (spc g s) 5 (nI (M 3 s 1))) (spc g s) 6 (nI (M 3 s 2))) (spc g s) 7 (nI (M 3 s 3))) (spc g s) 8 (nI (M 3 s 5))) (spc g s) 9 (nI (M 3 s 6))) (spc g s) 10 (nI (M 3 s 7))) = w9 at c9 s9 g9 p3
  have k9 := c_copy (d := d) (bT.kt s9.b hs) (bT.kt g9 hs) (by show 166 ≤ g + 11 + 3 * s; omega) (by rw [bT.kl s9.b hs]; decide) (by rw [bT.kl g9 hs]; decide)
  have c10 := c9.row (c := knc g s) (f := fun k => if k < min (mLn w9 (knc b s)) (mLn w9 (knc g s)) then mI w9 (knc b s) k else mI w9 (knc g s) k) (by unfold knc; omega) (fun a i j hv he => by
    rcases hv with ⟨rfl, q1, q2⟩ | ⟨rfl, q1, q2⟩ | ⟨rfl, q1, q2⟩ | ⟨rfl, q1, q2⟩ | ⟨rfl, q1, q2⟩ | ⟨rfl, q1, q2⟩ <;> simp [bloc, spc, knc, hrc] at he ⊢ <;> try omega
    have : i = s := by omega
    subst this
    have e1 := bT.kl s9.b hs
    have e2 := bT.kl g9 hs
    unfold knc at e1 e2
    rw [e1, e2, if_pos (by omega)]
    exact s9.kn hs q2)
  have s10 := c10.src h0 hbg
  have g10 := c10.sh hg0
  have k10 := c_copy (d := d) (bT.ht s10.b hs) (bT.ht g10 hs) (by show 166 ≤ g + 12 + 3 * s; omega) (by rw [bT.hl s10.b hs]; decide) (by rw [bT.hl g10 hs]; decide)
  generalize (wJ w9 (jr (mI w9) (knc g s) (fun k => if k < min (mLn w9 (knc b s)) (mLn w9 (knc g s)) then mI w9 (knc b s) k else mI w9 (knc g s) k))) = w10 at c10 s10 g10 k10 k9
  have c11 := c10.row (c := hrc g s) (f := fun k => if k < min (mLn w10 (hrc b s)) (mLn w10 (hrc g s)) then mI w10 (hrc b s) k else mI w10 (hrc g s) k) (by unfold hrc; omega) (fun a i j hv he => by
    rcases hv with ⟨rfl, q1, q2⟩ | ⟨rfl, q1, q2⟩ | ⟨rfl, q1, q2⟩ | ⟨rfl, q1, q2⟩ | ⟨rfl, q1, q2⟩ | ⟨rfl, q1, q2⟩ <;> simp [bloc, spc, knc, hrc] at he ⊢ <;> try omega
    have : i = s := by omega
    subst this
    have e1 := bT.hl s10.b hs
    have e2 := bT.hl g10 hs
    unfold hrc at e1 e2
    rw [e1, e2, if_pos (by omega)]
    exact s10.he hs q2)
  refine ⟨_, ?_, c11.mono fun a i j hv hq => ?_⟩
  · rw [e_54, p1, p2, p3, b_54_72 (bT.st s9.b hs) (bT.ks s9.b hs) (bT.st g9 hs) (bT.ks g9 hs), bT.kg s9.b hs, bT.kg g9 hs, k9]
    simp only [mThen_ok, Option.toList_some, Option.toList_none, List.cons_append, List.nil_append]
    rw [b_54_83 (bT.st s10.b hs) (bT.hs s10.b hs) (bT.st g10 hs) (bT.hs g10 hs), bT.hg s10.b hs, bT.hg g10 hs, k10]
    simp only [mThen_ok, Option.toList_some, Option.toList_none, List.cons_append, List.nil_append]
    rw [b_54_94]
  · rcases hq with q | q | q | q
    · simp only [q, true_or]
    · rcases hv with ⟨rfl, q1, q2⟩ | ⟨rfl, q1, q2⟩ | ⟨rfl, q1, q2⟩ | ⟨rfl, q1, q2⟩ | ⟨rfl, q1, q2⟩ | ⟨rfl, q1, q2⟩ <;> simp [bloc, spc, knc, hrc] at q ⊢ <;> try omega
      unfold psl
      repeat' split
      all_goals omega
    · exact Or.inl (Or.inr q)
    · exact Or.inr q
end
