/-! ===== the law's bee under new cells and other writings ===== -/
def agr (w w' : MW) (lo hi : Nat) : Prop := ∀ c, lo ≤ c → c < hi → mTg w' c = mTg w c ∧ mLn w' c = mLn w c ∧ mI w' c = mI w c ∧ mR w' c = mR w c
def rowOf (C : CD) (f i : Nat) : Prop := (f = 9 ∧ i < C 0 0 1) ∨ ((f = 10 ∨ f = 11) ∧ i < C 0 0 2) ∨ ((f = 12 ∨ f = 13 ∨ f = 14) ∧ i < C 0 0 3) ∨ ((f = 15 ∨ f = 16) ∧ i < C 0 0 4) ∨ (f = 17 ∧ i < C 0 0 5)
/-- where the law's bee's cells lie -/
def SB (w : MW) (σ : Nat) (C : CD) (hi : Nat) : Prop := σ < hi ∧ (∀ f, 7 ≤ f → f ≤ 17 → 276 ≤ gR w σ f ∧ gR w σ f < hi) ∧ ∀ f i, rowOf C f i → 276 ≤ gR w (gR w σ f) i ∧ gR w (gR w σ f) i < hi
section
variable {σ hi : Nat} {w w' : MW} {C : CD} {M : MD}
theorem ST.ag (S : ST w σ C) (b : SB w σ C hi) (a : agr w w' 276 hi) : ST w' σ C := by
  have a0 := a σ S.lo b.1
  have g : ∀ f, gR w' σ f = gR w σ f := fun f => by unfold gR; rw [a0.2.2.2]
  have af : ∀ f, 7 ≤ f → f ≤ 17 → mTg w' (gR w σ f) = mTg w (gR w σ f) ∧ mLn w' (gR w σ f) = mLn w (gR w σ f) ∧ mI w' (gR w σ f) = mI w (gR w σ f) ∧ mR w' (gR w σ f) = mR w (gR w σ f) := fun f h1 h2 => a _ (b.2.1 f h1 h2).1 (b.2.1 f h1 h2).2
  have ar : ∀ f i, rowOf C f i → mTg w' (gR w (gR w σ f) i) = mTg w (gR w (gR w σ f) i) ∧ mLn w' (gR w (gR w σ f) i) = mLn w (gR w (gR w σ f) i) ∧ mI w' (gR w (gR w σ f) i) = mI w (gR w (gR w σ f) i) ∧ mR w' (gR w (gR w σ f) i) = mR w (gR w (gR w σ f) i) := fun f i r => a _ (b.2.2 f i r).1 (b.2.2 f i r).2
  have q7 := af 7 (by decide) (by decide)
  have gg7 : ∀ i, gR w' (gR w σ 7) i = gR w (gR w σ 7) i := fun i => by unfold gR; unfold gR at q7; rw [q7.2.2.2]
  have q8 := af 8 (by decide) (by decide)
  have gg8 : ∀ i, gR w' (gR w σ 8) i = gR w (gR w σ 8) i := fun i => by unfold gR; unfold gR at q8; rw [q8.2.2.2]
  have q9 := af 9 (by decide) (by decide)
  have gg9 : ∀ i, gR w' (gR w σ 9) i = gR w (gR w σ 9) i := fun i => by unfold gR; unfold gR at q9; rw [q9.2.2.2]
  have q10 := af 10 (by decide) (by decide)
  have gg10 : ∀ i, gR w' (gR w σ 10) i = gR w (gR w σ 10) i := fun i => by unfold gR; unfold gR at q10; rw [q10.2.2.2]
  have q11 := af 11 (by decide) (by decide)
  have gg11 : ∀ i, gR w' (gR w σ 11) i = gR w (gR w σ 11) i := fun i => by unfold gR; unfold gR at q11; rw [q11.2.2.2]
  have q12 := af 12 (by decide) (by decide)
  have gg12 : ∀ i, gR w' (gR w σ 12) i = gR w (gR w σ 12) i := fun i => by unfold gR; unfold gR at q12; rw [q12.2.2.2]
  have q13 := af 13 (by decide) (by decide)
  have gg13 : ∀ i, gR w' (gR w σ 13) i = gR w (gR w σ 13) i := fun i => by unfold gR; unfold gR at q13; rw [q13.2.2.2]
  have q14 := af 14 (by decide) (by decide)
  have gg14 : ∀ i, gR w' (gR w σ 14) i = gR w (gR w σ 14) i := fun i => by unfold gR; unfold gR at q14; rw [q14.2.2.2]
  have q15 := af 15 (by decide) (by decide)
  have gg15 : ∀ i, gR w' (gR w σ 15) i = gR w (gR w σ 15) i := fun i => by unfold gR; unfold gR at q15; rw [q15.2.2.2]
  have q16 := af 16 (by decide) (by decide)
  have gg16 : ∀ i, gR w' (gR w σ 16) i = gR w (gR w σ 16) i := fun i => by unfold gR; unfold gR at q16; rw [q16.2.2.2]
  have q17 := af 17 (by decide) (by decide)
  have gg17 : ∀ i, gR w' (gR w σ 17) i = gR w (gR w σ 17) i := fun i => by unfold gR; unfold gR at q17; rw [q17.2.2.2]
  have me : ∀ c, muS w' σ C c ↔ muS w σ C c := fun c => by unfold muS; simp only [g, gg7, gg8, gg9, gg10, gg11, gg12, gg13, gg14, gg15, gg16, gg17]
  exact ⟨a0.1.trans S.tg,
    by rw [g, a0.2.2.2]; exact S.r7,
    by rw [g, q7.1]; exact S.t7,
    by rw [g, q7.2.1]; exact S.n7,
    by rw [g, a0.2.2.2]; exact S.r8,
    by rw [g, q8.1]; exact S.t8,
    by rw [g, q8.2.1]; exact S.n8,
    by rw [g, a0.2.2.2]; exact S.r9,
    by rw [g, q9.1]; exact S.t9,
    by rw [g, q9.2.1]; exact S.n9,
    fun i hi => by simp only [g, gg9]; rw [q9.2.2.2, (ar 9 i (by unfold rowOf; omega)).1, (ar 9 i (by unfold rowOf; omega)).2.1]; exact S.e9 i hi,
    by rw [g, a0.2.2.2]; exact S.r10,
    by rw [g, q10.1]; exact S.t10,
    by rw [g, q10.2.1]; exact S.n10,
    fun i hi => by simp only [g, gg10]; rw [q10.2.2.2, (ar 10 i (by unfold rowOf; omega)).1, (ar 10 i (by unfold rowOf; omega)).2.1]; exact S.e10 i hi,
    by rw [g, a0.2.2.2]; exact S.r11,
    by rw [g, q11.1]; exact S.t11,
    by rw [g, q11.2.1]; exact S.n11,
    fun i hi => by simp only [g, gg11]; rw [q11.2.2.2, (ar 11 i (by unfold rowOf; omega)).1, (ar 11 i (by unfold rowOf; omega)).2.1]; exact S.e11 i hi,
    by rw [g, a0.2.2.2]; exact S.r12,
    by rw [g, q12.1]; exact S.t12,
    by rw [g, q12.2.1]; exact S.n12,
    fun i hi => by simp only [g, gg12]; rw [q12.2.2.2, (ar 12 i (by unfold rowOf; omega)).1, (ar 12 i (by unfold rowOf; omega)).2.1]; exact S.e12 i hi,
    by rw [g, a0.2.2.2]; exact S.r13,
    by rw [g, q13.1]; exact S.t13,
    by rw [g, q13.2.1]; exact S.n13,
    fun i hi => by simp only [g, gg13]; rw [q13.2.2.2, (ar 13 i (by unfold rowOf; omega)).1, (ar 13 i (by unfold rowOf; omega)).2.1]; exact S.e13 i hi,
    by rw [g, a0.2.2.2]; exact S.r14,
    by rw [g, q14.1]; exact S.t14,
    by rw [g, q14.2.1]; exact S.n14,
    fun i hi => by simp only [g, gg14]; rw [q14.2.2.2, (ar 14 i (by unfold rowOf; omega)).1, (ar 14 i (by unfold rowOf; omega)).2.1]; exact S.e14 i hi,
    by rw [g, a0.2.2.2]; exact S.r15,
    by rw [g, q15.1]; exact S.t15,
    by rw [g, q15.2.1]; exact S.n15,
    fun i hi => by simp only [g, gg15]; rw [q15.2.2.2, (ar 15 i (by unfold rowOf; omega)).1, (ar 15 i (by unfold rowOf; omega)).2.1]; exact S.e15 i hi,
    by rw [g, a0.2.2.2]; exact S.r16,
    by rw [g, q16.1]; exact S.t16,
    by rw [g, q16.2.1]; exact S.n16,
    fun i hi => by simp only [g, gg16]; rw [q16.2.2.2, (ar 16 i (by unfold rowOf; omega)).1, (ar 16 i (by unfold rowOf; omega)).2.1]; exact S.e16 i hi,
    by rw [g, a0.2.2.2]; exact S.r17,
    by rw [g, q17.1]; exact S.t17,
    by rw [g, q17.2.1]; exact S.n17,
    fun i hi => by simp only [g, gg17]; rw [q17.2.2.2, (ar 17 i (by unfold rowOf; omega)).1, (ar 17 i (by unfold rowOf; omega)).2.1]; exact S.e17 i hi,
    S.lo,
    by simp only [g, gg7, gg8, gg9, gg10, gg11, gg12, gg13, gg14, gg15, gg16, gg17]; exact S.sm,
    fun i hi => by simp only [g, gg7, gg8, gg9, gg10, gg11, gg12, gg13, gg14, gg15, gg16, gg17]; exact S.st i hi,
    fun i hi => by simp only [g, gg7, gg8, gg9, gg10, gg11, gg12, gg13, gg14, gg15, gg16, gg17]; exact S.kn i hi,
    fun i hi => by simp only [g, gg7, gg8, gg9, gg10, gg11, gg12, gg13, gg14, gg15, gg16, gg17]; exact S.he i hi,
    by simp only [g, gg7, gg8, gg9, gg10, gg11, gg12, gg13, gg14, gg15, gg16, gg17]; exact S.o1,
    by simp only [g, gg7, gg8, gg9, gg10, gg11, gg12, gg13, gg14, gg15, gg16, gg17]; exact S.o2,
    by simp only [g, gg7, gg8, gg9, gg10, gg11, gg12, gg13, gg14, gg15, gg16, gg17]; exact S.o3,
    fun i hi => by simp only [g, gg7, gg8, gg9, gg10, gg11, gg12, gg13, gg14, gg15, gg16, gg17]; exact S.o4 i hi,
    fun i j h1 h2 => by simp only [g, gg7, gg8, gg9, gg10, gg11, gg12, gg13, gg14, gg15, gg16, gg17]; exact S.al i j h1 h2,
    by rw [me]; simp only [g, gg7, gg8, gg9, gg10, gg11, gg12, gg13, gg14, gg15, gg16, gg17]; exact S.f8,
    fun i hi => by rw [me]; simp only [g, gg7, gg8, gg9, gg10, gg11, gg12, gg13, gg14, gg15, gg16, gg17]; exact S.f9 i hi,
    fun i hi => by rw [me]; simp only [g, gg7, gg8, gg9, gg10, gg11, gg12, gg13, gg14, gg15, gg16, gg17]; exact S.f10 i hi,
    fun i hi => by rw [me]; simp only [g, gg7, gg8, gg9, gg10, gg11, gg12, gg13, gg14, gg15, gg16, gg17]; exact S.f15 i hi,
    fun i hi => by rw [me]; simp only [g, gg7, gg8, gg9, gg10, gg11, gg12, gg13, gg14, gg15, gg16, gg17]; exact S.f16 i hi,
    fun i hi => by rw [me]; simp only [g, gg7, gg8, gg9, gg10, gg11, gg12, gg13, gg14, gg15, gg16, gg17]; exact S.f17 i hi⟩
theorem SW.ag (h : SW w σ C M) (b : SB w σ C hi) (a : agr w w' 276 hi) : SW w' σ C M := by
  have S := h.s
  have a0 := a σ S.lo b.1
  have g : ∀ f, gR w' σ f = gR w σ f := fun f => by unfold gR; rw [a0.2.2.2]
  have af : ∀ f, 7 ≤ f → f ≤ 17 → mTg w' (gR w σ f) = mTg w (gR w σ f) ∧ mLn w' (gR w σ f) = mLn w (gR w σ f) ∧ mI w' (gR w σ f) = mI w (gR w σ f) ∧ mR w' (gR w σ f) = mR w (gR w σ f) := fun f h1 h2 => a _ (b.2.1 f h1 h2).1 (b.2.1 f h1 h2).2
  have ar : ∀ f i, rowOf C f i → mTg w' (gR w (gR w σ f) i) = mTg w (gR w (gR w σ f) i) ∧ mLn w' (gR w (gR w σ f) i) = mLn w (gR w (gR w σ f) i) ∧ mI w' (gR w (gR w σ f) i) = mI w (gR w (gR w σ f) i) ∧ mR w' (gR w (gR w σ f) i) = mR w (gR w (gR w σ f) i) := fun f i r => a _ (b.2.2 f i r).1 (b.2.2 f i r).2
  have q7 := af 7 (by decide) (by decide)
  have gg7 : ∀ i, gR w' (gR w σ 7) i = gR w (gR w σ 7) i := fun i => by unfold gR; unfold gR at q7; rw [q7.2.2.2]
  have q8 := af 8 (by decide) (by decide)
  have gg8 : ∀ i, gR w' (gR w σ 8) i = gR w (gR w σ 8) i := fun i => by unfold gR; unfold gR at q8; rw [q8.2.2.2]
  have q9 := af 9 (by decide) (by decide)
  have gg9 : ∀ i, gR w' (gR w σ 9) i = gR w (gR w σ 9) i := fun i => by unfold gR; unfold gR at q9; rw [q9.2.2.2]
  have q10 := af 10 (by decide) (by decide)
  have gg10 : ∀ i, gR w' (gR w σ 10) i = gR w (gR w σ 10) i := fun i => by unfold gR; unfold gR at q10; rw [q10.2.2.2]
  have q11 := af 11 (by decide) (by decide)
  have gg11 : ∀ i, gR w' (gR w σ 11) i = gR w (gR w σ 11) i := fun i => by unfold gR; unfold gR at q11; rw [q11.2.2.2]
  have q12 := af 12 (by decide) (by decide)
  have gg12 : ∀ i, gR w' (gR w σ 12) i = gR w (gR w σ 12) i := fun i => by unfold gR; unfold gR at q12; rw [q12.2.2.2]
  have q13 := af 13 (by decide) (by decide)
  have gg13 : ∀ i, gR w' (gR w σ 13) i = gR w (gR w σ 13) i := fun i => by unfold gR; unfold gR at q13; rw [q13.2.2.2]
  have q14 := af 14 (by decide) (by decide)
  have gg14 : ∀ i, gR w' (gR w σ 14) i = gR w (gR w σ 14) i := fun i => by unfold gR; unfold gR at q14; rw [q14.2.2.2]
  have q15 := af 15 (by decide) (by decide)
  have gg15 : ∀ i, gR w' (gR w σ 15) i = gR w (gR w σ 15) i := fun i => by unfold gR; unfold gR at q15; rw [q15.2.2.2]
  have q16 := af 16 (by decide) (by decide)
  have gg16 : ∀ i, gR w' (gR w σ 16) i = gR w (gR w σ 16) i := fun i => by unfold gR; unfold gR at q16; rw [q16.2.2.2]
  have q17 := af 17 (by decide) (by decide)
  have gg17 : ∀ i, gR w' (gR w σ 17) i = gR w (gR w σ 17) i := fun i => by unfold gR; unfold gR at q17; rw [q17.2.2.2]
  have me : ∀ c, muS w' σ C c ↔ muS w σ C c := fun c => by unfold muS; simp only [g, gg7, gg8, gg9, gg10, gg11, gg12, gg13, gg14, gg15, gg16, gg17]
  have sl : ∀ g' i j, sloc w' σ g' i j = sloc w σ g' i j := fun g' i j => by unfold sloc; simp only [g, gg7, gg8, gg9, gg10, gg11, gg12, gg13, gg14, gg15, gg16, gg17]
  refine ⟨S.ag b a, ⟨?_, ?_, ?_, ?_, ?_, ?_⟩, h.k, ?_⟩
  · intro k hk
    rw [g, q8.2.2.1]; exact h.c.1 k hk
  · intro r hr j hj
    simp only [g, gg9]; rw [(ar 9 r (by unfold rowOf; omega)).2.2.1]; exact h.c.2.1 r hr j hj
  · intro v hv p hp
    simp only [g, gg10]; rw [(ar 10 v (by unfold rowOf; omega)).2.2.1]; exact h.c.2.2.1 v hv p hp
  · intro q hq j hj
    simp only [g, gg15]; rw [(ar 15 q (by unfold rowOf; omega)).2.2.1]; exact h.c.2.2.2.1 q hq j hj
  · intro q hq p hp
    simp only [g, gg16]; rw [(ar 16 q (by unfold rowOf; omega)).2.2.1]; exact h.c.2.2.2.2.1 q hq p hp
  · intro o ho j hj
    simp only [g, gg17]; rw [(ar 17 o (by unfold rowOf; omega)).2.2.1]; exact h.c.2.2.2.2.2 o ho j hj
  · intro g' i j hv
    have hv' : SV C g' i j := hv
    have ce : mI w' (sloc w σ g' i j).1 = mI w (sloc w σ g' i j).1 := by
      unfold SV at hv'
      rcases hv' with ⟨rfl, rfl, hj⟩ | ⟨rfl, rfl, hj⟩ | ⟨rfl, hi, hj⟩ | ⟨rfl, hi, hj⟩ | ⟨rfl, hi, hj⟩ | ⟨rfl, hi, hj⟩ | ⟨rfl, rfl, h1, h2⟩
      · exact a0.2.2.1
      · exact q7.2.2.1
      · exact (ar 11 i (by unfold rowOf; omega)).2.2.1
      · exact (ar 12 i (by unfold rowOf; omega)).2.2.1
      · exact (ar 13 i (by unfold rowOf; omega)).2.2.1
      · exact (ar 14 i (by unfold rowOf; omega)).2.2.1
      · exact a0.2.2.1
    show mI w' (sloc w' σ g' i j).1 (sloc w' σ g' i j).2 = nI (M g' i j)
    rw [sl, ce]
    exact h.m g' i j hv
theorem SB.ag (S : ST w σ C) (b : SB w σ C hi) (a : agr w w' 276 hi) : SB w' σ C hi := by
  have a0 := a σ S.lo b.1
  have g : ∀ f, gR w' σ f = gR w σ f := fun f => by unfold gR; rw [a0.2.2.2]
  have gg : ∀ f, 7 ≤ f → f ≤ 17 → ∀ i, gR w' (gR w σ f) i = gR w (gR w σ f) i := fun f h1 h2 i => by
    have q := (a _ (b.2.1 f h1 h2).1 (b.2.1 f h1 h2).2).2.2.2
    unfold gR at q ⊢
    rw [q]
  refine ⟨b.1, fun f h1 h2 => by rw [g]; exact b.2.1 f h1 h2, fun f i r => ?_⟩
  have hf : 7 ≤ f ∧ f ≤ 17 := by unfold rowOf at r; omega
  rw [g, gg f hf.1 hf.2]
  exact b.2.2 f i r
theorem agr.refl {lo : Nat} : agr w w lo hi := fun _ _ _ => ⟨rfl, rfl, rfl, rfl⟩
theorem agr.trans {w2 : MW} {lo : Nat} (h : agr w w' lo hi) (k : agr w' w2 lo hi) : agr w w2 lo hi := fun c h1 h2 => by
  obtain ⟨a1, a2, a3, a4⟩ := h c h1 h2
  obtain ⟨b1, b2, b3, b4⟩ := k c h1 h2
  exact ⟨b1.trans a1, b2.trans a2, b3.trans a3, b4.trans a4⟩
theorem agr.wN {lo t n k : Nat} (hs : hi ≤ mSz w) : agr w (wN w t n k) lo hi := fun c _ h2 => by
  have := wN_old w t n k c (by omega)
  exact ⟨this.1, this.2.1, this.2.2.1, this.2.2.2⟩
theorem agr.wI {lo c k : Nat} {x : Int32} (hc : hi ≤ c ∨ c < lo) : agr w (wI w c k x) lo hi := fun b h1 h2 => ⟨rfl, rfl, funext fun j => by rw [mI_wI, if_neg (by omega)], rfl⟩
theorem agr.wR {lo c k : Nat} {x : Option Nat} (hc : hi ≤ c ∨ c < lo) : agr w (wR w c k x) lo hi := fun b h1 h2 => ⟨rfl, rfl, rfl, funext fun j => by show (if b = c ∧ j = k then x else mR w b j) = mR w b j; rw [if_neg (by omega)]⟩
end
