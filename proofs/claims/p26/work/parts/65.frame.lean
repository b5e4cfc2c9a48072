/-! ===== the class's object under new cells and other writings ===== -/
section
variable {b t hi : Nat} {w w' : MW} {C : CD} {M : MD}
theorem BW.ag (h : BW w b t C M) (ht : 166 ≤ t) (hb : t + 21 ≤ b) (hh : b + 28 ≤ hi) (a : agr w w' 166 hi) : BW w' b t C M := by
  have i : ∀ k, k ≤ 20 → mI w' (t + k) = mI w (t + k) := fun k hk => (a _ (by omega) (by omega)).2.2.1
  refine ⟨bT.ag h.b hh a, tT.ag h.t ht (by omega) a, ?_, ?_, h.k, ?_⟩
  · have q := h.c
    unfold CF at q ⊢
    simp only [i 1 (by decide), i 2 (by decide), i 3 (by decide), i 4 (by decide), i 5 (by decide), i 6 (by decide), i 7 (by decide), i 9 (by decide), i 10 (by decide), i 11 (by decide), i 12 (by decide), i 13 (by decide), i 14 (by decide), i 15 (by decide), i 16 (by decide), i 17 (by decide), i 18 (by decide), i 19 (by decide), i 20 (by decide)]
    exact q
  · intro v hv
    rw [i 8 (by decide)]
    exact h.2.2.2.1 v hv
  · intro g i' j hv
    have c1 : b ≤ ((BL b).2 g i' j).1 := Nat.le_of_not_lt (fun q => BL_low q ⟨(g, i', j), hv, rfl⟩)
    have c2 : ((BL b).2 g i' j).1 < b + 28 := Nat.lt_of_not_le (fun q => BL_high q ⟨(g, i', j), hv, rfl⟩)
    rw [(a ((BL b).2 g i' j).1 (by omega) (by omega)).2.2.1]
    exact h.m g i' j hv
theorem GW.ag (h : GW w C M) (hh : 276 ≤ hi) (a : agr w w' 166 hi) : GW w' C M := by
  obtain ⟨⟨q1, q2, q3, q4, q5, q6⟩, h2, h3, h4⟩ := h
  have a6 := a 166 (by omega) (by omega)
  have a7 := a 167 (by omega) (by omega)
  exact ⟨⟨a6.1.trans q1, (congrFun a6.2.2.2 0).trans q2, (congrFun a6.2.2.2 2).trans q3, (congrFun a6.2.2.2 6).trans q4, (congrFun a6.2.2.2 7).trans q5, a7.1.trans q6⟩, (congrFun a7.2.2.1 1).trans h2, h3.ag (by omega) (by omega) (by omega) a, bT.ag h4 (by omega) a⟩
theorem GW.wN (h : GW w C M) {tg n k : Nat} (hs : 276 ≤ mSz w) : GW (wN w tg n k) C M := h.ag (Nat.le_refl _) (agr.wN hs)
theorem SW.wN {σ : Nat} (h : SW w σ C M) {tg n k : Nat} (b : SB w σ C hi) (hs : hi ≤ mSz w) : SW (wN w tg n k) σ C M := h.ag b (agr.wN hs)
theorem SW.wI {σ c k : Nat} {x : Int32} (h : SW w σ C M) (b : SB w σ C hi) (hc : hi ≤ c ∨ c < 276) : SW (wI w c k x) σ C M := h.ag b (agr.wI hc)
theorem GW.wI {c k : Nat} {x : Int32} (h : GW w C M) (hc : 276 ≤ c) : GW (wI w c k x) C M := h.ag (Nat.le_refl _) (agr.wI (Or.inl hc))
theorem GW.upS {σ : Nat} {M' : MD} (h : GW w C M) (S : ST w σ C) (u : upS σ C w w' M') : GW w' C M := by
  obtain ⟨J, rfl, e, _⟩ := u
  refine h.ag (Nat.le_refl 276) (fun c h1 h2 => ⟨rfl, rfl, funext fun k => e c k ?_, rfl⟩)
  intro q
  have := S.lo
  have := S.sm
  have := S.o1
  have := S.o2
  have := S.o3
  unfold muS at q
  rcases q with q | q | ⟨i, hi, q⟩ | ⟨i, hi, q⟩
  · omega
  · omega
  · have := S.st i hi
    omega
  · have := S.kn i hi
    have := S.he i hi
    have := S.o4 i hi
    omega
theorem SW.frB {σ lo : Nat} (h : SW w σ C M) (b : SB w σ C hi) (hlo : lo ≤ 276) {lo0 : Nat} (f : frB lo0 lo w w') : SW w' σ C M := by
  obtain ⟨J, rfl, e⟩ := f
  exact h.ag b (fun c h1 h2 => ⟨rfl, rfl, funext fun k => e c k (by omega), rfl⟩)
end
