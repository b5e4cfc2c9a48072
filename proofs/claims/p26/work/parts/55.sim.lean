/-! ===== the law's bee: the end of a round ===== -/
theorem su_allz {n : Nat} {f : Nat → Nat} : su n f = 0 ↔ ∀ s, s < n → f s = 0 := by
  induction n with
  | zero => simp [su]
  | succ n ih =>
    rw [su]
    constructor
    · intro e s hs
      by_cases q : s = n
      · subst q; omega
      · exact ih.mp (by omega) s (by omega)
    · intro e
      have h1 := ih.mpr (fun s hs => e s (by omega))
      have h2 := e n (by omega)
      omega
/-- at the end of a round: who has been seen to, of the first n -/
def rdM (any : Bool) (toll n : Nat) (M : MD) : MD := fun g a j => if g = 3 ∧ a < n ∧ j = 2 then 0 else if any = true ∧ g = 3 ∧ a < n ∧ j = 0 then (if M 3 a 0 = 1 ∧ toll ≤ M 3 a 1 then 1 else 0) else M g a j
def richM (toll : Nat) (M : MD) (s : Nat) : Nat := if M 3 s 0 = 1 ∧ toll ≤ M 3 s 1 then 1 else 0
section
variable {d B σ : Nat} {w : MW} {C : CD} {M : MD}
theorem SV.z {g i j k : Nat} (hv : SV C g i j) (hk : k = 1 ∨ k = 2 ∨ k = 3 ∨ k = 4) : ¬ (g = 0 ∧ i = 0 ∧ j = k) := by
  unfold SV at hv
  omega
theorem rdM_o (any : Bool) (toll n : Nat) (M : MD) {g a j : Nat} (h : ¬ (g = 3 ∧ (j = 0 ∨ j = 2) ∧ a < n)) : rdM any toll n M g a j = M g a j := by
  unfold rdM
  rw [if_neg (by omega), if_neg (by omega)]
theorem rdM_step (any : Bool) (toll n : Nat) (M : MD) (hi : ∀ s, M 3 s 0 ≤ 1) (g a j : Nat) :
    (if any = true ∧ ¬ toll ≤ M 3 n 1 then mu (mu (rdM any toll n M) 3 n 0 0) 3 n 2 0 else mu (rdM any toll n M) 3 n 2 0) g a j = rdM any toll (n + 1) M g a j := by
  have q := hi n
  by_cases e : g = 3 ∧ a = n
  · obtain ⟨e1, e2⟩ := e
    subst e1 e2
    by_cases j2 : j = 2
    · subst j2
      have : rdM any toll (a + 1) M 3 a 2 = 0 := by unfold rdM; rw [if_pos ⟨rfl, by omega, rfl⟩]
      rw [this]
      split <;> rw [mu_s]
    · by_cases j0 : j = 0
      · subst j0
        have h0 : rdM any toll a M 3 a 0 = M 3 a 0 := rdM_o any toll a M (by omega)
        have h1 : rdM any toll (a + 1) M 3 a 0 = if any = true then (if M 3 a 0 = 1 ∧ toll ≤ M 3 a 1 then 1 else 0) else M 3 a 0 := by
          unfold rdM
          rw [if_neg (by omega)]
          by_cases g : any = true
          · rw [if_pos ⟨g, rfl, by omega, rfl⟩, if_pos g]
          · rw [if_neg (fun q => g q.1), if_neg g]
        rw [h1]
        by_cases g : any = true
        · rw [if_pos g]
          by_cases t : toll ≤ M 3 a 1
          · rw [if_neg (fun q => q.2 t), mu_n (by omega), h0]
            split <;> omega
          · rw [if_pos ⟨g, t⟩, mu_n (by omega), mu_s, if_neg (fun q => t q.2)]
        · rw [if_neg g, if_neg (fun q => g q.1), mu_n (by omega), h0]
      · rw [rdM_o any toll (a + 1) M (by omega)]
        split
        · rw [mu_n (by omega), mu_n (by omega), rdM_o any toll a M (by omega)]
        · rw [mu_n (by omega), rdM_o any toll a M (by omega)]
  · have : rdM any toll (n + 1) M g a j = rdM any toll n M g a j := by
      unfold rdM
      have c1 : (g = 3 ∧ a < n + 1 ∧ j = 2) ↔ (g = 3 ∧ a < n ∧ j = 2) := by omega
      have c2 : (any = true ∧ g = 3 ∧ a < n + 1 ∧ j = 0) ↔ (any = true ∧ g = 3 ∧ a < n ∧ j = 0) := by
        constructor
        · rintro ⟨x, y⟩; exact ⟨x, by omega⟩
        · rintro ⟨x, y⟩; exact ⟨x, by omega⟩
      simp only [c1, c2]
    rw [this]
    split
    · rw [mu_n (by omega), mu_n (by omega)]
    · rw [mu_n (by omega)]
theorem rdM_end (n toll : Nat) (M : MD) (hn : n ≤ 6) (ht : toll = C 7 (M 0 0 1) 0) {g a j : Nat} (h : ¬ (g = 3 ∧ n ≤ a)) : rdM (anyM M toll 6) toll n M g a j = roundEndM C M g a j := by
  unfold roundEndM
  rw [← ht]
  by_cases e : g = 3 ∧ a < n
  · obtain ⟨e1, e2⟩ := e
    subst e1
    by_cases j2 : j = 2
    · subst j2
      rw [clearM_s _ _ (by omega)]
      unfold rdM
      rw [if_pos ⟨rfl, e2, rfl⟩]
    · rw [clearM_n _ _ (by omega)]
      by_cases j0 : j = 0
      · subst j0
        unfold rdM
        rw [if_neg (by omega)]
        by_cases q : anyM M toll 6 = true
        · rw [if_pos ⟨q, rfl, e2, rfl⟩, if_pos q, payM_s _ _ _ (by omega)]
        · rw [if_neg (fun x => q x.1), if_neg q]
      · rw [rdM_o _ _ _ _ (by omega)]
        split
        · rw [payM_n _ _ _ (by omega)]
        · rfl
  · rw [rdM_o _ _ _ _ (by omega), clearM_n _ _ (by omega)]
    split
    · rw [payM_n _ _ _ (by omega)]
    · rfl
theorem any_rich (hk : C 0 0 3 ≤ 6) (ho : ∀ s, C 0 0 3 ≤ s → s < 6 → M 3 s 0 = 0) (toll : Nat) : (0 < su (C 0 0 3) (richM toll M)) ↔ anyM M toll 6 = true := by
  rw [anyM_i]
  constructor
  · intro hp
    by_cases q : ∃ s, s < 6 ∧ M 3 s 0 = 1 ∧ toll ≤ M 3 s 1
    · exact q
    · exfalso
      have : su (C 0 0 3) (richM toll M) = 0 := su_allz.mpr fun s hs => by
        unfold richM
        rw [if_neg (fun x => q ⟨s, by omega, x⟩)]
      omega
  · rintro ⟨s, h1, h2, h3⟩
    have hs : s < C 0 0 3 := by
      rcases Nat.lt_or_ge s (C 0 0 3) with q | q
      · exact q
      · have := ho s q h1; omega
    rcases Nat.eq_zero_or_pos (su (C 0 0 3) (richM toll M)) with q | q
    · have := su_allz.mp q s hs
      unfold richM at this
      rw [if_pos ⟨h2, h3⟩] at this
      omega
    · exact q
theorem s_round (h : SW w σ C M) (hi : ∀ s, M 3 s 0 ≤ 1) (ho : ∀ s, C 0 0 3 ≤ s → s < 6 → M 3 s 0 = 0) (hB : ∀ s, M 3 s 1 < 1073741824) (hq : M 0 0 1 < C 0 0 4) (a1 : M 8 0 1 = M 0 0 1) : ∃ w', mX d 143 109 [.ref σ, mJ, mJ, mJ, mJ, mJ, mJ] [] w = mX d 143 239 [.ref σ, mJ, mJ, mJ, mJ, mJ, mJ] [] w' ∧ upS σ C w w' (roundEndM C M) := by
  have hk := h.k
  have hk1 := hk.1
  have hr := hk.2.2.2.2.2.1 _ hq
  have S := h.s
  have tg := S.tg
  have r12 := S.r12; have t12 := S.t12; have n12 := S.n12; have r15 := S.r15; have t15 := S.t15; have n15 := S.n15
  obtain ⟨e15q, u15q, l15q⟩ := S.e15 (M 0 0 1) hq
  have y1 : mI w σ 1 = nI (M 0 0 1) := by rw [h.y1, a1]
  have hc := h.c.2.2.2.1 _ hq 0 (by decide)
  have hle : ∀ n, su n (richM (C 7 (M 0 0 1) 0) M) ≤ n := fun n => by
    have := su_le (n := n) (k := 1) (f := richM (C 7 (M 0 0 1) 0) M) (fun i _ => by unfold richM; split <;> omega)
    omega
  have k1 := loop0 (fun i => mX d 143 123 [.ref σ, mJ, .int (nI (su i (richM (C 7 (M 0 0 1) 0) M))), .ref (gR w σ 12), .int (nI (C 0 0 3)), .int (nI i), mJ] [] w) (C 0 0 3) (fun i hi3 => by
    have q1 := hi i
    have q2 := hB i
    obtain ⟨e12i, u12i, l12i⟩ := S.e12 i hi3
    rw [b_143_123, ijle (by omega) (by omega), if_neg (by omega)]
    refine Eq.trans (b_143_130 (by first | assumption | omega) (by first | assumption | omega) (by first | assumption | omega) (by first | assumption | omega) (by first | assumption | omega) (by first | assumption | omega)) ?_
    rw [h.al hi3 (j := 0) (by decide), ijne (by omega) (by omega), su]
    by_cases e : M 3 i 0 = 1
    · rw [if_neg (fun q => q e)]
      refine Eq.trans (b_143_145 (by first | assumption | omega) (by first | assumption | omega) (by first | assumption | omega) (by first | assumption | omega) (by first | assumption | omega) y1 (by first | assumption | omega) (by first | assumption | omega) (by first | assumption | omega) (by first | assumption | omega) (by first | assumption | omega)) ?_
      rw [h.al hi3 (j := 1) (by decide), hc, ijlt (by omega) (by omega)]
      by_cases t : M 3 i 1 < C 7 (M 0 0 1) 0
      · rw [if_pos t, b_143_167, b_143_168, jadd, jadd]
        have : richM (C 7 (M 0 0 1) 0) M i = 0 := by unfold richM; rw [if_neg (by omega)]
        rw [this]
      · rw [if_neg t, b_143_163, b_143_168, jadd, jadd]
        have : richM (C 7 (M 0 0 1) 0) M i = 1 := by unfold richM; rw [if_pos (by omega)]
        rw [this]
    · rw [if_pos e, b_143_167, b_143_168, jadd, jadd]
      have : richM (C 7 (M 0 0 1) 0) M i = 0 := by unfold richM; rw [if_neg (by omega)]
      rw [this])
  have k1' : mX d 143 123 [.ref σ, mJ, .int (nI 0), .ref (gR w σ 12), .int (nI (C 0 0 3)), .int (nI 0), mJ] [] w = mX d 143 123 [.ref σ, mJ, .int (nI (su (C 0 0 3) (richM (C 7 (M 0 0 1) 0) M))), .ref (gR w σ 12), .int (nI (C 0 0 3)), .int (nI (C 0 0 3)), mJ] [] w := k1
  have pre : mX d 143 109 [.ref σ, mJ, mJ, mJ, mJ, mJ, mJ] [] w = mX d 143 188 [.ref σ, mJ, .int (nI (su (C 0 0 3) (richM (C 7 (M 0 0 1) 0) M))), .ref (gR w σ 12), .int (nI (C 0 0 3)), .int (nI 0), mJ] [] w := by
    refine Eq.trans (b_143_109 (by first | assumption | omega) (by first | assumption | omega) (by first | assumption | omega)) ?_
    rw [n12, k1', b_143_123, ijle (by omega) (by omega), if_pos (Nat.le_refl _)]
    refine Eq.trans (b_143_176 (by first | assumption | omega) (by first | assumption | omega) (by first | assumption | omega)) ?_
    rw [n12]
  rw [pre]
  have hsu := hle (C 0 0 3)
  have hany := any_rich hk1.2.2.2.1 ho (C 7 (M 0 0 1) 0)
  clear k1 k1' pre
  generalize hA : anyM M (C 7 (M 0 0 1) 0) 6 = any at hany
  generalize su (C 0 0 3) (richM (C 7 (M 0 0 1) 0) M) = X at hsu hany ⊢
  suffices key : ∀ m i w, i + m = C 0 0 3 → SW w σ C (rdM any (C 7 (M 0 0 1) 0) i M) → ∃ w', mX d 143 188 [.ref σ, mJ, .int (nI X), .ref (gR w σ 12), .int (nI (C 0 0 3)), .int (nI i), mJ] [] w = mX d 143 239 [.ref σ, mJ, mJ, mJ, mJ, mJ, mJ] [] w' ∧ upS σ C w w' (rdM any (C 7 (M 0 0 1) 0) (C 0 0 3) M) by
    obtain ⟨w', e, u⟩ := key _ 0 w (Nat.zero_add _) (h.up (h.refl.ext fun g i j _ => (rdM_o _ _ _ _ (by omega)).symm))
    refine ⟨w', e, u.ext fun g i j hv => ?_⟩
    rw [← hA]
    exact rdM_end _ _ M (by omega) rfl (by unfold SV at hv; omega)
  clear h S tg r12 t12 n12 r15 t15 n15 e15q u15q l15q y1 hc
  intro m
  induction m with
  | zero =>
    intro i w hi h
    have hi : i = C 0 0 3 := hi
    subst hi
    exact ⟨w, by rw [b_143_188, if_pos (by rw [jle (by omega) (by omega)]; exact Nat.le_refl _)], h.refl⟩
  | succ m ih =>
    intro i w him h
    have hi3 : i < C 0 0 3 := by omega
    have S := h.s
    have tg := S.tg
    have lb := S.b12 hi3
    have r12 := S.r12; have t12 := S.t12; have n12 := S.n12; have r15 := S.r15; have t15 := S.t15; have n15 := S.n15
    obtain ⟨e12i, u12i, l12i⟩ := S.e12 i hi3
    obtain ⟨e15q, u15q, l15q⟩ := S.e15 (M 0 0 1) hq
    have k0 : 0 < mLn w (gR w (gR w σ 12) i) := by omega
    have k1 : 1 < mLn w (gR w (gR w σ 12) i) := by omega
    have k2 : 2 < mLn w (gR w (gR w σ 12) i) := by omega
    have q2 := hB i
    have y1 : mI w σ 1 = nI (M 0 0 1) := by rw [h.y1, rdM_o _ _ _ _ (by omega), a1]
    have hc := h.c.2.2.2.1 _ hq 0 (by decide)
    have st := rdM_step any (C 7 (M 0 0 1) 0) i M hi
    have pre : mX d 143 188 [.ref σ, mJ, .int (nI X), .ref (gR w σ 12), .int (nI (C 0 0 3)), .int (nI i), mJ] [] w = if X ≤ 0 then mX d 143 228 [.ref σ, mJ, .int (nI X), .ref (gR w σ 12), .int (nI (C 0 0 3)), .int (nI i), .ref (gR w (gR w σ 12) i)] [] w else (if C 7 (M 0 0 1) 0 ≤ M 3 i 1 then mX d 143 228 [.ref σ, mJ, .int (nI X), .ref (gR w σ 12), .int (nI (C 0 0 3)), .int (nI i), .ref (gR w (gR w σ 12) i)] [] w else mX d 143 223 [.ref σ, mJ, .int (nI X), .ref (gR w σ 12), .int (nI (C 0 0 3)), .int (nI i), .ref (gR w (gR w σ 12) i)] [] w) := by
      rw [b_143_188, ijle (by omega) (by omega), if_neg (by omega)]
      refine Eq.trans (b_143_195 (by first | assumption | omega) (by first | assumption | omega) (by first | assumption | omega) (by first | assumption | omega)) ?_
      rw [ijle (by omega) (by decide)]
      congr 1
      refine Eq.trans (b_143_205 (by first | assumption | omega) (by first | assumption | omega) (by first | assumption | omega) (by first | assumption | omega) (by first | assumption | omega) y1 (by first | assumption | omega) (by first | assumption | omega) (by first | assumption | omega) (by first | assumption | omega) (by first | assumption | omega)) ?_
      rw [h.al hi3 (j := 1) (by decide), hc, rdM_o _ _ _ _ (by omega), ijle (by omega) (by omega)]
    have one : ¬ (any = true ∧ ¬ C 7 (M 0 0 1) 0 ≤ M 3 i 1) → ∃ w', mX d 143 228 [.ref σ, mJ, .int (nI X), .ref (gR w σ 12), .int (nI (C 0 0 3)), .int (nI i), .ref (gR w (gR w σ 12) i)] [] w = mX d 143 239 [.ref σ, mJ, mJ, mJ, mJ, mJ, mJ] [] w' ∧ upS σ C w w' (rdM any (C 7 (M 0 0 1) 0) (C 0 0 3) M) := fun q => by
      rw [if_neg q] at st
      have u1 := (h.ual hi3 (j := 2) (by decide) 0).ext (fun g a j _ => st g a j)
      obtain ⟨w', e9, u⟩ := ih (i + 1) _ (by omega) (h.up u1)
      refine ⟨w', ?_, u1.trans u⟩
      rw [b_143_228 u12i lb k2, b_143_233, jadd]
      exact e9
    rw [pre]
    by_cases e : X ≤ 0
    · rw [if_pos e]
      exact one (fun q => by have := hany.mpr q.1; omega)
    · rw [if_neg e]
      by_cases t : C 7 (M 0 0 1) 0 ≤ M 3 i 1
      · rw [if_pos t]
        exact one (fun q => q.2 t)
      · rw [if_neg t]
        rw [if_pos ⟨hany.mp (by omega), t⟩] at st
        have u1 := h.ual hi3 (j := 0) (by decide) 0
        have h1 := h.up u1
        have u2 := (u1.trans (h1.ual hi3 (j := 2) (by decide) 0)).ext (fun g a j _ => st g a j)
        obtain ⟨w', e9, u⟩ := ih (i + 1) _ (by omega) (h.up u2)
        refine ⟨w', ?_, u2.trans u⟩
        rw [b_143_223 u12i lb k0]
        refine Eq.trans (b_143_228 (by exact u12i) (by exact lb) (by exact k2)) ?_
        rw [b_143_233, jadd]
        exact e9
end
