/-! ===== the law's bee: the orders before a word ===== -/
section
variable {d B σ : Nat} {w : MW} {C : CD} {M : MD}
theorem sok_of {B' : Nat} {M' : MD} (h : SOk C B M) (hle : B ≤ B') (hz : ∀ j, 1 ≤ j → j ≤ 4 → M' 0 0 j = M 0 0 j) (h8 : ∀ j, M' 8 0 j = M 8 0 j) (h4 : ∀ s k, M' 4 s k = M 4 s k) : SOk C B' M' := by
  unfold SOk
  rw [hz 4 (by decide) (by decide), hz 1 (by decide) (by decide), hz 2 (by decide) (by decide), hz 3 (by decide) (by decide), h8, h8, h8, h8]
  exact ⟨h.1, h.2.1, Nat.le_trans h.2.2.1 hle, fun s k h1 h2 => by rw [h4]; exact h.2.2.2 s k h1 h2⟩
theorem sok_hint (h : SOk C B M) : SOk C (B + 1) (hintM M) :=
  sok_of h (by omega) (fun j h1 h2 => hintM_z M (by omega)) (fun j => by unfold hintM; rw [mu_n (by omega), mu_n (by omega), mu_n (by omega), mu_n (by omega)]) (fun s k => by unfold hintM; rw [mu_n (by omega), mu_n (by omega), mu_n (by omega), mu_n (by omega)])
theorem sok_pass (h : SOk C B M) : SOk C (B + 1) (passM M) :=
  sok_of h (by omega) (fun j h1 h2 => passM_z M j) (fun j => by unfold passM; rw [mu_n (by omega), mu_n (by omega)]) (fun s k => by unfold passM; rw [mu_n (by omega), mu_n (by omega)])
theorem c_sPassed (d σ : Nat) (C : CD) : ∀ m i w M B, i + m = C 0 0 5 → SW w σ C M → MOk C B M → SOk C B M → B + m < 1000000000 → ¬ M 0 0 4 = NEG → ∃ w', mX (d + 4) 139 10 [.ref σ, .ref (gR w σ 17), .int (nI (C 0 0 5)), .int (nI i), mJ] [] w = some (.inl (some (.int (bI (orM C m i M).1))), w') ∧ upS σ C w w' (orM C m i M).2 := by
  intro m
  induction m with
  | zero =>
    intro i w M B hi h hm ho hB hg
    have hk1 := h.k.1
    have hi : i = C 0 0 5 := hi
    subst hi
    exact ⟨w, by rw [b_139_10, if_pos (by rw [jle (by omega) (by omega)]; exact Nat.le_refl _), b_139_92]; rfl, h.refl⟩
  | succ m ih =>
    intro i w M B him h hm ho hB hg
    have hi : i < C 0 0 5 := by omega
    have hk := h.k
    have hk1 := hk.1
    have S := h.s
    have tg := S.tg
    have r17 := S.r17; have t17 := S.t17; have n17 := S.n17
    obtain ⟨e17i, u17i, l17i⟩ := S.e17 i hi
    obtain ⟨a1, a2, a3, a4⟩ := ho.2.1 hg
    obtain ⟨b1, b2, b3, b4⟩ := hm.who hg
    obtain ⟨g0, g1, g2, g3, g4, g5⟩ := hk.2.2.2.2.2.2 i hi
    have cc := h.c.2.2.2.2.2 i hi
    have c0 := cc 0 (by decide)
    have c1 := cc 1 (by decide)
    have k0 : 0 < mLn w (gR w (gR w σ 17) i) := by omega
    have skip : orM C (m + 1) i M = orM C m (i + 1) M → ∃ w', mX (d + 4) 139 86 [.ref σ, .ref (gR w σ 17), .int (nI (C 0 0 5)), .int (nI i), mJ] [] w = some (.inl (some (.int (bI (orM C (m + 1) i M).1))), w') ∧ upS σ C w w' (orM C (m + 1) i M).2 := fun q => by
      rw [q]
      obtain ⟨w', e, u⟩ := ih (i + 1) w M B (by omega) h hm ho (by omega) hg
      exact ⟨w', by rw [b_139_86, jadd, e], u⟩
    have pre : mX (d + 4) 139 10 [.ref σ, .ref (gR w σ 17), .int (nI (C 0 0 5)), .int (nI i), mJ] [] w = if ¬ C 9 i 1 = M 0 0 4 then mX (d + 4) 139 86 [.ref σ, .ref (gR w σ 17), .int (nI (C 0 0 5)), .int (nI i), mJ] [] w else (if C 9 i 0 = 2 then mX (d + 4) 139 86 [.ref σ, .ref (gR w σ 17), .int (nI (C 0 0 5)), .int (nI i), mJ] [] w else (if bI (holdsM C M i) = nI 0 then mX (d + 4) 139 86 [.ref σ, .ref (gR w σ 17), .int (nI (C 0 0 5)), .int (nI i), mJ] [] w else (if ¬ C 9 i 0 = 0 then mX (d + 4) 139 69 [.ref σ, .ref (gR w σ 17), .int (nI (C 0 0 5)), .int (nI i), .ref (gR w (gR w σ 17) i)] [] w else mX (d + 4) 139 58 [.ref σ, .ref (gR w σ 17), .int (nI (C 0 0 5)), .int (nI i), .ref (gR w (gR w σ 17) i)] [] w))) := by
      rw [b_139_10, ijle (by omega) (by omega), if_neg (by omega)]
      refine Eq.trans (b_139_15 (by first | assumption | omega) (by first | assumption | omega) (by first | assumption | omega) (by first | assumption | omega) (by first | assumption | omega) (by first | assumption | omega) (by first | assumption | omega)) ?_
      rw [c1, h.y4, a3, ijne (by omega) (by omega)]
      congr 1
      rw [b_139_31 u17i k0, c0, ijeq (by omega) (by decide)]
      congr 1
      rw [b_139_39 tg, c_sHolds (d := d) h hm ho (by omega) hi]
      simp only [mThen_ok, Option.toList_some, Option.toList_none, List.cons_append, List.nil_append]
      rw [b_139_45]
      by_cases q : bI (holdsM C M i) = nI 0
      · rw [if_neg (fun x => x q), if_pos q, b_139_48]
      · rw [if_pos q, if_neg q, b_139_51 u17i k0, c0, ijne (by omega) (by decide)]
    rw [pre]
    by_cases q1 : C 9 i 1 = M 0 0 4
    · rw [if_neg (fun x => x q1)]
      by_cases q2 : C 9 i 0 = 2
      · rw [if_pos q2]
        exact skip (by rw [orM, if_neg (by omega), if_neg (by omega)])
      · rw [if_neg q2]
        rcases Bool.eq_false_or_eq_true (holdsM C M i) with q3 | q3
        · rw [q3, if_neg nbt]
          by_cases q4 : C 9 i 0 = 0
          · rw [if_neg (fun x => x q4), b_139_58 tg, c_sCanHint (d := d + 3) h hm ho (by omega)]
            simp only [mThen_ok, Option.toList_some, Option.toList_none, List.cons_append, List.nil_append]
            rw [b_139_62]
            have n2 : ¬ C 9 i 0 = 1 := by omega
            rcases Bool.eq_false_or_eq_true (canHintM M) with q5 | q5
            · obtain ⟨w1, e1, u1⟩ := c_sHint (d := d + 3) h hm ho q5
              have h1 := h.up u1
              have hq : orM C (m + 1) i M = orM C m (i + 1) (hintM M) := by rw [orM, if_pos ⟨q1, q4, q5, q3⟩]
              have S1 := h1.s
              have r17 := S1.r17; have t17 := S1.t17; have n17 := S1.n17
              obtain ⟨e17i, u17i, l17i⟩ := S1.e17 i hi
              have c01 := h1.c.2.2.2.2.2 i hi 0 (by decide)
              obtain ⟨J, hJ, _⟩ := u1
              have gr1 : gR w1 σ 17 = gR w σ 17 := by rw [hJ]; rfl
              obtain ⟨w', e, u⟩ := ih (i + 1) w1 (hintM M) (B + 1) (by omega) h1 (hintM_ok hm q5) (sok_hint ho) (by omega) (by rw [hintM_z M (by decide)]; exact hg)
              rw [hq]
              refine ⟨w', ?_, upS.trans ⟨J, hJ, by assumption⟩ u⟩
              rw [q5, if_neg nbt, b_139_65 tg, e1]
              simp only [mThen_ok, Option.toList_some, Option.toList_none, List.cons_append, List.nil_append]
              rw [gr1] at u17i c01 e
              have gr2 : gR w1 (gR w σ 17) i = gR w (gR w σ 17) i := by rw [hJ]; rfl
              rw [gr2] at u17i c01
              refine Eq.trans (b_139_69 u17i (by rw [hJ]; exact k0)) ?_
              rw [c01, ijne (by omega) (by decide), if_pos n2, b_139_86, jadd, e]
            · rw [q5, if_pos nbf, b_139_69 u17i k0, c0, ijne (by omega) (by decide), if_pos n2]
              exact skip (by rw [orM, if_neg (fun x => by rw [q5] at x; exact absurd x.2.2.1 (by decide)), if_neg (fun x => n2 x.2.1)])
          · have q6 : C 9 i 0 = 1 := by omega
            rw [if_pos q4, b_139_69 u17i k0, c0, ijne (by omega) (by decide), if_neg (fun x => x q6), b_139_77 tg, c_sCanPass (d := d + 3) h hm ho (by omega)]
            simp only [mThen_ok, Option.toList_some, Option.toList_none, List.cons_append, List.nil_append]
            rw [b_139_81]
            rcases Bool.eq_false_or_eq_true (canPassM M) with q5 | q5
            · have hq : orM C (m + 1) i M = (true, M) := by rw [orM, if_neg (fun x => q4 x.2.1), if_pos ⟨q1, q6, q5, q3⟩]
              rw [hq, q5]
              exact ⟨w, by rw [if_neg nbt, b_139_84]; rfl, h.refl⟩
            · rw [q5, if_pos nbf]
              exact skip (by rw [orM, if_neg (fun x => q4 x.2.1), if_neg (fun x => by rw [q5] at x; exact absurd x.2.2.1 (by decide))])
        · rw [q3, if_pos nbf]
          exact skip (by rw [orM, if_neg (fun x => by rw [q3] at x; exact absurd x.2.2.2 (by decide)), if_neg (fun x => by rw [q3] at x; exact absurd x.2.2.2 (by decide))])
    · rw [if_pos q1]
      exact skip (by rw [orM, if_neg (fun x => q1 x.1), if_neg (fun x => q1 x.1)])
theorem c_sPass (h : SW w σ C M) (hm : MOk C B M) (ho : SOk C B M) (hB : B + 1 < 1000000000) (hg : ¬ M 0 0 4 = NEG) (hp : 1 ≤ M 3 (M 0 0 4) 3) : ∃ w', mK (d + 3) 138 [.ref σ] w = some (.inl none, w') ∧ upS σ C w w' (endTurnM C (passM M)) := by
  have hk1 := h.k.1
  obtain ⟨a1, a2, a3, a4⟩ := ho.2.1 hg
  obtain ⟨b1, b2, b3, b4⟩ := hm.who hg
  have y4 : mI w σ 4 = nI (M 0 0 4) := by rw [h.y4, a3]
  have S := h.s
  have tg := S.tg
  have l1 := S.b12 b1
  have r12 := S.r12; have t12 := S.t12; have n12 := S.n12
  obtain ⟨e12s, u12s, l12s⟩ := S.e12 (M 0 0 4) b1
  have u1 := h.ual b1 (j := 3) (by decide) (M 3 (M 0 0 4) 3 - 1)
  have h1 := h.up u1
  have u2 := h1.usm (j := 3) (by decide) (M 1 0 3 + 1)
  have h2 := h1.up u2
  have v2 : _ = nI (M 1 0 3) := (h1.sm (j := 3) (by decide)).trans (by rw [mu_n (by omega)])
  have u : upS σ C w _ (passM M) := u1.trans u2
  have hp2 := h.up u
  obtain ⟨w', e, u9⟩ := c_sNext (d := d) hp2 (passM_ok hm) (sok_pass ho) (by omega) (by rw [passM_z]; exact hg)
  refine ⟨w', ?_, u.trans u9⟩
  rw [e_138]
  refine Eq.trans (b_138_0 (by first | assumption | omega) (by first | assumption | omega) (by first | assumption | omega) y4 (by first | assumption | omega) (by first | assumption | omega) (by first | assumption | omega) (by first | assumption | omega) (by first | assumption | omega) (by first | assumption | omega)) ?_
  rw [h.al b1 (j := 3) (by decide), jsub hp]
  have S1 := h1.s
  have r7 := S1.r7; have t7 := S1.t7; have n7 := S1.n7
  have l17 := S1.b7
  refine Eq.trans (b_138_15 (by first | assumption | omega) (by first | assumption | omega) (by first | assumption | omega) (by first | assumption | omega) (by first | assumption | omega)) ?_
  rw [v2, jadd, b_138_25 h2.s.tg, e]
  simp only [mThen_ok, Option.toList_some, Option.toList_none, List.cons_append, List.nil_append]
  rw [b_138_29]
end
