/-! ===== the law's bee: an appeal ===== -/
section
variable {d B σ : Nat} {w : MW} {C : CD} {M : MD}
theorem ST.b14 (S : ST w σ C) {i : Nat} (hi : i < C 0 0 3) : mE ≤ gR w (gR w σ 14) i := by
  have := S.lo; have := S.sm; have := S.o1; have := S.o2; have := S.o3; have := S.he i hi
  show 166 ≤ _
  omega
theorem ST.b11 (S : ST w σ C) {i : Nat} (hi : i < C 0 0 2) : mE ≤ gR w (gR w σ 11) i := by
  have := S.lo; have := S.sm; have := S.o1; have := S.st i hi
  show 166 ≤ _
  omega
theorem wants_up (C : CD) (M : MD) {i : Nat} : ∀ n, i ≤ n → wantsM C M i = true → wantsM C M n = true
  | 0, h, e => by rw [show i = 0 by omega] at e; exact e
  | n + 1, h, e => by
    by_cases q : i = n + 1
    · rw [q] at e; exact e
    · rw [wantsM, wants_up C M n (by omega) e]; rfl
theorem c_sAppeal (h : SW w σ C M) (hm : MOk C B M) (ho : SOk C B M) (hB : B ≤ 1000000000) (hg : ¬ M 0 0 4 = NEG) (X : Int32) : mK (d + 4) 140 [.ref σ, .int X] w = if M 3 (M 0 0 4) 4 = 1 ∧ wantsM C M (C 0 0 5) = true then (if nI 3 ≤ X then some (.inl (some (.int (-1))), wI w (gR w (gR w σ 12) (M 0 0 4)) 4 (nI 0)) else some (.inl (some (.int (nI 1))), w)) else some (.inl (some (.int (nI 0))), w) := by
  have hk := h.k
  have hk1 := hk.1
  have S := h.s
  have tg := S.tg
  obtain ⟨a1, a2, a3, a4⟩ := ho.2.1 hg
  obtain ⟨b1, b2, b3, b4⟩ := hm.who hg
  have y4 : mI w σ 4 = nI (M 0 0 4) := by rw [h.y4, a3]
  have q4 := (hm.2.2.2.2.2.1 (M 0 0 4)).2.2
  have l1 := S.b12 b1
  have r12 := S.r12; have t12 := S.t12; have n12 := S.n12; have r17 := S.r17; have t17 := S.t17; have n17 := S.n17
  obtain ⟨e12s, u12s, l12s⟩ := S.e12 (M 0 0 4) b1
  have key : ∀ m i, i + m = C 0 0 5 → ¬ (M 3 (M 0 0 4) 4 = 1 ∧ wantsM C M i = true) → mX (d + 4) 140 11 [.ref σ, .int X, .ref (gR w σ 17), .int (nI (C 0 0 5)), .int (nI i), mJ] [] w = if M 3 (M 0 0 4) 4 = 1 ∧ wantsM C M (C 0 0 5) = true then (if nI 3 ≤ X then some (.inl (some (.int (-1))), wI w (gR w (gR w σ 12) (M 0 0 4)) 4 (nI 0)) else some (.inl (some (.int (nI 1))), w)) else some (.inl (some (.int (nI 0))), w) := by
    intro m
    induction m with
    | zero =>
      intro i hi hn
      have hi : i = C 0 0 5 := hi
      subst hi
      rw [if_neg hn, b_140_11, if_pos (by rw [jle (by omega) (by omega)]; exact Nat.le_refl _), b_140_95]
    | succ m ih =>
      intro i him hn
      have hi : i < C 0 0 5 := by omega
      obtain ⟨e17i, u17i, l17i⟩ := S.e17 i hi
      obtain ⟨g0, g1, g2, g3, g4, g5⟩ := hk.2.2.2.2.2.2 i hi
      have cc := h.c.2.2.2.2.2 i hi
      have c0 := cc 0 (by decide)
      have c1 := cc 1 (by decide)
      have k0 : 0 < mLn w (gR w (gR w σ 17) i) := by omega
      have skip : ¬ (M 3 (M 0 0 4) 4 = 1 ∧ C 9 i 1 = M 0 0 4 ∧ C 9 i 0 = 2 ∧ holdsM C M i = true) → mX (d + 4) 140 89 [.ref σ, .int X, .ref (gR w σ 17), .int (nI (C 0 0 5)), .int (nI i), mJ] [] w = if M 3 (M 0 0 4) 4 = 1 ∧ wantsM C M (C 0 0 5) = true then (if nI 3 ≤ X then some (.inl (some (.int (-1))), wI w (gR w (gR w σ 12) (M 0 0 4)) 4 (nI 0)) else some (.inl (some (.int (nI 1))), w)) else some (.inl (some (.int (nI 0))), w) := fun q => by
        rw [b_140_89, jadd, ih (i + 1) (by omega)]
        rintro ⟨x1, x2⟩
        rw [wantsM, Bool.or_eq_true, Bool.and_eq_true, Bool.and_eq_true, decide_eq_true_eq, decide_eq_true_eq] at x2
        rcases x2 with x2 | x2
        · exact hn ⟨x1, x2⟩
        · exact q ⟨x1, x2⟩
      rw [b_140_11, ijle (by omega) (by omega), if_neg (by omega)]
      refine Eq.trans (b_140_17 (by first | assumption | omega) (by first | assumption | omega) (by first | assumption | omega) (by first | assumption | omega) (by first | assumption | omega) (by first | assumption | omega) (by first | assumption | omega)) ?_
      rw [c1, y4, ijne (by omega) (by omega)]
      by_cases e1 : C 9 i 1 = M 0 0 4
      · rw [if_neg (fun x => x e1), b_140_34 u17i k0, c0, ijne (by omega) (by decide)]
        by_cases e2 : C 9 i 0 = 2
        · rw [if_neg (fun x => x e2)]
          refine Eq.trans (b_140_42 (by first | assumption | omega) (by first | assumption | omega) (by first | assumption | omega) y4 (by first | assumption | omega) (by first | assumption | omega) (by first | assumption | omega) (by first | assumption | omega) (by first | assumption | omega)) ?_
          rw [h.al b1 (j := 4) (by decide), ijeq (by omega) (by decide)]
          by_cases e3 : M 3 (M 0 0 4) 4 = 0
          · rw [if_pos e3]
            exact skip (by omega)
          · rw [if_neg e3, b_140_56 tg, c_sHolds (d := d) h hm ho hB hi]
            simp only [mThen_ok, Option.toList_some, Option.toList_none, List.cons_append, List.nil_append]
            rw [b_140_62]
            rcases Bool.eq_false_or_eq_true (holdsM C M i) with e4 | e4
            · have hw : wantsM C M (C 0 0 5) = true := wants_up C M (i := i + 1) (C 0 0 5) (by omega) (by rw [wantsM, e4, decide_eq_true e1, decide_eq_true e2]; simp)
              rw [e4, if_pos nbt, if_pos ⟨by omega, hw⟩, b_140_68]
              by_cases e5 : nI 3 ≤ X
              · rw [if_pos e5, if_pos e5]
                refine Eq.trans (b_140_75 (by first | assumption | omega) (by first | assumption | omega) (by first | assumption | omega) y4 (by first | assumption | omega) (by first | assumption | omega) (by first | assumption | omega) (by first | assumption | omega) (by first | assumption | omega) (by first | assumption | omega)) ?_
                rw [b_140_87]
              · rw [if_neg e5, if_neg e5, b_140_73]
            · rw [e4, if_neg (fun x => x nbf), b_140_65]
              exact skip (fun x => by rw [e4] at x; exact absurd x.2.2.2 (by decide))
        · rw [if_pos e2]
          exact skip (fun x => e2 x.2.2.1)
      · rw [if_pos e1]
        exact skip (fun x => e1 x.2.1)
  rw [e_140]
  refine Eq.trans (b_140_0 (by first | assumption | omega) (by first | assumption | omega) (by first | assumption | omega)) ?_
  rw [n17]
  exact key _ 0 (Nat.zero_add _) (fun x => absurd x.2 (by simp [wantsM]))
/-! ===== the law's bee: a word spelled, in pieces ===== -/
theorem s_sums (h : SW w σ C M) {a b : Nat} {r x1 x2 : Int32} {c : Nat} (hr4 : (r ≤ nI 0 ∧ a = 0) ∨ (¬ r ≤ nI 0 ∧ a = 1)) (hr5 : (nI 0 ≤ r ∧ b = 0) ∨ (¬ nI 0 ≤ r ∧ b = 1)) : ∃ w', mX d 141 49 [.ref σ, .int x1, .int x2, .ref c, mJ, mJ, mJ, mJ, mJ] [.int r] w = mX d 141 99 [.ref σ, .int x1, .int x2, .ref c, .int r, mJ, mJ, mJ, mJ] [] w' ∧ upS σ C w w' (mu (mu (mu M 1 0 4 (M 1 0 4 + a)) 1 0 5 (M 1 0 5 + b)) 8 0 3 (M 8 0 3 + 1)) := by
  have S := h.s
  have tg := S.tg
  have l7 := S.b7
  have r7 := S.r7; have t7 := S.t7; have n7 := S.n7
  have u1 := h.usm (j := 4) (by decide) (M 1 0 4 + a)
  have h1 := h.up u1
  have u2 := h1.usm (j := 5) (by decide) (M 1 0 5 + b)
  have h2 := h1.up u2
  have u3 := h2.uy3 (M 8 0 3 + 1)
  have v2 : _ = nI (M 1 0 5) := (h1.sm (j := 5) (by decide)).trans (by rw [mu_n (by omega)])
  have v3 : _ = nI (M 8 0 3) := h2.y3.trans (by rw [mu_n (by omega), mu_n (by omega)])
  refine ⟨_, ?_, (u1.trans u2).trans u3⟩
  have p1 : mX d 141 49 [.ref σ, .int x1, .int x2, .ref c, mJ, mJ, mJ, mJ, mJ] [.int r] w = mX d 141 68 [.ref σ, .int x1, .int x2, .ref c, .int r, mJ, mJ, mJ, mJ] [.int (nI a), .int (nI (M 1 0 4)), .int (nI 4), .ref (gR w σ 7)] w := by
    refine Eq.trans (b_141_49 (by first | assumption | omega) (by first | assumption | omega) (by first | assumption | omega) (by first | assumption | omega)) ?_
    rw [h.sm (j := 4) (by decide)]
    rcases hr4 with ⟨g, e⟩ | ⟨g, e⟩
    · rw [if_pos g, b_141_67, e]
    · rw [if_neg g, b_141_63, e]
  rw [p1]
  refine Eq.trans (b_141_68 (by first | assumption | omega) (by first | assumption | omega) (by first | assumption | omega) (by first | assumption | omega)) ?_
  rw [jadd]
  have S1 := h1.s
  have tg1 := S1.tg
  have l71 := S1.b7
  have r7 := S1.r7; have t7 := S1.t7; have n7 := S1.n7
  have p2 : mX d 141 70 [.ref σ, .int x1, .int x2, .ref c, .int r, mJ, mJ, mJ, mJ] [] (wI w (gR w σ 7) 4 (nI (M 1 0 4 + a))) = mX d 141 87 [.ref σ, .int x1, .int x2, .ref c, .int r, mJ, mJ, mJ, mJ] [.int (nI b), .int (nI (M 1 0 5)), .int (nI 5), .ref (gR (wI w (gR w σ 7) 4 (nI (M 1 0 4 + a))) σ 7)] (wI w (gR w σ 7) 4 (nI (M 1 0 4 + a))) := by
    refine Eq.trans (b_141_70 (by first | assumption | omega) (by first | assumption | omega) (by first | assumption | omega) (by first | assumption | omega)) ?_
    rw [v2]
    rcases hr5 with ⟨g, e⟩ | ⟨g, e⟩
    · rw [if_pos g, b_141_86, e]
    · rw [if_neg g, b_141_82, e]
  rw [p2]
  refine Eq.trans (b_141_87 (by first | assumption | omega) (by first | assumption | omega) (by first | assumption | omega) (by first | assumption | omega)) ?_
  rw [jadd, b_141_89 h2.s.tg S.bs, v3, jadd]
theorem s_right (h : SW w σ C M) {s v : Nat} (hs : s < C 0 0 3) (hv : v < C 0 0 2) : ∃ w', mX d 141 187 [.ref σ, .int (nI v), mJ, .ref (gR w (gR w σ 12) s), mJ, mJ, mJ, mJ, mJ] [] w = some (.inl none, w') ∧ upS σ C w w' (mu (mu (mu (mu M 3 s 6 (M 3 s 6 + 1)) 2 v 1 (M 2 v 1 + 1)) 1 0 0 (M 1 0 0 + 1)) 0 0 6 1) := by
  have hk1 := h.k.1
  have S := h.s
  have tg := S.tg
  have l12 := S.b12 hs
  have r12 := S.r12; have t12 := S.t12; have n12 := S.n12
  obtain ⟨e12s, u12s, l12s⟩ := S.e12 s hs
  have u1 := h.ual hs (j := 6) (by decide) (M 3 s 6 + 1)
  have h1 := h.up u1
  have u2 := h1.ust hv (j := 1) (by decide) (M 2 v 1 + 1)
  have h2 := h1.up u2
  have u3 := h2.usm (j := 0) (by decide) (M 1 0 0 + 1)
  have h3 := h2.up u3
  have u4 := h3.uz6 1
  have v2 : _ = nI (M 2 v 1) := (h1.st hv (j := 1) (by decide)).trans (by rw [mu_n (by omega)])
  have v3 : _ = nI (M 1 0 0) := (h2.sm (j := 0) (by decide)).trans (by rw [mu_n (by omega), mu_n (by omega)])
  refine ⟨_, ?_, ((u1.trans u2).trans u3).trans u4⟩
  refine Eq.trans (b_141_187 (by first | assumption | omega) (by first | assumption | omega) (by first | assumption | omega)) ?_
  rw [h.al hs (j := 6) (by decide), jadd]
  have S1 := h1.s
  have tg1 := S1.tg
  have l11 := S1.b11 hv
  have r11 := S1.r11; have t11 := S1.t11; have n11 := S1.n11
  obtain ⟨e11v, u11v, l11v⟩ := S1.e11 v hv
  refine Eq.trans (b_141_195 (by first | assumption | omega) (by first | assumption | omega) (by first | assumption | omega) (by first | assumption | omega) (by first | assumption | omega) (by first | assumption | omega) (by first | assumption | omega) (by first | assumption | omega) (by first | assumption | omega)) ?_
  rw [v2, jadd]
  have S2 := h2.s
  have tg2 := S2.tg
  have l7 := S2.b7
  have r7 := S2.r7; have t7 := S2.t7; have n7 := S2.n7
  refine Eq.trans (b_141_207 (by first | assumption | omega) (by first | assumption | omega) (by first | assumption | omega) (by first | assumption | omega) (by first | assumption | omega)) ?_
  rw [v3, jadd, b_141_217 h3.s.tg S.bs, b_141_222]
theorem s_wrong (h : SW w σ C M) {s : Nat} (hs : s < C 0 0 3) (hp : M 3 s 2 < 1000000000) {x1 x2 : Value} : ∃ w', mX d 141 223 [.ref σ, mJ, mJ, .ref (gR w (gR w σ 12) s), mJ, mJ, mJ, mJ, mJ] [] w = some (.inl none, w') ∧ upS σ C w w' (if 2 ≤ M 3 s 2 + 1 then mu (mu (mu (mu (mu M 3 s 2 (M 3 s 2 + 1)) 3 s 7 (M 3 s 7 + 1)) 1 0 1 (M 1 0 1 + 1)) 3 s 0 0) 3 s 8 1 else mu (mu (mu M 3 s 2 (M 3 s 2 + 1)) 3 s 7 (M 3 s 7 + 1)) 1 0 1 (M 1 0 1 + 1)) := by
  have hk1 := h.k.1
  have S := h.s
  have tg := S.tg
  have l12 := S.b12 hs
  have r12 := S.r12; have t12 := S.t12; have n12 := S.n12
  obtain ⟨e12s, u12s, l12s⟩ := S.e12 s hs
  have k0 : 0 < mLn w (gR w (gR w σ 12) s) := by omega
  have k2 : 2 < mLn w (gR w (gR w σ 12) s) := by omega
  have k7 : 7 < mLn w (gR w (gR w σ 12) s) := by omega
  have k8 : 8 < mLn w (gR w (gR w σ 12) s) := by omega
  have u1 := h.ual hs (j := 2) (by decide) (M 3 s 2 + 1)
  have h1 := h.up u1
  have u2 := h1.ual hs (j := 7) (by decide) (M 3 s 7 + 1)
  have h2 := h1.up u2
  have u3 := h2.usm (j := 1) (by decide) (M 1 0 1 + 1)
  have h3 := h2.up u3
  have u4 := h3.ual hs (j := 0) (by decide) 0
  have h4 := h3.up u4
  have u5 := h4.ual hs (j := 8) (by decide) 1
  have v2 : _ = nI (M 3 s 7) := (h1.al hs (j := 7) (by decide)).trans (by rw [mu_n (by omega)])
  have v3 : _ = nI (M 1 0 1) := (h2.sm (j := 1) (by decide)).trans (by rw [mu_n (by omega), mu_n (by omega)])
  have v4 : _ = nI (M 3 s 2 + 1) := (h3.al hs (j := 2) (by decide)).trans (by rw [mu_n (by omega), mu_n (by omega), mu_s])
  have u123 := (u1.trans u2).trans u3
  have pre : mX d 141 223 [.ref σ, mJ, mJ, .ref (gR w (gR w σ 12) s), mJ, mJ, mJ, mJ, mJ] [] w = if M 3 s 2 + 1 ≤ 1 then some (.inl none, wI (wI (wI w (gR w (gR w σ 12) s) 2 (nI (M 3 s 2 + 1))) (gR w (gR w σ 12) s) 7 (nI (M 3 s 7 + 1))) (gR w σ 7) 1 (nI (M 1 0 1 + 1))) else mX d 141 255 [mJ, mJ, mJ, .ref (gR w (gR w σ 12) s), mJ, mJ, mJ, mJ, mJ] [] (wI (wI (wI w (gR w (gR w σ 12) s) 2 (nI (M 3 s 2 + 1))) (gR w (gR w σ 12) s) 7 (nI (M 3 s 7 + 1))) (gR w σ 7) 1 (nI (M 1 0 1 + 1))) := by
    rw [b_141_223 u12s k2 l12, h.al hs (j := 2) (by decide), jadd]
    refine Eq.trans (b_141_230 (by exact u12s) (by exact k7) (by exact l12)) ?_
    refine Eq.trans (congrArg (fun x => mX d 141 238 [.ref σ, mJ, mJ, .ref (gR w (gR w σ 12) s), mJ, mJ, mJ, mJ, mJ] [] (wI (wI w (gR w (gR w σ 12) s) 2 (nI (M 3 s 2 + 1))) (gR w (gR w σ 12) s) 7 (x + nI 1))) v2) ?_
    rw [jadd]
    have S2 := h2.s
    have l7 := S2.b7
    have r7 := S2.r7; have t7 := S2.t7; have n7 := S2.n7
    have n71 : 1 < mLn w (gR w σ 7) := by have := S.n7; omega
    refine Eq.trans (b_141_238 (by exact tg) (by exact r7) (by exact t7) (by exact n71) (by exact l7)) ?_
    refine Eq.trans (congrArg (fun x => mX d 141 248 [mJ, mJ, mJ, .ref (gR w (gR w σ 12) s), mJ, mJ, mJ, mJ, mJ] [] (wI (wI (wI w (gR w (gR w σ 12) s) 2 (nI (M 3 s 2 + 1))) (gR w (gR w σ 12) s) 7 (nI (M 3 s 7 + 1))) (gR w σ 7) 1 (x + nI 1))) v3) ?_
    rw [jadd]
    refine Eq.trans (b_141_248 (by exact u12s) (by exact k2)) ?_
    rw [b_141_264]
    refine Eq.trans (congrArg (fun x => if x ≤ nI 1 then some (.inl none, wI (wI (wI w (gR w (gR w σ 12) s) 2 (nI (M 3 s 2 + 1))) (gR w (gR w σ 12) s) 7 (nI (M 3 s 7 + 1))) (gR w σ 7) 1 (nI (M 1 0 1 + 1))) else mX d 141 255 [mJ, mJ, mJ, .ref (gR w (gR w σ 12) s), mJ, mJ, mJ, mJ, mJ] [] (wI (wI (wI w (gR w (gR w σ 12) s) 2 (nI (M 3 s 2 + 1))) (gR w (gR w σ 12) s) 7 (nI (M 3 s 7 + 1))) (gR w σ 7) 1 (nI (M 1 0 1 + 1)))) v4) ?_
    rw [ijle (by omega) (by decide)]
  rw [pre]
  by_cases e : 2 ≤ M 3 s 2 + 1
  · rw [if_neg (by omega), if_pos e]
    refine ⟨_, ?_, (u123.trans u4).trans u5⟩
    refine Eq.trans (b_141_255 (by exact u12s) (by exact l12) (by exact k0)) ?_
    refine Eq.trans (b_141_259 (by exact u12s) (by exact l12) (by exact k8)) ?_
    rw [b_141_264]
    rfl
  · rw [if_pos (by omega), if_neg e]
    exact ⟨_, rfl, u123⟩
theorem s_hear {s v : Nat} (hs : s < C 0 0 3) (hv : v < C 0 0 2) (hw4 : M 8 0 4 = s) (h : SW w σ C M) : ∃ w', mX d 141 135 [.ref σ, .int (nI v), mJ, .ref (gR w (gR w σ 12) s), mJ, mJ, mJ, mJ, mJ] [] w = mX d 141 187 [.ref σ, .int (nI v), mJ, .ref (gR w (gR w σ 12) s), mJ, mJ, mJ, mJ, mJ] [] w' ∧ upS σ C w w' (hearM C s v (C 3 v 0) M) ∧ gR w' (gR w' σ 12) s = gR w (gR w σ 12) s := by
  have hk := h.k
  have hk1 := hk.1
  have h2 := hk.2.2.2.1 v hv
  have S := h.s
  have tg := S.tg
  have r10 := S.r10; have t10 := S.t10; have n10 := S.n10
  obtain ⟨e10v, u10v, l10v⟩ := S.e10 v hv
  have hz : ∀ n, hearM C s v n M 8 0 4 = s := fun n => by
    induction n with
    | zero => exact hw4
    | succ n ih => rw [hearM, mu_n (by omega), ih]
  have key : ∀ m i w', i + m = C 3 v 0 → upS σ C w w' (hearM C s v i M) → ∃ w9, mX d 141 151 [.ref σ, .int (nI v), mJ, .ref (gR w (gR w σ 12) s), mJ, .ref (gR w (gR w σ 10) v), .int (nI (C 3 v 0)), .int (nI i), mJ] [] w' = mX d 141 187 [.ref σ, .int (nI v), mJ, .ref (gR w (gR w σ 12) s), mJ, mJ, mJ, mJ, mJ] [] w9 ∧ upS σ C w w9 (hearM C s v (C 3 v 0) M) := by
    intro m
    induction m with
    | zero =>
      intro i w' hi u
      have hi : i = C 3 v 0 := hi
      subst hi
      exact ⟨w', by rw [b_141_151, if_pos (by rw [jle (by omega) (by omega)]; exact Nat.le_refl _)], u⟩
    | succ m ih =>
      intro i w' him u
      have hi : i < C 3 v 0 := by omega
      have hr := h2.2.2 i hi
      have h1 := h.up u
      have S1 := h1.s
      have tg1 := S1.tg
      have r10 := S1.r10; have t10 := S1.t10; have n10 := S1.n10; have r14 := S1.r14; have t14 := S1.t14; have n14 := S1.n14
      obtain ⟨e10v, u10v, l10v⟩ := S1.e10 v hv
      obtain ⟨e14s, u14s, l14s⟩ := S1.e14 s hs
      have l14 := S1.b14 hs
      have y4 : mI w' σ 4 = nI s := by rw [h1.y4, hz]
      have g10 : gR w' (gR w' σ 10) v = gR w (gR w σ 10) v := by obtain ⟨J, hJ, _⟩ := u; rw [hJ]; rfl
      have c4 := h1.c.2.2.1 v hv i hi
      rw [g10] at u10v l10v c4
      have u1 := h1.uhe hs hr (hearM C s v i M 5 s (C 4 v i) + 1)
      obtain ⟨w9, e, u9⟩ := ih (i + 1) _ (by omega) (u.trans u1)
      refine ⟨w9, ?_, u9⟩
      rw [b_141_151, ijle (by omega) (by omega), if_neg (by omega)]
      refine Eq.trans (b_141_158 (by first | assumption | omega) (by first | assumption | omega) (by first | assumption | omega) (by first | assumption | omega) (by first | assumption | omega) (by first | assumption | omega) y4 (by first | assumption | omega) (by first | assumption | omega) (by first | assumption | omega) (by first | assumption | omega) c4 (by first | assumption | omega) (by first | assumption | omega) (by first | assumption | omega)) ?_
      rw [h1.he hs hr, jadd, b_141_181, jadd, e]
  obtain ⟨w9, e, u⟩ := key _ 0 w (Nat.zero_add _) h.refl
  refine ⟨w9, ?_, u, ?_⟩
  · refine Eq.trans (b_141_135 (by first | assumption | omega) (by first | assumption | omega) (by first | assumption | omega) (by first | assumption | omega) (by first | assumption | omega) (by first | assumption | omega) (by first | assumption | omega)) ?_
    rw [l10v, e]
  · obtain ⟨J, hJ, _⟩ := u
    rw [hJ]
    rfl
end
