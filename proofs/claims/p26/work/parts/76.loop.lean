/-! ===== the law's loop: behind the turn ===== -/

section
variable {d B σ hi hc uc z y n m c : Nat} {w w' w1 : MW} {C : CD} {M M' : MD} {F F' U : Nat → Nat} {G G' : Nat → Nat → Nat}
theorem who_eq (hm : MOk C B M) (hk : CfOk C) {k : Nat} (h : k < C 0 0 3) : nI k = nI (M 0 0 4) ↔ k = M 0 0 4 := by
  have hk1 := hk.1
  rcases hm.2.2.2.2.1 with e | e
  · rw [e]
    exact ⟨fun q => absurd q.symm (jneg_ne2 (by omega)), fun q => by have : NEG = 4294967295 := rfl; omega⟩
  · exact jeq (by omega) (by omega)
/-- what a bee is behind one turn -/
theorem play1 (C : CD) (M : MD) : playM C 1 M = if M 0 0 4 = NEG then M else turnM C M := rfl
/-- what they heard -/
theorem lg_a {t k : Nat} (h : it4 σ hi C (playM C 1 M) hc uc z y (hsM C M) (strongM C M) (fun k => untilM C k 10000 0 M) w) (hm : MOk C B M) (hB : B ≤ 300000000) (hk : k < C 0 0 3) :
    mX (d + 10) 169 919 [.ref 1, .ref 166, mJ, .ref σ, .int (nI (C 0 0 3)), .int (nI (C 0 0 2)), .int (nI (C 0 0 1)), .int (nI t), mJ, mJ, mJ, .int (nI (countM C M 7)), .int (nI (M 0 0 4)), .int (nI (wordN C M)), mJ, mJ, mJ, mJ, mJ, .ref hc, .ref (hc + 1), mJ, mJ, .int (nI (winnerM C M)), .ref uc, mJ, .int (nI (hd0 M)), .int (nI (if M 0 0 4 = NEG then 0 else 1)), .int (nI k), mJ, mJ, mJ] [] w = mX (d + 10) 169 1001 [.ref 1, .ref 166, mJ, .ref σ, .int (nI (C 0 0 3)), .int (nI (C 0 0 2)), .int (nI (C 0 0 1)), .int (nI t), mJ, mJ, mJ, .int (nI (countM C M 7)), .int (nI (M 0 0 4)), .int (nI (wordN C M)), mJ, mJ, mJ, mJ, mJ, .ref hc, .ref (hc + 1), mJ, mJ, .int (nI (winnerM C M)), .ref uc, mJ, .int (nI (hd0 M)), .int (nI (if M 0 0 4 = NEG then 0 else 1)), .int (nI k), mJ, mJ, mJ] [] w := by
  have k0 := h.1.1.k
  have hk1 := k0.1
  have q := h.1.1.g.q
  obtain ⟨t50, l50, rd⟩ := h.1.2.1
  have rk := rd k hk
  have key := loop0 (fun r => mX (d + 10) 169 925 [.ref 1, .ref 166, mJ, .ref σ, .int (nI (C 0 0 3)), .int (nI (C 0 0 2)), .int (nI (C 0 0 1)), .int (nI t), mJ, mJ, mJ, .int (nI (countM C M 7)), .int (nI (M 0 0 4)), .int (nI (wordN C M)), mJ, mJ, mJ, mJ, mJ, .ref hc, .ref (hc + 1), mJ, mJ, .int (nI (winnerM C M)), .ref uc, mJ, .int (nI (hd0 M)), .int (nI (if M 0 0 4 = NEG then 0 else 1)), .int (nI k), .int (nI (su r (fun r => playM C 1 M 5 k r))), .int (nI r), mJ] [] w) (C 0 0 1) (fun r hr => by
    rw [b_169_925, ijle (by omega) (by omega), if_neg (by omega), b_169_932 q, c_heard (d := d + 7) h.1.1.g hk hr]
    simp only [mThen_ok, Option.toList_some, Option.toList_none, List.cons_append, List.nil_append]
    rw [b_169_942, jadd, jadd]
    rfl)
  have hS : hsM C (playM C 1 M) k = hsM C M k ∨ hsM C (playM C 1 M) k = hsM C M k + if k = M 0 0 4 then C 3 (wordM C M) 0 else 0 := by
    rw [play1]
    by_cases e : M 0 0 4 = NEG
    · rw [if_pos e]; exact Or.inl rfl
    · rw [if_neg e]; exact turn_hs k0 hm e k
  have more : mX (d + 10) 169 951 [.ref 1, .ref 166, mJ, .ref σ, .int (nI (C 0 0 3)), .int (nI (C 0 0 2)), .int (nI (C 0 0 1)), .int (nI t), mJ, mJ, mJ, .int (nI (countM C M 7)), .int (nI (M 0 0 4)), .int (nI (wordN C M)), mJ, mJ, mJ, mJ, mJ, .ref hc, .ref (hc + 1), mJ, mJ, .int (nI (winnerM C M)), .ref uc, mJ, .int (nI (hd0 M)), .int (nI (if M 0 0 4 = NEG then 0 else 1)), .int (nI k), .int (nI (hsM C (playM C 1 M) k)), mJ, mJ] [] w = mX (d + 10) 169 974 [.ref 1, .ref 166, mJ, .ref σ, .int (nI (C 0 0 3)), .int (nI (C 0 0 2)), .int (nI (C 0 0 1)), .int (nI t), mJ, mJ, mJ, .int (nI (countM C M 7)), .int (nI (M 0 0 4)), .int (nI (wordN C M)), mJ, mJ, mJ, mJ, mJ, .ref hc, .ref (hc + 1), mJ, mJ, .int (nI (winnerM C M)), .ref uc, mJ, .int (nI (hd0 M)), .int (nI (if M 0 0 4 = NEG then 0 else 1)), .int (nI k), .int (nI (hsM C (playM C 1 M) k)), mJ, mJ] [.int (nI (if k = M 0 0 4 then C 3 (wordM C M) 0 else 0))] w := by
    have wq := who_eq hm k0 hk
    rw [b_169_951]
    by_cases e : k = M 0 0 4
    · have en : ¬ M 0 0 4 = NEG := fun g => by have : NEG = 4294967295 := rfl; omega
      have cw : wordN C M = wordM C M := if_neg en
      have lw := word_lt k0 hm en
      have c0 : wordFM C (playM C 1 M) (wordM C M) 0 = C 3 (wordM C M) 0 := rfl
      rw [if_neg (fun g => g (wq.mpr e)), b_169_958, cw, ijlt (by omega) (by decide), if_neg (by omega), b_169_963 q, c_wordQ (d := d + 5) h.1.1.g lw (by decide), c0, if_pos e]
      simp only [mThen_ok, Option.toList_some, Option.toList_none, List.cons_append, List.nil_append]
      rw [b_169_970]
    · rw [if_pos (fun g => e (wq.mp g)), b_169_973, if_neg e]
  rw [b_169_919]
  refine Eq.trans key ?_
  try dsimp only
  rw [b_169_925, if_pos (Int32.le_refl _)]
  refine Eq.trans more ?_
  refine Eq.trans (b_169_974 t50 (by omega) (by omega)) ?_
  rw [rk]
  by_cases g : nI (hsM C (playM C 1 M) k) = nI (hsM C M k)
  · rw [if_pos g]
  · rw [if_neg g]
    refine Eq.trans (b_169_986 t50 (by omega) (by omega)) ?_
    rw [rk, jadd]
    rcases hS with e | e
    · exact absurd (by rw [e]) g
    · rw [← e, if_pos rfl]
/-- behind how many turns they are out -/
theorem lg_b {t k : Nat} (h : it4 σ hi C (playM C 1 M) hc uc z y (hsM C M) (strongM C M) (fun k => untilM C k 10000 0 M) w) (hm : MOk C B M) (hB : B ≤ 300000000) (hk : k < C 0 0 3) :
    ∃ w', mX (d + 10) 169 1001 [.ref 1, .ref 166, mJ, .ref σ, .int (nI (C 0 0 3)), .int (nI (C 0 0 2)), .int (nI (C 0 0 1)), .int (nI t), mJ, mJ, mJ, .int (nI (countM C M 7)), .int (nI (M 0 0 4)), .int (nI (wordN C M)), mJ, mJ, mJ, mJ, mJ, .ref hc, .ref (hc + 1), mJ, mJ, .int (nI (winnerM C M)), .ref uc, mJ, .int (nI (hd0 M)), .int (nI (if M 0 0 4 = NEG then 0 else 1)), .int (nI k), mJ, mJ, mJ] [] w = mX (d + 10) 169 1060 [.ref 1, .ref 166, mJ, .ref σ, .int (nI (C 0 0 3)), .int (nI (C 0 0 2)), .int (nI (C 0 0 1)), .int (nI t), mJ, mJ, mJ, .int (nI (countM C M 7)), .int (nI (M 0 0 4)), .int (nI (wordN C M)), mJ, mJ, mJ, mJ, mJ, .ref hc, .ref (hc + 1), mJ, mJ, .int (nI (winnerM C M)), .ref uc, mJ, .int (nI (hd0 M)), .int (nI (if M 0 0 4 = NEG then 0 else 1)), .int (nI k), mJ, mJ, mJ] [] w' ∧ it4 σ hi C (playM C 1 M) hc uc z y (hsM C M) (strongM C M) (fun k => untilM C k 10000 0 M) w' := by
  have k0 := h.1.1.k
  have hk1 := k0.1
  have q := h.1.1.g.q
  have m2 : MOk C (B + 42 * 1) (playM C 1 M) := playM_ok k0 _ _ _ hm
  by_cases e : M 0 0 4 = NEG
  · refine ⟨w, ?_, h⟩
    rw [b_169_1001, if_pos e, if_pos (by decide +kernel : ¬ nI 0 = nI 1), b_169_1033, if_pos (by decide +kernel : ¬ nI 0 = nI 1)]
  · obtain ⟨t50, l50, rd⟩ := h.2.1
    have rk := rd k hk
    try dsimp only at rk
    have p1 : playM C 1 M = turnM C M := by rw [play1, if_neg e]
    have hN : NEG = 4294967295 := rfl
    have skip : ∀ w, rowN w uc (C 0 0 3) (fun k => untilM C k 10000 0 M) → ¬ untilM C k 10000 0 M = 1 → mX (d + 10) 169 1033 [.ref 1, .ref 166, mJ, .ref σ, .int (nI (C 0 0 3)), .int (nI (C 0 0 2)), .int (nI (C 0 0 1)), .int (nI t), mJ, mJ, mJ, .int (nI (countM C M 7)), .int (nI (M 0 0 4)), .int (nI (wordN C M)), mJ, mJ, mJ, mJ, mJ, .ref hc, .ref (hc + 1), mJ, mJ, .int (nI (winnerM C M)), .ref uc, mJ, .int (nI (hd0 M)), .int (nI 1), .int (nI k), mJ, mJ, mJ] [] w = mX (d + 10) 169 1060 [.ref 1, .ref 166, mJ, .ref σ, .int (nI (C 0 0 3)), .int (nI (C 0 0 2)), .int (nI (C 0 0 1)), .int (nI t), mJ, mJ, mJ, .int (nI (countM C M 7)), .int (nI (M 0 0 4)), .int (nI (wordN C M)), mJ, mJ, mJ, mJ, mJ, .ref hc, .ref (hc + 1), mJ, mJ, .int (nI (winnerM C M)), .ref uc, mJ, .int (nI (hd0 M)), .int (nI 1), .int (nI k), mJ, mJ, mJ] [] w := fun w hr hu => by
      obtain ⟨t50, l50, rd⟩ := hr
      have rk := rd k hk
      try dsimp only at rk
      rw [b_169_1033, if_neg (fun q => q rfl)]
      refine Eq.trans (b_169_1039 t50 (by omega) (by omega)) ?_
      rw [rk]
      rw [if_pos]
      rcases un_b C M k with u | u
      · rw [u]; exact jneg_ne2 (by decide)
      · rw [jeq (by omega) (by decide)]; exact hu
    rw [if_neg e]
    by_cases g : untilM C k 10000 0 M = NEG ∨ untilM C k 10000 0 M = 0
    · refine ⟨w, ?_, h⟩
      rw [b_169_1001, if_neg (fun q => q rfl)]
      refine Eq.trans (b_169_1007 t50 (by omega) (by omega)) ?_
      rw [rk, if_pos]
      · exact skip w h.2.1 (by omega)
      · rcases g with g | g
        · rw [g]; exact jneg_le2 (by decide)
        · rw [g]; exact Int32.le_refl _
    · have ub : untilM C k 10000 0 M ≤ 10000 := (un_b C M k).resolve_left (fun q => g (Or.inl q))
      have ut := until_turn C M (s := k) e (by omega) (fun q => g (Or.inl q))
      obtain ⟨w2, e2, f2⟩ := c_until (d := d + 1) h.1.1.g m2 (by omega) hk
      have h2 := h.gs f2
      obtain ⟨t51, l51, rd2⟩ := h2.2.1
      have rk2 := rd2 k hk
      try dsimp only at rk2
      refine ⟨w2, ?_, h2⟩
      rw [b_169_1001, if_neg (fun q => q rfl)]
      refine Eq.trans (b_169_1007 t50 (by omega) (by omega)) ?_
      rw [rk, ijle (by omega) (by decide), if_neg (by omega), b_169_1015 q, e2]
      simp only [mThen_ok, Option.toList_some, Option.toList_none, List.cons_append, List.nil_append]
      refine Eq.trans (b_169_1021 t51 (by omega) (by omega)) ?_
      have eq1 : untilM C k 10000 0 M - 1 = untilM C k 10000 0 (playM C 1 M) := by rw [p1]; omega
      rw [rk2, jsub (by omega), eq1, if_pos rfl]
      by_cases u1 : untilM C k 10000 0 M = 1
      · have z0 : playM C 1 M 3 k 0 = 0 := by
          refine (until_0 C _).mp ?_
          rw [p1]
          omega
        rw [b_169_1033, if_neg (fun q => q rfl)]
        refine Eq.trans (b_169_1039 t51 (by omega) (by omega)) ?_
        rw [rk2, u1, if_neg (fun q => q rfl), b_169_1048 h2.1.1.g.q, c_spl (d := d + 5) h2.1.1.g m2 (by omega) hk (by decide), z0]
        simp only [mThen_ok, Option.toList_some, Option.toList_none, List.cons_append, List.nil_append]
        rw [b_169_1055, if_pos rfl]
      · exact skip w2 h2.2.1 u1
/-- how strong they are -/
theorem lg_c {t k : Nat} (h : it4 σ hi C (playM C 1 M) hc uc z y (hsM C M) (strongM C M) (fun k => untilM C k 10000 0 M) w) (hm : MOk C B M) (hB : B ≤ 300000000) (hk : k < C 0 0 3) :
    mX (d + 10) 169 1060 [.ref 1, .ref 166, mJ, .ref σ, .int (nI (C 0 0 3)), .int (nI (C 0 0 2)), .int (nI (C 0 0 1)), .int (nI t), mJ, mJ, mJ, .int (nI (countM C M 7)), .int (nI (M 0 0 4)), .int (nI (wordN C M)), mJ, mJ, mJ, mJ, mJ, .ref hc, .ref (hc + 1), mJ, mJ, .int (nI (winnerM C M)), .ref uc, mJ, .int (nI (hd0 M)), .int (nI (if M 0 0 4 = NEG then 0 else 1)), .int (nI k), mJ, mJ, mJ] [] w = mX (d + 10) 169 912 [.ref 1, .ref 166, mJ, .ref σ, .int (nI (C 0 0 3)), .int (nI (C 0 0 2)), .int (nI (C 0 0 1)), .int (nI t), mJ, mJ, mJ, .int (nI (countM C M 7)), .int (nI (M 0 0 4)), .int (nI (wordN C M)), mJ, mJ, mJ, mJ, mJ, .ref hc, .ref (hc + 1), mJ, mJ, .int (nI (winnerM C M)), .ref uc, mJ, .int (nI (hd0 M)), .int (nI (if M 0 0 4 = NEG then 0 else 1)), .int (nI (k + 1)), mJ, mJ, mJ] [] w := by
  have k0 := h.1.1.k
  have hk1 := k0.1
  have q := h.1.1.g.q
  have m2 : MOk C (B + 42 * 1) (playM C 1 M) := playM_ok k0 _ _ _ hm
  have rs := h.1.2.2.1
  obtain ⟨t50, l50, rd⟩ := (rs.2.2 k hk).2
  have gk := rs.g hk
  have sk := rs.s hk
  have t52 := rs.1
  have l52 := rs.2.1
  have key := loop0 (fun v => mX (d + 10) 169 1063 [.ref 1, .ref 166, mJ, .ref σ, .int (nI (C 0 0 3)), .int (nI (C 0 0 2)), .int (nI (C 0 0 1)), .int (nI t), mJ, mJ, mJ, .int (nI (countM C M 7)), .int (nI (M 0 0 4)), .int (nI (wordN C M)), mJ, mJ, mJ, mJ, mJ, .ref hc, .ref (hc + 1), mJ, mJ, .int (nI (winnerM C M)), .ref uc, mJ, .int (nI (hd0 M)), .int (nI (if M 0 0 4 = NEG then 0 else 1)), .int (nI k), mJ, mJ, .int (nI v)] [] w) (C 0 0 2) (fun v hv => by
    have rv := rd v hv
    have b1 := strongM_le k0 hm (s := k) hv
    have b2 := strongM_le k0 m2 (s := k) hv
    rw [b_169_1063, ijle (by omega) (by omega), if_neg (by omega), b_169_1070 q, c_strongQ (d := d + 6) h.1.1.g m2 (by omega) hk hv]
    simp only [mThen_ok, Option.toList_some, Option.toList_none, List.cons_append, List.nil_append]
    refine Eq.trans (b_169_1078 (by omega) (by omega) (by omega) sk (by rw [gk]; exact t50) (by omega) (by rw [gk, l50]; exact hv)) ?_
    rw [gk, rv, ijle (by omega) (by omega)]
    by_cases e : k = M 0 0 4 ∧ v = wordM C M
    · have en : ¬ M 0 0 4 = NEG := fun g => by have : NEG = 4294967295 := rfl; omega
      have cw : wordN C M = wordM C M := if_neg en
      by_cases g : strongM C M k v ≤ strongM C (playM C 1 M) k v
      · rw [if_pos g, b_169_1105, jadd]
      · rw [if_neg g, b_169_1089, if_neg (fun q => q ((who_eq hm k0 hk).mpr e.1)), b_169_1096, cw, if_pos (by rw [e.2]), b_169_1105, jadd]
    · have g : strongM C M k v ≤ strongM C (playM C 1 M) k v := by
        rw [play1]
        by_cases en : M 0 0 4 = NEG
        · rw [if_pos en]; exact Nat.le_refl _
        · rw [if_neg en]; exact strong_turn hm e
      rw [if_pos g, b_169_1105, jadd])
  rw [b_169_1060]
  refine Eq.trans key ?_
  try dsimp only
  rw [b_169_1063, if_pos (Int32.le_refl _), b_169_1111, jadd]
theorem lg_all {t : Nat} (h : it4 σ hi C (playM C 1 M) hc uc z y (hsM C M) (strongM C M) (fun k => untilM C k 10000 0 M) w) (hm : MOk C B M) (hB : B ≤ 300000000) :
    ∃ w', mX (d + 10) 169 909 [.ref 1, .ref 166, mJ, .ref σ, .int (nI (C 0 0 3)), .int (nI (C 0 0 2)), .int (nI (C 0 0 1)), .int (nI t), mJ, mJ, mJ, .int (nI (countM C M 7)), .int (nI (M 0 0 4)), .int (nI (wordN C M)), mJ, mJ, mJ, mJ, mJ, .ref hc, .ref (hc + 1), mJ, mJ, .int (nI (winnerM C M)), .ref uc, mJ, .int (nI (hd0 M)), .int (nI (if M 0 0 4 = NEG then 0 else 1)), mJ, mJ, mJ, mJ] [] w = mX (d + 10) 169 1117 [.ref 1, .ref 166, mJ, .ref σ, .int (nI (C 0 0 3)), .int (nI (C 0 0 2)), .int (nI (C 0 0 1)), .int (nI t), mJ, mJ, mJ, .int (nI (countM C M 7)), .int (nI (M 0 0 4)), mJ, mJ, mJ, mJ, mJ, mJ, mJ, mJ, mJ, mJ, .int (nI (winnerM C M)), mJ, mJ, .int (nI (hd0 M)), .int (nI (if M 0 0 4 = NEG then 0 else 1)), mJ, mJ, mJ, mJ] [] w' ∧ it4 σ hi C (playM C 1 M) hc uc z y (hsM C M) (strongM C M) (fun k => untilM C k 10000 0 M) w' := by
  have k0 := h.1.1.k
  have hk1 := k0.1
  have l1 := loopW (n := C 0 0 3) (F := fun k w => mX (d + 10) 169 912 [.ref 1, .ref 166, mJ, .ref σ, .int (nI (C 0 0 3)), .int (nI (C 0 0 2)), .int (nI (C 0 0 1)), .int (nI t), mJ, mJ, mJ, .int (nI (countM C M 7)), .int (nI (M 0 0 4)), .int (nI (wordN C M)), mJ, mJ, mJ, mJ, mJ, .ref hc, .ref (hc + 1), mJ, mJ, .int (nI (winnerM C M)), .ref uc, mJ, .int (nI (hd0 M)), .int (nI (if M 0 0 4 = NEG then 0 else 1)), .int (nI k), mJ, mJ, mJ] [] w) (P := fun k w => it4 σ hi C (playM C 1 M) hc uc z y (hsM C M) (strongM C M) (fun k => untilM C k 10000 0 M) w) (fun k w hk hp => by
    obtain ⟨w2, e2, h2⟩ := lg_b (d := d) (t := t) hp hm hB hk
    refine ⟨w2, ?_, h2⟩
    try dsimp only
    rw [b_169_912, ijle (by omega) (by omega), if_neg (by omega), lg_a hp hm hB hk, e2, lg_c h2 hm hB hk]) w h
  obtain ⟨w2, e2, h2⟩ := l1
  refine ⟨w2, ?_, h2⟩
  rw [b_169_909]
  refine Eq.trans e2 ?_
  try dsimp only
  rw [b_169_912, if_pos (Int32.le_refl _)]
/-- who will win, and a round that begins -/
theorem lg_d {t : Nat} (h : it4 σ hi C (playM C 1 M) hc uc z y F G U w) (hm : MOk C B M) (hB : B ≤ 300000000) (hR : 1 ≤ C 0 0 1) :
    ∃ w', mX (d + 10) 169 1117 [.ref 1, .ref 166, mJ, .ref σ, .int (nI (C 0 0 3)), .int (nI (C 0 0 2)), .int (nI (C 0 0 1)), .int (nI t), mJ, mJ, mJ, .int (nI (countM C M 7)), .int (nI (M 0 0 4)), mJ, mJ, mJ, mJ, mJ, mJ, mJ, mJ, mJ, mJ, .int (nI (winnerM C M)), mJ, mJ, .int (nI (hd0 M)), .int (nI (if M 0 0 4 = NEG then 0 else 1)), mJ, mJ, mJ, mJ] [] w = mX (d + 10) 169 59 [.ref 1, .ref 166, mJ, .ref σ, .int (nI (C 0 0 3)), .int (nI (C 0 0 2)), .int (nI (C 0 0 1)), .int (nI t + nI 1), mJ, mJ, mJ, mJ, mJ, mJ, mJ, mJ, mJ, mJ, mJ, mJ, mJ, mJ, mJ, mJ, mJ, mJ, mJ, mJ, mJ, mJ, mJ, mJ] [] w' ∧ it4 σ hi C (playM C 1 M) hc uc z y F G U w' := by
  have k0 := h.1.1.k
  have hk1 := k0.1
  have q := h.1.1.g.q
  have m2 : MOk C (B + 42 * 1) (playM C 1 M) := playM_ok k0 _ _ _ hm
  obtain ⟨w1, e1, f1⟩ := c_winner (d := d + 1) h.1.1.g m2 (by omega)
  have h1 := h.gs f1
  have q1 := h1.1.1.g.q
  refine ⟨w1, ?_, h1⟩
  have c7 : countM C M 7 = if M 0 0 4 = NEG then NEG else M 0 0 1 := rfl
  have c7' : countM C (playM C 1 M) 7 = if playM C 1 M 0 0 4 = NEG then NEG else playM C 1 M 0 0 1 := rfl
  have k10 : countM C (playM C 1 M) 10 = leftM C (playM C 1 M) := rfl
  have win : winnerM C (playM C 1 M) = winnerM C M := by
    rw [play1]
    by_cases e : M 0 0 4 = NEG
    · rw [if_pos e]
    · rw [if_neg e]; exact win_turn k0 hm e
  have pre : mX (d + 10) 169 1117 [.ref 1, .ref 166, mJ, .ref σ, .int (nI (C 0 0 3)), .int (nI (C 0 0 2)), .int (nI (C 0 0 1)), .int (nI t), mJ, mJ, mJ, .int (nI (countM C M 7)), .int (nI (M 0 0 4)), mJ, mJ, mJ, mJ, mJ, mJ, mJ, mJ, mJ, mJ, .int (nI (winnerM C M)), mJ, mJ, .int (nI (hd0 M)), .int (nI (if M 0 0 4 = NEG then 0 else 1)), mJ, mJ, mJ, mJ] [] w = mX (d + 10) 169 1136 [.ref 1, .ref 166, mJ, .ref σ, .int (nI (C 0 0 3)), .int (nI (C 0 0 2)), .int (nI (C 0 0 1)), .int (nI t), mJ, mJ, mJ, .int (nI (countM C M 7)), mJ, mJ, mJ, mJ, mJ, mJ, mJ, mJ, mJ, mJ, mJ, .int (nI (winnerM C M)), mJ, mJ, mJ, .int (nI (if M 0 0 4 = NEG then 0 else 1)), mJ, mJ, mJ, mJ] [] w := by
    rw [b_169_1117]
    by_cases e : M 0 0 4 = NEG
    · rw [e, if_pos jneg_lt]
    · have r := hm.who e
      have b5 := hm.1 5 (M 0 0 4) 0 (by decide) (by decide)
      have b6 := m2.1 5 (M 0 0 4) 0 (by decide) (by decide)
      have h0 : hd0 M = M 5 (M 0 0 4) 0 := if_neg e
      have ge : M 5 (M 0 0 4) 0 ≤ playM C 1 M 5 (M 0 0 4) 0 := by
        rw [play1, if_neg e]
        exact turn_5ge hm _ _
      rw [ijlt (by omega) (by decide), if_neg (by omega), b_169_1122 q, c_heard (d := d + 7) h.1.1.g r.1 hR, h0]
      simp only [mThen_ok, Option.toList_some, Option.toList_none, List.cons_append, List.nil_append]
      rw [b_169_1129, ijle (by omega) (by omega), if_pos ge]
  rw [pre, b_169_1136 q, e1, win]
  simp only [mThen_ok, Option.toList_some, Option.toList_none, List.cons_append, List.nil_append]
  rw [b_169_1140, if_pos rfl, b_169_1147]
  by_cases e : M 0 0 4 = NEG
  · rw [if_pos e, if_pos (by decide +kernel : ¬ nI 0 = nI 1), b_169_1204]
  · have r := hm.who e
    have r2 := k0.1
    rw [if_neg e, if_neg (fun q => q rfl), b_169_1153 q1, c_count (d := d + 4) h1.1.1.g m2 (by omega) (by decide), c7, if_neg e, c7']
    simp only [mThen_ok, Option.toList_some, Option.toList_none, List.cons_append, List.nil_append]
    rw [b_169_1159]
    by_cases e2 : playM C 1 M 0 0 4 = NEG
    · rw [if_pos e2, if_pos (jneg_le2 (by omega)), b_169_1204]
    · have r3 := m2.who e2
      rw [if_neg e2, ijle (by omega) (by omega)]
      by_cases g : playM C 1 M 0 0 1 ≤ M 0 0 1
      · rw [if_pos g, b_169_1204]
      · have tr : 2 ≤ leftM C (playM C 1 M) ∧ ∀ s, s < 6 → playM C 1 M 3 s 2 = 0 := by
          have p1 : playM C 1 M = turnM C M := by rw [play1, if_neg e]
          rw [p1] at e2 g ⊢
          exact turn_round hm e2 (by omega)
        have l6 := leftM_le k0 m2
        have key := loop0 (fun k => mX (d + 10) 169 1179 [.ref 1, .ref 166, mJ, .ref σ, .int (nI (C 0 0 3)), .int (nI (C 0 0 2)), .int (nI (C 0 0 1)), .int (nI t), mJ, mJ, mJ, mJ, mJ, mJ, mJ, mJ, mJ, mJ, mJ, mJ, mJ, mJ, mJ, mJ, mJ, mJ, mJ, mJ, .int (nI k), mJ, mJ, mJ] [] w1) (C 0 0 3) (fun k hk => by
          rw [b_169_1179, ijle (by omega) (by omega), if_neg (by omega), b_169_1186 q1, c_spl (d := d + 5) h1.1.1.g m2 (by omega) hk (by decide), tr.2 k (by omega)]
          simp only [mThen_ok, Option.toList_some, Option.toList_none, List.cons_append, List.nil_append]
          rw [b_169_1193, if_pos rfl, b_169_1198, jadd])
        rw [if_neg g, b_169_1164 q1, c_count (d := d + 4) h1.1.1.g m2 (by omega) (by decide), k10]
        simp only [mThen_ok, Option.toList_some, Option.toList_none, List.cons_append, List.nil_append]
        rw [b_169_1170, ijle (by decide) (by omega), if_pos tr.1, b_169_1176]
        refine Eq.trans key ?_
        try dsimp only
        rw [b_169_1179, if_pos (Int32.le_refl _), b_169_1204]
/-- one time -/
theorem law_it {t : Nat} (h : LW w σ hi C M) (hm : MOk C B M) (ho : SOk C B M) (hv : iv C M) (hB : B ≤ 200000000) (hS : 2 ≤ C 0 0 3 ∧ C 0 0 3 ≤ 4) (hT : 1 ≤ C 0 0 0) (hR : 1 ≤ C 0 0 1) (ht : t < 16) :
    ∃ w' M', mX (d + 10) 169 59 [.ref 1, .ref 166, mJ, .ref σ, .int (nI (C 0 0 3)), .int (nI (C 0 0 2)), .int (nI (C 0 0 1)), .int (nI t), mJ, mJ, mJ, mJ, mJ, mJ, mJ, mJ, mJ, mJ, mJ, mJ, mJ, mJ, mJ, mJ, mJ, mJ, mJ, mJ, mJ, mJ, mJ, mJ] [] w = mX (d + 10) 169 59 [.ref 1, .ref 166, mJ, .ref σ, .int (nI (C 0 0 3)), .int (nI (C 0 0 2)), .int (nI (C 0 0 1)), .int (nI (t + 1)), mJ, mJ, mJ, mJ, mJ, mJ, mJ, mJ, mJ, mJ, mJ, mJ, mJ, mJ, mJ, mJ, mJ, mJ, mJ, mJ, mJ, mJ, mJ, mJ] [] w' ∧ LW w' σ hi C M' ∧ gr 20 w w' ∧ MOk C (B + 4000) M' ∧ SOk C (B + 4000) M' ∧ iv C M' := by
  have k0 := h.k
  have hk1 := k0.1
  have eE : mE = 166 := rfl
  obtain ⟨w1, M, e1, L1, g1, m1, o1, v1⟩ := c_act (d := d) h hm ho hv (by omega) hT (by omega) ((ce w 1 t >>> (nI 3 &&& 31)) + nI 59 * nI t)
  have hB3 : B + 3000 ≤ 300000000 := by omega
  have hB2 : B + 3000 ≤ 1073741824 := by omega
  have q1 := L1.g.q
  have cnt : ∀ x, x < 18 → mK (d + 9) 99 [.ref 166, .int (nI x)] w1 = some (.inl (some (.int (nI (countM C M x)))), w1) := fun x hx => c_count (d := d + 4) L1.g m1 hB2 hx
  have c8 : countM C M 8 = M 0 0 4 := rfl
  have c9 : countM C M 9 = wordN C M := rfl
  have lo := L1.lo
  have top := L1.top
  -- the two rows
  have R2 : LW (wN w1 50 (C 0 0 3) (C 0 0 3)) σ hi C M := L1.wN
  have hz2 : mSz (wN w1 50 (C 0 0 3) (C 0 0 3)) = mSz w1 + 1 := rfl
  have aM : agr (wN w1 50 (C 0 0 3) (C 0 0 3)) (wM (wN w1 50 (C 0 0 3) (C 0 0 3)) (C 0 0 3) (C 0 0 2)) 0 (mSz w1 + 1) := agr.wM (by rw [hz2]; exact Nat.le_refl _)
  have R3 : it3 σ hi C M (mSz w1) (mSz w1 + 2 + C 0 0 3) (mSl w1 + C 0 0 3 + (C 0 0 3 + C 0 0 3 * C 0 0 2)) (fun _ => 0) (fun _ _ => 0) (wM (wN w1 50 (C 0 0 3) (C 0 0 3)) (C 0 0 3) (C 0 0 2)) := by
    refine ⟨R2.ag (aM.mono (Nat.zero_le _) (by omega)) (by show _ ≤ mSz (wN w1 50 (C 0 0 3) (C 0 0 3)) + 1 + C 0 0 3; omega) ⟨(aM 1 (Nat.zero_le _) (by omega)).1, (aM 1 (Nat.zero_le _) (by omega)).2.1⟩, (rowN.wN w1 _).ag aM (Nat.zero_le _) (by omega), rowS.wM _ _ _, top, ?_, ?_⟩
    · show mSz w1 + 1 + 1 + C 0 0 3 = _; omega
    · show mSl w1 + C 0 0 3 + (C 0 0 3 + C 0 0 3 * C 0 0 2) = _; omega
  obtain ⟨w2, e2, R4⟩ := lk_all (d := d) (t := t) (D := digestM C M) (c7 := nI (countM C M 7)) (c8 := nI (M 0 0 4)) (c9 := nI (wordN C M)) m1 v1 (by omega) R3
  obtain ⟨w3, e3, f3⟩ := lm_c (d := d) (t := t) (hc := mSz w1) R4.1 m1 (by omega) v1
  have R5 := R4.gs f3
  obtain ⟨w4, e4, R6⟩ := lm_d (d := d) (t := t) R5 (by omega) m1 (by omega)
  obtain ⟨w5, e5, R7⟩ := lm_e (d := d) (t := t) R6 m1 (by omega) hR
  obtain ⟨w6, e6, R8⟩ := lm_f (d := d) (t := t) R7 m1 o1 (by omega)
  obtain ⟨w7, e7, R9⟩ := lg_all (d := d) (t := t) R8 m1 (by omega)
  obtain ⟨w8, e8, R10⟩ := lg_d (d := d) (t := t) R9 m1 (by omega) hR
  have z8 := R10.1.2.2.2.2.1
  have y8 := R10.1.2.2.2.2.2
  refine ⟨w8, playM C 1 M, ?_, R10.1.1, ?_, (playM_ok k0 _ _ _ m1).le (by omega), sok_le (sok_play k0 _ _ _ m1 o1) (by omega), iv_play k0 _ _ _ m1 v1⟩
  · rw [b_169_59, ijle (by decide) (by omega), if_neg (by omega), b_169_66, c_cell h.one.1 h.one.2 (by omega)]
    simp only [mThen_ok, Option.toList_some, Option.toList_none, List.cons_append, List.nil_append]
    rw [b_169_72, e1]
    simp only [mThen_ok, Option.toList_some, Option.toList_none, List.cons_append, List.nil_append]
    rw [b_169_89, if_pos n10, b_169_94 q1, c_digest (d := d + 4) L1.g m1 hB2]
    simp only [mThen_ok, Option.toList_some, Option.toList_none, List.cons_append, List.nil_append]
    rw [b_169_98 q1, cnt 7 (by decide)]
    simp only [mThen_ok, Option.toList_some, Option.toList_none, List.cons_append, List.nil_append]
    rw [b_169_106 q1, cnt 8 (by decide), c8]
    simp only [mThen_ok, Option.toList_some, Option.toList_none, List.cons_append, List.nil_append]
    rw [b_169_114 q1, cnt 9 (by decide), c9]
    simp only [mThen_ok, Option.toList_some, Option.toList_none, List.cons_append, List.nil_append]
    rw [b_169_122 (by omega) (by omega), b_169_143 (by omega) (by omega) (by omega) (by omega), hz2, b_169_153, e2, lm_a R4.1 m1 (by omega) v1, lm_b R4.1 m1 (by omega) v1 hS, e3, e4, e5, e6, e7, e8, jadd]
  · have mul : C 0 0 3 * C 0 0 2 ≤ 4 * 12 := Nat.mul_le_mul (by omega) (by omega)
    obtain ⟨a1, a2, a3⟩ := g1
    exact ⟨by omega, by omega, by omega⟩
theorem law_loop (hS : 2 ≤ C 0 0 3 ∧ C 0 0 3 ≤ 4) (hT : 1 ≤ C 0 0 0) (hR : 1 ≤ C 0 0 1) : ∀ (m t : Nat) (w : MW) (M : MD) (B : Nat), t + m = 16 → LW w σ hi C M → MOk C B M → SOk C B M → iv C M → B + 4000 * m ≤ 100000000 → ok1 (20 * m + 40) w (mX (d + 10) 169 59 [.ref 1, .ref 166, mJ, .ref σ, .int (nI (C 0 0 3)), .int (nI (C 0 0 2)), .int (nI (C 0 0 1)), .int (nI t), mJ, mJ, mJ, mJ, mJ, mJ, mJ, mJ, mJ, mJ, mJ, mJ, mJ, mJ, mJ, mJ, mJ, mJ, mJ, mJ, mJ, mJ, mJ, mJ] [] w)
  | 0, t, w, M, B, ht, h, hm, ho, hv, hB => by
    have ht : t = 16 := ht
    subst ht
    obtain ⟨w', e, g⟩ := c_isSame (d := d + 3) h hm ho (by omega) (by omega)
    refine ⟨w', ?_, g.mono (by omega)⟩
    rw [b_169_59, if_pos (Int32.le_refl _), b_169_1210 h.s.s.tg, e]
    simp only [mThen_ok, Option.toList_some, Option.toList_none, List.cons_append, List.nil_append]
    rw [b_169_1215 kr1]
  | m + 1, t, w, M, B, ht, h, hm, ho, hv, hB => by
    obtain ⟨w', M', e, L, g, m2, o2, v2⟩ := law_it (d := d) (t := t) h hm ho hv (by omega) hS hT hR (by omega)
    rw [e]
    exact ((law_loop hS hT hR m (t + 1) w' M' (B + 4000) (by omega) L m2 o2 v2 (by omega)).of g).mono (by omega)
/-- from behind the list's reading on -/
theorem law_rest (h : LW w σ hi C M) (hm : MOk C B M) (ho : SOk C B M) (hv : iv C M) (hB : B ≤ 1000000) (hS : 2 ≤ C 0 0 3 ∧ C 0 0 3 ≤ 4) (hT : 1 ≤ C 0 0 0) (hR : 1 ≤ C 0 0 1) : ok1 400 w (mX (d + 10) 169 35 [.ref 1, .ref 166, mJ, .ref σ, mJ, mJ, mJ, mJ, mJ, mJ, mJ, mJ, mJ, mJ, mJ, mJ, mJ, mJ, mJ, mJ, mJ, mJ, mJ, mJ, mJ, mJ, mJ, mJ, mJ, mJ, mJ, mJ] [] w) := by
  have q := h.g.q
  have cnt : ∀ x, x < 18 → mK (d + 9) 99 [.ref 166, .int (nI x)] w = some (.inl (some (.int (nI (countM C M x)))), w) := fun x hx => c_count (d := d + 4) h.g hm (by omega) hx
  have c4 : countM C M 4 = C 0 0 3 := rfl
  have c3 : countM C M 3 = C 0 0 2 := rfl
  have c2 : countM C M 2 = C 0 0 1 := rfl
  rw [b_169_35 q, cnt 4 (by decide), c4]
  simp only [mThen_ok, Option.toList_some, Option.toList_none, List.cons_append, List.nil_append]
  rw [b_169_40 q, cnt 3 (by decide), c3]
  simp only [mThen_ok, Option.toList_some, Option.toList_none, List.cons_append, List.nil_append]
  rw [b_169_47 q, cnt 2 (by decide), c2]
  simp only [mThen_ok, Option.toList_some, Option.toList_none, List.cons_append, List.nil_append]
  rw [b_169_54]
  exact (law_loop (d := d) hS hT hR 16 0 w M B (by omega) h hm ho hv (by omega)).mono (by omega)
end
