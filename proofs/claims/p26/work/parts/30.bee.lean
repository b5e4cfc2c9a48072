/-! ===== a bee of the class is asked ===== -/
section
variable {d b t B : Nat} {w : MW} {C : CD} {M : MD}
theorem c_spAt (hb : bT w b t) {s : Nat} (hs : s < 6) : mK d 1 [.ref b, .int (nI s)] w = some (.inl (some (.ref (spc b s))), w) := by
  have h9 : spc b s = b + 10 + 3 * s := rfl
  have h8 := hb.lo
  rw [e_1, b_1_0, if_neg (by rw [jlt (by omega) (by decide)]; omega), b_1_4 (bT.t0 hb) (bT.s0_2 hb) (by rw [bT.g0_2 hb, bT.t3 hb]; omega), bT.g0_2 hb, bT.l3 hb, if_pos (by rw [jlt (by omega) (by decide)]; omega)]
  have hc : (nI s).toNatClampNeg = s := jcl (by omega)
  rw [b_1_18 (bT.t0 hb) (bT.s0_2 hb) (by rw [bT.g0_2 hb, bT.t3 hb]; omega) (by rw [jlt (by omega) (by decide)]; omega) (by rw [bT.g0_2 hb, bT.l3 hb, hc]; exact hs) (by rw [bT.g0_2 hb, hc]; exact bT.ss hb hs) (by rw [bT.g0_2 hb, hc, bT.sg hb hs]; omega), bT.g0_2 hb, hc, bT.sg hb hs, b_1_36, b_1_37]
theorem c_spNo (hb : bT w b t) : mK d 1 [.ref b, .int (nI 4294967295)] w = some (.inl (some (.ref (b + 4))), w) := by
  rw [e_1, b_1_0, if_pos jneg_lt, b_1_13 (bT.t0 hb) (bT.s0_3 hb), bT.g0_3 hb]
theorem MOk.i (hm : MOk C B M) : ∀ s, M 3 s 0 ≤ 1 := fun s => (hm.2.2.2.2.2.1 s).1
/-- the speller on turn, by number -/
theorem c_isOver (h : BW w b t C M) (hm : MOk C B M) (hB : B ≤ 1073741824) : mK d 4 [.ref b] w = some (.inl (some (.int (bI (decide (M 0 0 4 = NEG))))), w) := by
  have hk := h.k.1
  rw [e_4, b_4_0 (bT.t0 h.b), h.z4]
  rcases hm.2.2.2.2.1 with e | e
  · rw [e, if_neg (by decide +kernel), b_4_7, b_4_12 kr1]; rfl
  · rw [if_pos (by rw [jle (by decide) (by omega)]; exact Nat.zero_le _), b_4_11, b_4_12 kr0, decide_eq_false (by show ¬ M 0 0 4 = 4294967295; omega)]; rfl
theorem CF.rw (h : CF w t C) {q p : Nat} (hq : q < C 0 0 4) (hp : p < C 7 q 2) : mI w (t + 14) (q * 8 + p) = nI (C 8 q p) := (h.2.2.2.2.2.1 q hq).2.2.2 p hp
/-- the word on turn -/
def wordN (C : CD) (M : MD) : Nat := if M 0 0 4 = NEG then NEG else wordM C M
theorem c_word (h : BW w b t C M) (hm : MOk C B M) (hB : B ≤ 1073741824) : mK (d + 1) 5 [.ref b] w = some (.inl (some (.int (nI (wordN C M)))), w) := by
  have hk := h.k
  rw [e_5, b_5_0 (bT.t0 h.b), c_isOver h hm hB]
  simp only [mThen_ok, Option.toList_some, Option.toList_none, List.cons_append, List.nil_append]
  rw [b_5_4]
  unfold wordN
  rcases hm.2.2.2.2.1 with e | e
  · rw [if_pos e, decide_eq_true e, if_neg nbt, b_5_7, b_5_33, jm1]
  · have hn : ¬ M 0 0 4 = NEG := by show ¬ M 0 0 4 = 4294967295; have := hk.1; omega
    have hq := hk.2.2.2.2.2.1 _ e.2.1
    have h1 := hk.1
    rw [if_neg hn, decide_eq_false hn, if_pos nbf, b_5_11 (bT.t0 h.b) (bT.s0_0 h.b) (by rw [bT.g0_0 h.b]; exact tT.t0 h.t) (by rw [bT.g0_0 h.b]; exact tT.s0_13 h.t), bT.g0_0 h.b, tT.g0_13 h.t, h.z1, h.z3, jmul, jadd, c_getN (tT.t14 h.t) (by rw [tT.l14 h.t]; omega) (by rw [tT.l14 h.t]; decide)]
    simp only [mThen_ok, Option.toList_some, Option.toList_none, List.cons_append, List.nil_append]
    rw [b_5_33, h.c.rw e.2.1 e.2.2.1]
    rfl
theorem c_left (h : BW w b t C M) (hm : ∀ s, M 3 s 0 ≤ 1) : mK (d + 2) 6 [.ref b] w = some (.inl (some (.int (nI (leftM C M)))), w) := by
  have hk := h.k.1
  have hd : ∀ i, mX (d + 2) 6 4 [.ref b, .int (nI (su i (fun s => M 3 s 0))), .int (nI i)] [] w = mX (d + 2) 6 13 [.ref b, .int (nI (su i (fun s => M 3 s 0))), .int (nI i)] [.int (nI (C 0 0 3)), .int (nI i)] w := fun i => by
    rw [b_6_4 (bT.t0 h.b) (bT.s0_0 h.b) (by rw [bT.g0_0 h.b]; exact tT.t0 h.t), bT.g0_0 h.b, c_cnt h.t h.c (by decide)]
    simp only [mThen_ok, Option.toList_some, Option.toList_none, List.cons_append, List.nil_append]
  have key := loop0 (fun i => mX (d + 2) 6 4 [.ref b, .int (nI (su i (fun s => M 3 s 0))), .int (nI i)] [] w) (C 0 0 3) (fun i hi => by
    have h1 := hm i
    rw [hd, b_6_13, if_neg (by rw [jle (by omega) (by omega)]; omega), b_6_16 (bT.t0 h.b), c_spAt h.b (by omega)]
    simp only [mThen_ok, Option.toList_some, Option.toList_none, List.cons_append, List.nil_append]
    rw [b_6_21 (bT.st h.b (by omega)), h.f0 (by omega), ijeq (by omega) (by decide)]
    by_cases e : M 3 i 0 = 0
    · rw [if_pos e, b_6_30, jadd, su, e]; rfl
    · rw [if_neg e, b_6_27, b_6_30, jadd, jadd, su, show M 3 i 0 = 1 by omega])
  rw [e_6, b_6_0]
  refine Eq.trans key ?_
  try dsimp only
  rw [hd, b_6_13, if_pos (by rw [jle (by omega) (by omega)]; exact Nat.le_refl _), b_6_36]
  rfl
theorem c_nextIn (h : BW w b t C M) (hm : ∀ s, M 3 s 0 ≤ 1) {s : Nat} (hs : s ≤ 6) : mK (d + 2) 7 [.ref b, .int (nI s)] w = some (.inl (some (.int (nI (nextInM C M s)))), w) := by
  have hk := h.k.1
  have hd : ∀ i, mX (d + 2) 7 2 [.ref b, mJ, .int (nI i)] [] w = mX (d + 2) 7 11 [.ref b, mJ, .int (nI i)] [.int (nI (C 0 0 3)), .int (nI i)] w := fun i => by
    rw [b_7_2 (bT.t0 h.b) (bT.s0_0 h.b) (by rw [bT.g0_0 h.b]; exact tT.t0 h.t), bT.g0_0 h.b, c_cnt h.t h.c (by decide)]
    simp only [mThen_ok, Option.toList_some, Option.toList_none, List.cons_append, List.nil_append]
  have key : ∀ m i, C 0 0 3 - i = m → i ≤ 6 → mX (d + 2) 7 2 [.ref b, mJ, .int (nI i)] [] w = some (.inl (some (.int (nI (nxM M m i)))), w) := by
    intro m
    induction m with
    | zero =>
      intro i hi h6
      rw [hd, b_7_11, if_pos (by rw [jle (by omega) (by omega)]; omega), b_7_33, jm1]
      rfl
    | succ m ih =>
      intro i hi h6
      have h1 := hm i
      rw [hd, b_7_11, if_neg (by rw [jle (by omega) (by omega)]; omega), b_7_14 (bT.t0 h.b), c_spAt h.b (by omega)]
      simp only [mThen_ok, Option.toList_some, Option.toList_none, List.cons_append, List.nil_append]
      rw [b_7_19 (bT.st h.b (by omega)), h.f0 (by omega), ijeq (by omega) (by decide), nxM]
      by_cases e : M 3 i 0 = 0
      · rw [if_pos e, if_pos e, b_7_27, jadd, ih (i + 1) (by omega) (by omega)]
      · rw [if_neg e, if_neg e, b_7_25]
  rw [e_7, b_7_0, key _ s rfl hs]
  rfl
/-- what count and foresee tell from 10 to 16 -/
def tallyM (C : CD) (M : MD) (x : Nat) : Nat := if x < 11 then leftM C M else M 1 0 (x - 11)
theorem c_tally (h : BW w b t C M) (hm : ∀ s, M 3 s 0 ≤ 1) {x : Nat} (hx : x < 17) : mK (d + 3) 8 [.ref b, .int (nI x)] w = some (.inl (some (.int (nI (tallyM C M x)))), w) := by
  rw [e_8, b_8_0, ijle (by decide) (by omega)]
  unfold tallyM
  by_cases g : x < 11
  · rw [if_neg (by omega), if_pos g, b_8_6 (bT.t0 h.b), c_left h hm]
    simp only [mThen_ok, Option.toList_some, Option.toList_none, List.cons_append, List.nil_append]
    rw [b_8_10, b_8_24]
  · rw [if_pos (by omega), if_neg g, b_8_13 (bT.t0 h.b) (bT.s0_4 h.b), bT.g0_4 h.b, jsub (by omega), c_getN (bT.t7 h.b) (by rw [bT.l7 h.b]; omega) (by rw [bT.l7 h.b]; decide)]
    simp only [mThen_ok, Option.toList_some, Option.toList_none, List.cons_append, List.nil_append]
    rw [b_8_24, h.to (by omega)]
theorem c_ahead (h : BW w b t C M) (hm : MOk C B M) (hB : B ≤ 1073741824) {s o : Nat} (hs : s < 6) (ho : o < 6) : mK (d + 1) 10 [.ref b, .int (nI s), .int (nI o)] w = some (.inl (some (.int (bI (aheadM M s o)))), w) := by
  have q1 := (hm.2.2.2.2.2.1 s).1
  have q2 := (hm.2.2.2.2.2.1 o).1
  have q3 := hm.1 3 s 1 (by decide) (by decide)
  have q4 := hm.1 3 o 1 (by decide) (by decide)
  rw [e_10, b_10_0 (bT.t0 h.b), c_spAt h.b hs]
  simp only [mThen_ok, Option.toList_some, Option.toList_none, List.cons_append, List.nil_append]
  rw [b_10_5 (bT.t0 h.b), c_spAt h.b ho]
  simp only [mThen_ok, Option.toList_some, Option.toList_none, List.cons_append, List.nil_append]
  rw [b_10_11 (bT.st h.b hs) (bT.st h.b ho), h.f0 hs, h.f0 ho, ijeq (by omega) (by omega)]
  unfold aheadM
  by_cases e : M 3 s 0 = M 3 o 0
  · rw [if_pos e, if_pos e, b_10_30 (bT.st h.b hs) (bT.st h.b ho), h.f1 hs, h.f1 ho, ijeq (by omega) (by omega)]
    by_cases e2 : M 3 s 1 = M 3 o 1
    · rw [if_pos e2, if_pos e2, b_10_62, ijle (by omega) (by omega)]
      by_cases e3 : s < o
      · rw [if_neg (by omega), b_10_67, b_10_72 kr1, decide_eq_true e3]; rfl
      · rw [if_pos (by omega), b_10_71, b_10_72 kr0, decide_eq_false e3]; rfl
    · rw [if_neg e2, if_neg e2, b_10_42 (bT.st h.b hs) (bT.st h.b ho), h.f1 hs, h.f1 ho, ijle (by omega) (by omega)]
      by_cases e3 : M 3 o 1 < M 3 s 1
      · rw [if_neg (by omega), b_10_54, b_10_72 kr1, decide_eq_true e3]; rfl
      · rw [if_pos (by omega), b_10_58, b_10_72 kr0, decide_eq_false e3]; rfl
  · rw [if_neg e, if_neg e]
    by_cases e3 : M 3 s 0 = 1
    · rw [b_10_25 (bT.st h.b hs) (by rw [h.f0 hs, e3]; exact kr1), h.f0 hs, decide_eq_true e3, e3]; rfl
    · have e4 : M 3 s 0 = 0 := by omega
      rw [b_10_25 (bT.st h.b hs) (by rw [h.f0 hs, e4]; exact kr0), h.f0 hs, decide_eq_false e3, e4]; rfl
theorem c_rank (h : BW w b t C M) (hm : MOk C B M) (hB : B ≤ 1073741824) {s : Nat} (hs : s < 6) : mK (d + 2) 9 [.ref b, .int (nI s)] w = some (.inl (some (.int (nI (rankM C M s)))), w) := by
  have hk := h.k.1
  have hd : ∀ i, mX (d + 2) 9 4 [.ref b, .int (nI s), .int (nI (su i (fun o => if aheadM M o s = true then 1 else 0))), .int (nI i)] [] w = mX (d + 2) 9 13 [.ref b, .int (nI s), .int (nI (su i (fun o => if aheadM M o s = true then 1 else 0))), .int (nI i)] [.int (nI (C 0 0 3)), .int (nI i)] w := fun i => by
    rw [b_9_4 (bT.t0 h.b) (bT.s0_0 h.b) (by rw [bT.g0_0 h.b]; exact tT.t0 h.t), bT.g0_0 h.b, c_cnt h.t h.c (by decide)]
    simp only [mThen_ok, Option.toList_some, Option.toList_none, List.cons_append, List.nil_append]
  have key := loop0 (fun i => mX (d + 2) 9 4 [.ref b, .int (nI s), .int (nI (su i (fun o => if aheadM M o s = true then 1 else 0))), .int (nI i)] [] w) (C 0 0 3) (fun i hi => by
    rw [hd, b_9_13, if_neg (by rw [jle (by omega) (by omega)]; omega), b_9_16 (bT.t0 h.b), c_ahead h hm hB (by omega) hs]
    simp only [mThen_ok, Option.toList_some, Option.toList_none, List.cons_append, List.nil_append]
    rw [b_9_22]
    cases e : aheadM M i s with
    | true => rw [if_neg (by decide +kernel), b_9_25, b_9_28, jadd, jadd, su, if_pos e]
    | false => rw [if_pos (by decide +kernel), b_9_28, jadd, su, e, if_neg (by decide)]; rfl)
  rw [e_9, b_9_0]
  refine Eq.trans key ?_
  try dsimp only
  rw [hd, b_9_13, if_pos (by rw [jle (by omega) (by omega)]; exact Nat.le_refl _), b_9_34]
  rfl
theorem c_can1 (h : BW w b t C M) (hm : MOk C B M) (hB : B ≤ 1073741824) : mK (d + 1) 12 [.ref b, .int (nI 1)] w = some (.inl (some (.int (bI (canHintM M)))), w) := by
  have hk := h.k.1
  rw [e_12, b_12_0 (bT.t0 h.b), c_isOver h hm hB]
  simp only [mThen_ok, Option.toList_some, Option.toList_none, List.cons_append, List.nil_append]
  rw [b_12_4]
  unfold canHintM
  rcases hm.2.2.2.2.1 with e | e
  · rw [decide_eq_true e, if_neg nbt, b_12_7, decide_eq_false (by simp [e])]; rfl
  · have hn : ¬ M 0 0 4 = NEG := by show ¬ M 0 0 4 = 4294967295; omega
    have q3 := hm.1 3 (M 0 0 4) 1 (by decide) (by decide)
    have q4 := hm.2.2.1
    rw [decide_eq_false hn, if_pos nbf, b_12_9 (bT.t0 h.b), h.z4, c_spAt h.b (by omega)]
    simp only [mThen_ok, Option.toList_some, Option.toList_none, List.cons_append, List.nil_append]
    rw [s_12_17_1 rfl, b_12_44 (bT.t0 h.b), h.z5, ijle (by decide) (by omega), decide_eq_true hn]
    by_cases e3 : M 0 0 5 < 2
    · rw [if_neg (by omega), b_12_52 (bT.st h.b (by omega)), h.f1 (by omega), ijlt (by omega) (by decide), decide_eq_true e3]
      by_cases e4 : 1 ≤ M 3 (M 0 0 4) 1
      · rw [if_neg (by omega), b_12_60, b_12_65 kr1, decide_eq_true e4]; rfl
      · rw [if_pos (by omega), b_12_64, b_12_65 kr0, decide_eq_false e4]; rfl
    · rw [if_pos (by omega), b_12_64, b_12_65 kr0, decide_eq_false e3]; rfl
theorem c_can2 (h : BW w b t C M) (hm : MOk C B M) (hB : B ≤ 1073741824) : mK (d + 1) 12 [.ref b, .int (nI 2)] w = some (.inl (some (.int (bI (canPassM M)))), w) := by
  have hk := h.k.1
  rw [e_12, b_12_0 (bT.t0 h.b), c_isOver h hm hB]
  simp only [mThen_ok, Option.toList_some, Option.toList_none, List.cons_append, List.nil_append]
  rw [b_12_4]
  unfold canPassM
  rcases hm.2.2.2.2.1 with e | e
  · rw [decide_eq_true e, if_neg nbt, b_12_7, decide_eq_false (by simp [e])]; rfl
  · have hn : ¬ M 0 0 4 = NEG := by show ¬ M 0 0 4 = 4294967295; omega
    have q3 := hm.1 3 (M 0 0 4) 3 (by decide) (by decide)
    rw [decide_eq_false hn, if_pos nbf, b_12_9 (bT.t0 h.b), h.z4, c_spAt h.b (by omega)]
    simp only [mThen_ok, Option.toList_some, Option.toList_none, List.cons_append, List.nil_append]
    rw [s_12_17_2 rfl, b_12_66 (bT.st h.b (by omega)), h.f3 (by omega), ijlt (by omega) (by decide), decide_eq_true hn]
    by_cases e4 : 1 ≤ M 3 (M 0 0 4) 3
    · rw [if_neg (by omega), b_12_74, b_12_79 kr1, decide_eq_true e4]; rfl
    · rw [if_pos (by omega), b_12_78, b_12_79 kr0, decide_eq_false e4]; rfl
theorem c_can0 (h : BW w b t C M) (hm : MOk C B M) (hB : B ≤ 1073741824) : mK (d + 1) 12 [.ref b, .int (nI 0)] w = some (.inl (some (.int (bI (decide (¬ M 0 0 4 = NEG))))), w) := by
  have hk := h.k.1
  rw [e_12, b_12_0 (bT.t0 h.b), c_isOver h hm hB]
  simp only [mThen_ok, Option.toList_some, Option.toList_none, List.cons_append, List.nil_append]
  rw [b_12_4]
  rcases hm.2.2.2.2.1 with e | e
  · rw [decide_eq_true e, if_neg nbt, b_12_7, decide_eq_false (by simp [e])]; rfl
  · have hn : ¬ M 0 0 4 = NEG := by show ¬ M 0 0 4 = 4294967295; omega
    rw [decide_eq_false hn, if_pos nbf, b_12_9 (bT.t0 h.b), h.z4, c_spAt h.b (by omega)]
    simp only [mThen_ok, Option.toList_some, Option.toList_none, List.cons_append, List.nil_append]
    rw [s_12_17_d (by decide +kernel), b_12_80, decide_eq_true hn]; rfl
theorem c_isOrder (h : BW w b t C M) (hm : MOk C B M) {o x : Nat} (ho : o < C 0 0 5) (hx : x < 3) : mK (d + 1) 19 [.ref b, .int (nI o), .int (nI (15 + x))] w = some (.inl (some (.int (bI (decide (C 9 o 1 = M 0 0 4 ∧ C 9 o 0 = x))))), w) := by
  have hk := h.k.1
  have hk9 := h.k.2.2.2.2.2.2 o ho
  have hc := h.c.2.2.2.2.2.2.1 o ho
  rw [e_19, b_19_0 (bT.t0 h.b) (bT.s0_0 h.b) (by rw [bT.g0_0 h.b]; exact tT.t0 h.t) (by rw [bT.g0_0 h.b]; exact tT.s0_15 h.t), bT.g0_0 h.b, tT.g0_15 h.t, c_getN (tT.t16 h.t) (by rw [tT.l16 h.t]; omega) (by rw [tT.l16 h.t]; decide), hc.2]
  simp only [mThen_ok, Option.toList_some, Option.toList_none, List.cons_append, List.nil_append]
  rw [b_19_11 (bT.t0 h.b), h.z4]
  have hz : (nI (C 9 o 1) = nI (M 0 0 4)) ↔ C 9 o 1 = M 0 0 4 := by
    rcases hm.2.2.2.2.1 with e | e
    · rw [e]
      constructor
      · intro q; exact absurd q (jneg_ne (by omega))
      · intro q; rw [q]
    · exact jeq (by omega) (by omega)
  simp only [hz]
  by_cases e : C 9 o 1 = M 0 0 4
  · rw [if_neg (by simp [e]), b_19_18 (bT.t0 h.b) (bT.s0_0 h.b) (by rw [bT.g0_0 h.b]; exact tT.t0 h.t) (by rw [bT.g0_0 h.b]; exact tT.s0_14 h.t), bT.g0_0 h.b, tT.g0_14 h.t, c_getN (tT.t15 h.t) (by rw [tT.l15 h.t]; omega) (by rw [tT.l15 h.t]; decide), hc.1]
    simp only [mThen_ok, Option.toList_some, Option.toList_none, List.cons_append, List.nil_append]
    rw [b_19_29, ijne (by omega) (by omega)]
    by_cases e2 : C 9 o 0 = x
    · rw [if_neg (by omega), b_19_33, b_19_38 kr1, decide_eq_true ⟨e, e2⟩]; rfl
    · rw [if_pos (by omega), b_19_37, b_19_38 kr0, decide_eq_false (fun q => e2 q.2)]; rfl
  · rw [if_pos e, b_19_37, b_19_38 kr0, decide_eq_false (fun q => e q.1)]; rfl
theorem leastM_le (hm : MOk C B M) (hk : CfOk C) {s v : Nat} (hv : v < C 0 0 2) : ∀ n, n ≤ C 3 v 0 → leastM C M s v n ≤ B + 14 := by
  have h2 := hk.2.2.2.1 v hv
  have hs : ∀ p, p < C 3 v 0 → spM C M s v p ≤ B + 14 := fun p hp => by
    have h3 := hk.2.2.1 _ (h2.2.2 p hp)
    have h4 := hk.2.1 _ h3.1
    have h5 := hm.1 4 s (C 2 (C 4 v p) 0) (by decide) (by decide)
    unfold spM
    omega
  intro n hn
  cases n with
  | zero => exact Nat.zero_le _
  | succ n =>
    rw [leastM]
    split
    · exact hs 0 (by omega)
    · exact Nat.le_trans (Nat.min_le_right _ _) (hs n (by omega))
theorem c_strong (h : BW w b t C M) (hm : MOk C B M) (hB : B ≤ 1073741824) {s v : Nat} (hs : s < 6) (hv : v < C 0 0 2) : mK (d + 2) 11 [.ref b, .int (nI s), .int (nI v)] w = some (.inl (some (.int (nI (strongM C M s v)))), w) := by
  have hk := h.k
  have h2 := hk.2.2.2.1 v hv
  have hk1 := hk.1
  have hd : ∀ i, mX (d + 2) 11 12 [.ref b, .int (nI s), .int (nI v), .ref (spc b s), .int (nI (leastM C M s v i)), .int (nI i), mJ, mJ, mJ, mJ] [] w = mX (d + 2) 11 25 [.ref b, .int (nI s), .int (nI v), .ref (spc b s), .int (nI (leastM C M s v i)), .int (nI i), mJ, mJ, mJ, mJ] [.int (nI (C 3 v 0)), .int (nI i)] w := fun i => by
    rw [b_11_12 (bT.t0 h.b) (bT.s0_0 h.b) (by rw [bT.g0_0 h.b]; exact tT.t0 h.t) (by rw [bT.g0_0 h.b]; exact tT.s0_5 h.t), bT.g0_0 h.b, tT.g0_5 h.t, c_size h.t h.c hk hv]
    simp only [mThen_ok, Option.toList_some, Option.toList_none, List.cons_append, List.nil_append]
  have key := loop0 (fun i => mX (d + 2) 11 12 [.ref b, .int (nI s), .int (nI v), .ref (spc b s), .int (nI (leastM C M s v i)), .int (nI i), mJ, mJ, mJ, mJ] [] w) (C 3 v 0) (fun i hi => by
    have hr := h2.2.2 i hi
    have h3 := hk.2.2.1 _ hr
    have h4 := hk.2.1 _ h3.1
    have h5 := hm.1 4 s (C 2 (C 4 v i) 0) (by decide) (by decide)
    have h6 := hm.1 5 s (C 4 v i) (by decide) (by decide)
    have h7 := leastM_le (s := s) hm hk hv i (by omega)
    rw [hd, b_11_25, if_neg (by rw [jle (by omega) (by omega)]; omega), b_11_28 (bT.t0 h.b) (bT.s0_0 h.b) (by rw [bT.g0_0 h.b]; exact tT.t0 h.t), bT.g0_0 h.b, c_part h.t h.c hk hv hi]
    simp only [mThen_ok, Option.toList_some, Option.toList_none, List.cons_append, List.nil_append]
    rw [b_11_38 (bT.t0 h.b) (bT.s0_0 h.b) (by rw [bT.g0_0 h.b]; exact tT.t0 h.t) (by rw [bT.g0_0 h.b]; exact tT.s0_2 h.t), bT.g0_0 h.b, tT.g0_2 h.t, c_rton h.t h.c hk hr]
    simp only [mThen_ok, Option.toList_some, Option.toList_none, List.cons_append, List.nil_append]
    rw [b_11_52 (bT.st h.b hs) (bT.hs h.b hs), bT.hg h.b hs, c_getN (bT.ht h.b hs) (by rw [bT.hl h.b hs]; omega) (by rw [bT.hl h.b hs]; decide), h.he hs (by omega)]
    simp only [mThen_ok, Option.toList_some, Option.toList_none, List.cons_append, List.nil_append]
    rw [b_11_64, c_minN (by decide) (by omega)]
    simp only [mThen_ok, Option.toList_some, Option.toList_none, List.cons_append, List.nil_append]
    rw [b_11_67 (bT.st h.b hs) (bT.ks h.b hs), bT.kg h.b hs, c_getN (bT.kt h.b hs) (by rw [bT.kl h.b hs]; omega) (by rw [bT.kl h.b hs]; decide), h.kn hs (by omega)]
    simp only [mThen_ok, Option.toList_some, Option.toList_none, List.cons_append, List.nil_append]
    rw [b_11_78 (bT.t0 h.b) (bT.s0_0 h.b) (by rw [bT.g0_0 h.b]; exact tT.t0 h.t) (by rw [bT.g0_0 h.b]; exact tT.s0_1 h.t), bT.g0_0 h.b, tT.g0_1 h.t, c_ease h.t h.c hk h3.1]
    simp only [mThen_ok, Option.toList_some, Option.toList_none, List.cons_append, List.nil_append]
    rw [b_11_90, jadd, jadd, ijne (by omega) (by decide)]
    have e9 : M 4 s (C 2 (C 4 v i) 0) + C 1 (C 2 (C 4 v i) 0) 0 + min 5 (M 5 s (C 4 v i)) = spM C M s v i := rfl
    rw [e9, leastM]
    by_cases e : i = 0
    · rw [if_neg (by omega), b_11_101, b_11_113, jadd, if_pos e, e]
    · rw [if_pos e, b_11_106, c_minN (by omega) (by rw [← e9]; omega)]
      simp only [mThen_ok, Option.toList_some, Option.toList_none, List.cons_append, List.nil_append]
      rw [b_11_113, jadd, if_neg e])
  have h7 := leastM_le (s := s) hm hk hv (C 3 v 0) (Nat.le_refl _)
  rw [e_11, b_11_0 (bT.t0 h.b), c_spAt h.b hs]
  simp only [mThen_ok, Option.toList_some, Option.toList_none, List.cons_append, List.nil_append]
  rw [b_11_5]
  refine Eq.trans key ?_
  try dsimp only
  rw [hd, b_11_25, if_pos (by rw [jle (by omega) (by omega)]; exact Nat.le_refl _), b_11_121 (bT.t0 h.b), h.z4]
  unfold strongM
  have hz : (nI s = nI (M 0 0 4)) ↔ s = M 0 0 4 := by
    rcases hm.2.2.2.2.1 with e | e
    · rw [e]
      constructor
      · intro q; exact absurd q (jneg_ne (by omega))
      · intro q; rw [q]
    · exact jeq (by omega) (by omega)
  simp only [hz]
  by_cases e : s = M 0 0 4
  · rw [if_neg (by simp [e]), b_11_129 (bT.t0 h.b), c_word h hm hB]
    simp only [mThen_ok, Option.toList_some, Option.toList_none, List.cons_append, List.nil_append]
    have hw : wordN C M = wordM C M := by
      unfold wordN
      rw [if_neg (by show ¬ M 0 0 4 = 4294967295; omega)]
    have hw2 : wordM C M < 2147483648 := by
      rcases hm.2.2.2.2.1 with q | q
      · exact absurd (e.trans q) (by show ¬ s = 4294967295; omega)
      · have q2 := (hk.2.2.2.2.2.1 _ q.2.1).2.2.2.2.2 _ q.2.2.1
        unfold wordM
        omega
    rw [b_11_134, hw, ijne (by omega) hw2]
    by_cases e2 : v = wordM C M
    · have h8 := hm.2.2.1
      rw [if_neg (by simp [e2]), b_11_137, b_11_142, if_neg n10, b_11_149 (bT.t0 h.b), h.z5, jmul, jadd, b_11_163, if_pos ⟨e, e2⟩]
    · rw [if_pos e2, b_11_141, b_11_142, if_pos rfl, b_11_161, b_11_163, if_neg (fun q => e2 q.2)]; rfl
  · rw [if_pos e, b_11_141, b_11_142, if_pos rfl, b_11_161, b_11_163, if_neg (fun q => e q.1)]; rfl
end
