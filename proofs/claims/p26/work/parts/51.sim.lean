/-! ===== the law's bee is asked ===== -/
theorem jshr2 {a : Nat} (h : a < 64) : nI a >>> (nI 2 &&& 31) = nI (a / 4) := by
  have : ∀ a, a < 64 → nI a >>> (nI 2 &&& 31) = nI (a / 4) := by decide +kernel
  exact this a h
theorem jmod {a b : Nat} (ha : a < 2147483648) (hb : b < 2147483648) : nI a - nI a / nI b * nI b = nI (a % b) := by
  rw [jdiv ha hb, jmul, jsub (Nat.div_mul_le_self a b)]
  congr 1
  have := Nat.div_add_mod a b
  rw [Nat.mul_comm] at this
  omega
/-- how the law's bee's own numbers stand to the model's -/
def SOk (C : CD) (B : Nat) (M : MD) : Prop :=
  (M 0 0 4 = NEG ↔ M 8 0 1 = NEG) ∧ (¬ M 0 0 4 = NEG → M 8 0 1 = M 0 0 1 ∧ M 8 0 2 = M 0 0 2 ∧ M 8 0 4 = M 0 0 4 ∧ M 8 0 3 % C 7 (M 0 0 1) 2 = M 0 0 3) ∧ M 8 0 3 ≤ B ∧ ∀ s k, s < C 0 0 3 → k < C 0 0 0 → M 4 s k ≤ 20
section
variable {d B σ : Nat} {w : MW} {C : CD} {M : MD}
theorem lettersM_le (hk : CfOk C) {v : Nat} (hv : v < C 0 0 2) : lettersM C v ≤ 36 := by
  have h2 := hk.2.2.2.1 v hv
  have a1 : lettersM C v ≤ C 3 v 0 * 9 := su_le fun p hp => (hk.2.2.1 _ (h2.2.2 p hp)).2.1
  omega
theorem c_sLetters (h : SW w σ C M) {v : Nat} (hv : v < C 0 0 2) : mK d 127 [.ref σ, .int (nI v)] w = some (.inl (some (.int (nI (lettersM C v)))), w) := by
  have S := h.s
  have hk := h.k
  have hk1 := hk.1
  have h2 := hk.2.2.2.1 v hv
  have tg := S.tg
  have r9 := S.r9; have t9 := S.t9; have n9 := S.n9; have r10 := S.r10; have t10 := S.t10; have n10 := S.n10
  obtain ⟨e10v, u10v, l10v⟩ := S.e10 v hv
  rw [e_127]
  refine Eq.trans (b_127_0 (by first | assumption | omega) (by first | assumption | omega) (by first | assumption | omega) (by first | assumption | omega) (by first | assumption | omega) (by first | assumption | omega) (by first | assumption | omega)) ?_
  rw [l10v]
  have key := loop0 (fun i => mX d 127 16 [.ref σ, mJ, .int (nI (su i (fun p => C 2 (C 4 v p) 1))), .ref (gR w (gR w σ 10) v), .int (nI (C 3 v 0)), .int (nI i), mJ] [] w) (C 3 v 0) (fun i hi => by
    have hr := h2.2.2 i hi
    have hp := h.c.2.2.1 v hv i hi
    obtain ⟨e9r, u9r, l9r⟩ := S.e9 (C 4 v i) hr
    rw [b_127_16, ijle (by omega) (by omega), if_neg (by omega)]
    refine Eq.trans (b_127_23 (by first | assumption | omega) (by first | assumption | omega) (by first | assumption | omega) (by first | assumption | omega) (by first | assumption | omega) (by first | assumption | omega) (by first | assumption | omega) (by first | assumption | omega) (by first | assumption | omega) (by first | assumption | omega) (by first | assumption | omega) (by first | assumption | omega)) ?_
    rw [h.c.2.1 _ hr 1 (by decide), jadd, jadd]
    rfl)
  refine Eq.trans key ?_
  try dsimp only
  rw [b_127_16, ijle (by omega) (by omega), if_pos (Nat.le_refl _), b_127_47]
  rfl
theorem c_sHard (h : SW w σ C M) {v : Nat} (hv : v < C 0 0 2) : mK (d + 1) 128 [.ref σ, .int (nI v)] w = some (.inl (some (.int (nI (hardM C v)))), w) := by
  have S := h.s
  have hk := h.k
  have hk1 := hk.1
  have h2 := hk.2.2.2.1 v hv
  have hl := lettersM_le hk hv
  have tg := S.tg
  have r9 := S.r9; have t9 := S.t9; have n9 := S.n9; have r10 := S.r10; have t10 := S.t10; have n10 := S.n10
  obtain ⟨e10v, u10v, l10v⟩ := S.e10 v hv
  rw [e_128, b_128_0 S.tg, c_sLetters h hv]
  simp only [mThen_ok, Option.toList_some, Option.toList_none, List.cons_append, List.nil_append]
  refine Eq.trans (b_128_5 (by first | assumption | omega) (by first | assumption | omega) (by first | assumption | omega) (by first | assumption | omega) (by first | assumption | omega) (by first | assumption | omega) (by first | assumption | omega)) ?_
  rw [l10v, jshr2 (by omega)]
  have key := loop0 (fun i => mX (d + 1) 128 22 [.ref σ, mJ, .int (nI (lettersM C v / 4 + su i (fun p => C 2 (C 4 v p) 2))), .ref (gR w (gR w σ 10) v), .int (nI (C 3 v 0)), .int (nI i), mJ] [] w) (C 3 v 0) (fun i hi => by
    have hr := h2.2.2 i hi
    have hp := h.c.2.2.1 v hv i hi
    obtain ⟨e9r, u9r, l9r⟩ := S.e9 (C 4 v i) hr
    rw [b_128_22, ijle (by omega) (by omega), if_neg (by omega)]
    refine Eq.trans (b_128_29 (by first | assumption | omega) (by first | assumption | omega) (by first | assumption | omega) (by first | assumption | omega) (by first | assumption | omega) (by first | assumption | omega) (by first | assumption | omega) (by first | assumption | omega) (by first | assumption | omega) (by first | assumption | omega) (by first | assumption | omega) (by first | assumption | omega)) ?_
    rw [h.c.2.1 _ hr 2 (by decide), jadd, jadd, Nat.add_assoc]
    rfl)
  refine Eq.trans key ?_
  try dsimp only
  rw [b_128_22, ijle (by omega) (by omega), if_pos (Nat.le_refl _), b_128_53]
  rfl
theorem c_sWord (h : SW w σ C M) (hm : MOk C B M) (ho : SOk C B M) (hB : B ≤ 1073741824) : mK d 129 [.ref σ] w = some (.inl (some (.int (nI (wordN C M)))), w) := by
  have S := h.s
  have hk := h.k
  have hk1 := hk.1
  have tg := S.tg
  rw [e_129, b_129_0 S.tg, h.y1]
  unfold wordN
  by_cases e : M 0 0 4 = NEG
  · rw [ho.1.mp e, if_neg (by decide +kernel), b_129_7, b_129_36, if_pos e, jm1]
  · obtain ⟨a1, a2, a3, a4⟩ := ho.2.1 e
    obtain ⟨b1, b2, b3, b4⟩ := hm.who e
    have hq := hk.2.2.2.2.2.1 _ b2
    have hB3 := ho.2.2.1
    have y1 : mI w σ 1 = nI (M 0 0 1) := by rw [h.y1, a1]
    have r16 := S.r16; have t16 := S.t16; have n16 := S.n16
    obtain ⟨e16q, u16q, l16q⟩ := S.e16 (M 0 0 1) b2
    have hz : mI w σ 3 - mI w σ 3 / nI (mLn w (gR w (gR w σ 16) (M 0 0 1))) * nI (mLn w (gR w (gR w σ 16) (M 0 0 1))) = nI (M 0 0 3) := by
      rw [h.y3, l16q, jmod (by omega) (by omega), a4]
    have hne : ¬ nI (mLn w (gR w (gR w σ 16) (M 0 0 1))) = nI 0 := by
      rw [l16q, jeq (by omega) (by decide)]
      omega
    rw [a1, if_pos (by rw [jle (by decide) (by omega)]; exact Nat.zero_le _), if_neg e]
    refine Eq.trans (b_129_11 (by first | assumption | omega) (by first | assumption | omega) (by first | assumption | omega) (by first | assumption | omega) (by first | assumption | omega) (by first | assumption | omega) (by first | assumption | omega) (by first | assumption | omega) (by first | assumption | omega) (by first | assumption | omega) (by first | assumption | omega) (by first | assumption | omega) (by first | assumption | omega)) ?_
    rw [b_129_36, h.c.2.2.2.2.1 _ b2 _ b3]
    rfl
theorem c_sLeft (h : SW w σ C M) : mK d 132 [.ref σ] w = some (.inl (some (.int (nI (leftM C M)))), w) := by
  have S := h.s
  have hk1 := h.k.1
  have tg := S.tg
  have r12 := S.r12; have t12 := S.t12; have n12 := S.n12
  rw [e_132]
  refine Eq.trans (b_132_0 (by first | assumption | omega) (by first | assumption | omega) (by first | assumption | omega)) ?_
  rw [n12]
  have key := loop0 (fun i => mX d 132 13 [mJ, .int (nI (su i (fun s => M 3 s 0))), .ref (gR w σ 12), .int (nI (C 0 0 3)), .int (nI i), mJ] [] w) (C 0 0 3) (fun i hi => by
    obtain ⟨e12i, u12i, l12i⟩ := S.e12 i hi
    rw [b_132_13, ijle (by omega) (by omega), if_neg (by omega)]
    refine Eq.trans (b_132_19 (by first | assumption | omega) (by first | assumption | omega) (by first | assumption | omega) (by first | assumption | omega) (by first | assumption | omega) (by first | assumption | omega)) ?_
    rw [h.al hi (by decide), jadd, jadd]
    rfl)
  refine Eq.trans key ?_
  try dsimp only
  rw [b_132_13, ijle (by omega) (by omega), if_pos (Nat.le_refl _), b_132_38]
  rfl
theorem spM_lt (hk : CfOk C) (ho : SOk C B M) {s v p : Nat} (hs : s < C 0 0 3) (hv : v < C 0 0 2) (hp : p < C 3 v 0) : spM C M s v p ≤ 34 := by
  have hr := (hk.2.2.2.1 v hv).2.2 p hp
  have ht := (hk.2.2.1 _ hr).1
  have h1 := ho.2.2.2 s _ hs ht
  have h2 := hk.2.1 _ ht
  unfold spM
  omega
/-- the least, as the law's bee goes for it -/
def lstM (C : CD) (M : MD) (s v : Nat) (n : Nat) : Nat := if n = 0 then 999 else leastM C M s v n
theorem leastM_lt (hk : CfOk C) (ho : SOk C B M) {s v : Nat} (hs : s < C 0 0 3) (hv : v < C 0 0 2) : ∀ n, n ≤ C 3 v 0 → leastM C M s v n ≤ 34
  | 0, _ => Nat.zero_le _
  | n + 1, hn => by
    rw [leastM]
    split
    · exact spM_lt hk ho hs hv (by omega)
    · exact Nat.le_trans (Nat.min_le_right _ _) (spM_lt hk ho hs hv (by omega))
theorem lstM_succ (hk : CfOk C) (ho : SOk C B M) {s v i : Nat} (hs : s < C 0 0 3) (hv : v < C 0 0 2) (hi : i < C 3 v 0) : lstM C M s v (i + 1) = if lstM C M s v i ≤ spM C M s v i then lstM C M s v i else spM C M s v i := by
  have h1 := spM_lt hk ho hs hv hi
  unfold lstM
  rw [if_neg (by omega), leastM]
  by_cases e : i = 0
  · subst e
    rw [if_pos rfl, if_pos rfl, if_neg (by omega)]
  · rw [if_neg e, if_neg e]
    split
    · rw [Nat.min_eq_left (by assumption)]
    · rw [Nat.min_eq_right (by omega)]
theorem c_sStrong (h : SW w σ C M) (hm : MOk C B M) (ho : SOk C B M) (hB : B ≤ 1073741824) {s v : Nat} (hs : s < C 0 0 3) (hv : v < C 0 0 2) : mK (d + 1) 130 [.ref σ, .int (nI s), .int (nI v)] w = some (.inl (some (.int (nI (strongM C M s v)))), w) := by
  have S := h.s
  have hk := h.k
  have hk1 := hk.1
  have h2 := hk.2.2.2.1 v hv
  have tg := S.tg
  have r8 := S.r8; have t8 := S.t8; have n8 := S.n8; have r9 := S.r9; have t9 := S.t9; have n9 := S.n9; have r10 := S.r10; have t10 := S.t10; have n10 := S.n10; have r13 := S.r13; have t13 := S.t13; have n13 := S.n13; have r14 := S.r14; have t14 := S.t14; have n14 := S.n14
  obtain ⟨e10v, u10v, l10v⟩ := S.e10 v hv
  obtain ⟨e13s, u13s, l13s⟩ := S.e13 s hs
  obtain ⟨e14s, u14s, l14s⟩ := S.e14 s hs
  rw [e_130]
  refine Eq.trans (b_130_0 (by first | assumption | omega) (by first | assumption | omega) (by first | assumption | omega) (by first | assumption | omega) (by first | assumption | omega) (by first | assumption | omega) (by first | assumption | omega)) ?_
  rw [l10v]
  have key := loop0 (fun i => mX (d + 1) 130 20 [.ref σ, .int (nI s), .int (nI v), .int (nI (lstM C M s v i)), .ref (gR w (gR w σ 10) v), .int (nI (C 3 v 0)), .int (nI i), mJ, mJ] [] w) (C 3 v 0) (fun i hi => by
    have hr := h2.2.2 i hi
    have ht := (hk.2.2.1 _ hr).1
    have hp := h.c.2.2.1 v hv i hi
    have hp2 := h.c.2.1 _ hr 0 (by decide)
    have q1 := hm.1 5 s (C 4 v i) (by decide) (by decide)
    have q2 := hm.1 4 s (C 2 (C 4 v i) 0) (by decide) (by decide)
    have q3 := spM_lt hk ho hs hv hi
    have q4 := leastM_lt hk ho hs hv i (by omega)
    have q5 : lstM C M s v i ≤ 999 := by unfold lstM; split <;> omega
    obtain ⟨e9r, u9r, l9r⟩ := S.e9 (C 4 v i) hr
    rw [b_130_20, ijle (by omega) (by omega), if_neg (by omega)]
    refine Eq.trans (b_130_27 (by first | assumption | omega) (by first | assumption | omega) (by first | assumption | omega) (by first | assumption | omega) (by first | assumption | omega) (by first | assumption | omega) (by first | assumption | omega) (by first | assumption | omega) (by first | assumption | omega) (by first | assumption | omega) (by first | assumption | omega) (by first | assumption | omega) (by first | assumption | omega) (by first | assumption | omega) (by first | assumption | omega) (by first | assumption | omega) (by first | assumption | omega) (by first | assumption | omega) (by first | assumption | omega) (by first | assumption | omega) (by first | assumption | omega) (by first | assumption | omega) (by first | assumption | omega) (by first | assumption | omega) (by first | assumption | omega) (by first | assumption | omega) (by first | assumption | omega) (by first | assumption | omega) (by first | assumption | omega) (by first | assumption | omega)) ?_
    rw [h.he hs hr, h.kn hs ht, h.c.1 _ ht, jadd, hp, ijle (by omega) (by decide)]
    have fin : mX (d + 1) 130 95 [.ref σ, .int (nI s), .int (nI v), .int (nI (lstM C M s v i)), .ref (gR w (gR w σ 10) v), .int (nI (C 3 v 0)), .int (nI i), mJ, mJ] [.int (nI (min 5 (M 5 s (C 4 v i)))), .int (nI (M 4 s (C 2 (C 4 v i) 0) + C 1 (C 2 (C 4 v i) 0) 0))] w = mX (d + 1) 130 20 [.ref σ, .int (nI s), .int (nI v), .int (nI (lstM C M s v (i + 1))), .ref (gR w (gR w σ 10) v), .int (nI (C 3 v 0)), .int (nI (i + 1)), mJ, mJ] [] w := by
      have e9 : M 4 s (C 2 (C 4 v i) 0) + C 1 (C 2 (C 4 v i) 0) 0 + min 5 (M 5 s (C 4 v i)) = spM C M s v i := rfl
      rw [b_130_95, jadd, e9, ijle (by omega) (by omega), lstM_succ hk ho hs hv hi]
      by_cases e : lstM C M s v i ≤ spM C M s v i
      · rw [if_pos e, if_pos e, b_130_107, jadd]
      · rw [if_neg e, if_neg e, b_130_104, b_130_107, jadd]
    by_cases e : M 5 s (C 4 v i) ≤ 5
    · rw [if_pos e]
      refine Eq.trans (b_130_86 (by first | assumption | omega) (by first | assumption | omega) (by first | assumption | omega) (by first | assumption | omega) (by first | assumption | omega) (by first | assumption | omega) (by first | assumption | omega) (by first | assumption | omega) (by first | assumption | omega)) ?_
      rw [h.he hs hr]
      rw [Nat.min_eq_right e] at fin
      exact fin
    · rw [if_neg e, b_130_82]
      rw [Nat.min_eq_left (by omega)] at fin
      exact fin)
  refine Eq.trans key ?_
  try dsimp only
  have e0 : lstM C M s v (C 3 v 0) = leastM C M s v (C 3 v 0) := by unfold lstM; rw [if_neg (by omega)]
  rw [b_130_20, ijle (by omega) (by omega), if_pos (Nat.le_refl _), b_130_113 S.tg, h.y1, e0]
  unfold strongM
  by_cases e : M 0 0 4 = NEG
  · rw [ho.1.mp e, if_pos jneg_lt, b_130_147, b_130_148, if_neg (by rw [e]; show ¬ (s = 4294967295 ∧ _); omega)]; rfl
  · obtain ⟨a1, a2, a3, a4⟩ := ho.2.1 e
    obtain ⟨b1, b2, b3, b4⟩ := hm.who e
    have hw2 : wordM C M < C 0 0 2 := (hk.2.2.2.2.2.1 _ b2).2.2.2.2.2 _ b3
    have hwN : wordN C M = wordM C M := if_neg e
    have h5 := hm.2.2.1
    rw [a1, if_neg (by rw [jlt (by omega) (by decide)]; omega), b_130_120 S.tg, h.y4, a3, ijne (by omega) (by omega)]
    by_cases e1 : M 0 0 4 = s
    · rw [if_neg (by simp [e1]), b_130_128 S.tg, c_sWord h hm ho hB, hwN]
      simp only [mThen_ok, Option.toList_some, Option.toList_none, List.cons_append, List.nil_append]
      rw [b_130_132, ijne (by omega) (by omega)]
      by_cases e2 : wordM C M = v
      · rw [if_neg (by simp [e2]), b_130_136 S.tg, b_130_148, h.z5, jmul, jadd, if_pos ⟨e1.symm, e2.symm⟩]
      · rw [if_pos e2, b_130_147, b_130_148, if_neg (fun q => e2 q.2.symm)]; rfl
    · rw [if_pos e1, b_130_147, b_130_148, if_neg (fun q => e1 q.1.symm)]; rfl
theorem c_sGap (h : SW w σ C M) (hm : MOk C B M) (ho : SOk C B M) (hB : B ≤ 1073741824) {s : Nat} (hs : s < C 0 0 3) : mK (d + 2) 131 [.ref σ, .int (nI s)] w = some (.inl (some (.int (gapM C M s))), w) := by
  have S := h.s
  have hk := h.k
  have hk1 := hk.1
  rw [e_131, b_131_0 S.tg, h.y1]
  unfold gapM
  by_cases e : M 0 0 4 = NEG
  · rw [ho.1.mp e, if_neg (by decide +kernel), b_131_7, b_131_29, if_pos e]
  · obtain ⟨a1, a2, a3, a4⟩ := ho.2.1 e
    obtain ⟨b1, b2, b3, b4⟩ := hm.who e
    have hw2 : wordM C M < C 0 0 2 := (hk.2.2.2.2.2.1 _ b2).2.2.2.2.2 _ b3
    have hwN : wordN C M = wordM C M := if_neg e
    rw [a1, if_pos (by rw [jle (by decide) (by omega)]; exact Nat.zero_le _), b_131_11 S.tg, c_sWord h hm ho hB, hwN]
    simp only [mThen_ok, Option.toList_some, Option.toList_none, List.cons_append, List.nil_append]
    rw [b_131_16 S.tg, c_sHard h hw2]
    simp only [mThen_ok, Option.toList_some, Option.toList_none, List.cons_append, List.nil_append]
    rw [b_131_19 S.tg, c_sWord h hm ho hB, hwN]
    simp only [mThen_ok, Option.toList_some, Option.toList_none, List.cons_append, List.nil_append]
    rw [b_131_25 S.tg, c_sStrong h hm ho hB hs hw2]
    simp only [mThen_ok, Option.toList_some, Option.toList_none, List.cons_append, List.nil_append]
    rw [b_131_28, b_131_29, if_neg e]
end
