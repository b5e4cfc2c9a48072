/-! ===== the law's bee: tests, hints, passes, orders ===== -/
theorem m900 : (-900 : Int32).toInt = -900 := by decide +kernel
theorem jsubI {a b : Nat} (ha : a < 1073741824) (hb : b < 1073741824) : (nI a - nI b).toInt = (a : Int) - (b : Int) := by
  rw [Int32.toInt_sub, jti (by omega), jti (by omega), Int.bmod_eq_of_le_mul_two (by omega) (by omega)]
/-- by how much the one is ahead, as the law reckons it -/
theorem j_more {i1 i2 p1 p2 : Nat} (h1 : i1 ≤ 1) (h2 : i2 ≤ 1) (hp1 : p1 < 1073741824) (hp2 : p2 < 1073741824) :
    (nI 1000 * (nI i1 - nI i2) + (if (if (-900 : Int32) < nI p1 - nI p2 then nI p1 - nI p2 else -900) < nI 900 then (if (-900 : Int32) < nI p1 - nI p2 then nI p1 - nI p2 else -900) else nI 900)).toInt
      = 1000 * ((i1 : Int) - i2) + (if (p1 : Int) - p2 > 900 then 900 else if (p1 : Int) - p2 < -900 then -900 else (p1 : Int) - p2) := by
  have hd := jsubI hp1 hp2
  have hi := jsubI (a := i1) (b := i2) (by omega) (by omega)
  have e9 : (nI 900).toInt = 900 := by decide +kernel
  have e1 : (nI 1000).toInt = 1000 := by decide +kernel
  have hc : (if (if (-900 : Int32) < nI p1 - nI p2 then nI p1 - nI p2 else -900) < nI 900 then (if (-900 : Int32) < nI p1 - nI p2 then nI p1 - nI p2 else -900) else nI 900).toInt = (if (p1 : Int) - p2 > 900 then 900 else if (p1 : Int) - p2 < -900 then -900 else (p1 : Int) - p2) := by
    by_cases g : (-900 : Int32) < nI p1 - nI p2
    · rw [if_pos g]
      rw [Int32.lt_iff_toInt_lt, m900, hd] at g
      by_cases g2 : nI p1 - nI p2 < nI 900
      · rw [if_pos g2, hd]
        rw [Int32.lt_iff_toInt_lt, hd, e9] at g2
        rw [if_neg (by omega), if_neg (by omega)]
      · rw [if_neg g2, e9]
        rw [Int32.lt_iff_toInt_lt, hd, e9] at g2
        split
        · rfl
        · rw [if_neg (by omega)]; omega
    · rw [if_neg g]
      rw [Int32.lt_iff_toInt_lt, m900, hd] at g
      rw [if_pos (by decide +kernel), m900, if_neg (by omega)]
      split
      · rfl
      · omega
  rw [Int32.toInt_add, Int32.toInt_mul, hi, e1, hc]
  rw [Int.bmod_eq_of_le_mul_two (x := 1000 * ((i1 : Int) - i2)) (by omega) (by omega)]
  rw [Int.bmod_eq_of_le_mul_two]
  · split
    · omega
    · split <;> omega
  · split
    · omega
    · split <;> omega
section
variable {d B σ : Nat} {w : MW} {C : CD} {M : MD}
theorem c_sRank (h : SW w σ C M) (hm : MOk C B M) (hB : B ≤ 1000000000) {s : Nat} (hs : s < C 0 0 3) : mK (d + 1) 133 [.ref σ, .int (nI s)] w = some (.inl (some (.int (nI (rankM C M s)))), w) := by
  have S := h.s
  have hk1 := h.k.1
  have tg := S.tg
  have r12 := S.r12; have t12 := S.t12; have n12 := S.n12
  obtain ⟨e12s, u12s, l12s⟩ := S.e12 s hs
  have qs := (hm.2.2.2.2.2.1 s).1
  have ps := hm.1 3 s 1 (by decide) (by decide)
  have hd : ∀ i x, i ≤ 6 → mX (d + 1) 133 4 [.ref σ, .int (nI s), .int x, .int (nI i), mJ] [] w = if C 0 0 3 ≤ i then mX (d + 1) 133 103 [mJ, mJ, .int x, mJ, mJ] [] w else mX (d + 1) 133 13 [.ref σ, .int (nI s), .int x, .int (nI i), mJ] [] w := fun i x hi => by
    refine Eq.trans (b_133_4 (by first | assumption | omega) (by first | assumption | omega) (by first | assumption | omega)) ?_
    rw [n12, ijle (by omega) (by omega)]
  have key := loop0 (fun i => mX (d + 1) 133 4 [.ref σ, .int (nI s), .int (nI (su i (fun o => if aheadM M o s = true then 1 else 0))), .int (nI i), mJ] [] w) (C 0 0 3) (fun i hi => by
    rw [hd _ _ (by omega), if_neg (by omega), b_133_13, ijne (by omega) (by omega)]
    by_cases e : i = s
    · subst e
      rw [if_neg (by simp), b_133_18, b_133_97, jadd, su]
      have : aheadM M i i = false := by unfold aheadM; simp
      rw [this]
      rfl
    · have qi := (hm.2.2.2.2.2.1 i).1
      have pi := hm.1 3 i 1 (by decide) (by decide)
      obtain ⟨e12i, u12i, l12i⟩ := S.e12 i hi
      rw [if_pos e]
      refine Eq.trans (b_133_21 (by first | assumption | omega) (by first | assumption | omega) (by first | assumption | omega) (by first | assumption | omega) (by first | assumption | omega) (by first | assumption | omega) (by first | assumption | omega) (by first | assumption | omega) (by first | assumption | omega) (by first | assumption | omega) (by first | assumption | omega) (by first | assumption | omega) (by first | assumption | omega) (by first | assumption | omega) (by first | assumption | omega)) ?_
      rw [h.al hi (j := 0) (by decide), h.al hs (j := 0) (by decide), h.al hi (j := 1) (by decide), h.al hs (j := 1) (by decide), c_max]
      simp only [mThen_ok, Option.toList_some, Option.toList_none, List.cons_append, List.nil_append]
      rw [b_133_68, c_min]
      simp only [mThen_ok, Option.toList_some, Option.toList_none, List.cons_append, List.nil_append]
      have hj := j_more qi qs (p1 := M 3 i 1) (p2 := M 3 s 1) (by omega) (by omega)
      generalize hX : nI 1000 * (nI (M 3 i 0) - nI (M 3 s 0)) + (if (if (-900 : Int32) < nI (M 3 i 1) - nI (M 3 s 1) then nI (M 3 i 1) - nI (M 3 s 1) else -900) < nI 900 then (if (-900 : Int32) < nI (M 3 i 1) - nI (M 3 s 1) then nI (M 3 i 1) - nI (M 3 s 1) else -900) else nI 900) = X at hj
      rw [b_133_71, hX]
      have z0 : (nI 0).toInt = 0 := by decide +kernel
      have c0 : (nI 0 < X) ↔ 0 < X.toInt := by rw [Int32.lt_iff_toInt_lt, z0]
      have c1 : (X = nI 0) ↔ X.toInt = 0 := by rw [← Int32.toInt_inj, z0]
      have t1 : ∀ y, mX (d + 1) 133 90 [.ref σ, .int (nI s), mJ, .int (nI i), mJ] [.int (nI y)] w = mX (d + 1) 133 4 [.ref σ, .int (nI s), .int (nI (y + 1)), .int (nI (i + 1)), mJ] [] w := fun y => by rw [b_133_90, b_133_95, jadd, b_133_97, jadd]
      have t0 : ∀ y, mX (d + 1) 133 94 [.ref σ, .int (nI s), mJ, .int (nI i), mJ] [.int (nI y)] w = mX (d + 1) 133 4 [.ref σ, .int (nI s), .int (nI y), .int (nI (i + 1)), mJ] [] w := fun y => by rw [b_133_94, b_133_95, jadd, b_133_97, jadd]; rfl
      rw [su]
      by_cases g0 : 0 < X.toInt
      · have ha : aheadM M i s = true := by
          unfold aheadM
          by_cases q : M 3 i 0 = M 3 s 0
          · rw [if_pos q]
            by_cases q2 : M 3 i 1 = M 3 s 1
            · rw [if_pos q2]
              rw [q, q2] at hj
              simp at hj
              omega
            · rw [if_neg q2]
              simp only [decide_eq_true_eq]
              rw [q] at hj
              repeat' split at hj
              all_goals omega
          · rw [if_neg q]
            simp only [decide_eq_true_eq]
            repeat' split at hj
            all_goals omega
        rw [if_pos (c0.mpr g0), t1, if_pos ha]
      · rw [if_neg (fun q => g0 (c0.mp q)), b_133_80]
        by_cases g1 : X.toInt = 0
        · have q : M 3 i 0 = M 3 s 0 := by
            repeat' split at hj
            all_goals omega
          have q2 : M 3 i 1 = M 3 s 1 := by
            rw [q] at hj
            repeat' split at hj
            all_goals omega
          rw [if_neg (by simp [c1.mpr g1]), b_133_85, ijle (by omega) (by omega)]
          unfold aheadM
          rw [if_pos q, if_pos q2]
          by_cases g2 : i < s
          · rw [if_neg (by omega), t1, decide_eq_true g2, if_pos rfl]
          · rw [if_pos (by omega), t0, decide_eq_false g2, if_neg (by decide)]; rfl
        · have ha : aheadM M i s = false := by
            unfold aheadM
            by_cases q : M 3 i 0 = M 3 s 0
            · rw [if_pos q]
              rw [q] at hj
              have q2 : ¬ M 3 i 1 = M 3 s 1 := by
                intro q2
                rw [q2] at hj
                simp at hj
                omega
              rw [if_neg q2]
              simp only [decide_eq_false_iff_not]
              repeat' split at hj
              all_goals omega
            · rw [if_neg q]
              simp only [decide_eq_false_iff_not]
              repeat' split at hj
              all_goals omega
          rw [if_pos (fun q => g1 (c1.mp q)), t0, ha, if_neg (by decide)]; rfl)
  rw [e_133, b_133_0]
  refine Eq.trans key ?_
  try dsimp only
  rw [hd _ _ (by omega), if_pos (Nat.le_refl _), b_133_103]
  rfl
end
