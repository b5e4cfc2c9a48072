/-! ===== the law's bee: is it the same as the class tells (isSame) ===== -/
theorem mean_ok {p n : Nat} (h1 : 1 ≤ n) (hn : n < 2147483648) : FP.ddiv (FP.i2d (nI p)) (FP.i2d (nI n)) &&& 0x7fffffffffffffff ≤ 0x7ff0000000000000 := by
  have hz : (nI n).toInt ≠ 0 := by rw [jti hn]; omega
  obtain ⟨b1, b2⟩ := FP.Core.i2d_big hz
  have a1 := FP.Core.i2d_mag (nI p)
  have q := FP.Core.ddiv_mag a1 b1 b2 (by omega) (by omega)
  rw [UInt64.le_iff_toNat_le, UInt64.toNat_and]
  have e : (0x7fffffffffffffff : UInt64).toNat = 2 ^ 63 - 1 := by decide
  have e2 : (0x7ff0000000000000 : UInt64).toNat = 2047 * 2 ^ 52 := by decide
  rw [e, e2, Nat.and_two_pow_sub_one_eq_mod]
  have q2 : (FP.ddiv (FP.i2d (nI p)) (FP.i2d (nI n))).toNat % 2 ^ 63 < (1056 + (1074 - 52 - 1) - 1023 + 3) * 2 ^ 52 := q
  omega
theorem mean_self {p n : Nat} (h1 : 1 ≤ n) (hn : n < 2147483648) : Op.cmpValue (FP.dcmp (FP.ddiv (FP.i2d (nI p)) (FP.i2d (nI n))) (FP.ddiv (FP.i2d (nI p)) (FP.i2d (nI n)))) .l = nI 0 := by
  have hz : (nI n).toInt ≠ 0 := by rw [jti hn]; omega
  obtain ⟨b1, b2⟩ := FP.Core.i2d_big hz
  have a1 := FP.Core.i2d_mag (nI p)
  have q := FP.Core.ddiv_mag a1 b1 b2 (by omega) (by omega)
  have fin : FP.Core.DFin (FP.Core.ddiv (FP.Core.i2d (nI p)) (FP.Core.i2d (nI n))) := by rw [FP.Core.fin_bits]; omega
  have e : FP.dcmp (FP.ddiv (FP.i2d (nI p)) (FP.i2d (nI n))) (FP.ddiv (FP.i2d (nI p)) (FP.i2d (nI n))) = some .eq := FP.Core.dcmp_self fin.ne_nan
  rw [e]
  rfl
section
variable {d B σ hi : Nat} {w w' w1 : MW} {C : CD} {M M' : MD}
/-- it ends with 1, with at most k new cells -/
def ok1 (k : Nat) (w : MW) (r : Option (MRes × MW)) : Prop := ∃ w', r = some (.inl (some (.int (nI 1))), w') ∧ gr k w w'
theorem ok1.of {k j : Nat} {r : Option (MRes × MW)} (h : ok1 k w1 r) (g : gr j w w1) : ok1 (j + k) w r := by
  obtain ⟨w', e, q⟩ := h
  exact ⟨w', e, g.trans q⟩
theorem ok1.mono {k j : Nat} {r : Option (MRes × MW)} (h : ok1 k w r) (hj : k ≤ j) : ok1 j w r := by
  obtain ⟨w', e, q⟩ := h
  exact ⟨w', e, q.mono hj⟩
/-- a row of numbers told, of which the first k are written -/
def tRow (n : Nat) (F : Nat → Nat) (w : MW) (σ hi : Nat) (C : CD) (M : MD) (k : Nat) (w' : MW) : Prop := LW w' σ hi C M ∧ mTg w' (mSz w) = 50 ∧ mLn w' (mSz w) = n ∧ mSz w' = mSz w + 1 ∧ mSl w' = mSl w + n ∧ agr w w' 0 (mSz w) ∧ ∀ j, j < k → mI w' (mSz w) j = nI (F j)
theorem tRow.z (h : LW w σ hi C M) (n : Nat) (F : Nat → Nat) : tRow n F w σ hi C M 0 (wN w 50 n n) := ⟨h.wN, if_pos rfl, if_pos rfl, rfl, rfl, agr.wN (Nat.le_refl _), fun j hj => absurd hj (by omega)⟩
theorem tRow.next {n k : Nat} {F : Nat → Nat} (hh : hi ≤ mSz w) (h : tRow n F w σ hi C M k w') {x : Int32} (hx : x = nI (F k)) : tRow n F w σ hi C M (k + 1) (wI w' (mSz w) k x) := by
  obtain ⟨h1, h3, h4, h5, h6, h7, h8⟩ := h
  refine ⟨h1.wI hh, h3, h4, h5, h6, h7.trans (agr.wI (Or.inl (Nat.le_refl _))), fun j hj => ?_⟩
  rw [mI_wI]
  by_cases e : j = k
  · subst e; rw [if_pos ⟨rfl, rfl⟩, hx]
  · rw [if_neg (by omega), h8 j (by omega)]
theorem tRow.gr {n k : Nat} {F : Nat → Nat} (hn : n ≤ 20) (h : tRow n F w σ hi C M k w') : gr 1 w w' := ⟨by rw [h.2.2.2.1]; omega, by rw [h.2.2.2.1]; omega, by rw [h.2.2.2.2.1]; omega⟩
/-- the mean -/
theorem same_e (h : LW w σ hi C M) (hS : 1 ≤ C 0 0 3) : ok1 0 w (mX (d + 6) 147 585 [.ref σ, .ref 166, .int (nI (ptsM C M)), mJ, mJ, mJ, mJ, mJ, mJ, mJ, mJ, mJ, mJ] [] w) := by
  have hk1 := h.k.1
  have tg := h.s.s.tg
  have r12 := h.s.s.r12; have t12 := h.s.s.t12; have n12 := h.s.s.n12
  refine ⟨w, ?_, gr.refl 0 w⟩
  rw [b_147_585 h.g.q, c_mean (d := d + 3) h.g hS (mean_ok hS (by omega))]
  simp only [mThen_ok, Option.toList_some, Option.toList_none, List.cons_append, List.nil_append]
  refine Eq.trans (b_147_589 tg r12 (by omega)) ?_
  rw [n12, ijne (by omega) (by decide), if_pos (by omega)]
  refine Eq.trans (b_147_601 tg r12 (by omega) (by rw [n12]; exact mean_ok hS (by omega))) ?_
  rw [n12, b_147_610, mean_self hS (by omega), if_neg (fun q => q rfl), b_147_614, b_147_619 kr1]
/-- what is told of each speller -/
theorem same_d (h : LW w σ hi C M) (hm : MOk C B M) (ho : SOk C B M) (hB : B ≤ 1000000000) : mX (d + 6) 147 383 [.ref σ, .ref 166, mJ, mJ, mJ, mJ, mJ, mJ, mJ, mJ, mJ, mJ, mJ] [] w = mX (d + 6) 147 585 [.ref σ, .ref 166, .int (nI (ptsM C M)), mJ, mJ, mJ, mJ, mJ, mJ, mJ, mJ, mJ, mJ] [] w := by
  have hk1 := h.k.1
  have S := h.s.s
  have tg := S.tg
  have r8 := S.r8; have t8 := S.t8; have n8 := S.n8; have r9 := S.r9; have t9 := S.t9; have n9 := S.n9; have r10 := S.r10; have t10 := S.t10; have n10 := S.n10; have r12 := S.r12; have t12 := S.t12; have n12 := S.n12; have r13 := S.r13; have t13 := S.t13; have n13 := S.n13; have r14 := S.r14; have t14 := S.t14; have n14 := S.n14
  have key := loop0 (fun s => mX (d + 6) 147 387 [.ref σ, .ref 166, .int (nI (su s (fun u => M 3 u 1))), .int (nI s), mJ, mJ, mJ, mJ, mJ, mJ, mJ, mJ, mJ] [] w) (C 0 0 3) (fun s hs => by
    obtain ⟨e12s, u12s, l12s⟩ := S.e12 s hs
    obtain ⟨e13s, u13s, l13s⟩ := S.e13 s hs
    obtain ⟨e14s, u14s, l14s⟩ := S.e14 s hs
    rw [b_147_387 tg r12 (by omega), n12, ijle (by omega) (by omega), if_neg (by omega), b_147_396]
    generalize hX : nI (su s (fun u => M 3 u 1)) = X
    have k1 : mX (d + 6) 147 399 [.ref σ, .ref 166, .int X, .int (nI s), .int (nI 0), mJ, mJ, mJ, mJ, mJ, mJ, mJ, mJ] [] w = mX (d + 6) 147 399 [.ref σ, .ref 166, .int X, .int (nI s), .int (nI 8), mJ, mJ, mJ, mJ, mJ, mJ, mJ, mJ] [] w := loop0 (fun j => mX (d + 6) 147 399 [.ref σ, .ref 166, .int X, .int (nI s), .int (nI j), mJ, mJ, mJ, mJ, mJ, mJ, mJ, mJ] [] w) 8 (fun j hj => by
      rw [b_147_399, ijle (by decide) (by omega), if_neg (by omega), b_147_406 h.g.q, c_speller (d := d + 1) h.g hm (by omega) hs (by omega)]
      simp only [mThen_ok, Option.toList_some, Option.toList_none, List.cons_append, List.nil_append]
      refine Eq.trans (b_147_413 (by first | assumption | omega) (by first | assumption | omega) (by first | assumption | omega) (by first | assumption | omega) (by first | assumption | omega) (by first | assumption | omega) (by first | assumption | omega) (by first | assumption | omega) (by first | assumption | omega)) ?_
      have e : spFM C M s j = M 3 s j := if_pos hj
      rw [h.s.al hs (by omega), e, if_pos rfl, b_147_427, jadd])
    have k2 : mX (d + 6) 147 453 [.ref σ, .ref 166, .int X, .int (nI s), .int (nI 0), mJ, mJ, mJ, mJ, mJ, mJ, mJ, mJ] [] w = mX (d + 6) 147 453 [.ref σ, .ref 166, .int X, .int (nI s), .int (nI (C 0 0 0)), mJ, mJ, mJ, mJ, mJ, mJ, mJ, mJ] [] w := loop0 (fun j => mX (d + 6) 147 453 [.ref σ, .ref 166, .int X, .int (nI s), .int (nI j), mJ, mJ, mJ, mJ, mJ, mJ, mJ, mJ] [] w) (C 0 0 0) (fun j hj => by
      rw [b_147_453 tg r8 (by omega), n8, ijle (by omega) (by omega), if_neg (by omega), b_147_463 h.g.q, c_knows (d := d + 3) h.g hs hj]
      simp only [mThen_ok, Option.toList_some, Option.toList_none, List.cons_append, List.nil_append]
      refine Eq.trans (b_147_470 (by first | assumption | omega) (by first | assumption | omega) (by first | assumption | omega) (by first | assumption | omega) (by first | assumption | omega) (by first | assumption | omega) (by first | assumption | omega) (by first | assumption | omega) (by first | assumption | omega)) ?_
      rw [h.s.kn hs hj, if_pos rfl, b_147_484, jadd])
    have k3 : mX (d + 6) 147 493 [.ref σ, .ref 166, .int X, .int (nI s), .int (nI 0), mJ, mJ, mJ, mJ, mJ, mJ, mJ, mJ] [] w = mX (d + 6) 147 493 [.ref σ, .ref 166, .int X, .int (nI s), .int (nI (C 0 0 1)), mJ, mJ, mJ, mJ, mJ, mJ, mJ, mJ] [] w := loop0 (fun j => mX (d + 6) 147 493 [.ref σ, .ref 166, .int X, .int (nI s), .int (nI j), mJ, mJ, mJ, mJ, mJ, mJ, mJ, mJ] [] w) (C 0 0 1) (fun j hj => by
      rw [b_147_493 tg r9 (by omega), n9, ijle (by omega) (by omega), if_neg (by omega), b_147_503 h.g.q, c_heard (d := d + 3) h.g hs hj]
      simp only [mThen_ok, Option.toList_some, Option.toList_none, List.cons_append, List.nil_append]
      refine Eq.trans (b_147_510 (by first | assumption | omega) (by first | assumption | omega) (by first | assumption | omega) (by first | assumption | omega) (by first | assumption | omega) (by first | assumption | omega) (by first | assumption | omega) (by first | assumption | omega) (by first | assumption | omega)) ?_
      rw [h.s.he hs hj, if_pos rfl, b_147_524, jadd])
    have k4 : mX (d + 6) 147 533 [.ref σ, .ref 166, .int X, .int (nI s), .int (nI 0), mJ, mJ, mJ, mJ, mJ, mJ, mJ, mJ] [] w = mX (d + 6) 147 533 [.ref σ, .ref 166, .int X, .int (nI s), .int (nI (C 0 0 2)), mJ, mJ, mJ, mJ, mJ, mJ, mJ, mJ] [] w := loop0 (fun j => mX (d + 6) 147 533 [.ref σ, .ref 166, .int X, .int (nI s), .int (nI j), mJ, mJ, mJ, mJ, mJ, mJ, mJ, mJ] [] w) (C 0 0 2) (fun j hj => by
      rw [b_147_533 tg r10 (by omega), n10, ijle (by omega) (by omega), if_neg (by omega), b_147_543 h.g.q, c_strongQ (d := d + 2) h.g hm (by omega) hs hj]
      simp only [mThen_ok, Option.toList_some, Option.toList_none, List.cons_append, List.nil_append]
      rw [b_147_550 tg, c_sStrong (d := d + 4) h.s hm ho (by omega) hs hj]
      simp only [mThen_ok, Option.toList_some, Option.toList_none, List.cons_append, List.nil_append]
      rw [b_147_557, if_pos rfl, b_147_562, jadd])
    rw [k1, b_147_399, if_pos (Int32.le_refl _), b_147_433 h.g.q, c_speller (d := d + 1) h.g hm (by omega) hs (by omega)]
    simp only [mThen_ok, Option.toList_some, Option.toList_none, List.cons_append, List.nil_append]
    have e8 : spFM C M s 8 = rankM C M s := rfl
    rw [b_147_440 tg, c_sRank (d := d + 4) h.s hm (by omega) hs]
    simp only [mThen_ok, Option.toList_some, Option.toList_none, List.cons_append, List.nil_append]
    rw [b_147_445, e8, if_pos rfl, b_147_450, k2, b_147_453 tg r8 (by omega), n8, if_pos (Int32.le_refl _), b_147_490, k3, b_147_493 tg r9 (by omega), n9, if_pos (Int32.le_refl _), b_147_530, k4, b_147_533 tg r10 (by omega), n10, if_pos (Int32.le_refl _)]
    refine Eq.trans (b_147_568 (by first | assumption | omega) (by first | assumption | omega) (by first | assumption | omega) (by first | assumption | omega) (by first | assumption | omega) (by first | assumption | omega) (by first | assumption | omega) (by first | assumption | omega)) ?_
    rw [h.s.al hs (by decide), ← hX, jadd, jadd]
    rfl)
  rw [b_147_383]
  refine Eq.trans key ?_
  try dsimp only
  rw [b_147_387 tg r12 (by omega), n12, if_pos (Int32.le_refl _)]
  rfl
end
