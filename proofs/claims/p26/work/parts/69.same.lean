/-! ===== the law's bee: isSame, words and roots and counts ===== -/
section
variable {d B σ hi : Nat} {w w' w1 : MW} {C : CD} {M M' : MD}
/-- a word: its row of five numbers -/
theorem same_wrow (h : LW w σ hi C M) {v : Nat} (hv : v < C 0 0 2) : ∃ w', mX (d + 6) 147 252 [.ref σ, .ref 166, .int (nI v), mJ, mJ, mJ, mJ, mJ, mJ, mJ, mJ, mJ, mJ] [] w = mX (d + 6) 147 307 [.ref σ, .ref 166, .int (nI v), .ref (mSz w), .int (nI 0), mJ, mJ, mJ, mJ, mJ, mJ, mJ, mJ] [] w' ∧ tRow 5 (wordFM C M v) w σ hi C M 5 w' := by
  have hk := h.k
  have hk1 := hk.1
  have h2 := hk.2.2.2.1 v hv
  have hh := h.top
  have eE : mE ≤ mSz w := by have : mE = 166 := rfl; have := h.lo; omega
  have R0 := tRow.z h 5 (wordFM C M v)
  generalize hv0 : wN w 50 5 5 = v0 at R0
  have Q0 : mX (d + 6) 147 255 [.ref σ, .ref 166, .int (nI v), mJ, mJ, mJ, mJ, mJ, mJ, mJ, mJ, mJ, mJ] [.ref (mSz w)] v0 = mX (d + 6) 147 265 [.ref σ, .ref 166, .int (nI v), mJ, mJ, mJ, mJ, mJ, mJ, mJ, mJ, mJ, mJ] [.ref (mSz w)] (wI v0 (mSz w) 0 (nI (wordFM C M v 0))) := by
    obtain ⟨L, t50, n18, sz, sl, ag, rd⟩ := R0
    have S := L.s.s
    have tg := S.tg
    have r10 := S.r10; have t10 := S.t10; have n10 := S.n10
    obtain ⟨e10v, u10v, l10v⟩ := S.e10 v hv
    refine Eq.trans (b_147_255 (by first | assumption | omega) (by first | assumption | omega) (by first | assumption | omega) (by first | assumption | omega) (by first | assumption | omega) (by first | assumption | omega) (by first | assumption | omega) (by first | assumption | omega) (by first | assumption | omega) (by first | assumption | omega)) ?_
    rw [l10v]
    rfl
  have R1 := R0.next hh (x := nI (wordFM C M v 0)) rfl
  generalize hv1 : wI v0 (mSz w) 0 (nI (wordFM C M v 0)) = v1 at R1 Q0
  have Q1 : mX (d + 6) 147 265 [.ref σ, .ref 166, .int (nI v), mJ, mJ, mJ, mJ, mJ, mJ, mJ, mJ, mJ, mJ] [.ref (mSz w)] v1 = mX (d + 6) 147 273 [.ref σ, .ref 166, .int (nI v), mJ, mJ, mJ, mJ, mJ, mJ, mJ, mJ, mJ, mJ] [.ref (mSz w)] (wI v1 (mSz w) 1 (nI (wordFM C M v 1))) := by
    obtain ⟨L, t50, n18, sz, sl, ag, rd⟩ := R1
    rw [b_147_265 L.s.s.tg, c_sLetters L.s hv]
    simp only [mThen_ok, Option.toList_some, Option.toList_none, List.cons_append, List.nil_append]
    exact b_147_272 t50 eE (by decide) (by omega)
  have R2 := R1.next hh (x := nI (wordFM C M v 1)) rfl
  generalize hv2 : wI v1 (mSz w) 1 (nI (wordFM C M v 1)) = v2 at R2 Q1
  have Q2 : mX (d + 6) 147 273 [.ref σ, .ref 166, .int (nI v), mJ, mJ, mJ, mJ, mJ, mJ, mJ, mJ, mJ, mJ] [.ref (mSz w)] v2 = mX (d + 6) 147 281 [.ref σ, .ref 166, .int (nI v), mJ, mJ, mJ, mJ, mJ, mJ, mJ, mJ, mJ, mJ] [.ref (mSz w)] (wI v2 (mSz w) 2 (nI (wordFM C M v 2))) := by
    obtain ⟨L, t50, n18, sz, sl, ag, rd⟩ := R2
    rw [b_147_273 L.s.s.tg, c_sHard (d := d + 4) L.s hv]
    simp only [mThen_ok, Option.toList_some, Option.toList_none, List.cons_append, List.nil_append]
    exact b_147_280 t50 eE (by decide) (by omega)
  have R3 := R2.next hh (x := nI (wordFM C M v 2)) rfl
  generalize hv3 : wI v2 (mSz w) 2 (nI (wordFM C M v 2)) = v3 at R3 Q2
  have Q3 : mX (d + 6) 147 281 [.ref σ, .ref 166, .int (nI v), mJ, mJ, mJ, mJ, mJ, mJ, mJ, mJ, mJ, mJ] [.ref (mSz w)] v3 = mX (d + 6) 147 292 [.ref σ, .ref 166, .int (nI v), mJ, mJ, mJ, mJ, mJ, mJ, mJ, mJ, mJ, mJ] [.ref (mSz w)] (wI v3 (mSz w) 3 (nI (wordFM C M v 3))) := by
    obtain ⟨L, t50, n18, sz, sl, ag, rd⟩ := R3
    have S := L.s.s
    have tg := S.tg
    have r11 := S.r11; have t11 := S.t11; have n11 := S.n11
    obtain ⟨e11v, u11v, l11v⟩ := S.e11 v hv
    refine Eq.trans (b_147_281 (by first | assumption | omega) (by first | assumption | omega) (by first | assumption | omega) (by first | assumption | omega) (by first | assumption | omega) (by first | assumption | omega) (by first | assumption | omega) (by first | assumption | omega) (by first | assumption | omega) (by first | assumption | omega) (by first | assumption | omega)) ?_
    rw [L.s.st hv (by decide)]
    rfl
  have R4 := R3.next hh (x := nI (wordFM C M v 3)) rfl
  generalize hv4 : wI v3 (mSz w) 3 (nI (wordFM C M v 3)) = v4 at R4 Q3
  have Q4 : mX (d + 6) 147 292 [.ref σ, .ref 166, .int (nI v), mJ, mJ, mJ, mJ, mJ, mJ, mJ, mJ, mJ, mJ] [.ref (mSz w)] v4 = mX (d + 6) 147 303 [.ref σ, .ref 166, .int (nI v), mJ, mJ, mJ, mJ, mJ, mJ, mJ, mJ, mJ, mJ] [.ref (mSz w)] (wI v4 (mSz w) 4 (nI (wordFM C M v 4))) := by
    obtain ⟨L, t50, n18, sz, sl, ag, rd⟩ := R4
    have S := L.s.s
    have tg := S.tg
    have r11 := S.r11; have t11 := S.t11; have n11 := S.n11
    obtain ⟨e11v, u11v, l11v⟩ := S.e11 v hv
    refine Eq.trans (b_147_292 (by first | assumption | omega) (by first | assumption | omega) (by first | assumption | omega) (by first | assumption | omega) (by first | assumption | omega) (by first | assumption | omega) (by first | assumption | omega) (by first | assumption | omega) (by first | assumption | omega) (by first | assumption | omega) (by first | assumption | omega)) ?_
    rw [L.s.st hv (by decide)]
    rfl
  have R5 := R4.next hh (x := nI (wordFM C M v 4)) rfl
  generalize hv5 : wI v4 (mSz w) 4 (nI (wordFM C M v 4)) = v5 at R5 Q4
  exact ⟨v5, by rw [b_147_252, hv0, Q0, Q1, Q2, Q3, Q4, b_147_303], R5⟩
/-- a word, from its row on -/
theorem same_wcmp {v c : Nat} (h : LW w σ hi C M) (hv : v < C 0 0 2) (t50 : mTg w c = 50) (n5 : mLn w c = 5) (rd : ∀ j, j < 5 → mI w c j = nI (wordFM C M v j)) : mX (d + 6) 147 307 [.ref σ, .ref 166, .int (nI v), .ref c, .int (nI 0), mJ, mJ, mJ, mJ, mJ, mJ, mJ, mJ] [] w = mX (d + 6) 147 243 [.ref σ, .ref 166, .int (nI (v + 1)), mJ, mJ, mJ, mJ, mJ, mJ, mJ, mJ, mJ, mJ] [] w := by
  have hk := h.k
  have hk1 := hk.1
  have h2 := hk.2.2.2.1 v hv
  have S := h.s.s
  have tg := S.tg
  have r10 := S.r10; have t10 := S.t10; have n10 := S.n10
  obtain ⟨e10v, u10v, l10v⟩ := S.e10 v hv
  have k1 : mX (d + 6) 147 307 [.ref σ, .ref 166, .int (nI v), .ref c, .int (nI 0), mJ, mJ, mJ, mJ, mJ, mJ, mJ, mJ] [] w = mX (d + 6) 147 307 [.ref σ, .ref 166, .int (nI v), .ref c, .int (nI 5), mJ, mJ, mJ, mJ, mJ, mJ, mJ, mJ] [] w := loop0 (fun j => mX (d + 6) 147 307 [.ref σ, .ref 166, .int (nI v), .ref c, .int (nI j), mJ, mJ, mJ, mJ, mJ, mJ, mJ, mJ] [] w) 5 (fun j hj => by
    rw [b_147_307, ijle (by decide) (by omega), if_neg (by omega), b_147_313 h.g.q, c_wordQ (d := d + 1) h.g hv hj]
    simp only [mThen_ok, Option.toList_some, Option.toList_none, List.cons_append, List.nil_append]
    refine Eq.trans (b_147_320 (by first | assumption | omega) (by first | assumption | omega) (by first | assumption | omega)) ?_
    rw [rd j hj, if_pos rfl, b_147_329, jadd])
  have k2 : mX (d + 6) 147 338 [.ref σ, .ref 166, .int (nI v), mJ, .int (nI 0), mJ, mJ, mJ, mJ, mJ, mJ, mJ, mJ] [] w = mX (d + 6) 147 338 [.ref σ, .ref 166, .int (nI v), mJ, .int (nI (C 3 v 0)), mJ, mJ, mJ, mJ, mJ, mJ, mJ, mJ] [] w := loop0 (fun j => mX (d + 6) 147 338 [.ref σ, .ref 166, .int (nI v), mJ, .int (nI j), mJ, mJ, mJ, mJ, mJ, mJ, mJ, mJ] [] w) (C 3 v 0) (fun j hj => by
    refine Eq.trans (b_147_338 tg r10 (by omega) (by omega) (by omega) e10v (by omega)) ?_
    rw [l10v, ijle (by omega) (by omega), if_neg (by omega), b_147_350 h.g.q, c_partQ (d := d + 2) h.g hv hj]
    simp only [mThen_ok, Option.toList_some, Option.toList_none, List.cons_append, List.nil_append]
    refine Eq.trans (b_147_357 (by first | assumption | omega) (by first | assumption | omega) (by first | assumption | omega) (by first | assumption | omega) (by first | assumption | omega) (by first | assumption | omega) (by first | assumption | omega) (by first | assumption | omega) (by first | assumption | omega)) ?_
    rw [h.s.c.2.2.1 v hv j hj, if_pos rfl, b_147_371, jadd])
  rw [k1, b_147_307, if_pos (Int32.le_refl _), b_147_335, k2]
  refine Eq.trans (b_147_338 tg r10 (by omega) (by omega) (by omega) e10v (by omega)) ?_
  rw [l10v, if_pos (Int32.le_refl _), b_147_377, jadd]
theorem same_c (hm : MOk C B M) (ho : SOk C B M) (hB : B ≤ 1000000000) (hS : 1 ≤ C 0 0 3) : ∀ (m v : Nat) (w : MW), v + m = C 0 0 2 → LW w σ hi C M → ok1 m w (mX (d + 6) 147 243 [.ref σ, .ref 166, .int (nI v), mJ, mJ, mJ, mJ, mJ, mJ, mJ, mJ, mJ, mJ] [] w)
  | 0, v, w, hi, h => by
    have hk1 := h.k.1
    have S := h.s.s
    have tg := S.tg
    have r10 := S.r10; have t10 := S.t10; have n10 := S.n10
    have hi : v = C 0 0 2 := hi
    subst hi
    rw [b_147_243 tg r10 (by omega), n10, if_pos (Int32.le_refl _), same_d h hm ho hB]
    exact same_e h hS
  | m + 1, v, w, hi, h => by
    have hk1 := h.k.1
    have S := h.s.s
    have tg := S.tg
    have r10 := S.r10; have t10 := S.t10; have n10 := S.n10
    have hv : v < C 0 0 2 := by omega
    obtain ⟨w1, e, R⟩ := same_wrow (d := d) h hv
    rw [b_147_243 tg r10 (by omega), n10, ijle (by omega) (by omega), if_neg (by omega), e, same_wcmp R.1 hv R.2.1 R.2.2.1 R.2.2.2.2.2.2]
    exact ((same_c hm ho hB hS m (v + 1) w1 (by omega) R.1).of (R.gr (by omega))).mono (by omega)
/-- a root: in how many words it comes -/
theorem same_many (h : LW w σ hi C M) {r : Nat} (hr : r < C 0 0 1) : mX (d + 6) 147 45 [.ref σ, .ref 166, .int (nI r), mJ, mJ, mJ, mJ, mJ, mJ, mJ, mJ, mJ, mJ] [] w = mX (d + 6) 147 145 [.ref σ, .ref 166, .int (nI r), .int (nI (rootM C r 4)), mJ, mJ, mJ, mJ, mJ, mJ, mJ, mJ, mJ] [] w := by
  have hk := h.k
  have hk1 := hk.1
  have S := h.s.s
  have tg := S.tg
  have r10 := S.r10; have t10 := S.t10; have n10 := S.n10
  rw [b_147_45 tg r10 (by omega), n10]
  have key := loop0 (fun v => mX (d + 6) 147 61 [.ref σ, .ref 166, .int (nI r), .int (nI (su v (fun v => if comesM C r v (C 3 v 0) = true then 1 else 0))), .ref (gR w σ 10), .int (nI (C 0 0 2)), .int (nI v), mJ, mJ, mJ, mJ, mJ, mJ] [] w) (C 0 0 2) (fun v hv => by
    have h2 := hk.2.2.2.1 v hv
    obtain ⟨e10v, u10v, l10v⟩ := S.e10 v hv
    rw [b_147_61, ijle (by omega) (by omega), if_neg (by omega)]
    generalize hX : nI (su v (fun v => if comesM C r v (C 3 v 0) = true then 1 else 0)) = X
    refine Eq.trans (b_147_68 (by omega) (by omega) (by omega) e10v (by omega)) ?_
    rw [l10v]
    have k1 : mX (d + 6) 147 90 [.ref σ, .ref 166, .int (nI r), .int X, .ref (gR w σ 10), .int (nI (C 0 0 2)), .int (nI v), mJ, .int (bI (comesM C r v 0)), .ref (gR w (gR w σ 10) v), .int (nI (C 3 v 0)), .int (nI 0), mJ] [] w = mX (d + 6) 147 90 [.ref σ, .ref 166, .int (nI r), .int X, .ref (gR w σ 10), .int (nI (C 0 0 2)), .int (nI v), mJ, .int (bI (comesM C r v (C 3 v 0))), .ref (gR w (gR w σ 10) v), .int (nI (C 3 v 0)), .int (nI (C 3 v 0)), mJ] [] w := loop0 (fun p => mX (d + 6) 147 90 [.ref σ, .ref 166, .int (nI r), .int X, .ref (gR w σ 10), .int (nI (C 0 0 2)), .int (nI v), mJ, .int (bI (comesM C r v p)), .ref (gR w (gR w σ 10) v), .int (nI (C 3 v 0)), .int (nI p), mJ] [] w) (C 3 v 0) (fun p hp => by
      have hq := h2.2.2 p hp
      rw [b_147_90, ijle (by omega) (by omega), if_neg (by omega)]
      refine Eq.trans (b_147_97 (by first | assumption | omega) (by first | assumption | omega) (by first | assumption | omega)) ?_
      rw [h.s.c.2.2.1 v hv p hp, ijne (by omega) (by omega)]
      by_cases g : C 4 v p = r
      · rw [if_neg (fun q => q g), b_147_112, b_147_117, jadd]
        have : comesM C r v (p + 1) = (comesM C r v p || true) := by rw [comesM, decide_eq_true g]
        rw [this, ← bI_or]
        rfl
      · rw [if_pos g, b_147_116, b_147_117, jadd]
        have : comesM C r v (p + 1) = (comesM C r v p || false) := by rw [comesM, decide_eq_false g]
        rw [this, ← bI_or]
        rfl)
    refine Eq.trans k1 ?_
    rw [b_147_90, if_pos (Int32.le_refl _), b_147_126]
    by_cases g : comesM C r v (C 3 v 0) = true
    · rw [g, if_neg nbt, b_147_132, b_147_137, ← hX, jadd, jadd]
      show _ = mX (d + 6) 147 61 [.ref σ, .ref 166, .int (nI r), .int (nI (su v (fun v => if comesM C r v (C 3 v 0) = true then 1 else 0) + (if comesM C r v (C 3 v 0) = true then 1 else 0))), .ref (gR w σ 10), .int (nI (C 0 0 2)), .int (nI (v + 1)), mJ, mJ, mJ, mJ, mJ, mJ] [] w
      rw [if_pos g]
    · have g2 : comesM C r v (C 3 v 0) = false := by cases q : comesM C r v (C 3 v 0) <;> simp_all
      rw [g2, if_pos nbf, b_147_136, b_147_137, ← hX, jadd, jadd]
      show _ = mX (d + 6) 147 61 [.ref σ, .ref 166, .int (nI r), .int (nI (su v (fun v => if comesM C r v (C 3 v 0) = true then 1 else 0) + (if comesM C r v (C 3 v 0) = true then 1 else 0))), .ref (gR w σ 10), .int (nI (C 0 0 2)), .int (nI (v + 1)), mJ, mJ, mJ, mJ, mJ, mJ] [] w
      rw [if_neg g])
  refine Eq.trans key ?_
  try dsimp only
  rw [b_147_61, if_pos (Int32.le_refl _)]
  rfl
theorem same_rrow (h : LW w σ hi C M) {r : Nat} (hr : r < C 0 0 1) : ∃ w', mX (d + 6) 147 145 [.ref σ, .ref 166, .int (nI r), .int (nI (rootM C r 4)), mJ, mJ, mJ, mJ, mJ, mJ, mJ, mJ, mJ] [] w = mX (d + 6) 147 206 [.ref σ, .ref 166, .int (nI r), mJ, .ref (mSz w), .int (nI 0), mJ, mJ, mJ, mJ, mJ, mJ, mJ] [] w' ∧ tRow 5 (rootM C r) w σ hi C M 5 w' := by
  have hk := h.k
  have hk1 := hk.1
  have h2 := hk.2.2.1 r hr
  have hh := h.top
  have eE : mE ≤ mSz w := by have : mE = 166 := rfl; have := h.lo; omega
  have R0 := tRow.z h 5 (rootM C r)
  generalize hv0 : wN w 50 5 5 = v0 at R0
  have Q0 : mX (d + 6) 147 148 [.ref σ, .ref 166, .int (nI r), .int (nI (rootM C r 4)), mJ, mJ, mJ, mJ, mJ, mJ, mJ, mJ, mJ] [.ref (mSz w)] v0 = mX (d + 6) 147 159 [.ref σ, .ref 166, .int (nI r), .int (nI (rootM C r 4)), mJ, mJ, mJ, mJ, mJ, mJ, mJ, mJ, mJ] [.ref (mSz w)] (wI v0 (mSz w) 0 (nI (rootM C r 0))) := by
    obtain ⟨L, t50, n18, sz, sl, ag, rd⟩ := R0
    have S := L.s.s
    have tg := S.tg
    have r9 := S.r9; have t9 := S.t9; have n9 := S.n9
    obtain ⟨e9r, u9r, l9r⟩ := S.e9 r hr
    refine Eq.trans (b_147_148 (by first | assumption | omega) (by first | assumption | omega) (by first | assumption | omega) (by first | assumption | omega) (by first | assumption | omega) (by first | assumption | omega) (by first | assumption | omega) (by first | assumption | omega) (by first | assumption | omega) (by first | assumption | omega) (by first | assumption | omega)) ?_
    rw [L.s.c.2.1 r hr 0 (by decide)]
    rfl
  have R1 := R0.next hh (x := nI (rootM C r 0)) rfl
  generalize hv1 : wI v0 (mSz w) 0 (nI (rootM C r 0)) = v1 at R1 Q0
  have Q1 : mX (d + 6) 147 159 [.ref σ, .ref 166, .int (nI r), .int (nI (rootM C r 4)), mJ, mJ, mJ, mJ, mJ, mJ, mJ, mJ, mJ] [.ref (mSz w)] v1 = mX (d + 6) 147 170 [.ref σ, .ref 166, .int (nI r), .int (nI (rootM C r 4)), mJ, mJ, mJ, mJ, mJ, mJ, mJ, mJ, mJ] [.ref (mSz w)] (wI v1 (mSz w) 1 (nI (rootM C r 1))) := by
    obtain ⟨L, t50, n18, sz, sl, ag, rd⟩ := R1
    have S := L.s.s
    have tg := S.tg
    have r9 := S.r9; have t9 := S.t9; have n9 := S.n9
    obtain ⟨e9r, u9r, l9r⟩ := S.e9 r hr
    refine Eq.trans (b_147_159 (by first | assumption | omega) (by first | assumption | omega) (by first | assumption | omega) (by first | assumption | omega) (by first | assumption | omega) (by first | assumption | omega) (by first | assumption | omega) (by first | assumption | omega) (by first | assumption | omega) (by first | assumption | omega) (by first | assumption | omega)) ?_
    rw [L.s.c.2.1 r hr 1 (by decide)]
    rfl
  have R2 := R1.next hh (x := nI (rootM C r 1)) rfl
  generalize hv2 : wI v1 (mSz w) 1 (nI (rootM C r 1)) = v2 at R2 Q1
  have Q2 : mX (d + 6) 147 170 [.ref σ, .ref 166, .int (nI r), .int (nI (rootM C r 4)), mJ, mJ, mJ, mJ, mJ, mJ, mJ, mJ, mJ] [.ref (mSz w)] v2 = mX (d + 6) 147 181 [.ref σ, .ref 166, .int (nI r), .int (nI (rootM C r 4)), mJ, mJ, mJ, mJ, mJ, mJ, mJ, mJ, mJ] [.ref (mSz w)] (wI v2 (mSz w) 2 (nI (rootM C r 2))) := by
    obtain ⟨L, t50, n18, sz, sl, ag, rd⟩ := R2
    have S := L.s.s
    have tg := S.tg
    have r9 := S.r9; have t9 := S.t9; have n9 := S.n9
    obtain ⟨e9r, u9r, l9r⟩ := S.e9 r hr
    refine Eq.trans (b_147_170 (by first | assumption | omega) (by first | assumption | omega) (by first | assumption | omega) (by first | assumption | omega) (by first | assumption | omega) (by first | assumption | omega) (by first | assumption | omega) (by first | assumption | omega) (by first | assumption | omega) (by first | assumption | omega) (by first | assumption | omega)) ?_
    rw [L.s.c.2.1 r hr 2 (by decide)]
    rfl
  have R3 := R2.next hh (x := nI (rootM C r 2)) rfl
  generalize hv3 : wI v2 (mSz w) 2 (nI (rootM C r 2)) = v3 at R3 Q2
  have Q3 : mX (d + 6) 147 181 [.ref σ, .ref 166, .int (nI r), .int (nI (rootM C r 4)), mJ, mJ, mJ, mJ, mJ, mJ, mJ, mJ, mJ] [.ref (mSz w)] v3 = mX (d + 6) 147 197 [.ref σ, .ref 166, .int (nI r), .int (nI (rootM C r 4)), mJ, mJ, mJ, mJ, mJ, mJ, mJ, mJ, mJ] [.ref (mSz w)] (wI v3 (mSz w) 3 (nI (rootM C r 3))) := by
    obtain ⟨L, t50, n18, sz, sl, ag, rd⟩ := R3
    have S := L.s.s
    have tg := S.tg
    have r8 := S.r8; have t8 := S.t8; have n8 := S.n8; have r9 := S.r9; have t9 := S.t9; have n9 := S.n9
    obtain ⟨e9r, u9r, l9r⟩ := S.e9 r hr
    have z0 := L.s.c.2.1 r hr 0 (by decide)
    have k0 := h2.1
    refine Eq.trans (b_147_181 (by first | assumption | omega) (by first | assumption | omega) (by first | assumption | omega) (by first | assumption | omega) (by first | assumption | omega) (by first | assumption | omega) (by first | assumption | omega) (by first | assumption | omega) (by first | assumption | omega) (by first | assumption | omega) (by first | assumption | omega) (by first | assumption | omega) (by first | assumption | omega) (by first | assumption | omega) (by first | assumption | omega) (by first | assumption | omega)) ?_
    rw [L.s.c.1 _ h2.1]
    rfl
  have R4 := R3.next hh (x := nI (rootM C r 3)) rfl
  generalize hv4 : wI v3 (mSz w) 3 (nI (rootM C r 3)) = v4 at R4 Q3
  have Q4 : mX (d + 6) 147 197 [.ref σ, .ref 166, .int (nI r), .int (nI (rootM C r 4)), mJ, mJ, mJ, mJ, mJ, mJ, mJ, mJ, mJ] [.ref (mSz w)] v4 = mX (d + 6) 147 201 [.ref σ, .ref 166, .int (nI r), mJ, mJ, mJ, mJ, mJ, mJ, mJ, mJ, mJ, mJ] [.ref (mSz w)] (wI v4 (mSz w) 4 (nI (rootM C r 4))) := by
    obtain ⟨L, t50, n18, sz, sl, ag, rd⟩ := R4
    exact b_147_197 t50 eE (by omega)
  have R5 := R4.next hh (x := nI (rootM C r 4)) rfl
  generalize hv5 : wI v4 (mSz w) 4 (nI (rootM C r 4)) = v5 at R5 Q4
  exact ⟨v5, by rw [b_147_145, hv0, Q0, Q1, Q2, Q3, Q4, b_147_201], R5⟩
theorem same_rcmp {r c : Nat} (h : LW w σ hi C M) (hr : r < C 0 0 1) (t50 : mTg w c = 50) (n5 : mLn w c = 5) (rd : ∀ j, j < 5 → mI w c j = nI (rootM C r j)) : mX (d + 6) 147 206 [.ref σ, .ref 166, .int (nI r), mJ, .ref c, .int (nI 0), mJ, mJ, mJ, mJ, mJ, mJ, mJ] [] w = mX (d + 6) 147 36 [.ref σ, .ref 166, .int (nI (r + 1)), mJ, mJ, mJ, mJ, mJ, mJ, mJ, mJ, mJ, mJ] [] w := by
  have k1 : mX (d + 6) 147 206 [.ref σ, .ref 166, .int (nI r), mJ, .ref c, .int (nI 0), mJ, mJ, mJ, mJ, mJ, mJ, mJ] [] w = mX (d + 6) 147 206 [.ref σ, .ref 166, .int (nI r), mJ, .ref c, .int (nI 5), mJ, mJ, mJ, mJ, mJ, mJ, mJ] [] w := loop0 (fun j => mX (d + 6) 147 206 [.ref σ, .ref 166, .int (nI r), mJ, .ref c, .int (nI j), mJ, mJ, mJ, mJ, mJ, mJ, mJ] [] w) 5 (fun j hj => by
    rw [b_147_206, ijle (by decide) (by omega), if_neg (by omega), b_147_212 h.g.q, c_root (d := d) h.g hr hj]
    simp only [mThen_ok, Option.toList_some, Option.toList_none, List.cons_append, List.nil_append]
    refine Eq.trans (b_147_219 (by first | assumption | omega) (by first | assumption | omega) (by first | assumption | omega)) ?_
    rw [rd j hj, if_pos rfl, b_147_229, jadd])
  rw [k1, b_147_206, if_pos (Int32.le_refl _), b_147_235, jadd]
theorem same_b (hm : MOk C B M) (ho : SOk C B M) (hB : B ≤ 1000000000) (hS : 1 ≤ C 0 0 3) : ∀ (m r : Nat) (w : MW), r + m = C 0 0 1 → LW w σ hi C M → ok1 (m + C 0 0 2) w (mX (d + 6) 147 36 [.ref σ, .ref 166, .int (nI r), mJ, mJ, mJ, mJ, mJ, mJ, mJ, mJ, mJ, mJ] [] w)
  | 0, r, w, hi, h => by
    have hk1 := h.k.1
    have S := h.s.s
    have tg := S.tg
    have r9 := S.r9; have t9 := S.t9; have n9 := S.n9
    have hi : r = C 0 0 1 := hi
    subst hi
    rw [b_147_36 tg r9 (by omega), n9, if_pos (Int32.le_refl _), b_147_241]
    exact (same_c hm ho hB hS (C 0 0 2) 0 w (by omega) h).mono (by omega)
  | m + 1, r, w, hi, h => by
    have hk1 := h.k.1
    have S := h.s.s
    have tg := S.tg
    have r9 := S.r9; have t9 := S.t9; have n9 := S.n9
    have hr : r < C 0 0 1 := by omega
    obtain ⟨w1, e, R⟩ := same_rrow (d := d) h hr
    rw [b_147_36 tg r9 (by omega), n9, ijle (by omega) (by omega), if_neg (by omega), same_many h hr, e, same_rcmp R.1 hr R.2.1 R.2.2.1 R.2.2.2.2.2.2]
    exact ((same_b hm ho hB hS m (r + 1) w1 (by omega) R.1).of (R.gr (by omega))).mono (by omega)
theorem same_a (hm : MOk C B M) (ho : SOk C B M) (hB : B ≤ 1000000000) (hS : 1 ≤ C 0 0 3) : ∀ (m x : Nat) (w : MW), x + m = 18 → LW w σ hi C M → ok1 (m + C 0 0 1 + C 0 0 2) w (mX (d + 6) 147 2 [.ref σ, .ref 166, .int (nI x), mJ, mJ, mJ, mJ, mJ, mJ, mJ, mJ, mJ, mJ] [] w)
  | 0, x, w, hi, h => by
    have hi : x = 18 := hi
    subst hi
    rw [b_147_2, if_pos (Int32.le_refl _), b_147_34]
    exact (same_b hm ho hB hS (C 0 0 1) 0 w (by omega) h).mono (by omega)
  | m + 1, x, w, hi, h => by
    have S := h.s.s
    have tg := S.tg
    have r8 := S.r8; have t8 := S.t8; have n8 := S.n8
    have hx : x < 18 := by omega
    obtain ⟨w1, e, ag, sz, sl⟩ := c_sCounted (d := d + 4) h.s h.b h.top h.lo hm ho hB hx
    have L1 : LW w1 σ _ C M := h.ag (ag.mono (Nat.zero_le _) h.top) (by omega) ⟨(ag 1 (Nat.zero_le _) (by have := h.lo; have := h.top; omega)).1, (ag 1 (Nat.zero_le _) (by have := h.lo; have := h.top; omega)).2.1⟩
    have G1 : gr 1 w w1 := ⟨by omega, by omega, by omega⟩
    rw [b_147_2, ijle (by decide) (by omega), if_neg (by omega), b_147_8 h.g.q, c_count (d := d) h.g hm (by omega) hx]
    simp only [mThen_ok, Option.toList_some, Option.toList_none, List.cons_append, List.nil_append]
    rw [b_147_13 tg r8 (by omega), n8, e]
    simp only [mThen_ok, Option.toList_some, Option.toList_none, List.cons_append, List.nil_append]
    rw [b_147_23, if_pos rfl, b_147_28, jadd]
    exact ((same_a hm ho hB hS m (x + 1) w1 (by omega) L1).of G1).mono (by omega)
theorem c_isSame (h : LW w σ hi C M) (hm : MOk C B M) (ho : SOk C B M) (hB : B ≤ 1000000000) (hS : 1 ≤ C 0 0 3) : ok1 40 w (mK (d + 6) 147 [.ref σ, .ref 166] w) := by
  have hk1 := h.k.1
  have := same_a (d := d) hm ho hB hS 18 0 w (by omega) h
  have e : mK (d + 6) 147 [.ref σ, .ref 166] w = mX (d + 6) 147 2 [.ref σ, .ref 166, .int (nI 0), mJ, mJ, mJ, mJ, mJ, mJ, mJ, mJ, mJ, mJ] [] w := by rw [e_147, b_147_0]
  rw [e]
  exact this.mono (by omega)
end
