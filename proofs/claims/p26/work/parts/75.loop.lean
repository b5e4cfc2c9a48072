/-! ===== the law's loop: sums, the end foretold ===== -/

theorem lgs (x : Int64) : lg_cmp x x = nI 0 := by
  unfold lg_cmp
  rw [if_neg (Int64.lt_irrefl : ¬ x < x), if_pos rfl]
  decide +kernel
section
variable {d B σ hi hc uc z y n m c : Nat} {w w' w1 : MW} {C : CD} {M M' : MD} {F F' U : Nat → Nat} {G G' : Nat → Nat → Nat}
theorem lm_a {t : Nat} {x14 x15 x16 x17 x18 : Int32} (h : LW w σ hi C M) (hm : MOk C B M) (hB : B ≤ 400000000) (hv : iv C M) :
    mX (d + 10) 169 507 [.ref 1, .ref 166, mJ, .ref σ, .int (nI (C 0 0 3)), .int (nI (C 0 0 2)), .int (nI (C 0 0 1)), .int (nI t), mJ, .long (digestM C M), mJ, .int (nI (countM C M 7)), .int (nI (M 0 0 4)), .int (nI (wordN C M)), .int x14, .int x15, .int x16, .int x17, .int x18, .ref hc, .ref (hc + 1), mJ, mJ, mJ, mJ, mJ, mJ, mJ, mJ, mJ, mJ, mJ] [] w = mX (d + 10) 169 572 [.ref 1, .ref 166, mJ, .ref σ, .int (nI (C 0 0 3)), .int (nI (C 0 0 2)), .int (nI (C 0 0 1)), .int (nI t), mJ, .long (digestM C M), mJ, .int (nI (countM C M 7)), .int (nI (M 0 0 4)), .int (nI (wordN C M)), .int x14, .int x15, .int x16, .int x17, .int x18, .ref hc, .ref (hc + 1), .int (nI (s2 C M 0)), .int (nI (s2 C M 1)), mJ, mJ, mJ, mJ, mJ, mJ, mJ, mJ, mJ] [] w := by
  have q := h.g.q
  have hk1 := h.k.1
  have key := loop0 (fun v => mX (d + 10) 169 516 [.ref 1, .ref 166, mJ, .ref σ, .int (nI (C 0 0 3)), .int (nI (C 0 0 2)), .int (nI (C 0 0 1)), .int (nI t), mJ, .long (digestM C M), mJ, .int (nI (countM C M 7)), .int (nI (M 0 0 4)), .int (nI (wordN C M)), .int x14, .int x15, .int x16, .int x17, .int x18, .ref hc, .ref (hc + 1), .int (nI (su v (fun v => M 2 v 0))), .int (nI (su v (fun v => M 2 v 1))), .int (nI v), mJ, mJ, mJ, mJ, mJ, mJ, mJ, mJ] [] w) (C 0 0 2) (fun v hw => by
    have c3 : wordFM C M v 3 = M 2 v 0 := rfl
    have c4 : wordFM C M v 4 = M 2 v 1 := rfl
    have hle := hv.1.2.2.2.2.2.1 v
    have b0 := hm.1 2 v 0 (by decide) (by decide)
    rw [b_169_516, ijle (by omega) (by omega), if_neg (by omega), b_169_523 q, c_wordQ (d := d + 5) h.g hw (by decide), c3]
    simp only [mThen_ok, Option.toList_some, Option.toList_none, List.cons_append, List.nil_append]
    rw [b_169_532 q, c_wordQ (d := d + 5) h.g hw (by decide), c4]
    simp only [mThen_ok, Option.toList_some, Option.toList_none, List.cons_append, List.nil_append]
    rw [b_169_544 q, c_wordQ (d := d + 5) h.g hw (by decide), c4]
    simp only [mThen_ok, Option.toList_some, Option.toList_none, List.cons_append, List.nil_append]
    rw [b_169_554 q, c_wordQ (d := d + 5) h.g hw (by decide), c3]
    simp only [mThen_ok, Option.toList_some, Option.toList_none, List.cons_append, List.nil_append]
    rw [b_169_561, ijle (by omega) (by omega), if_pos hle, b_169_566, jadd, jadd, jadd]
    rfl)
  rw [b_169_507]
  refine Eq.trans key ?_
  try dsimp only
  rw [b_169_516, if_pos (Int32.le_refl _)]
  rfl
theorem lm_b {t : Nat} (h : LW w σ hi C M) (hm : MOk C B M) (hB : B ≤ 400000000) (hv : iv C M) (hS : 2 ≤ C 0 0 3 ∧ C 0 0 3 ≤ 4) :
    mX (d + 10) 169 572 [.ref 1, .ref 166, mJ, .ref σ, .int (nI (C 0 0 3)), .int (nI (C 0 0 2)), .int (nI (C 0 0 1)), .int (nI t), mJ, .long (digestM C M), mJ, .int (nI (countM C M 7)), .int (nI (M 0 0 4)), .int (nI (wordN C M)), .int (nI (leftM C M)), .int (nI (s3 C M 6)), .int (nI (s3 C M 7)), .int (nI (s3 C M 5)), .int (rkB C M (C 0 0 3)), .ref hc, .ref (hc + 1), .int (nI (s2 C M 0)), .int (nI (s2 C M 1)), mJ, mJ, mJ, mJ, mJ, mJ, mJ, mJ, mJ] [] w = mX (d + 10) 169 685 [.ref 1, .ref 166, mJ, .ref σ, .int (nI (C 0 0 3)), .int (nI (C 0 0 2)), .int (nI (C 0 0 1)), .int (nI t), mJ, .long (digestM C M), mJ, .int (nI (countM C M 7)), .int (nI (M 0 0 4)), .int (nI (wordN C M)), mJ, mJ, mJ, mJ, mJ, .ref hc, .ref (hc + 1), mJ, mJ, mJ, mJ, mJ, mJ, mJ, mJ, mJ, mJ, mJ] [] w := by
  have q := h.g.q
  have hk1 := h.k.1
  have hB2 : B ≤ 1073741824 := by omega
  obtain ⟨h1, h2, h3, h4, h5, h6, h7, h8, h9⟩ := hv.1
  have cnt : ∀ x, x < 18 → mK (d + 9) 99 [.ref 166, .int (nI x)] w = some (.inl (some (.int (nI (countM C M x)))), w) := fun x hx => c_count (d := d + 4) h.g hm hB2 hx
  have k10 : countM C M 10 = leftM C M := rfl
  have k11 : countM C M 11 = M 1 0 0 := rfl
  have k12 : countM C M 12 = M 1 0 1 := rfl
  have k13 : countM C M 13 = M 1 0 2 := rfl
  have k14 : countM C M 14 = M 1 0 3 := rfl
  have k15 : countM C M 15 = M 1 0 4 := rfl
  have k16 : countM C M 16 = M 1 0 5 := rfl
  have k0 : countM C M 0 = M 0 0 0 := rfl
  have p4 := hm.1 1 0 4 (by decide) (by decide)
  have p0 := hm.1 1 0 0 (by decide) (by decide)
  have p5 := hm.1 1 0 5 (by decide) (by decide)
  rw [b_169_572 q, cnt 10 (by decide), k10]
  simp only [mThen_ok, Option.toList_some, Option.toList_none, List.cons_append, List.nil_append]
  rw [b_169_580, if_neg (fun q => q rfl), b_169_583 q, cnt 11 (by decide), k11, h1]
  simp only [mThen_ok, Option.toList_some, Option.toList_none, List.cons_append, List.nil_append]
  rw [b_169_591, if_neg (fun q => q rfl), b_169_594 q, cnt 12 (by decide), k12, h2]
  simp only [mThen_ok, Option.toList_some, Option.toList_none, List.cons_append, List.nil_append]
  rw [b_169_602, if_neg (fun q => q rfl), b_169_605 q, cnt 13 (by decide), k13, h3]
  simp only [mThen_ok, Option.toList_some, Option.toList_none, List.cons_append, List.nil_append]
  rw [b_169_613, if_neg (fun q => q rfl), b_169_616, rkB_all hm.i hS.1 hS.2, if_neg (fun q => q rfl), b_169_627, jadd, h4, if_neg (fun q => q rfl), b_169_637, h5, if_neg (fun q => q rfl), b_169_644 q, cnt 0 (by decide), k0]
  simp only [mThen_ok, Option.toList_some, Option.toList_none, List.cons_append, List.nil_append]
  rw [b_169_649 q, cnt 14 (by decide), k14]
  simp only [mThen_ok, Option.toList_some, Option.toList_none, List.cons_append, List.nil_append]
  rw [b_169_657, jadd, ← h7, Nat.add_zero, if_neg (fun q => q rfl), b_169_661 q, cnt 15 (by decide), k15]
  simp only [mThen_ok, Option.toList_some, Option.toList_none, List.cons_append, List.nil_append]
  rw [b_169_667, ijlt (by omega) (by omega), if_neg (by omega), b_169_672 q, cnt 16 (by decide), k16]
  simp only [mThen_ok, Option.toList_some, Option.toList_none, List.cons_append, List.nil_append]
  rw [b_169_678, ijle (by omega) (by omega), if_pos (by omega)]
theorem lm_c {t : Nat} (h : LW w σ hi C M) (hm : MOk C B M) (hB : B ≤ 400000000) (hv : iv C M) :
    ∃ w', mX (d + 10) 169 685 [.ref 1, .ref 166, mJ, .ref σ, .int (nI (C 0 0 3)), .int (nI (C 0 0 2)), .int (nI (C 0 0 1)), .int (nI t), mJ, .long (digestM C M), mJ, .int (nI (countM C M 7)), .int (nI (M 0 0 4)), .int (nI (wordN C M)), mJ, mJ, mJ, mJ, mJ, .ref hc, .ref (hc + 1), mJ, mJ, mJ, mJ, mJ, mJ, mJ, mJ, mJ, mJ, mJ] [] w = mX (d + 10) 169 738 [.ref 1, .ref 166, mJ, .ref σ, .int (nI (C 0 0 3)), .int (nI (C 0 0 2)), .int (nI (C 0 0 1)), .int (nI t), mJ, .long (digestM C M), mJ, .int (nI (countM C M 7)), .int (nI (M 0 0 4)), .int (nI (wordN C M)), mJ, mJ, mJ, mJ, mJ, .ref hc, .ref (hc + 1), mJ, mJ, mJ, mJ, mJ, mJ, mJ, mJ, mJ, mJ, mJ] [] w' ∧ frB 248 276 w w' := by
  have q := h.g.q
  have hk1 := h.k.1
  have hB2 : B ≤ 1073741824 := by omega
  have c7 : countM C M 7 = if M 0 0 4 = NEG then NEG else M 0 0 1 := rfl
  by_cases e : M 0 0 4 = NEG
  · have cw : wordN C M = NEG := if_pos e
    refine ⟨w, ?_, frB.refl _ _ _⟩
    rw [b_169_685, c7, if_pos e, if_neg (jneg_nle (by decide)), b_169_690, mneg, e, if_neg (fun q => q rfl), b_169_696, mneg, cw, if_neg (fun q => q rfl), b_169_702 q, c_adviseO (d := d + 1) h.g hm hB2 e]
    simp only [mThen_ok, Option.toList_some, Option.toList_none, List.cons_append, List.nil_append]
    rw [b_169_706, mneg, if_pos rfl]
  · have r := hm.who e
    have cw : wordN C M = wordM C M := if_neg e
    have lw := word_lt h.k hm e
    have on := hv.2.2 e
    obtain ⟨w1, x, hx, e1, f1⟩ := c_advise (d := d + 1) h.g hm hB e
    refine ⟨w1, ?_, f1⟩
    rw [b_169_685, c7, if_neg e, ijle (by decide) (by omega), if_pos (Nat.zero_le _), b_169_713 q, c_spl (d := d + 5) h.g hm hB2 r.1 (by decide), on]
    simp only [mThen_ok, Option.toList_some, Option.toList_none, List.cons_append, List.nil_append]
    rw [b_169_720, if_neg (fun q => q rfl), b_169_724, cw, ijlt (by omega) (by decide), if_neg (by omega), b_169_729 q, e1]
    simp only [mThen_ok, Option.toList_some, Option.toList_none, List.cons_append, List.nil_append]
    rw [b_169_733, ijle (by decide) (by omega), if_pos (Nat.zero_le _)]
theorem it3.gs (h : it3 σ hi C M hc z y F G w) (u : frB 248 276 w w') : it3 σ hi C M hc z y F G w' := by
  have a : agr w w' hi (hc + 2 + C 0 0 3) := agr.fr u h.1.lo
  have g := gr.frB u
  have hh := h.2.2.2.1
  refine ⟨h.1.gs u, h.2.1.ag a hh (by omega), h.2.2.1.ag a (by omega) (by omega), hh, ?_, ?_⟩
  · have := h.2.2.2.2.1; obtain ⟨J, rfl, -⟩ := u; exact this
  · have := h.2.2.2.2.2; obtain ⟨J, rfl, -⟩ := u; exact this
theorem rowN.gs {lo : Nat} (h : rowN w c n F) (u : frB lo 276 w w') (hc : 276 ≤ c) : rowN w' c n F := h.ag (agr.fr u hc) (Nat.le_refl _) (Nat.lt_succ_self _)
theorem rowS.oth2 {c' k : Nat} {x : Int32} (h : rowS w c n m G) (hc : c + n < c') : rowS (wI w c' k x) c n m G :=
  ⟨h.1, h.2.1, fun k hk => ⟨(h.2.2 k hk).1, (h.2.2 k hk).2.oth (by omega)⟩⟩
theorem it3.oth {c' k : Nat} {x : Int32} (h : it3 σ hi C M hc z y F G w) (hq : hc + 2 + C 0 0 3 ≤ c') : it3 σ hi C M hc z y F G (wI w c' k x) := ⟨h.1.wI (by have := h.2.2.2.1; omega), h.2.1.oth (by omega), h.2.2.1.oth2 (by omega), h.2.2.2⟩
theorem it3.row (h : it3 σ hi C M hc z y F G w) (hq : hc + 2 + C 0 0 3 ≤ z) {n : Nat} : it3 σ hi C M hc (z + 1) (y + n) F G (wN w 50 n n) := by
  have hz := h.2.2.2.2.1
  have a : agr w (wN w 50 n n) hi (mSz w) := agr.wN (Nat.le_refl _)
  have hh := h.2.2.2.1
  refine ⟨h.1.wN, h.2.1.ag a hh (by omega), h.2.2.1.ag a (by omega) (by omega), hh, ?_, ?_⟩
  · show mSz w + 1 = _; rw [hz]
  · show mSl w + n = _; rw [h.2.2.2.2.2]
/-- .. and behind how many turns each is out -/
def it4 (σ hi : Nat) (C : CD) (M : MD) (hc uc z y : Nat) (F : Nat → Nat) (G : Nat → Nat → Nat) (U : Nat → Nat) (w : MW) : Prop := it3 σ hi C M hc z y F G w ∧ rowN w uc (C 0 0 3) U ∧ hc + 2 + C 0 0 3 ≤ uc
theorem it4.gs (h : it4 σ hi C M hc uc z y F G U w) (u : frB 248 276 w w') : it4 σ hi C M hc uc z y F G U w' := ⟨h.1.gs u, h.2.1.gs u (by have := h.1.1.lo; have := h.1.2.2.2.1; have := h.2.2; omega), h.2.2⟩
theorem it4.set {k x : Nat} (h : it4 σ hi C M hc uc z y F G U w) : it4 σ hi C M hc uc z y F G (fun j => if j = k then x else U j) (wI w uc k (nI x)) := ⟨h.1.oth h.2.2, h.2.1.set, h.2.2⟩
theorem it4.congr {U' : Nat → Nat} (h : it4 σ hi C M hc uc z y F G U w) (e : ∀ j, j < C 0 0 3 → U j = U' j) : it4 σ hi C M hc uc z y F G U' w := ⟨h.1, h.2.1.congr e, h.2.2⟩
theorem un_b (C : CD) (M : MD) (s : Nat) : untilM C s 10000 0 M = NEG ∨ untilM C s 10000 0 M ≤ 10000 := by
  rcases until_ge C s 10000 0 M (by decide) with g | g
  · exact Or.inl g
  · exact Or.inr (by omega)
theorem un_0 (C : CD) (M : MD) (s : Nat) : nI (untilM C s 10000 0 M) = nI 0 ↔ M 3 s 0 = 0 := by
  rw [← until_0 C M]
  rcases un_b C M s with g | g
  · rw [g]
    exact ⟨fun q => absurd q (jneg_ne2 (by decide)), fun q => absurd q (by decide)⟩
  · exact jeq (by omega) (by decide)
theorem lm_d {t : Nat} (h : it3 σ hi C M hc z y F G w) (hq : hc + 2 + C 0 0 3 ≤ z) (hm : MOk C B M) (hB : B ≤ 400000000) :
    ∃ w', mX (d + 10) 169 738 [.ref 1, .ref 166, mJ, .ref σ, .int (nI (C 0 0 3)), .int (nI (C 0 0 2)), .int (nI (C 0 0 1)), .int (nI t), mJ, .long (digestM C M), mJ, .int (nI (countM C M 7)), .int (nI (M 0 0 4)), .int (nI (wordN C M)), mJ, mJ, mJ, mJ, mJ, .ref hc, .ref (hc + 1), mJ, mJ, mJ, mJ, mJ, mJ, mJ, mJ, mJ, mJ, mJ] [] w = mX (d + 10) 169 810 [.ref 1, .ref 166, mJ, .ref σ, .int (nI (C 0 0 3)), .int (nI (C 0 0 2)), .int (nI (C 0 0 1)), .int (nI t), mJ, .long (digestM C M), mJ, .int (nI (countM C M 7)), .int (nI (M 0 0 4)), .int (nI (wordN C M)), mJ, mJ, mJ, mJ, mJ, .ref hc, .ref (hc + 1), mJ, mJ, .int (nI (winnerM C M)), .ref z, mJ, mJ, mJ, mJ, mJ, mJ, mJ] [] w' ∧ it4 σ hi C M hc z (z + 1) (y + C 0 0 3) F G (fun k => untilM C k 10000 0 M) w' := by
  have hk1 := h.1.k.1
  have hB2 : B ≤ 1073741824 := by omega
  have eE : mE = 166 := rfl
  obtain ⟨w1, e1, f1⟩ := c_winner (d := d + 1) h.1.g hm hB
  have h1 := h.gs f1
  have hz := h1.2.2.2.2.1
  have R0 : it4 σ hi C M hc z (z + 1) (y + C 0 0 3) F G (fun _ => 0) (wN w1 50 (C 0 0 3) (C 0 0 3)) := ⟨h1.row hq, by rw [← hz]; exact rowN.wN w1 _, hq⟩
  have l1 := loopW (n := C 0 0 3) (F := fun k w => mX (d + 10) 169 753 [.ref 1, .ref 166, mJ, .ref σ, .int (nI (C 0 0 3)), .int (nI (C 0 0 2)), .int (nI (C 0 0 1)), .int (nI t), mJ, .long (digestM C M), mJ, .int (nI (countM C M 7)), .int (nI (M 0 0 4)), .int (nI (wordN C M)), mJ, mJ, mJ, mJ, mJ, .ref hc, .ref (hc + 1), mJ, mJ, .int (nI (winnerM C M)), .ref z, .int (nI k), mJ, mJ, mJ, mJ, mJ, mJ] [] w) (P := fun k w => it4 σ hi C M hc z (z + 1) (y + C 0 0 3) F G (fun j => if j < k then untilM C j 10000 0 M else 0) w) (fun k w hk hp => by
    have L := hp.1.1
    have lo := L.lo
    have hh := hp.1.2.2.2.1
    obtain ⟨w2, e2, f2⟩ := c_until (d := d + 1) L.g hm hB hk
    have hp2 := hp.gs f2
    have hp3 := hp2.set (k := k) (x := untilM C k 10000 0 M)
    have hp4 : it4 σ hi C M hc z (z + 1) (y + C 0 0 3) F G (fun j => if j < k + 1 then untilM C j 10000 0 M else 0) (wI w2 z k (nI (untilM C k 10000 0 M))) := hp3.congr fun j hj => by
      by_cases e : j = k
      · subst e; rw [if_pos rfl, if_pos (by omega)]
      · rw [if_neg e]
        by_cases g : j < k
        · rw [if_pos g, if_pos (by omega)]
        · rw [if_neg g, if_neg (by omega)]
    refine ⟨_, ?_, hp4⟩
    obtain ⟨t50, l50, -⟩ := hp2.2.1
    obtain ⟨t51, l51, rd⟩ := hp4.2.1
    have rk := rd k hk
    try dsimp only at rk
    rw [if_pos (by omega)] at rk
    have g3 := hp4.1.1.g
    have ub := un_0 C M k
    have ik := hm.i k
    try dsimp only
    rw [b_169_753, ijle (by omega) (by omega), if_neg (by omega), b_169_760 L.g.q, e2]
    simp only [mThen_ok, Option.toList_some, Option.toList_none, List.cons_append, List.nil_append]
    refine Eq.trans (b_169_770 t50 (by omega) (by omega) (by omega)) ?_
    refine Eq.trans (b_169_771 t51 (by omega) (by omega)) ?_
    rw [rk]
    by_cases e : M 3 k 0 = 0
    · rw [if_neg (fun q => q (ub.mpr e)), b_169_779, b_169_784 g3.q, c_spl (d := d + 5) g3 hm hB2 hk (by decide), e]
      simp only [mThen_ok, Option.toList_some, Option.toList_none, List.cons_append, List.nil_append]
      rw [b_169_791, if_neg (fun q => q rfl), b_169_794, b_169_799, if_pos rfl, b_169_804, jadd]
    · rw [if_pos (fun q => e (ub.mp q)), b_169_783, b_169_784 g3.q, c_spl (d := d + 5) g3 hm hB2 hk (by decide)]
      simp only [mThen_ok, Option.toList_some, Option.toList_none, List.cons_append, List.nil_append]
      rw [b_169_791, ijne (by omega) (by decide), if_pos e, b_169_798, b_169_799, if_pos rfl, b_169_804, jadd]) _ (R0.congr fun j hj => by rw [if_neg (by omega)])
  obtain ⟨w3, e3, p3⟩ := l1
  refine ⟨w3, ?_, p3.congr fun j hj => if_pos hj⟩
  rw [b_169_738 h.1.g.q, e1]
  simp only [mThen_ok, Option.toList_some, Option.toList_none, List.cons_append, List.nil_append]
  rw [b_169_742 (by omega) (by omega), b_169_748, hz]
  refine Eq.trans e3 ?_
  try dsimp only
  rw [b_169_753, if_pos (Int32.le_refl _)]
/-- how often who is on turn has heard the root 0 -/
def hd0 (M : MD) : Nat := if M 0 0 4 = NEG then 0 else M 5 (M 0 0 4) 0
theorem lm_e {t : Nat} (h : it4 σ hi C M hc uc z y F G U w) (hm : MOk C B M) (hB : B ≤ 400000000) (hR : 1 ≤ C 0 0 1) :
    ∃ w', mX (d + 10) 169 810 [.ref 1, .ref 166, mJ, .ref σ, .int (nI (C 0 0 3)), .int (nI (C 0 0 2)), .int (nI (C 0 0 1)), .int (nI t), mJ, .long (digestM C M), mJ, .int (nI (countM C M 7)), .int (nI (M 0 0 4)), .int (nI (wordN C M)), mJ, mJ, mJ, mJ, mJ, .ref hc, .ref (hc + 1), mJ, mJ, .int (nI (winnerM C M)), .ref uc, mJ, mJ, mJ, mJ, mJ, mJ, mJ] [] w = mX (d + 10) 169 847 [.ref 1, .ref 166, mJ, .ref σ, .int (nI (C 0 0 3)), .int (nI (C 0 0 2)), .int (nI (C 0 0 1)), .int (nI t), mJ, .long (digestM C M), mJ, .int (nI (countM C M 7)), .int (nI (M 0 0 4)), .int (nI (wordN C M)), mJ, mJ, mJ, mJ, mJ, .ref hc, .ref (hc + 1), mJ, mJ, .int (nI (winnerM C M)), .ref uc, .int (nI (tallyM C (playM C 1 M) 11)), mJ, mJ, mJ, mJ, mJ, mJ] [.int (nI (hd0 M))] w' ∧ it4 σ hi C M hc uc z y F G U w' := by
  have hk1 := h.1.1.k.1
  have hB2 : B ≤ 1073741824 := by omega
  obtain ⟨w1, e1, f1⟩ := c_foresee (d := d + 1) h.1.1.g hm (by omega) (n := 1) (x := 11) ⟨by decide, by decide⟩ ⟨by decide, by decide⟩
  have h1 := h.gs f1
  have q1 := h1.1.1.g.q
  refine ⟨w1, ?_, h1⟩
  have c7 : countM C M 7 = if M 0 0 4 = NEG then NEG else M 0 0 1 := rfl
  rw [b_169_810 h.1.1.g.q, e1]
  simp only [mThen_ok, Option.toList_some, Option.toList_none, List.cons_append, List.nil_append]
  rw [b_169_817 q1, c_digest (d := d + 4) h1.1.1.g hm hB2]
  simp only [mThen_ok, Option.toList_some, Option.toList_none, List.cons_append, List.nil_append]
  rw [b_169_823, lgs, if_pos rfl, b_169_831, c7]
  unfold hd0
  by_cases e : M 0 0 4 = NEG
  · rw [if_pos e, if_neg (jneg_nle (by decide)), b_169_836, if_pos e]
  · have r := hm.who e
    rw [if_neg e, ijle (by decide) (by omega), if_pos (Nat.zero_le _), b_169_840 q1, c_heard (d := d + 7) h1.1.1.g r.1 hR, if_neg e]
    simp only [mThen_ok, Option.toList_some, Option.toList_none, List.cons_append, List.nil_append]
theorem agr.upS {N : Nat} (u : upS σ C w w' M') (b : SB w σ C hi) {l : Nat} (hl : hi ≤ l) : agr w w' l N := by
  obtain ⟨J, rfl, e, -⟩ := u
  obtain ⟨b1, b2, b3⟩ := b
  refine fun c h1 h2 => ⟨rfl, rfl, funext fun k => e c k ?_, rfl⟩
  rintro (q | q | ⟨i, hi2, q⟩ | ⟨i, hi2, q⟩)
  · omega
  · have := b2 7 (by decide) (by decide); omega
  · have := b3 11 i (Or.inr (Or.inl ⟨by decide, hi2⟩)); omega
  · have := b3 12 i (Or.inr (Or.inr (Or.inl ⟨by decide, hi2⟩)))
    have := b3 13 i (Or.inr (Or.inr (Or.inl ⟨by decide, hi2⟩)))
    have := b3 14 i (Or.inr (Or.inr (Or.inl ⟨by decide, hi2⟩)))
    omega
theorem it4.both (h : it4 σ hi C M hc uc z y F G U w) (u : upB 220 w w1 M') (v : upS σ C w1 w' M') : it4 σ hi C M' hc uc z y F G U w' := by
  have f : frB 220 248 w w1 := u.fr
  have L := h.1.1
  have lo := L.lo
  have hh := h.1.2.2.2.1
  have hu := h.2.2
  have b1 : SB w1 σ C hi := L.b.ag L.s.s (agr.fr f (by omega))
  have a : agr w w' hi (uc + 1) := (agr.fr f (by omega)).trans (agr.upS v b1 (Nat.le_refl _))
  have z1 : mSz w' = mSz w ∧ mSl w' = mSl w := by obtain ⟨J, rfl, -⟩ := u; obtain ⟨J', rfl, -⟩ := v; exact ⟨rfl, rfl⟩
  exact ⟨⟨L.both u v, h.1.2.1.ag a hh (by omega), h.1.2.2.1.ag a (by omega) (by omega), hh, z1.1.trans h.1.2.2.2.2.1, z1.2.trans h.1.2.2.2.2.2⟩, h.2.1.ag a (by omega) (by omega), hu⟩
theorem lm_f {t : Nat} (h : it4 σ hi C M hc uc z y F G U w) (hm : MOk C B M) (ho : SOk C B M) (hB : B ≤ 300000000) :
    ∃ w', mX (d + 10) 169 847 [.ref 1, .ref 166, mJ, .ref σ, .int (nI (C 0 0 3)), .int (nI (C 0 0 2)), .int (nI (C 0 0 1)), .int (nI t), mJ, .long (digestM C M), mJ, .int (nI (countM C M 7)), .int (nI (M 0 0 4)), .int (nI (wordN C M)), mJ, mJ, mJ, mJ, mJ, .ref hc, .ref (hc + 1), mJ, mJ, .int (nI (winnerM C M)), .ref uc, .int (nI (tallyM C (playM C 1 M) 11)), mJ, mJ, mJ, mJ, mJ, mJ] [.int (nI (hd0 M))] w = mX (d + 10) 169 909 [.ref 1, .ref 166, mJ, .ref σ, .int (nI (C 0 0 3)), .int (nI (C 0 0 2)), .int (nI (C 0 0 1)), .int (nI t), mJ, mJ, mJ, .int (nI (countM C M 7)), .int (nI (M 0 0 4)), .int (nI (wordN C M)), mJ, mJ, mJ, mJ, mJ, .ref hc, .ref (hc + 1), mJ, mJ, .int (nI (winnerM C M)), .ref uc, mJ, .int (nI (hd0 M)), .int (nI (if M 0 0 4 = NEG then 0 else 1)), mJ, mJ, mJ, mJ] [] w' ∧ it4 σ hi C (playM C 1 M) hc uc z y F G U w' := by
  have hk := h.1.1.k
  have hk1 := hk.1
  have hB2 : B + 42 ≤ 1073741824 := by omega
  obtain ⟨w1, e1, u1⟩ := c_go (d := d + 1) h.1.1.g hm (by omega) (n := 1) ⟨by decide, by decide⟩
  have f : frB 220 248 w w1 := u1.fr
  have s1 : SW w1 σ C M := h.1.1.s.frB h.1.1.b (by omega) f
  obtain ⟨w2, e2, u2⟩ := c_sPlay (d := d + 2) s1 hm ho (n := 1) (by omega) (by omega)
  have h2 := h.both u1 u2
  have g2 := h2.1.1.g
  have m2 : MOk C (B + 42 * 1) (playM C 1 M) := playM_ok hk _ _ _ hm
  have pl : playedM C 1 M = if M 0 0 4 = NEG then 0 else 1 := rfl
  have c7 : countM C M 7 = if M 0 0 4 = NEG then NEG else M 0 0 1 := rfl
  have k11 : countM C (playM C 1 M) 11 = tallyM C (playM C 1 M) 11 := rfl
  refine ⟨w2, ?_, h2⟩
  rw [b_169_847 h.1.1.g.q, e1]
  simp only [mThen_ok, Option.toList_some, Option.toList_none, List.cons_append, List.nil_append]
  rw [b_169_854 s1.s.tg, e2]
  simp only [mThen_ok, Option.toList_some, Option.toList_none, List.cons_append, List.nil_append]
  rw [b_169_861, if_neg (fun q => q rfl), b_169_866, pl, c7]
  by_cases e : M 0 0 4 = NEG
  · have pm : playM C 1 M = M := play_stop 1 e
    rw [if_pos e, if_neg (jneg_nle (by decide)), b_169_873, b_169_878, if_pos e, if_neg (fun q => q rfl), b_169_881 g2.q, c_count (d := d + 4) g2 m2 (by omega) (by decide), k11]
    simp only [mThen_ok, Option.toList_some, Option.toList_none, List.cons_append, List.nil_append]
    rw [b_169_887, if_neg (fun q => q rfl), b_169_892, if_neg (jneg_nle (by decide)), b_169_897 g2.q, c_digest (d := d + 4) g2 m2 (by omega), pm]
    simp only [mThen_ok, Option.toList_some, Option.toList_none, List.cons_append, List.nil_append]
    rw [b_169_901, lgs, if_pos rfl]
  · have r := hm.who e
    rw [if_neg e, ijle (by decide) (by omega), if_pos (Nat.zero_le _), b_169_877, b_169_878, if_neg e, if_neg (fun q => q rfl), b_169_881 g2.q, c_count (d := d + 4) g2 m2 (by omega) (by decide), k11]
    simp only [mThen_ok, Option.toList_some, Option.toList_none, List.cons_append, List.nil_append]
    rw [b_169_887, if_neg (fun q => q rfl), b_169_892, ijle (by decide) (by omega), if_pos (Nat.zero_le _)]
end
