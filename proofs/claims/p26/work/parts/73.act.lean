/-! ===== the law: something done to both (act) ===== -/
theorem mTH_ok {d k pc q kind : Nat} {L rest : List Value} {v : Option Value} {w : MW} : mThenH d k pc q kind L rest (some (.inl v, w)) = mX d k q L (v.toList ++ rest) w := rfl
theorem mTH_64 {d : Nat} {a0 a1 x4 : Value} {w : MW} : mThenH d 168 64 67 2 [a0, a1, mJ, mJ, x4, mJ] [] (some (.inr 1, w)) = mX d 168 98 (mSt [a0, a1, mJ, mJ, x4, mJ] 5 mJ) [] w := rfl
theorem mTH_125 {d : Nat} {a0 a1 x4 : Value} {w : MW} : mThenH d 168 125 128 2 [a0, a1, mJ, mJ, x4, mJ] [] (some (.inr 1, w)) = mX d 168 163 (mSt [a0, a1, mJ, mJ, x4, mJ] 5 mJ) [] w := rfl
section
variable {d B σ hi : Nat} {w w' w1 : MW} {C : CD} {M M' : MD}
/-- act's end -/
def acR (σ hi : Nat) (C : CD) (B : Nat) (w : MW) (r : Option (MRes × MW)) : Prop := ∃ w' M', r = some (.inl (some (.int (nI 1))), w') ∧ LW w' σ hi C M' ∧ gr 1 w w' ∧ MOk C (B + 3000) M' ∧ SOk C (B + 3000) M' ∧ iv C M'
theorem act_0 (h : LW w σ hi C M) (hm : MOk C B M) (ho : SOk C B M) (hv : iv C M) (hB : B ≤ 300000000) : acR σ hi C B w (mX (d + 9) 168 48 [.ref 166, .ref σ, mJ, mJ, mJ, mJ] [] w) := by
  have hk1 := h.k.1
  have tg := h.s.s.tg
  unfold acR
  rw [b_168_48 tg, c_sCanHint h.s hm ho (by omega), mTH_ok]
  simp only [mThen_ok, Option.toList_some, Option.toList_none, List.cons_append, List.nil_append]
  rw [b_168_52]
  rcases Bool.eq_false_or_eq_true (canHintM M) with hc | hc
  · obtain ⟨q1, q2, q3⟩ := canHint_and.mp hc
    have qs := (hm.who q1).1
    obtain ⟨w1, e1, u1⟩ := c_sHint (d := d + 8) h.s hm ho hc
    have g1 : GW w1 C M := h.g.upS h.s.s u1
    obtain ⟨w2, e2, u2⟩ := c_hint1 (d := d + 5) g1 hm (by omega) hc
    have L2 := h.both2 u1 u2
    refine ⟨w2, hintM M, ?_, L2, ((gr.upS u1).trans (gr.upB u2)).mono (by omega), (hintM_ok hm hc).le (by omega), sok_le (sok_hint ho) (by omega), iv_hint hm hc hv⟩
    have y4 : mI w2 σ 4 = nI (M 0 0 4) := by
      rw [L2.s.y4]
      have : hintM M 8 0 4 = M 8 0 4 := hintM_o (by omega)
      rw [this, (ho.2.1 q1).2.2.1]
    have S2 := L2.s.s
    have tg2 := S2.tg
    have r12 := S2.r12; have t12 := S2.t12; have n12 := S2.n12
    obtain ⟨e12s, u12s, l12s⟩ := S2.e12 (M 0 0 4) qs
    rw [hc, if_neg nbt, b_168_59 tg, e1, mTH_ok]
    simp only [mThen_ok, Option.toList_some, Option.toList_none, List.cons_append, List.nil_append]
    rw [b_168_63 g1.q, e2, mTH_ok, mX_maskK (m := 18) (L' := [mJ, .ref σ, mJ, mJ, .int (bI true), mJ]) (by decide +kernel) rfl]
    simp only [mThen_ok, Option.toList_some, Option.toList_none, List.cons_append, List.nil_append]
    rw [b_168_67, if_neg nbt]
    refine Eq.trans (b_168_74 (by first | assumption | omega) (by first | assumption | omega) (by first | assumption | omega) y4 (by first | assumption | omega) (by first | assumption | omega) (by first | assumption | omega) (by first | assumption | omega) (by first | assumption | omega)) ?_
    rw [L2.s.al qs (by decide), if_neg (fun q => q rfl), b_168_90, b_168_95 kr1]
  · refine ⟨wN w 61 0 6, M, ?_, h.wN, gr.wN (by omega), hm.le (by omega), sok_le ho (by omega), hv⟩
    rw [hc, if_pos nbf, b_168_63 h.g.q, c_hint0 (d := d + 5) h.g hm (by omega) hc, mTH_64, mX_maskK (m := 16) (L' := [mJ, mJ, mJ, mJ, .int (bI false), mJ]) (by decide +kernel) rfl, b_168_98, if_neg (fun q => q nbf), b_168_103, b_168_108 kr1]
theorem act_1 (h : LW w σ hi C M) (hm : MOk C B M) (ho : SOk C B M) (hv : iv C M) (hB : B ≤ 300000000) : acR σ hi C B w (mX (d + 9) 168 109 [.ref 166, .ref σ, mJ, mJ, mJ, mJ] [] w) := by
  have hk := h.k
  have hk1 := h.k.1
  have tg := h.s.s.tg
  unfold acR
  rw [b_168_109 tg, c_sCanPass h.s hm ho (by omega), mTH_ok]
  simp only [mThen_ok, Option.toList_some, Option.toList_none, List.cons_append, List.nil_append]
  rw [b_168_113]
  rcases Bool.eq_false_or_eq_true (canPassM M) with hc | hc
  · obtain ⟨q1, q2⟩ := canPass_and.mp hc
    obtain ⟨w1, e1, u1⟩ := c_sPass (d := d + 5) h.s hm ho (by omega) q1 q2
    have g1 : GW w1 C M := h.g.upS h.s.s u1
    obtain ⟨w2, e2, u2⟩ := c_skip1 (d := d + 2) g1 hm (by omega) hc
    have L2 := h.both2 u1 u2
    have o2 : MOk C (B + 2) (endTurnM C (passM M)) := endTurnM_ok hk (passM_ok hm) (by rw [passM_z]; exact q1)
    have s2 : SOk C (B + 1) (endTurnM C (passM M)) := sok_endTurn hk (passM_ok hm) (sok_pass ho) (by rw [passM_z]; exact q1)
    refine ⟨w2, endTurnM C (passM M), ?_, L2, ((gr.upS u1).trans (gr.upB u2)).mono (by omega), o2.le (by omega), sok_le s2 (by omega), iv_skip hm hc hv⟩
    have y1 := L2.s.y1
    have y4 := L2.s.y4
    rw [hc, if_neg nbt, b_168_120 tg, e1, mTH_ok]
    simp only [mThen_ok, Option.toList_some, Option.toList_none, List.cons_append, List.nil_append]
    rw [b_168_124 g1.q, e2, mTH_ok, mX_maskK (m := 18) (L' := [mJ, .ref σ, mJ, mJ, .int (bI true), mJ]) (by decide +kernel) rfl]
    simp only [mThen_ok, Option.toList_some, Option.toList_none, List.cons_append, List.nil_append]
    generalize endTurnM C (passM M) = N at L2 o2 s2 y1 y4 ⊢
    rw [b_168_128, if_neg nbt, b_168_135 L2.s.s.tg, y1]
    by_cases e : N 0 0 4 = NEG
    · rw [s2.1.mp e, if_neg (jneg_nle (by decide)), b_168_144, b_168_152, e, mneg, if_neg (fun q => q rfl), b_168_155, b_168_160 kr1]
    · have r := o2.who e
      have z := s2.2.1 e
      rw [z.1, ijle (by decide) (by omega), if_pos (Nat.zero_le _), b_168_148 L2.s.s.tg, y4, z.2.2.1, b_168_152, if_neg (fun q => q rfl), b_168_155, b_168_160 kr1]
  · refine ⟨wN w 61 0 6, M, ?_, h.wN, gr.wN (by omega), hm.le (by omega), sok_le ho (by omega), hv⟩
    rw [hc, if_pos nbf, b_168_124 h.g.q, c_skip0 (d := d + 2) h.g hm (by omega) hc, mTH_125, mX_maskK (m := 16) (L' := [mJ, mJ, mJ, mJ, .int (bI false), mJ]) (by decide +kernel) rfl, b_168_163, if_neg (fun q => q nbf), b_168_168, b_168_173 kr1]
theorem sok_learn (ho : SOk C B M) {s t x : Nat} (hx : x ≤ 20) : SOk C B (mu M 4 s t x) := by
  obtain ⟨a1, a2, a3, a4⟩ := ho
  have e : ∀ g i j, ¬ g = 4 → mu M 4 s t x g i j = M g i j := fun g i j q => mu_n (by omega)
  unfold SOk
  rw [e 0 0 4 (by decide), e 8 0 1 (by decide), e 0 0 1 (by decide), e 8 0 2 (by decide), e 0 0 2 (by decide), e 8 0 4 (by decide), e 8 0 3 (by decide), e 0 0 3 (by decide)]
  refine ⟨a1, a2, a3, fun s' k h1 h2 => ?_⟩
  rw [mu_at]
  split
  · exact hx
  · exact a4 s' k h1 h2
theorem ST.b13 (S : ST w σ C) {i : Nat} (hi : i < C 0 0 3) : mE ≤ gR w (gR w σ 13) i := by
  have : mE = 166 := rfl
  have := S.lo; have := S.sm; have := S.o1; have := S.o2; have := S.kn i hi
  omega
theorem act_2 (h : LW w σ hi C M) (hm : MOk C B M) (ho : SOk C B M) (hv : iv C M) (hB : B ≤ 300000000) (hT : 1 ≤ C 0 0 0) {s : Nat} (hs : s < C 0 0 3) (x : Int32) : acR σ hi C B w (mX (d + 9) 168 174 [.ref 166, .ref σ, .int x, .int (nI s), mJ, mJ] [] w) := by
  have hk1 := h.k.1
  have S := h.s.s
  have tg := S.tg
  have r8 := S.r8; have t8 := S.t8; have n8 := S.n8; have r13 := S.r13; have t13 := S.t13; have n13 := S.n13
  obtain ⟨e13s, u13s, l13s⟩ := S.e13 s hs
  unfold acR
  rw [b_168_174 tg r8 (by omega), n8, c_below _ (by omega) (by omega), mTH_ok]
  simp only [mThen_ok, Option.toList_some, Option.toList_none, List.cons_append, List.nil_append]
  rw [b_168_185, c_below _ (by decide) (by decide), mTH_ok, mX_maskK (m := 27) (L' := [.ref 166, .ref σ, mJ, .int (nI s), .int (nI (bl (x >>> (nI 5 &&& 31)) (C 0 0 0))), mJ]) (by decide +kernel) rfl]
  simp only [mThen_ok, Option.toList_some, Option.toList_none, List.cons_append, List.nil_append]
  have ht : bl (x >>> (nI 5 &&& 31)) (C 0 0 0) < C 0 0 0 := bl_lt _ (by omega)
  have hy := bl_lt (x >>> (nI 4 &&& 31)) (n := 9) (by decide)
  generalize bl (x >>> (nI 5 &&& 31)) (C 0 0 0) = t at ht ⊢
  generalize bl (x >>> (nI 4 &&& 31)) 9 = y at hy ⊢
  have p4 := hm.1 4 s t (by decide) (by decide)
  have p20 := ho.2.2.2 s t hs ht
  have b13 := S.b13 hs
  generalize hX : min 20 (M 4 s t + (1 + y)) = X
  have hX20 : X ≤ 20 := by omega
  have v := h.s.ukn hs ht X
  have g1 : GW (wI w (gR w (gR w σ 13) s) t (nI X)) C M := h.g.upS S v
  obtain ⟨w2, e2, u2⟩ := c_learn (d := d + 6) g1 hm (by omega) hs ht (y := 1 + y) ⟨by omega, by omega⟩
  rw [hX] at e2 u2
  have L2 := h.both2 v u2
  refine ⟨w2, mu M 4 s t X, ?_, L2, ((gr.upS v).trans (gr.upB u2)).mono (by omega), (hm.le (B' := B + 3000) (by omega)).g (by decide) (by omega) (fun q => absurd q (by decide)), sok_le (sok_learn ho hX20) (by omega), iv_learn hv s t X⟩
  refine Eq.trans (b_168_196 (by first | assumption | omega) (by first | assumption | omega) (by first | assumption | omega) (by first | assumption | omega) (by first | assumption | omega) (by first | assumption | omega) (by first | assumption | omega) (by first | assumption | omega) (by first | assumption | omega)) ?_
  rw [h.s.kn hs ht, jadd, jadd, c_minN (by decide) (by omega), hX, mTH_ok]
  simp only [mThen_ok, Option.toList_some, Option.toList_none, List.cons_append, List.nil_append]
  rw [b_168_224 u13s b13 (by omega) (by omega), b_168_225 g1.q, e2, mTH_ok, mX_maskK (m := 26) (L' := [mJ, .ref σ, mJ, .int (nI s), .int (nI t), mJ]) (by decide +kernel) rfl]
  simp only [mThen_ok, Option.toList_some, Option.toList_none, List.cons_append, List.nil_append]
  have S2 := L2.s.s
  have tg2 := S2.tg
  clear r13 t13 n13 e13s u13s l13s
  have r13 := S2.r13; have t13 := S2.t13; have n13 := S2.n13
  obtain ⟨e13s, u13s, l13s⟩ := S2.e13 s hs
  refine Eq.trans (b_168_234 (by first | assumption | omega) (by first | assumption | omega) (by first | assumption | omega) (by first | assumption | omega) (by first | assumption | omega) (by first | assumption | omega) (by first | assumption | omega) (by first | assumption | omega) (by first | assumption | omega)) ?_
  rw [L2.s.kn hs ht, mu_s, if_neg (fun q => q rfl), b_168_246, b_168_251 kr1]
theorem act_3 (h : LW w σ hi C M) (hm : MOk C B M) (ho : SOk C B M) (hv : iv C M) (hB : B ≤ 300000000) {s : Nat} (hs : s < C 0 0 3) (x : Int32) : acR σ hi C B w (mX (d + 9) 168 252 [.ref 166, .ref σ, .int x, .int (nI s), mJ, mJ] [] w) := by
  have hk1 := h.k.1
  have S := h.s.s
  have tg := S.tg
  have r12 := S.r12; have t12 := S.t12; have n12 := S.n12
  obtain ⟨e12s, u12s, l12s⟩ := S.e12 s hs
  unfold acR
  have pre : ∃ y, y < 20 ∧ mX (d + 9) 168 252 [.ref 166, .ref σ, .int x, .int (nI s), mJ, mJ] [] w = mX (d + 9) 168 276 [.ref 166, .ref σ, mJ, .int (nI s), mJ, mJ] [.int (nI y), .int (nI 1)] w := by
    have q : mX (d + 9) 168 252 [.ref 166, .ref σ, .int x, .int (nI s), mJ, mJ] [] w = if ¬ nI (bl (x >>> (nI 6 &&& 31)) 3) = nI 0 then mX (d + 9) 168 272 [.ref 166, .ref σ, mJ, .int (nI s), mJ, mJ] [.int (x >>> (nI 4 &&& 31)), .int (nI 1)] w else mX (d + 9) 168 267 [.ref 166, .ref σ, mJ, .int (nI s), mJ, mJ] [.int (x >>> (nI 4 &&& 31)), .int (nI 1)] w := by
      rw [b_168_252, c_below _ (by decide) (by decide), mTH_ok, mX_maskK (m := 11) (L' := [.ref 166, .ref σ, mJ, .int (nI s), mJ, mJ]) (by decide +kernel) rfl]
      simp only [mThen_ok, Option.toList_some, Option.toList_none, List.cons_append, List.nil_append]
      rw [b_168_264]
    rw [q]
    by_cases g : nI (bl (x >>> (nI 6 &&& 31)) 3) = nI 0
    · rw [if_neg (fun q => q g), b_168_267, b_168_273, c_below _ (by decide) (by decide), mTH_ok]
      exact ⟨_, bl_lt _ (by decide), rfl⟩
    · rw [if_pos g, b_168_272, b_168_273, c_below _ (by decide) (by decide), mTH_ok]
      exact ⟨_, Nat.lt_of_lt_of_le (bl_lt _ (by decide)) (by decide), rfl⟩
  obtain ⟨y, hy, e⟩ := pre
  rw [e]
  have p1 := hm.1 3 s 1 (by decide) (by decide)
  have b12 := S.b12 hs
  generalize hX : M 3 s 1 + (1 + y) = X
  have v := h.s.ual hs (j := 1) (by decide) X
  have g1 : GW (wI w (gR w (gR w σ 12) s) 1 (nI X)) C M := h.g.upS S v
  obtain ⟨w2, e2, u2⟩ := c_award (d := d + 6) g1 hm (by omega) hs (y := 1 + y) ⟨by omega, by omega⟩
  rw [hX] at e2 u2
  have L2 := h.both2 v u2
  refine ⟨w2, mu M 3 s 1 X, ?_, L2, ((gr.upS v).trans (gr.upB u2)).mono (by omega), (hm.le (B' := B + 3000) (by omega)).g (by decide) (by omega) (fun _ => ⟨by decide, by decide, by decide, fun q => absurd q (by decide)⟩), sok_of ho (by omega) (fun j q1 q2 => mu_n (by omega)) (fun j => mu_n (by omega)) (fun s k => mu_n (by omega)), iv_award hv s X⟩
  refine Eq.trans (b_168_276 (by first | assumption | omega) (by first | assumption | omega) (by first | assumption | omega) (by first | assumption | omega) (by first | assumption | omega) (by first | assumption | omega) (by first | assumption | omega) (by first | assumption | omega) (by first | assumption | omega)) ?_
  rw [h.s.al hs (by decide), jadd, jadd, hX, b_168_292 g1.q, e2, mTH_ok, mX_maskK (m := 10) (L' := [mJ, .ref σ, mJ, .int (nI s), mJ, mJ]) (by decide +kernel) rfl]
  simp only [mThen_ok, Option.toList_some, Option.toList_none, List.cons_append, List.nil_append]
  have S2 := L2.s.s
  have tg2 := S2.tg
  clear r12 t12 n12 e12s u12s l12s
  have r12 := S2.r12; have t12 := S2.t12; have n12 := S2.n12
  obtain ⟨e12s, u12s, l12s⟩ := S2.e12 s hs
  refine Eq.trans (b_168_299 (by first | assumption | omega) (by first | assumption | omega) (by first | assumption | omega) (by first | assumption | omega) (by first | assumption | omega) (by first | assumption | omega) (by first | assumption | omega) (by first | assumption | omega)) ?_
  rw [L2.s.al hs (by decide), mu_s, if_neg (fun q => q rfl), b_168_310, b_168_315 kr1]
theorem act_4 (h : LW w σ hi C M) (hm : MOk C B M) (ho : SOk C B M) (hv : iv C M) (hB : B ≤ 300000000) (x : Int32) : acR σ hi C B w (mX (d + 9) 168 316 [.ref 166, .ref σ, .int x, mJ, mJ, mJ] [] w) := by
  have hk := h.k
  have hk1 := h.k.1
  unfold acR
  have pre : ∃ y, y < 60 ∧ mX (d + 9) 168 316 [.ref 166, .ref σ, .int x, mJ, mJ, mJ] [] w = mX (d + 9) 168 341 [.ref 166, .ref σ, mJ, mJ, mJ, mJ] [.int (nI y), .int (nI 1)] w := by
    have q : mX (d + 9) 168 316 [.ref 166, .ref σ, .int x, mJ, mJ, mJ] [] w = if ¬ nI (bl (x >>> (nI 6 &&& 31)) 8) = nI 0 then mX (d + 9) 168 337 [.ref 166, .ref σ, mJ, mJ, mJ, mJ] [.int (x >>> (nI 4 &&& 31)), .int (nI 1)] w else mX (d + 9) 168 332 [.ref 166, .ref σ, mJ, mJ, mJ, mJ] [.int (x >>> (nI 4 &&& 31)), .int (nI 1)] w := by
      rw [b_168_316, c_below _ (by decide) (by decide), mTH_ok, mX_maskK (m := 3) (L' := [.ref 166, .ref σ, mJ, mJ, mJ, mJ]) (by decide +kernel) rfl]
      simp only [mThen_ok, Option.toList_some, Option.toList_none, List.cons_append, List.nil_append]
      rw [b_168_329]
    rw [q]
    by_cases g : nI (bl (x >>> (nI 6 &&& 31)) 8) = nI 0
    · rw [if_neg (fun q => q g), b_168_332, b_168_338, c_below _ (by decide) (by decide), mTH_ok]
      exact ⟨_, bl_lt _ (by decide), rfl⟩
    · rw [if_pos g, b_168_337, b_168_338, c_below _ (by decide) (by decide), mTH_ok]
      exact ⟨_, Nat.lt_of_lt_of_le (bl_lt _ (by decide)) (by decide), rfl⟩
  obtain ⟨y, hy, e⟩ := pre
  rw [e]
  obtain ⟨w1, e1, u1⟩ := c_go (d := d) h.g hm (by omega) (n := 1 + y) ⟨by omega, by omega⟩
  have f : frB 220 248 w w1 := u1.fr
  have s1 : SW w1 σ C M := h.s.frB h.b (by omega) f
  obtain ⟨w2, e2, u2⟩ := c_sPlay (d := d + 1) s1 hm ho (n := 1 + y) (by omega) (by omega)
  have L2 := h.both u1 u2
  refine ⟨w2, playM C (1 + y) M, ?_, L2, ((gr.upB u1).trans (gr.upS u2)).mono (by omega), (playM_ok hk _ _ _ hm).le (by omega), sok_le (sok_play hk _ _ _ hm ho) (by omega), iv_play hk _ _ _ hm hv⟩
  rw [b_168_341 h.g.q, jadd, e1, mTH_ok, mX_maskK (m := 18) (L' := [mJ, .ref σ, mJ, mJ, .int (nI (1 + y)), mJ]) (by decide +kernel) rfl]
  simp only [mThen_ok, Option.toList_some, Option.toList_none, List.cons_append, List.nil_append]
  rw [b_168_350 s1.s.tg, e2, mTH_ok, mX_maskK (m := 0) (L' := [mJ, mJ, mJ, mJ, mJ, mJ]) (by decide +kernel) rfl]
  simp only [mThen_ok, Option.toList_some, Option.toList_none, List.cons_append, List.nil_append]
  rw [b_168_356, if_neg (fun q => q rfl), b_168_359, b_168_364 kr1]
theorem c_act (h : LW w σ hi C M) (hm : MOk C B M) (ho : SOk C B M) (hv : iv C M) (hB : B ≤ 300000000) (hT : 1 ≤ C 0 0 0) (hS : 1 ≤ C 0 0 3) (x : Int32) : acR σ hi C B w (mK (d + 9) 168 [.ref 166, .ref σ, .int x] w) := by
  have hk1 := h.k.1
  have S := h.s.s
  have tg := S.tg
  have r12 := S.r12; have t12 := S.t12; have n12 := S.n12
  have pre : mK (d + 9) 168 [.ref 166, .ref σ, .int x] w = mX (d + 9) 168 18 [.ref 166, .ref σ, .int x, .int (nI (bl (x >>> (nI 3 &&& 31)) (C 0 0 3))), mJ, mJ] [.int (nI (bl x 10))] w := by
    rw [e_168, b_168_0 tg r12 (by omega), n12, c_below _ (by omega) (by omega), mTH_ok]
    simp only [mThen_ok, Option.toList_some, Option.toList_none, List.cons_append, List.nil_append]
    rw [b_168_11, c_below _ (by decide) (by decide), mTH_ok]
    rfl
  have hs : bl (x >>> (nI 3 &&& 31)) (C 0 0 3) < C 0 0 3 := bl_lt _ (by omega)
  rw [pre]
  generalize bl (x >>> (nI 3 &&& 31)) (C 0 0 3) = s at hs ⊢
  have hk : bl x 10 < 10 := bl_lt _ (by decide)
  generalize bl x 10 = k at hk ⊢
  rcases (show k = 0 ∨ k = 1 ∨ k = 2 ∨ k = 3 ∨ 4 ≤ k by omega) with q | q | q | q | q
  · subst q
    rw [s_168_18_0 rfl]
    exact act_0 h hm ho hv hB
  · subst q
    rw [s_168_18_1 rfl]
    exact act_1 h hm ho hv hB
  · subst q
    rw [s_168_18_2 rfl]
    exact act_2 h hm ho hv hB hT hs x
  · subst q
    rw [s_168_18_3 rfl]
    exact act_3 h hm ho hv hB hs x
  · rw [s_168_18_d (by rw [jti (by omega)]; omega)]
    exact act_4 h hm ho hv hB x
end
