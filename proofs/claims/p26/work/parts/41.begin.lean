section
variable {d b g t B : Nat} {w : MW} {C : CD} {M : MD}
theorem begM_left (z : Nat) : leftM C (begM C z) = C 0 0 3 := by
  have : ∀ n, n ≤ C 0 0 3 → su n (fun s => begM C z 3 s 0) = n := by
    intro n
    induction n with
    | zero => intro _; rfl
    | succ n ih =>
      intro hn
      have e : begM C z 3 n 0 = 1 := by
        show (if n < C 0 0 3 then 1 else 0) = 1
        rw [if_pos (by omega)]
      rw [su, ih (by omega), e]
  exact this _ (Nat.le_refl _)
theorem begM_next (z : Nat) (h : 1 ≤ C 0 0 3) : nextInM C (begM C z) 0 = 0 := by
  have e : begM C z 3 0 0 = 1 := by
    show (if 0 < C 0 0 3 then 1 else 0) = 1
    rw [if_pos (by omega)]
  unfold nextInM
  obtain ⟨n, hn⟩ : ∃ n, C 0 0 3 - 0 = n + 1 := ⟨C 0 0 3 - 1, by omega⟩
  rw [hn, nxM, e, if_neg (by decide)]
theorem begM_mu (z x : Nat) : mu (begM C z) 0 0 4 x = fun g i j => if g = 0 ∧ i = 0 ∧ j = 4 then x else begM C z g i j := rfl
theorem c_begin {z : Nat} (hb0 : bT w b t) (ht0 : tT w t) (hc0 : CF w t C) (hh0 : HF w t C) (hk0 : KF w t C) (hk : CfOk C) (hz : mI w b 11 = nI z) (hs2 : 2 ≤ C 0 0 3) (hq1 : 1 ≤ C 0 0 4) : ∃ w', mK (d + 3) 2 [.ref b] w = some (.inl none, w') ∧ upB b w w' (begM C 0) := by
  have h8 := hb0.lo
  have hti := hb0.thi
  have hk1 := hk.1
  have hE : mE ≤ b := by show 166 ≤ b; omega
  have vz : ∀ j, j < 7 → BV 0 0 j := fun j hj => Or.inl ⟨rfl, rfl, hj⟩
  have tk : ∀ {P : Nat → Nat → Prop} {w' : MW}, cpB b (begM C z) P w w' → ∀ c, t ≤ c → c < t + 21 → mI w' c = mI w c := fun c c' q1 q2 => c.out (Or.inl (by omega))
  have c0 : cpB b (begM C z) (fun c k => c = b ∧ k = 11) w w := ⟨mI w, (wJ_self w).symm, fun _ _ _ => rfl, fun a i j hv hq => by
    rcases hv with ⟨rfl, q1, q2⟩ | ⟨rfl, q1, q2⟩ | ⟨rfl, q1, q2⟩ | ⟨rfl, q1, q2⟩ | ⟨rfl, q1, q2⟩ | ⟨rfl, q1, q2⟩ <;> simp [bloc, spc, knc, hrc] at hq ⊢ <;> try omega
    have : j = 4 := by omega
    subst this
    exact hz⟩
  have c1 : cpB b (begM C z) _ w (wI w b 7 (nI 0)) := c0.set (vz 0 (by omega)) (c := b) (k := 7) rfl
  have c2 : cpB b (begM C z) _ w (wI (wI w b 7 (nI 0)) b 8 (nI 0)) := c1.set (vz 1 (by omega)) (c := b) (k := 8) rfl
  have c3 : cpB b (begM C z) _ w (wI (wI (wI w b 7 (nI 0)) b 8 (nI 0)) b 9 (nI 0)) := c2.set (vz 2 (by omega)) (c := b) (k := 9) rfl
  have c4 : cpB b (begM C z) _ w (wI (wI (wI (wI w b 7 (nI 0)) b 8 (nI 0)) b 9 (nI 0)) b 10 (nI 0)) := c3.set (vz 3 (by omega)) (c := b) (k := 10) rfl
  have c5 : cpB b (begM C z) _ w (wI (wI (wI (wI (wI w b 7 (nI 0)) b 8 (nI 0)) b 9 (nI 0)) b 10 (nI 0)) b 12 (nI 0)) := c4.set (vz 5 (by omega)) (c := b) (k := 12) rfl
  have c6 : cpB b (begM C z) _ w (wI (wI (wI (wI (wI (wI w b 7 (nI 0)) b 8 (nI 0)) b 9 (nI 0)) b 10 (nI 0)) b 12 (nI 0)) b 13 (nI 0)) := c5.set (vz 6 (by omega)) (c := b) (k := 13) rfl
  have p1 : mK (d + 3) 2 [.ref b] w = mThen (mK (d + 2) 188 [.ref (b + 7), .int (nI 0)] (wI (wI (wI (wI (wI (wI w b 7 (nI 0)) b 8 (nI 0)) b 9 (nI 0)) b 10 (nI 0)) b 12 (nI 0)) b 13 (nI 0))) (fun v w9 => mX (d + 3) 2 38 [.ref b, mJ] (v.toList ++ []) w9) := by
    rw [e_2, b_2_0 (bT.t0 hb0) hE (bT.t0 hb0.wI) (bT.t0 hb0.wI.wI) (bT.t0 hb0.wI.wI.wI) (bT.t0 hb0.wI.wI.wI.wI) (bT.t0 hb0.wI.wI.wI.wI.wI) (bT.t0 hb0.wI.wI.wI.wI.wI.wI) (bT.s0_4 hb0.wI.wI.wI.wI.wI.wI), bT.g0_4 hb0.wI.wI.wI.wI.wI.wI]
  generalize (wI (wI (wI (wI (wI (wI w b 7 (nI 0)) b 8 (nI 0)) b 9 (nI 0)) b 10 (nI 0)) b 12 (nI 0)) b 13 (nI 0)) = w6 at c6 p1
  have b6 := c6.sh hb0
  have k6 := c_fill (d := d + 2) (x := nI 0) (bT.t7 b6) (by show 166 ≤ b + 7; omega) (by rw [bT.l7 b6]; decide)
  have c7 := c6.row (c := b + 7) (f := fun k => if k < mLn w6 (b + 7) then nI 0 else mI w6 (b + 7) k) (by omega) (fun a i j hv he => by
    rcases hv with ⟨rfl, q1, q2⟩ | ⟨rfl, q1, q2⟩ | ⟨rfl, q1, q2⟩ | ⟨rfl, q1, q2⟩ | ⟨rfl, q1, q2⟩ | ⟨rfl, q1, q2⟩ <;> simp [bloc, spc, knc, hrc] at he ⊢ <;> try omega
    rw [bT.l7 b6, if_pos (by omega)]
    rfl)
  generalize (wJ w6 (jr (mI w6) (b + 7) (fun k => if k < mLn w6 (b + 7) then nI 0 else mI w6 (b + 7) k))) = w7 at c7 k6
  have b7 := c7.sh hb0
  have k7 := c_fill (d := d + 2) (x := nI 0) (bT.t8 b7) (by show 166 ≤ b + 8; omega) (by rw [bT.l8 b7]; decide)
  have c8 := c7.row (c := b + 8) (f := fun k => if k < mLn w7 (b + 8) then nI 0 else mI w7 (b + 8) k) (by omega) (fun a i j hv he => by
    rcases hv with ⟨rfl, q1, q2⟩ | ⟨rfl, q1, q2⟩ | ⟨rfl, q1, q2⟩ | ⟨rfl, q1, q2⟩ | ⟨rfl, q1, q2⟩ | ⟨rfl, q1, q2⟩ <;> simp [bloc, spc, knc, hrc] at he ⊢ <;> try omega
    rw [bT.l8 b7, if_pos (by omega)]
    rfl)
  generalize (wJ w7 (jr (mI w7) (b + 8) (fun k => if k < mLn w7 (b + 8) then nI 0 else mI w7 (b + 8) k))) = w8 at c8 k7
  have b8 := c8.sh hb0
  have k8 := c_fill (d := d + 2) (x := nI 0) (bT.t9 b8) (by show 166 ≤ b + 9; omega) (by rw [bT.l9 b8]; decide)
  have c9 := c8.row (c := b + 9) (f := fun k => if k < mLn w8 (b + 9) then nI 0 else mI w8 (b + 9) k) (by omega) (fun a i j hv he => by
    rcases hv with ⟨rfl, q1, q2⟩ | ⟨rfl, q1, q2⟩ | ⟨rfl, q1, q2⟩ | ⟨rfl, q1, q2⟩ | ⟨rfl, q1, q2⟩ | ⟨rfl, q1, q2⟩ <;> simp [bloc, spc, knc, hrc] at he ⊢ <;> try omega
    rw [bT.l9 b8, if_pos (by omega)]
    rfl)
  generalize (wJ w8 (jr (mI w8) (b + 9) (fun k => if k < mLn w8 (b + 9) then nI 0 else mI w8 (b + 9) k))) = w9 at c9 k8
  have key : ∀ m i w', i + m = 6 → cpB b (begM C z) (fun c _ => c < b + 10 + 3 * i) w w' → ∃ w2, mX (d + 3) 2 56 [.ref b, .int (nI i)] [] w' = mX (d + 3) 2 81 [.ref b, mJ] [] w2 ∧ upB b w w2 (begM C z) := by
    intro m
    induction m with
    | zero =>
      intro i w' hi c
      have hi : i = 6 := hi
      subst hi
      refine ⟨w', by rw [b_2_56, if_pos (by decide +kernel)], c.up fun a i j hv => ?_⟩
      have := bloc_in (b := b) hv
      omega
    | succ m ih =>
      intro i w' hi c
      have hi6 : i < 6 := by omega
      have gg := c.sh hb0
      have tt := c.st ht0
      obtain ⟨w3, e3, u3⟩ := c_beginS (d := d) c hb0 ht0 hc0 hk0 (by omega) hi6
      obtain ⟨w4, e4, u4⟩ := ih (i + 1) w3 (by omega) (u3.mono fun a i' j hv hq => by
        rcases hv with ⟨rfl, q1, q2⟩ | ⟨rfl, q1, q2⟩ | ⟨rfl, q1, q2⟩ | ⟨rfl, q1, q2⟩ | ⟨rfl, q1, q2⟩ | ⟨rfl, q1, q2⟩ <;> simp [bloc, spc, knc, hrc] at hq ⊢ <;> omega)
      refine ⟨w4, ?_, u4⟩
      rw [b_2_56, ijle (by decide) (by omega), if_neg (by omega), b_2_62 (bT.t0 gg), c_spAt gg hi6]
      simp only [mThen_ok, Option.toList_some, Option.toList_none, List.cons_append, List.nil_append]
      rw [b_2_67 (bT.t0 gg) (bT.s0_0 gg) (bT.st gg hi6), bT.g0_0 gg, e3]
      simp only [mThen_ok, Option.toList_some, Option.toList_none, List.cons_append, List.nil_append]
      rw [b_2_75, jadd, e4]
  obtain ⟨w2, e2, u2⟩ := key 6 0 w9 rfl (c9.mono fun a i j hv hq => by
    rcases hv with ⟨rfl, q1, q2⟩ | ⟨rfl, q1, q2⟩ | ⟨rfl, q1, q2⟩ | ⟨rfl, q1, q2⟩ | ⟨rfl, q1, q2⟩ | ⟨rfl, q1, q2⟩ <;> simp [bloc, spc, knc, hrc] at hq ⊢ <;> omega)
  -- the world holds the bee, but for who is on turn
  have hB2 : BW w2 b t C (begM C z) := by
    have e : ∀ c, t ≤ c → c < t + 21 → mI w2 c = mI w c := fun c _ q => u2.out (Or.inl (by omega))
    have hc2 := hc0.same e
    have hh2 := hh0.same (e (t + 8) (by omega) (by omega))
    obtain ⟨J, rfl, -, a3⟩ := u2
    exact ⟨hb0, ht0, hc2, hh2, hk, a3⟩
  have hi : ∀ s, begM C z 3 s 0 ≤ 1 := fun s => by
    show (if s < C 0 0 3 then 1 else 0) ≤ 1
    split <;> omega
  have u3 := hB2.uz4 0
  refine ⟨_, ?_, (u2.trans u3).ext fun g i j hv => ?_⟩
  · rw [p1, k6]
    simp only [mThen_ok, Option.toList_some, Option.toList_none, List.cons_append, List.nil_append]
    rw [b_2_38 (bT.t0 b7) (bT.s0_5 b7), bT.g0_5 b7, k7]
    simp only [mThen_ok, Option.toList_some, Option.toList_none, List.cons_append, List.nil_append]
    rw [b_2_46 (bT.t0 b8) (bT.s0_6 b8), bT.g0_6 b8, k8]
    simp only [mThen_ok, Option.toList_some, Option.toList_none, List.cons_append, List.nil_append]
    rw [b_2_54, e2, b_2_81 (bT.t0 hB2.b), c_left hB2 hi, begM_left]
    simp only [mThen_ok, Option.toList_some, Option.toList_none, List.cons_append, List.nil_append]
    rw [b_2_86, ijlt (by omega) (by decide), if_neg (by omega), b_2_90 (bT.t0 hB2.b) (bT.s0_0 hB2.b) (by rw [bT.g0_0 hB2.b]; exact tT.t0 hB2.t), bT.g0_0 hB2.b, c_cnt hB2.t hB2.c (by decide)]
    simp only [mThen_ok, Option.toList_some, Option.toList_none, List.cons_append, List.nil_append]
    rw [b_2_98, ijne (by omega) (by decide), if_pos (by omega), b_2_105 (bT.t0 hB2.b), c_nextIn hB2 hi (by decide), begM_next z (by omega)]
    simp only [mThen_ok, Option.toList_some, Option.toList_none, List.cons_append, List.nil_append]
    rw [b_2_110 (bT.t0 hB2.b) hE]
  · rw [mu_at]
    by_cases e : g = 0 ∧ i = 0 ∧ j = 4
    · rw [if_pos e]
      obtain ⟨rfl, rfl, rfl⟩ := e
      rfl
    · rw [if_neg e]
      show begM C z g i j = begM C 0 g i j
      unfold begM
      by_cases g0 : g = 0
      · subst g0
        have : ¬ j = 4 := by
          intro hj
          rcases hv with q | q | q | q | q | q <;> omega
        simp [this]
      · simp [g0]
end
