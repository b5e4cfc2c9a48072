section
variable {d b g t B : Nat} {w : MW} {C : CD} {M : MD}
theorem c_copyB (h0 : BW w b t C M) (hg0 : bT w g t) (hbg : b + 28 ≤ g) (hm : MOk C B M) : ∃ w', mK (d + 3) 3 [.ref g, .ref b] w = some (.inl none, w') ∧ upB g w w' M := by
  have h8 := h0.b.lo
  have hE : mE ≤ g := by show 166 ≤ g; omega
  have vz : ∀ j, j < 7 → BV 0 0 j := fun j hj => Or.inl ⟨rfl, rfl, hj⟩
  have c0 := cpB.refl g M w
  have c1 := c0.set (vz 0 (by omega)) (c := g) (k := 7) rfl
  have s1 := c1.src h0 hbg
  have c2 := c1.set (vz 1 (by omega)) (c := g) (k := 8) rfl
  have s2 := c2.src h0 hbg
  have c3 := c2.set (vz 2 (by omega)) (c := g) (k := 9) rfl
  have s3 := c3.src h0 hbg
  have c4 := c3.set (vz 3 (by omega)) (c := g) (k := 10) rfl
  have s4 := c4.src h0 hbg
  have c5 := c4.set (vz 4 (by omega)) (c := g) (k := 11) rfl
  have s5 := c5.src h0 hbg
  have c6 := c5.set (vz 5 (by omega)) (c := g) (k := 12) rfl
  have s6 := c6.src h0 hbg
  have c7 := c6.set (vz 6 (by omega)) (c := g) (k := 13) rfl
  have s7 := c7.src h0 hbg
  have g3 := c3.sh hg0
  have g6 := c6.sh hg0
  have g7 := c7.sh hg0
  have p1 : mX (d + 3) 3 0 [.ref g, .ref b, mJ] [] w = mX (d + 3) 3 24 [.ref g, .ref b, mJ] [] (wI (wI (wI w g 7 (nI (M 0 0 0))) g 8 (nI (M 0 0 1))) g 9 (nI (M 0 0 2))) := by
    have a1 := s1.z1
    have a2 := s2.z2
    rw [b_3_0 (bT.t0 h0.b) (bT.t0 hg0) hE (bT.t0 h0.b.wI) (bT.t0 hg0.wI) (bT.t0 h0.b.wI.wI) (bT.t0 hg0.wI.wI), h0.z0, a1, a2]
  have p2 : mX (d + 3) 3 24 [.ref g, .ref b, mJ] [] (wI (wI (wI w g 7 (nI (M 0 0 0))) g 8 (nI (M 0 0 1))) g 9 (nI (M 0 0 2))) = mX (d + 3) 3 48 [.ref g, .ref b, mJ] [] (wI (wI (wI (wI (wI (wI w g 7 (nI (M 0 0 0))) g 8 (nI (M 0 0 1))) g 9 (nI (M 0 0 2))) g 10 (nI (M 0 0 3))) g 11 (nI (M 0 0 4))) g 12 (nI (M 0 0 5))) := by
    have a1 := s4.z4
    have a2 := s5.z5
    rw [b_3_24 (bT.t0 s3.b) (bT.t0 g3) hE (bT.t0 s3.b.wI) (bT.t0 g3.wI) (bT.t0 s3.b.wI.wI) (bT.t0 g3.wI.wI), s3.z3, a1, a2]
  have p3 : mX (d + 3) 3 48 [.ref g, .ref b, mJ] [] (wI (wI (wI (wI (wI (wI w g 7 (nI (M 0 0 0))) g 8 (nI (M 0 0 1))) g 9 (nI (M 0 0 2))) g 10 (nI (M 0 0 3))) g 11 (nI (M 0 0 4))) g 12 (nI (M 0 0 5))) = mThen (mK (d + 2) 125 [.ref (b + 7), .ref (g + 7)] (wI (wI (wI (wI (wI (wI (wI w g 7 (nI (M 0 0 0))) g 8 (nI (M 0 0 1))) g 9 (nI (M 0 0 2))) g 10 (nI (M 0 0 3))) g 11 (nI (M 0 0 4))) g 12 (nI (M 0 0 5))) g 13 (nI (M 0 0 6)))) (fun v w9 => mX (d + 3) 3 67 [.ref g, .ref b, mJ] (v.toList ++ []) w9) := by
    have q := s6.b.wI (c := g) (k := 13) (x := mI (wI (wI (wI (wI (wI (wI w g 7 (nI (M 0 0 0))) g 8 (nI (M 0 0 1))) g 9 (nI (M 0 0 2))) g 10 (nI (M 0 0 3))) g 11 (nI (M 0 0 4))) g 12 (nI (M 0 0 5))) b 13)
    have q2 := g6.wI (c := g) (k := 13) (x := mI (wI (wI (wI (wI (wI (wI w g 7 (nI (M 0 0 0))) g 8 (nI (M 0 0 1))) g 9 (nI (M 0 0 2))) g 10 (nI (M 0 0 3))) g 11 (nI (M 0 0 4))) g 12 (nI (M 0 0 5))) b 13)
    rw [b_3_48 (bT.t0 s6.b) (bT.t0 g6) hE (by rw [s6.z6]; exact kn13 hm.2.2.2.1) (bT.t0 q) (bT.s0_4 q) (bT.t0 q2) (bT.s0_4 q2), bT.g0_4 q, bT.g0_4 q2, s6.z6]
  generalize (wI (wI (wI (wI (wI (wI (wI w g 7 (nI (M 0 0 0))) g 8 (nI (M 0 0 1))) g 9 (nI (M 0 0 2))) g 10 (nI (M 0 0 3))) g 11 (nI (M 0 0 4))) g 12 (nI (M 0 0 5))) g 13 (nI (M 0 0 6))) = w7 at c7 s7 g7 p3
  have k7 := c_copy (d := d + 1) (bT.t7 s7.b) (bT.t7 g7) (by show 166 ≤ g + 7; omega) (by rw [bT.l7 s7.b]; decide) (by rw [bT.l7 g7]; decide)
  have c8 := c7.row (c := g + 7) (f := fun k => if k < min (mLn w7 (b + 7)) (mLn w7 (g + 7)) then mI w7 (b + 7) k else mI w7 (g + 7) k) (by omega) (fun a i j hv he => by
    rcases hv with ⟨rfl, q1, q2⟩ | ⟨rfl, q1, q2⟩ | ⟨rfl, q1, q2⟩ | ⟨rfl, q1, q2⟩ | ⟨rfl, q1, q2⟩ | ⟨rfl, q1, q2⟩ <;> simp [bloc, spc, knc, hrc] at he ⊢ <;> try omega
    subst q1
    rw [bT.l7 s7.b, bT.l7 g7, if_pos (by omega)]
    exact s7.to q2)
  have s8 := c8.src h0 hbg
  have g8 := c8.sh hg0
  have k8 := c_copy (d := d + 1) (bT.t8 s8.b) (bT.t8 g8) (by show 166 ≤ g + 8; omega) (by rw [bT.l8 s8.b]; decide) (by rw [bT.l8 g8]; decide)
  generalize (wJ w7 (jr (mI w7) (g + 7) (fun k => if k < min (mLn w7 (b + 7)) (mLn w7 (g + 7)) then mI w7 (b + 7) k else mI w7 (g + 7) k))) = w8 at c8 s8 g8 k8 k7
  have c9 := c8.row (c := g + 8) (f := fun k => if k < min (mLn w8 (b + 8)) (mLn w8 (g + 8)) then mI w8 (b + 8) k else mI w8 (g + 8) k) (by omega) (fun a i j hv he => by
    rcases hv with ⟨rfl, q1, q2⟩ | ⟨rfl, q1, q2⟩ | ⟨rfl, q1, q2⟩ | ⟨rfl, q1, q2⟩ | ⟨rfl, q1, q2⟩ | ⟨rfl, q1, q2⟩ <;> simp [bloc, spc, knc, hrc] at he ⊢ <;> try omega
    have : j = 0 := by omega
    subst this
    rw [bT.l8 s8.b, bT.l8 g8, if_pos (by omega)]
    exact s8.ws q1)
  have s9 := c9.src h0 hbg
  have g9 := c9.sh hg0
  have k9 := c_copy (d := d + 1) (bT.t9 s9.b) (bT.t9 g9) (by show 166 ≤ g + 9; omega) (by rw [bT.l9 s9.b]; decide) (by rw [bT.l9 g9]; decide)
  generalize (wJ w8 (jr (mI w8) (g + 8) (fun k => if k < min (mLn w8 (b + 8)) (mLn w8 (g + 8)) then mI w8 (b + 8) k else mI w8 (g + 8) k))) = w9 at c9 s9 g9 k9 k8
  have c10 := c9.row (c := g + 9) (f := fun k => if k < min (mLn w9 (b + 9)) (mLn w9 (g + 9)) then mI w9 (b + 9) k else mI w9 (g + 9) k) (by omega) (fun a i j hv he => by
    rcases hv with ⟨rfl, q1, q2⟩ | ⟨rfl, q1, q2⟩ | ⟨rfl, q1, q2⟩ | ⟨rfl, q1, q2⟩ | ⟨rfl, q1, q2⟩ | ⟨rfl, q1, q2⟩ <;> simp [bloc, spc, knc, hrc] at he ⊢ <;> try omega
    have : j = 1 := by omega
    subst this
    rw [bT.l9 s9.b, bT.l9 g9, if_pos (by omega)]
    exact s9.wr q1)
  generalize (wJ w9 (jr (mI w9) (g + 9) (fun k => if k < min (mLn w9 (b + 9)) (mLn w9 (g + 9)) then mI w9 (b + 9) k else mI w9 (g + 9) k))) = w10 at c10 k9
  have key : ∀ m i w', i + m = 6 → cpB g M (fun c _ => c < g + 10 + 3 * i) w w' → ∃ w2, mX (d + 3) 3 91 [.ref g, .ref b, .int (nI i)] [] w' = some (.inl none, w2) ∧ upB g w w2 M := by
    intro m
    induction m with
    | zero =>
      intro i w' hi c
      have hi : i = 6 := hi
      subst hi
      refine ⟨w', by rw [b_3_91, if_pos (by decide +kernel), b_3_116], c.up fun a i j hv => ?_⟩
      have := bloc_in (b := g) hv
      omega
    | succ m ih =>
      intro i w' hi c
      have hi6 : i < 6 := by omega
      have s := c.src h0 hbg
      have gg := c.sh hg0
      obtain ⟨w3, e3, u3⟩ := c_copyS (d := d) c h0 hg0 hbg hi6 (hm.2.2.2.2.2.1 i)
      obtain ⟨w4, e4, u4⟩ := ih (i + 1) w3 (by omega) (u3.mono fun a i' j hv hq => by
        rcases hv with ⟨rfl, q1, q2⟩ | ⟨rfl, q1, q2⟩ | ⟨rfl, q1, q2⟩ | ⟨rfl, q1, q2⟩ | ⟨rfl, q1, q2⟩ | ⟨rfl, q1, q2⟩ <;> simp [bloc, spc, knc, hrc] at hq ⊢ <;> omega)
      refine ⟨w4, ?_, u4⟩
      rw [b_3_91, ijle (by decide) (by omega), if_neg (by omega), b_3_97 (bT.t0 gg), c_spAt gg hi6]
      simp only [mThen_ok, Option.toList_some, Option.toList_none, List.cons_append, List.nil_append]
      rw [b_3_102 (bT.t0 s.b), c_spAt s.b hi6]
      simp only [mThen_ok, Option.toList_some, Option.toList_none, List.cons_append, List.nil_append]
      rw [b_3_107 (bT.st gg hi6), e3]
      simp only [mThen_ok, Option.toList_some, Option.toList_none, List.cons_append, List.nil_append]
      rw [b_3_110, jadd, e4]
  obtain ⟨w2, e2, u2⟩ := key 6 0 w10 rfl (c10.mono fun a i j hv hq => by
    rcases hv with ⟨rfl, q1, q2⟩ | ⟨rfl, q1, q2⟩ | ⟨rfl, q1, q2⟩ | ⟨rfl, q1, q2⟩ | ⟨rfl, q1, q2⟩ | ⟨rfl, q1, q2⟩ <;> simp [bloc, spc, knc, hrc] at hq ⊢ <;> omega)
  refine ⟨w2, ?_, u2⟩
  rw [e_3, p1, p2, p3, k7]
  simp only [mThen_ok, Option.toList_some, Option.toList_none, List.cons_append, List.nil_append]
  rw [b_3_67 (bT.t0 s8.b) (bT.s0_5 s8.b) (bT.t0 g8) (bT.s0_5 g8), bT.g0_5 s8.b, bT.g0_5 g8, k8]
  simp only [mThen_ok, Option.toList_some, Option.toList_none, List.cons_append, List.nil_append]
  rw [b_3_78 (bT.t0 s9.b) (bT.s0_6 s9.b) (bT.t0 g9) (bT.s0_6 g9), bT.g0_6 s9.b, bT.g0_6 g9, k9]
  simp only [mThen_ok, Option.toList_some, Option.toList_none, List.cons_append, List.nil_append]
  rw [b_3_89, e2]
/-- how a bee begins; z: who is on turn -/
def begM (C : CD) (z : Nat) : MD := fun g i j => if g = 0 then (if j = 4 then z else 0) else if g = 3 then (if j = 0 then (if i < C 0 0 3 then 1 else 0) else if j = 3 then C 5 i 0 else if j = 4 then 1 else 0) else if g = 4 then C 6 i j else 0
/-- passes and knowledge as told, for all six -/
def KF (w : MW) (t : Nat) (C : CD) : Prop := ∀ s, s < 6 → mI w (t + 9) s = nI (C 5 s 0) ∧ ∀ k, k < 5 → mI w (t + 10) (s * 5 + k) = nI (C 6 s k)
theorem c_beginS {P : Nat → Nat → Prop} {w0 : MW} {z : Nat} (c0 : cpB b (begM C z) P w0 w) (hb0 : bT w0 b t) (ht0 : tT w0 t) (hc0 : CF w0 t C) (hk0 : KF w0 t C) (hn : C 0 0 3 ≤ 6) {s : Nat} (hs : s < 6) : ∃ w', mK (d + 2) 53 [.ref (spc b s), .ref t, .int (nI s)] w = some (.inl none, w') ∧ cpB b (begM C z) (fun c k => P c k ∨ c = spc b s ∨ c = knc b s ∨ c = hrc b s) w0 w' := by
  have h8 := hb0.lo
  have hti := hb0.thi
  have hE : mE ≤ spc b s := by show 166 ≤ b + 10 + 3 * s; omega
  have vs : ∀ j, j < 9 → BV 3 s j := fun j hj => Or.inr (Or.inr (Or.inr (Or.inl ⟨rfl, hs, hj⟩)))
  have tk : ∀ {P : Nat → Nat → Prop} {w' : MW}, cpB b (begM C z) P w0 w' → ∀ c, t ≤ c → c < t + 21 → mI w' c = mI w0 c := fun c c' q1 q2 => c.out (Or.inl (by omega))
  have hb : bI (decide (s < C 0 0 3)) = nI (begM C z 3 s 0) := by
    show _ = nI (if s < C 0 0 3 then 1 else 0)
    by_cases e : s < C 0 0 3
    · rw [if_pos e, decide_eq_true e]; rfl
    · rw [if_neg e, decide_eq_false e]; rfl
  have hb1 : begM C z 3 s 0 ≤ 1 := by
    show (if s < C 0 0 3 then 1 else 0) ≤ 1
    split <;> omega
  have c1 := c0.set (vs 0 (by omega)) (c := spc b s) (k := 2) rfl
  have c2 : cpB b (begM C z) _ w0 (wI (wI w (spc b s) 2 (nI (begM C z 3 s 0))) (spc b s) 3 (nI 0)) := c1.set (vs 8 (by omega)) (c := spc b s) (k := 3) rfl
  have c3 : cpB b (begM C z) _ w0 (wI (wI (wI w (spc b s) 2 (nI (begM C z 3 s 0))) (spc b s) 3 (nI 0)) (spc b s) 4 (nI 1)) := c2.set (vs 4 (by omega)) (c := spc b s) (k := 4) rfl
  have c4 : cpB b (begM C z) _ w0 (wI (wI (wI (wI w (spc b s) 2 (nI (begM C z 3 s 0))) (spc b s) 3 (nI 0)) (spc b s) 4 (nI 1)) (spc b s) 5 (nI 0)) := c3.set (vs 1 (by omega)) (c := spc b s) (k := 5) rfl
  have c5 : cpB b (begM C z) _ w0 (wI (wI (wI (wI (wI w (spc b s) 2 (nI (begM C z 3 s 0))) (spc b s) 3 (nI 0)) (spc b s) 4 (nI 1)) (spc b s) 5 (nI 0)) (spc b s) 6 (nI 0)) := c4.set (vs 2 (by omega)) (c := spc b s) (k := 6) rfl
  have b0 := c0.sh hb0
  have t0 := c0.st ht0
  have b5 := c5.sh hb0
  have t5 := c5.st ht0
  have p1 : mK (d + 2) 53 [.ref (spc b s), .ref t, .int (nI s)] w = mThen (mK (d + 1) 123 [.ref (t + 9), .int (nI s)] (wI (wI (wI (wI (wI w (spc b s) 2 (nI (begM C z 3 s 0))) (spc b s) 3 (nI 0)) (spc b s) 4 (nI 1)) (spc b s) 5 (nI 0)) (spc b s) 6 (nI 0))) (fun v w9 => mX (d + 2) 53 39 [.ref (spc b s), .ref t, .int (nI s), mJ] (v.toList ++ [.ref (spc b s)]) w9) := by
    rw [e_53, b_53_0 (tT.t0 t0), c_has t0 (hc0.same (tk c0)) (by decide) (by omega) (by omega), hb]
    simp only [mThen_ok, Option.toList_some, Option.toList_none, List.cons_append, List.nil_append]
    rw [b_53_7 (bT.st b0 hs) hE (kn01 hb1) (bT.st b0.wI hs) hE (bT.st b0.wI.wI hs) (bT.st b0.wI.wI.wI hs) (bT.st b0.wI.wI.wI.wI hs) (tT.t0 t0.wI.wI.wI.wI.wI) (tT.s0_8 t0.wI.wI.wI.wI.wI), tT.g0_8 t0.wI.wI.wI.wI.wI]
  generalize (wI (wI (wI (wI (wI w (spc b s) 2 (nI (begM C z 3 s 0))) (spc b s) 3 (nI 0)) (spc b s) 4 (nI 1)) (spc b s) 5 (nI 0)) (spc b s) 6 (nI 0)) = w5 at c5 b5 t5 p1
  have hpa : mI w5 (t + 9) s = nI (begM C z 3 s 3) := by rw [tk c5 (t + 9) (by omega) (by omega)]; exact (hk0 s hs).1
  have c6 := c5.set (vs 3 (by omega)) (c := spc b s) (k := 7) rfl
  have c7 : cpB b (begM C z) _ w0 (wI (wI w5 (spc b s) 7 (nI (begM C z 3 s 3))) (spc b s) 8 (nI 0)) := c6.set (vs 5 (by omega)) (c := spc b s) (k := 8) rfl
  have c8 : cpB b (begM C z) _ w0 (wI (wI (wI w5 (spc b s) 7 (nI (begM C z 3 s 3))) (spc b s) 8 (nI 0)) (spc b s) 9 (nI 0)) := c7.set (vs 6 (by omega)) (c := spc b s) (k := 9) rfl
  have c9 : cpB b (begM C z) _ w0 (wI (wI (wI (wI w5 (spc b s) 7 (nI (begM C z 3 s 3))) (spc b s) 8 (nI 0)) (spc b s) 9 (nI 0)) (spc b s) 10 (nI 0)) := c8.set (vs 7 (by omega)) (c := spc b s) (k := 10) rfl
  have b9 := c9.sh hb0
  have p2 : mX (d + 2) 53 39 [.ref (spc b s), .ref t, .int (nI s), mJ] [.int (nI (begM C z 3 s 3)), .ref (spc b s)] w5 = mThen (mK (d + 1) 188 [.ref (hrc b s), .int (nI 0)] (wI (wI (wI (wI w5 (spc b s) 7 (nI (begM C z 3 s 3))) (spc b s) 8 (nI 0)) (spc b s) 9 (nI 0)) (spc b s) 10 (nI 0))) (fun v w9 => mX (d + 2) 53 65 [.ref (spc b s), .ref t, .int (nI s), mJ] (v.toList ++ []) w9) := by
    rw [b_53_39 (bT.st b5 hs) hE (bT.st b5.wI hs) hE (bT.st b5.wI.wI hs) (bT.st b5.wI.wI.wI hs) (bT.st b5.wI.wI.wI.wI hs) (bT.hs b5.wI.wI.wI.wI hs), bT.hg b5.wI.wI.wI.wI hs]
  generalize (wI (wI (wI (wI w5 (spc b s) 7 (nI (begM C z 3 s 3))) (spc b s) 8 (nI 0)) (spc b s) 9 (nI 0)) (spc b s) 10 (nI 0)) = w9 at c9 b9 p2
  have k9 := c_fill (d := d + 1) (x := nI 0) (bT.ht b9 hs) (by show 166 ≤ b + 12 + 3 * s; omega) (by rw [bT.hl b9 hs]; decide)
  have c10 := c9.row (c := hrc b s) (f := fun k => if k < mLn w9 (hrc b s) then nI 0 else mI w9 (hrc b s) k) (by unfold hrc; omega) (fun a i j hv he => by
    rcases hv with ⟨rfl, q1, q2⟩ | ⟨rfl, q1, q2⟩ | ⟨rfl, q1, q2⟩ | ⟨rfl, q1, q2⟩ | ⟨rfl, q1, q2⟩ | ⟨rfl, q1, q2⟩ <;> simp [bloc, spc, knc, hrc] at he ⊢ <;> try omega
    have e1 := bT.hl b9 hs
    unfold hrc at e1
    rw [e1, if_pos (by omega)]
    rfl)
  generalize (wJ w9 (jr (mI w9) (hrc b s) (fun k => if k < mLn w9 (hrc b s) then nI 0 else mI w9 (hrc b s) k))) = w10 at c10 k9
  have key : ∀ m k w', k + m = 5 → cpB b (begM C z) (fun c q => P c q ∨ c = spc b s ∨ c = hrc b s ∨ (c = knc b s ∧ q < k)) w0 w' → ∃ w2, mX (d + 2) 53 67 [.ref (spc b s), .ref t, .int (nI s), .int (nI k)] [] w' = some (.inl none, w2) ∧ cpB b (begM C z) (fun c q => P c q ∨ c = spc b s ∨ c = hrc b s ∨ (c = knc b s ∧ q < 5)) w0 w2 := by
    intro m
    induction m with
    | zero =>
      intro k w' hk c
      have hk : k = 5 := hk
      subst hk
      exact ⟨w', by rw [b_53_67, if_pos (by decide +kernel), b_53_98], c⟩
    | succ m ih =>
      intro k w' hk c
      have bb := c.sh hb0
      have tt := c.st ht0
      have hv : mI w' (t + 10) (s * 5 + k) = nI (begM C z 4 s k) := by rw [tk c (t + 10) (by omega) (by omega)]; exact (hk0 s hs).2 k (by omega)
      have c2 := c.set (a := 4) (i := s) (j := k) (Or.inr (Or.inr (Or.inr (Or.inr (Or.inl ⟨rfl, hs, by omega⟩))))) (c := knc b s) (k := k) rfl
      obtain ⟨w2, e2, u2⟩ := ih (k + 1) _ (by omega) (c2.mono fun a i j _ hq => by
        rcases hq with q | q | q | q
        · exact Or.inl (Or.inl q)
        · exact Or.inl (Or.inr (Or.inl q))
        · exact Or.inl (Or.inr (Or.inr (Or.inl q)))
        · by_cases e : (bloc b a i j).2 = k
          · exact Or.inr ⟨q.1, e⟩
          · exact Or.inl (Or.inr (Or.inr (Or.inr ⟨q.1, by omega⟩))))
      refine ⟨w2, ?_, u2⟩
      rw [b_53_67, ijle (by decide) (by omega), if_neg (by omega), b_53_72 (bT.st bb hs) (bT.ks bb hs) (tT.t0 tt) (tT.s0_9 tt), bT.kg bb hs, tT.g0_9 tt, jmul, jadd, c_getN (tT.t10 tt) (by rw [tT.l10 tt]; omega) (by rw [tT.l10 tt]; decide), hv]
      simp only [mThen_ok, Option.toList_some, Option.toList_none, List.cons_append, List.nil_append]
      rw [b_53_89, c_putN (bT.kt bb hs) (by show 166 ≤ b + 11 + 3 * s; omega) (by rw [bT.kl bb hs]; omega) (by rw [bT.kl bb hs]; decide)]
      simp only [mThen_ok, Option.toList_some, Option.toList_none, List.cons_append, List.nil_append]
      rw [b_53_92, jadd, e2]
  obtain ⟨w2, e2, u2⟩ := key 5 0 w10 rfl (c10.mono fun a i j hv hq => by
    rcases hq with q | q | q | q
    · simp only [q, true_or]
    · rcases hv with ⟨rfl, q1, q2⟩ | ⟨rfl, q1, q2⟩ | ⟨rfl, q1, q2⟩ | ⟨rfl, q1, q2⟩ | ⟨rfl, q1, q2⟩ | ⟨rfl, q1, q2⟩ <;> simp [bloc, spc, knc, hrc] at q ⊢ <;> try omega
      unfold psl
      repeat' split
      all_goals omega
    · exact Or.inr q
    · omega)
  refine ⟨w2, ?_, u2.mono fun a i j hv hq => ?_⟩
  · rw [p1, c_getN (tT.t9 t5) (by rw [tT.l9 t5]; exact hs) (by rw [tT.l9 t5]; decide), hpa]
    simp only [mThen_ok, Option.toList_some, Option.toList_none, List.cons_append, List.nil_append]
    rw [p2, k9]
    simp only [mThen_ok, Option.toList_some, Option.toList_none, List.cons_append, List.nil_append]
    rw [b_53_65, e2]
  · rcases hv with ⟨rfl, q1, q2⟩ | ⟨rfl, q1, q2⟩ | ⟨rfl, q1, q2⟩ | ⟨rfl, q1, q2⟩ | ⟨rfl, q1, q2⟩ | ⟨rfl, q1, q2⟩ <;> simp only [bloc] at hq ⊢ <;> simp [spc, knc, hrc] at hq ⊢ <;> rcases hq with q | q | q | q <;> first | exact Or.inl q | omega | (right; omega)
end
