/-! ===== the nine tests, as tokens and operations: by program (wip/p26/mktest.py) ===== -/
def kwT (k : Nat) (po : List Nat) : Tk := (sB (k + 1), po, k, 0, 0)
def nmT (c j : Nat) (po : List Nat) (r : Nat) : Tk := ([c, 48 + j], po, 258, r, 0)
def nuT (n : Nat) (po : List Nat) (r : Nat) : Tk := (dec n, po, 259, r, n)
def syT (b : Nat) (po : List Nat) : Tk := ([b], po, b, 0, 0)
def wiT (b k : Nat) (po : List Nat) : Tk := ([b, 61], po, k, 0, 0)
def orT (k : Nat) (po : List Nat) (p : Nat) : Tk := (sB (k + 1), po, k, 6, p)
def testL (m s n v : Nat) : List Tk := match m with
  | 0 => [kwT 23 [32], nmT 115 s [] 12, syT 62 [], nuT (n) [] 0]
  | 1 => [kwT 21 [32], nmT 115 s [] 12, wiT 62 257 [], nuT (n) [] 0]
  | 2 => [kwT 22 [32], nmT 115 s [] 12, syT 61 [], nuT (1) [] 0]
  | 3 => [kwT 19 [32], syT 62 [32], nuT (n) [] 0]
  | 4 => [kwT 20 [], wiT 60 256 [], nuT (n) [32] 0, kwT 27 [32], kwT 9 [32], nmT 115 s [] 12, syT 62 [], nuT (0) [] 0]
  | 5 => [kwT 26 [32], kwT 25 [32], nmT 115 s [32] 12, kwT 28 [32], kwT 5 [32], nmT 119 v [] 13, syT 62 [], nuT (n) [] 0]
  | 6 => [syT 91 [], kwT 24 [32], nmT 115 s [] 12, syT 93 [], kwT 27 [32], kwT 23 [32], nmT 115 s [] 12, syT 45 [], kwT 5 [32], nmT 119 v [] 13, syT 47 [], nuT (2) [] 0, syT 60 [], nuT (n) [] 0]
  | 7 => [nuT (1) [] 0, syT 61 [], nuT (1) [] 0]
  | _ => [kwT 29 [], syT 40 [], kwT 21 [32], nmT 115 s [] 12, syT 44 [], nuT (n) [] 0, syT 41 [], syT 42 [], nuT (2) [] 0, syT 62 [], kwT 19 [], syT 47 [], nuT (3) [] 0]
/-- what they are reckoned by, from token i on -/
def testP (m i : Nat) : List (Nat × Nat) := match m with
  | 0 => [(23, i + 1), (259, i + 3), (62, i + 4), (59, i + 4)]
  | 1 => [(21, i + 1), (259, i + 3), (257, i + 4), (59, i + 4)]
  | 2 => [(22, i + 1), (259, i + 3), (61, i + 4), (59, i + 4)]
  | 3 => [(19, i), (259, i + 2), (62, i + 3), (59, i + 3)]
  | 4 => [(20, i), (259, i + 2), (256, i + 3), (9, i + 5), (259, i + 7), (62, i + 8), (27, i + 8), (59, i + 8)]
  | 5 => [(25, i + 2), (26, i + 3), (5, i + 5), (259, i + 7), (62, i + 8), (28, i + 8), (59, i + 8)]
  | 6 => [(24, i + 2), (23, i + 6), (5, i + 9), (259, i + 11), (47, i + 12), (45, i + 12), (259, i + 13), (60, i + 14), (27, i + 14), (59, i + 14)]
  | 7 => [(259, i), (259, i + 2), (61, i + 3), (59, i + 3)]
  | _ => [(21, i + 3), (259, i + 5), (29, i + 6), (259, i + 8), (42, i + 9), (19, i + 10), (259, i + 12), (47, i + 13), (62, i + 13), (59, i + 13)]
theorem num_dec : ∀ n, n < 100 → numO (dec n) 0 = n := by decide +kernel
theorem v0_num {n : Nat} {po : List Nat} {r : Nat} (hn : n < 100) : tV (nuT n po r) = v0 (nuT n po r) := by
  show n = if (259 : Nat) = 259 then numO (dec n) 0 else 0
  rw [if_pos rfl, num_dec n hn]
section
variable {d i j s n v : Nat} {u : MW} {E : List Tk} {P : List (Nat × Nat)} {rE : List Tk} {rP : List (Nat × Nat)} {po : List Nat}
theorem TKs {t : Tk} {k r : Nat} (h : E.drop i = t :: rE) (hk : tK t = k) (hr : tR t = r) (hv : tV t = v0 t) : TK E i k r ∧ E.drop (i + 1) = rE := by
  obtain ⟨a, b, c⟩ := drop_hd h
  exact ⟨⟨c, by rw [a, hk], by rw [a, hr], by rw [a, hv]⟩, b⟩
theorem OPs {a b : Nat} (h : P.drop j = (a, b) :: rP) : OPx P j a b ∧ P.drop (j + 1) = rP := by
  refine ⟨⟨?_, ?_⟩, ?_⟩
  · have := congrArg List.length h
    rw [List.length_drop, List.length_cons] at this
    omega
  · rw [List.getD_eq_getElem?_getD, ← List.head?_drop, h]; rfl
  · rw [← List.tail_drop, h]; rfl
theorem rd_t0 (hn : n < 100) (hE : E.drop i = testL 0 s n v ++ (syT 59 po :: rE)) (hP : P.drop j = testP 0 i ++ rP) : RD u E P (d + 12) 40 0 i j (i + 4) (j + 3) ∧ OPx P (j + 3) 59 (i + 4) ∧ TK E (i + 4) 59 0 ∧ E.drop (i + 5) = rE ∧ P.drop (j + 4) = rP := by
  have x0 : E.drop i = kwT 23 [32] :: nmT 115 s [] 12 :: syT 62 [] :: nuT (n) [] 0 :: syT 59 po :: rE := hE
  have y0 : P.drop j = (23, i + 1) :: (259, i + 3) :: (62, i + 4) :: (59, i + 4) :: rP := hP
  obtain ⟨t0, x1⟩ := TKs (k := 23) (r := 0) x0 rfl rfl rfl
  obtain ⟨t1, x2⟩ := TKs (k := 258) (r := 12) x1 rfl rfl rfl
  obtain ⟨t2, x3⟩ := TKs (k := 62) (r := 0) x2 rfl rfl rfl
  obtain ⟨t3, x4⟩ := TKs (k := 259) (r := 0) x3 rfl rfl (v0_num hn)
  obtain ⟨tE, x5⟩ := TKs (k := 59) (r := 0) x4 rfl rfl rfl
  obtain ⟨p0, y1⟩ := OPs y0
  obtain ⟨p1, y2⟩ := OPs y1
  obtain ⟨p2, y3⟩ := OPs y2
  obtain ⟨p3, y4⟩ := OPs y3
  exact ⟨(rd_40_1 (rd_41_1 (rd_42_c (rd_43 (rd_44_1 (rd_45_1 (rd_name (Or.inr (Or.inr (Or.inl rfl))) t0 t1 p0) (by rw [t2.2.1]; decide) (by rw [t2.2.1]; decide)) (by rw [t2.2.1]; decide) (by rw [t2.2.1]; decide)) (Or.inr (Or.inl rfl)) t2 (rd_44_1 (rd_45_1 (rd_num (Or.inl rfl) t3 p1) (by rw [tE.2.1]; decide) (by rw [tE.2.1]; decide)) (by rw [tE.2.1]; decide) (by rw [tE.2.1]; decide)) p2) (by rw [t0.2.1]; decide) (by rw [t0.2.1]; decide) (by rw [t0.2.1]; decide) (by rw [t0.2.1]; decide)) (by rw [tE.2.1]; decide)) (by rw [tE.2.1]; decide)), p3, tE, x5, y4⟩
theorem rd_t1 (hn : n < 100) (hE : E.drop i = testL 1 s n v ++ (syT 59 po :: rE)) (hP : P.drop j = testP 1 i ++ rP) : RD u E P (d + 12) 40 0 i j (i + 4) (j + 3) ∧ OPx P (j + 3) 59 (i + 4) ∧ TK E (i + 4) 59 0 ∧ E.drop (i + 5) = rE ∧ P.drop (j + 4) = rP := by
  have x0 : E.drop i = kwT 21 [32] :: nmT 115 s [] 12 :: wiT 62 257 [] :: nuT (n) [] 0 :: syT 59 po :: rE := hE
  have y0 : P.drop j = (21, i + 1) :: (259, i + 3) :: (257, i + 4) :: (59, i + 4) :: rP := hP
  obtain ⟨t0, x1⟩ := TKs (k := 21) (r := 0) x0 rfl rfl rfl
  obtain ⟨t1, x2⟩ := TKs (k := 258) (r := 12) x1 rfl rfl rfl
  obtain ⟨t2, x3⟩ := TKs (k := 257) (r := 0) x2 rfl rfl rfl
  obtain ⟨t3, x4⟩ := TKs (k := 259) (r := 0) x3 rfl rfl (v0_num hn)
  obtain ⟨tE, x5⟩ := TKs (k := 59) (r := 0) x4 rfl rfl rfl
  obtain ⟨p0, y1⟩ := OPs y0
  obtain ⟨p1, y2⟩ := OPs y1
  obtain ⟨p2, y3⟩ := OPs y2
  obtain ⟨p3, y4⟩ := OPs y3
  exact ⟨(rd_40_1 (rd_41_1 (rd_42_c (rd_43 (rd_44_1 (rd_45_1 (rd_name (Or.inl rfl) t0 t1 p0) (by rw [t2.2.1]; decide) (by rw [t2.2.1]; decide)) (by rw [t2.2.1]; decide) (by rw [t2.2.1]; decide)) (Or.inr (Or.inr (Or.inr (Or.inr (rfl))))) t2 (rd_44_1 (rd_45_1 (rd_num (Or.inl rfl) t3 p1) (by rw [tE.2.1]; decide) (by rw [tE.2.1]; decide)) (by rw [tE.2.1]; decide) (by rw [tE.2.1]; decide)) p2) (by rw [t0.2.1]; decide) (by rw [t0.2.1]; decide) (by rw [t0.2.1]; decide) (by rw [t0.2.1]; decide)) (by rw [tE.2.1]; decide)) (by rw [tE.2.1]; decide)), p3, tE, x5, y4⟩
theorem rd_t2 (hn : n < 100) (hE : E.drop i = testL 2 s n v ++ (syT 59 po :: rE)) (hP : P.drop j = testP 2 i ++ rP) : RD u E P (d + 12) 40 0 i j (i + 4) (j + 3) ∧ OPx P (j + 3) 59 (i + 4) ∧ TK E (i + 4) 59 0 ∧ E.drop (i + 5) = rE ∧ P.drop (j + 4) = rP := by
  have x0 : E.drop i = kwT 22 [32] :: nmT 115 s [] 12 :: syT 61 [] :: nuT (1) [] 0 :: syT 59 po :: rE := hE
  have y0 : P.drop j = (22, i + 1) :: (259, i + 3) :: (61, i + 4) :: (59, i + 4) :: rP := hP
  obtain ⟨t0, x1⟩ := TKs (k := 22) (r := 0) x0 rfl rfl rfl
  obtain ⟨t1, x2⟩ := TKs (k := 258) (r := 12) x1 rfl rfl rfl
  obtain ⟨t2, x3⟩ := TKs (k := 61) (r := 0) x2 rfl rfl rfl
  obtain ⟨t3, x4⟩ := TKs (k := 259) (r := 0) x3 rfl rfl (v0_num (by decide))
  obtain ⟨tE, x5⟩ := TKs (k := 59) (r := 0) x4 rfl rfl rfl
  obtain ⟨p0, y1⟩ := OPs y0
  obtain ⟨p1, y2⟩ := OPs y1
  obtain ⟨p2, y3⟩ := OPs y2
  obtain ⟨p3, y4⟩ := OPs y3
  exact ⟨(rd_40_1 (rd_41_1 (rd_42_c (rd_43 (rd_44_1 (rd_45_1 (rd_name (Or.inr (Or.inl rfl)) t0 t1 p0) (by rw [t2.2.1]; decide) (by rw [t2.2.1]; decide)) (by rw [t2.2.1]; decide) (by rw [t2.2.1]; decide)) (Or.inr (Or.inr (Or.inl rfl))) t2 (rd_44_1 (rd_45_1 (rd_num (Or.inl rfl) t3 p1) (by rw [tE.2.1]; decide) (by rw [tE.2.1]; decide)) (by rw [tE.2.1]; decide) (by rw [tE.2.1]; decide)) p2) (by rw [t0.2.1]; decide) (by rw [t0.2.1]; decide) (by rw [t0.2.1]; decide) (by rw [t0.2.1]; decide)) (by rw [tE.2.1]; decide)) (by rw [tE.2.1]; decide)), p3, tE, x5, y4⟩
theorem rd_t3 (hn : n < 100) (hE : E.drop i = testL 3 s n v ++ (syT 59 po :: rE)) (hP : P.drop j = testP 3 i ++ rP) : RD u E P (d + 12) 40 0 i j (i + 3) (j + 3) ∧ OPx P (j + 3) 59 (i + 3) ∧ TK E (i + 3) 59 0 ∧ E.drop (i + 4) = rE ∧ P.drop (j + 4) = rP := by
  have x0 : E.drop i = kwT 19 [32] :: syT 62 [32] :: nuT (n) [] 0 :: syT 59 po :: rE := hE
  have y0 : P.drop j = (19, i) :: (259, i + 2) :: (62, i + 3) :: (59, i + 3) :: rP := hP
  obtain ⟨t0, x1⟩ := TKs (k := 19) (r := 0) x0 rfl rfl rfl
  obtain ⟨t1, x2⟩ := TKs (k := 62) (r := 0) x1 rfl rfl rfl
  obtain ⟨t2, x3⟩ := TKs (k := 259) (r := 0) x2 rfl rfl (v0_num hn)
  obtain ⟨tE, x4⟩ := TKs (k := 59) (r := 0) x3 rfl rfl rfl
  obtain ⟨p0, y1⟩ := OPs y0
  obtain ⟨p1, y2⟩ := OPs y1
  obtain ⟨p2, y3⟩ := OPs y2
  obtain ⟨p3, y4⟩ := OPs y3
  exact ⟨(rd_40_1 (rd_41_1 (rd_42_c (rd_43 (rd_44_1 (rd_45_1 (rd_num (Or.inr (Or.inl rfl)) t0 p0) (by rw [t1.2.1]; decide) (by rw [t1.2.1]; decide)) (by rw [t1.2.1]; decide) (by rw [t1.2.1]; decide)) (Or.inr (Or.inl rfl)) t1 (rd_44_1 (rd_45_1 (rd_num (Or.inl rfl) t2 p1) (by rw [tE.2.1]; decide) (by rw [tE.2.1]; decide)) (by rw [tE.2.1]; decide) (by rw [tE.2.1]; decide)) p2) (by rw [t0.2.1]; decide) (by rw [t0.2.1]; decide) (by rw [t0.2.1]; decide) (by rw [t0.2.1]; decide)) (by rw [tE.2.1]; decide)) (by rw [tE.2.1]; decide)), p3, tE, x4, y4⟩
theorem rd_t4 (hn : n < 100) (hE : E.drop i = testL 4 s n v ++ (syT 59 po :: rE)) (hP : P.drop j = testP 4 i ++ rP) : RD u E P (d + 12) 40 0 i j (i + 8) (j + 7) ∧ OPx P (j + 7) 59 (i + 8) ∧ TK E (i + 8) 59 0 ∧ E.drop (i + 9) = rE ∧ P.drop (j + 8) = rP := by
  have x0 : E.drop i = kwT 20 [] :: wiT 60 256 [] :: nuT (n) [32] 0 :: kwT 27 [32] :: kwT 9 [32] :: nmT 115 s [] 12 :: syT 62 [] :: nuT (0) [] 0 :: syT 59 po :: rE := hE
  have y0 : P.drop j = (20, i) :: (259, i + 2) :: (256, i + 3) :: (9, i + 5) :: (259, i + 7) :: (62, i + 8) :: (27, i + 8) :: (59, i + 8) :: rP := hP
  obtain ⟨t0, x1⟩ := TKs (k := 20) (r := 0) x0 rfl rfl rfl
  obtain ⟨t1, x2⟩ := TKs (k := 256) (r := 0) x1 rfl rfl rfl
  obtain ⟨t2, x3⟩ := TKs (k := 259) (r := 0) x2 rfl rfl (v0_num hn)
  obtain ⟨t3, x4⟩ := TKs (k := 27) (r := 0) x3 rfl rfl rfl
  obtain ⟨t4, x5⟩ := TKs (k := 9) (r := 0) x4 rfl rfl rfl
  obtain ⟨t5, x6⟩ := TKs (k := 258) (r := 12) x5 rfl rfl rfl
  obtain ⟨t6, x7⟩ := TKs (k := 62) (r := 0) x6 rfl rfl rfl
  obtain ⟨t7, x8⟩ := TKs (k := 259) (r := 0) x7 rfl rfl (v0_num (by decide))
  obtain ⟨tE, x9⟩ := TKs (k := 59) (r := 0) x8 rfl rfl rfl
  obtain ⟨p0, y1⟩ := OPs y0
  obtain ⟨p1, y2⟩ := OPs y1
  obtain ⟨p2, y3⟩ := OPs y2
  obtain ⟨p3, y4⟩ := OPs y3
  obtain ⟨p4, y5⟩ := OPs y4
  obtain ⟨p5, y6⟩ := OPs y5
  obtain ⟨p6, y7⟩ := OPs y6
  obtain ⟨p7, y8⟩ := OPs y7
  exact ⟨(rd_40_1 (rd_41_2 (rd_42_c (rd_43 (rd_44_1 (rd_45_1 (rd_num (Or.inr (Or.inr (rfl))) t0 p0) (by rw [t1.2.1]; decide) (by rw [t1.2.1]; decide)) (by rw [t1.2.1]; decide) (by rw [t1.2.1]; decide)) (Or.inr (Or.inr (Or.inr (Or.inl rfl)))) t1 (rd_44_1 (rd_45_1 (rd_num (Or.inl rfl) t2 p1) (by rw [t3.2.1]; decide) (by rw [t3.2.1]; decide)) (by rw [t3.2.1]; decide) (by rw [t3.2.1]; decide)) p2) (by rw [t0.2.1]; decide) (by rw [t0.2.1]; decide) (by rw [t0.2.1]; decide) (by rw [t0.2.1]; decide)) t3 (rd_42_c (rd_43 (rd_44_1 (rd_45_1 (rd_name (Or.inr (Or.inr (Or.inr (rfl)))) t4 t5 p3) (by rw [t6.2.1]; decide) (by rw [t6.2.1]; decide)) (by rw [t6.2.1]; decide) (by rw [t6.2.1]; decide)) (Or.inr (Or.inl rfl)) t6 (rd_44_1 (rd_45_1 (rd_num (Or.inl rfl) t7 p4) (by rw [tE.2.1]; decide) (by rw [tE.2.1]; decide)) (by rw [tE.2.1]; decide) (by rw [tE.2.1]; decide)) p5) (by rw [t4.2.1]; decide) (by rw [t4.2.1]; decide) (by rw [t4.2.1]; decide) (by rw [t4.2.1]; decide)) p6 (by rw [tE.2.1]; decide)) (by rw [tE.2.1]; decide)), p7, tE, x9, y8⟩
theorem rd_t5 (hn : n < 100) (hE : E.drop i = testL 5 s n v ++ (syT 59 po :: rE)) (hP : P.drop j = testP 5 i ++ rP) : RD u E P (d + 12) 40 0 i j (i + 8) (j + 6) ∧ OPx P (j + 6) 59 (i + 8) ∧ TK E (i + 8) 59 0 ∧ E.drop (i + 9) = rE ∧ P.drop (j + 7) = rP := by
  have x0 : E.drop i = kwT 26 [32] :: kwT 25 [32] :: nmT 115 s [32] 12 :: kwT 28 [32] :: kwT 5 [32] :: nmT 119 v [] 13 :: syT 62 [] :: nuT (n) [] 0 :: syT 59 po :: rE := hE
  have y0 : P.drop j = (25, i + 2) :: (26, i + 3) :: (5, i + 5) :: (259, i + 7) :: (62, i + 8) :: (28, i + 8) :: (59, i + 8) :: rP := hP
  obtain ⟨t0, x1⟩ := TKs (k := 26) (r := 0) x0 rfl rfl rfl
  obtain ⟨t1, x2⟩ := TKs (k := 25) (r := 0) x1 rfl rfl rfl
  obtain ⟨t2, x3⟩ := TKs (k := 258) (r := 12) x2 rfl rfl rfl
  obtain ⟨t3, x4⟩ := TKs (k := 28) (r := 0) x3 rfl rfl rfl
  obtain ⟨t4, x5⟩ := TKs (k := 5) (r := 0) x4 rfl rfl rfl
  obtain ⟨t5, x6⟩ := TKs (k := 258) (r := 13) x5 rfl rfl rfl
  obtain ⟨t6, x7⟩ := TKs (k := 62) (r := 0) x6 rfl rfl rfl
  obtain ⟨t7, x8⟩ := TKs (k := 259) (r := 0) x7 rfl rfl (v0_num hn)
  obtain ⟨tE, x9⟩ := TKs (k := 59) (r := 0) x8 rfl rfl rfl
  obtain ⟨p0, y1⟩ := OPs y0
  obtain ⟨p1, y2⟩ := OPs y1
  obtain ⟨p2, y3⟩ := OPs y2
  obtain ⟨p3, y4⟩ := OPs y3
  obtain ⟨p4, y5⟩ := OPs y4
  obtain ⟨p5, y6⟩ := OPs y5
  obtain ⟨p6, y7⟩ := OPs y6
  exact ⟨(rd_40_2 (rd_41_1 (rd_42_not (by decide) t0 (rd_42_in (Or.inr rfl) t1 t2 p0) p1) (by rw [t3.2.1]; decide)) t3 (rd_41_1 (rd_42_c (rd_43 (rd_44_1 (rd_45_1 (rd_hard t4 t5 p2) (by rw [t6.2.1]; decide) (by rw [t6.2.1]; decide)) (by rw [t6.2.1]; decide) (by rw [t6.2.1]; decide)) (Or.inr (Or.inl rfl)) t6 (rd_44_1 (rd_45_1 (rd_num (Or.inl rfl) t7 p3) (by rw [tE.2.1]; decide) (by rw [tE.2.1]; decide)) (by rw [tE.2.1]; decide) (by rw [tE.2.1]; decide)) p4) (by rw [t4.2.1]; decide) (by rw [t4.2.1]; decide) (by rw [t4.2.1]; decide) (by rw [t4.2.1]; decide)) (by rw [tE.2.1]; decide)) p5 (by rw [tE.2.1]; decide)), p6, tE, x9, y7⟩
theorem rd_t6 (hn : n < 100) (hE : E.drop i = testL 6 s n v ++ (syT 59 po :: rE)) (hP : P.drop j = testP 6 i ++ rP) : RD u E P (d + 12) 40 0 i j (i + 14) (j + 9) ∧ OPx P (j + 9) 59 (i + 14) ∧ TK E (i + 14) 59 0 ∧ E.drop (i + 15) = rE ∧ P.drop (j + 10) = rP := by
  have x0 : E.drop i = syT 91 [] :: kwT 24 [32] :: nmT 115 s [] 12 :: syT 93 [] :: kwT 27 [32] :: kwT 23 [32] :: nmT 115 s [] 12 :: syT 45 [] :: kwT 5 [32] :: nmT 119 v [] 13 :: syT 47 [] :: nuT (2) [] 0 :: syT 60 [] :: nuT (n) [] 0 :: syT 59 po :: rE := hE
  have y0 : P.drop j = (24, i + 2) :: (23, i + 6) :: (5, i + 9) :: (259, i + 11) :: (47, i + 12) :: (45, i + 12) :: (259, i + 13) :: (60, i + 14) :: (27, i + 14) :: (59, i + 14) :: rP := hP
  obtain ⟨t0, x1⟩ := TKs (k := 91) (r := 0) x0 rfl rfl rfl
  obtain ⟨t1, x2⟩ := TKs (k := 24) (r := 0) x1 rfl rfl rfl
  obtain ⟨t2, x3⟩ := TKs (k := 258) (r := 12) x2 rfl rfl rfl
  obtain ⟨t3, x4⟩ := TKs (k := 93) (r := 0) x3 rfl rfl rfl
  obtain ⟨t4, x5⟩ := TKs (k := 27) (r := 0) x4 rfl rfl rfl
  obtain ⟨t5, x6⟩ := TKs (k := 23) (r := 0) x5 rfl rfl rfl
  obtain ⟨t6, x7⟩ := TKs (k := 258) (r := 12) x6 rfl rfl rfl
  obtain ⟨t7, x8⟩ := TKs (k := 45) (r := 0) x7 rfl rfl rfl
  obtain ⟨t8, x9⟩ := TKs (k := 5) (r := 0) x8 rfl rfl rfl
  obtain ⟨t9, x10⟩ := TKs (k := 258) (r := 13) x9 rfl rfl rfl
  obtain ⟨t10, x11⟩ := TKs (k := 47) (r := 0) x10 rfl rfl rfl
  obtain ⟨t11, x12⟩ := TKs (k := 259) (r := 0) x11 rfl rfl (v0_num (by decide))
  obtain ⟨t12, x13⟩ := TKs (k := 60) (r := 0) x12 rfl rfl rfl
  obtain ⟨t13, x14⟩ := TKs (k := 259) (r := 0) x13 rfl rfl (v0_num hn)
  obtain ⟨tE, x15⟩ := TKs (k := 59) (r := 0) x14 rfl rfl rfl
  obtain ⟨p0, y1⟩ := OPs y0
  obtain ⟨p1, y2⟩ := OPs y1
  obtain ⟨p2, y3⟩ := OPs y2
  obtain ⟨p3, y4⟩ := OPs y3
  obtain ⟨p4, y5⟩ := OPs y4
  obtain ⟨p5, y6⟩ := OPs y5
  obtain ⟨p6, y7⟩ := OPs y6
  obtain ⟨p7, y8⟩ := OPs y7
  obtain ⟨p8, y9⟩ := OPs y8
  obtain ⟨p9, y10⟩ := OPs y9
  exact ⟨(rd_40_1 (rd_41_2 (rd_42_br (by decide) t0 (rd_40_1 (rd_41_1 (rd_42_in (Or.inl rfl) t1 t2 p0) (by rw [t3.2.1]; decide)) (by rw [t3.2.1]; decide)) t3) t4 (rd_42_c (rd_43 (rd_44_2 (rd_45_1 (rd_name (Or.inr (Or.inr (Or.inl rfl))) t5 t6 p1) (by rw [t7.2.1]; decide) (by rw [t7.2.1]; decide)) (Or.inr rfl) t7 (rd_45_2 (rd_hard t8 t9 p2) (Or.inr (rfl)) t10 (rd_num (Or.inl rfl) t11 p3) p4 (by rw [t12.2.1]; decide) (by rw [t12.2.1]; decide)) p5 (by rw [t12.2.1]; decide) (by rw [t12.2.1]; decide)) (Or.inl rfl) t12 (rd_44_1 (rd_45_1 (rd_num (Or.inl rfl) t13 p6) (by rw [tE.2.1]; decide) (by rw [tE.2.1]; decide)) (by rw [tE.2.1]; decide) (by rw [tE.2.1]; decide)) p7) (by rw [t5.2.1]; decide) (by rw [t5.2.1]; decide) (by rw [t5.2.1]; decide) (by rw [t5.2.1]; decide)) p8 (by rw [tE.2.1]; decide)) (by rw [tE.2.1]; decide)), p9, tE, x15, y10⟩
theorem rd_t7 (hn : n < 100) (hE : E.drop i = testL 7 s n v ++ (syT 59 po :: rE)) (hP : P.drop j = testP 7 i ++ rP) : RD u E P (d + 12) 40 0 i j (i + 3) (j + 3) ∧ OPx P (j + 3) 59 (i + 3) ∧ TK E (i + 3) 59 0 ∧ E.drop (i + 4) = rE ∧ P.drop (j + 4) = rP := by
  have x0 : E.drop i = nuT (1) [] 0 :: syT 61 [] :: nuT (1) [] 0 :: syT 59 po :: rE := hE
  have y0 : P.drop j = (259, i) :: (259, i + 2) :: (61, i + 3) :: (59, i + 3) :: rP := hP
  obtain ⟨t0, x1⟩ := TKs (k := 259) (r := 0) x0 rfl rfl (v0_num (by decide))
  obtain ⟨t1, x2⟩ := TKs (k := 61) (r := 0) x1 rfl rfl rfl
  obtain ⟨t2, x3⟩ := TKs (k := 259) (r := 0) x2 rfl rfl (v0_num (by decide))
  obtain ⟨tE, x4⟩ := TKs (k := 59) (r := 0) x3 rfl rfl rfl
  obtain ⟨p0, y1⟩ := OPs y0
  obtain ⟨p1, y2⟩ := OPs y1
  obtain ⟨p2, y3⟩ := OPs y2
  obtain ⟨p3, y4⟩ := OPs y3
  exact ⟨(rd_40_1 (rd_41_1 (rd_42_c (rd_43 (rd_44_1 (rd_45_1 (rd_num (Or.inl rfl) t0 p0) (by rw [t1.2.1]; decide) (by rw [t1.2.1]; decide)) (by rw [t1.2.1]; decide) (by rw [t1.2.1]; decide)) (Or.inr (Or.inr (Or.inl rfl))) t1 (rd_44_1 (rd_45_1 (rd_num (Or.inl rfl) t2 p1) (by rw [tE.2.1]; decide) (by rw [tE.2.1]; decide)) (by rw [tE.2.1]; decide) (by rw [tE.2.1]; decide)) p2) (by rw [t0.2.1]; decide) (by rw [t0.2.1]; decide) (by rw [t0.2.1]; decide) (by rw [t0.2.1]; decide)) (by rw [tE.2.1]; decide)) (by rw [tE.2.1]; decide)), p3, tE, x4, y4⟩
theorem rd_t8 (hn : n < 100) (hE : E.drop i = testL 8 s n v ++ (syT 59 po :: rE)) (hP : P.drop j = testP 8 i ++ rP) : RD u E P (d + 12) 40 0 i j (i + 13) (j + 9) ∧ OPx P (j + 9) 59 (i + 13) ∧ TK E (i + 13) 59 0 ∧ E.drop (i + 14) = rE ∧ P.drop (j + 10) = rP := by
  have x0 : E.drop i = kwT 29 [] :: syT 40 [] :: kwT 21 [32] :: nmT 115 s [] 12 :: syT 44 [] :: nuT (n) [] 0 :: syT 41 [] :: syT 42 [] :: nuT (2) [] 0 :: syT 62 [] :: kwT 19 [] :: syT 47 [] :: nuT (3) [] 0 :: syT 59 po :: rE := hE
  have y0 : P.drop j = (21, i + 3) :: (259, i + 5) :: (29, i + 6) :: (259, i + 8) :: (42, i + 9) :: (19, i + 10) :: (259, i + 12) :: (47, i + 13) :: (62, i + 13) :: (59, i + 13) :: rP := hP
  obtain ⟨t0, x1⟩ := TKs (k := 29) (r := 0) x0 rfl rfl rfl
  obtain ⟨t1, x2⟩ := TKs (k := 40) (r := 0) x1 rfl rfl rfl
  obtain ⟨t2, x3⟩ := TKs (k := 21) (r := 0) x2 rfl rfl rfl
  obtain ⟨t3, x4⟩ := TKs (k := 258) (r := 12) x3 rfl rfl rfl
  obtain ⟨t4, x5⟩ := TKs (k := 44) (r := 0) x4 rfl rfl rfl
  obtain ⟨t5, x6⟩ := TKs (k := 259) (r := 0) x5 rfl rfl (v0_num hn)
  obtain ⟨t6, x7⟩ := TKs (k := 41) (r := 0) x6 rfl rfl rfl
  obtain ⟨t7, x8⟩ := TKs (k := 42) (r := 0) x7 rfl rfl rfl
  obtain ⟨t8, x9⟩ := TKs (k := 259) (r := 0) x8 rfl rfl (v0_num (by decide))
  obtain ⟨t9, x10⟩ := TKs (k := 62) (r := 0) x9 rfl rfl rfl
  obtain ⟨t10, x11⟩ := TKs (k := 19) (r := 0) x10 rfl rfl rfl
  obtain ⟨t11, x12⟩ := TKs (k := 47) (r := 0) x11 rfl rfl rfl
  obtain ⟨t12, x13⟩ := TKs (k := 259) (r := 0) x12 rfl rfl (v0_num (by decide))
  obtain ⟨tE, x14⟩ := TKs (k := 59) (r := 0) x13 rfl rfl rfl
  obtain ⟨p0, y1⟩ := OPs y0
  obtain ⟨p1, y2⟩ := OPs y1
  obtain ⟨p2, y3⟩ := OPs y2
  obtain ⟨p3, y4⟩ := OPs y3
  obtain ⟨p4, y5⟩ := OPs y4
  obtain ⟨p5, y6⟩ := OPs y5
  obtain ⟨p6, y7⟩ := OPs y6
  obtain ⟨p7, y8⟩ := OPs y7
  obtain ⟨p8, y9⟩ := OPs y8
  obtain ⟨p9, y10⟩ := OPs y9
  exact ⟨(rd_40_1 (rd_41_1 (rd_42_c (rd_43 (rd_44_1 (rd_45_2 (rd_min (by decide) t0 t1 (rd_44_1 (rd_45_1 (rd_name (Or.inl rfl) t2 t3 p0) (by rw [t4.2.1]; decide) (by rw [t4.2.1]; decide)) (by rw [t4.2.1]; decide) (by rw [t4.2.1]; decide)) t4 (rd_44_1 (rd_45_1 (rd_num (Or.inl rfl) t5 p1) (by rw [t6.2.1]; decide) (by rw [t6.2.1]; decide)) (by rw [t6.2.1]; decide) (by rw [t6.2.1]; decide)) p2 t6) (Or.inl rfl) t7 (rd_num (Or.inl rfl) t8 p3) p4 (by rw [t9.2.1]; decide) (by rw [t9.2.1]; decide)) (by rw [t9.2.1]; decide) (by rw [t9.2.1]; decide)) (Or.inr (Or.inl rfl)) t9 (rd_44_1 (rd_45_2 (rd_num (Or.inr (Or.inl rfl)) t10 p5) (Or.inr (rfl)) t11 (rd_num (Or.inl rfl) t12 p6) p7 (by rw [tE.2.1]; decide) (by rw [tE.2.1]; decide)) (by rw [tE.2.1]; decide) (by rw [tE.2.1]; decide)) p8) (by rw [t0.2.1]; decide) (by rw [t0.2.1]; decide) (by rw [t0.2.1]; decide) (by rw [t0.2.1]; decide)) (by rw [tE.2.1]; decide)) (by rw [tE.2.1]; decide)), p9, tE, x14, y10⟩
end
