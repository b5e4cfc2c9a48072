/-! ===== the law's own list, whole ===== -/
theorem wrt : WRT := by
  intro u d hk hx hd h1 l1 hs hz hg
  have eE : mE = 166 := rfl
  have cb := CU_cb u
  have b1 := cb.1
  have h0 : WS u u [] 0 := ⟨hs, hx, hd, fun c _ => ⟨rfl, rfl, rfl, rfl⟩, by omega, gz.refl _ _⟩
  obtain ⟨w1, e1, a1, z1, t1, r7, r8, t7, l7, i7, i1, t8, l8⟩ := wr_beg (d := d + 13) h0 hz h1 l1
  obtain ⟨w2, e2, a2, k2, t82, l82, v82⟩ := wr_tons (d := d + 13) (T := CU u 0 0 0) (e := 290) h1 l1 (by omega) (CU u 0 0 0) 0 _ w1 [] (by omega) a1 (Nat.zero_le _) t1 r8 t8 l8 ⟨by decide, by omega⟩ (fun j hj => absurd hj (Nat.not_lt_zero _))
  have x2 : kpX (fun c => c = 290) w1 w2 := ⟨k2.1, k2.2⟩
  have s2 := x2.at (c := 278) ⟨by decide, by omega⟩ (by decide) (Or.inl t1)
  have s279 := x2.at (c := 279) ⟨by decide, by omega⟩ (by decide) (Or.inr (Or.inl t7))
  have q2 := x2.1
  have g8 : gR w2 278 8 = 290 := gR_of (by rw [s2.2.2.2]; exact r8)
  have E2 : EA w2 u := by
    unfold EA
    rw [g8, s2.1, s2.2.2.2]
    exact ⟨t1, r8, t82, l82, ⟨rfl, by omega⟩, v82⟩
  have n1 : (flat (secL (tonL (CU u)) (CU u 0 0 0) 0)).length ≤ CU u 0 0 0 * 25 := sec_mu (μ := fl) (f := tonL (CU u)) (B := CU u 0 0 0) (W := 25) rfl fl_app (fun k _ => fl_ton) (CU u 0 0 0) 0 (by omega)
  have n2 : (flat (secL (rooL (CU u)) (CU u 0 0 1) 0)).length ≤ CU u 0 0 1 * 44 := sec_mu (μ := fl) (f := rooL (CU u)) (B := CU u 0 0 1) (W := 44) rfl fl_app (fun k _ => fl_roo) (CU u 0 0 1) 0 (by omega)
  have n3 : (flat (secL (worL (CU u)) (CU u 0 0 2) 0)).length ≤ CU u 0 0 2 * 32 := sec_mu (μ := fl) (f := worL (CU u)) (B := CU u 0 0 2) (W := 32) rfl fl_app (fun k _ => fl_wor (cb.2.2.2.1 k).2.1) (CU u 0 0 2) 0 (by omega)
  have n4 : (flat (secL (speL (CU u)) (CU u 0 0 3) 0)).length ≤ CU u 0 0 3 * 80 := sec_mu (μ := fl) (f := speL (CU u)) (B := CU u 0 0 3) (W := 80) rfl fl_app (fun k _ => fl_spe (cb.2.2.2.2.1 k).2.1.2) (CU u 0 0 3) 0 (by omega)
  have n5 : (flat (secL (rouL (CU u)) (CU u 0 0 4) 0)).length ≤ CU u 0 0 4 * 60 := sec_mu (μ := fl) (f := rouL (CU u)) (B := CU u 0 0 4) (W := 60) rfl fl_app (fun k _ => fl_rou (cb.2.2.2.2.2.2.1 k).2.2.2.1) (CU u 0 0 4) 0 (by omega)
  have a2 : WS u w2 ([] ++ flat (secL (tonL (CU u)) (CU u 0 0 0) 0)) (0 + 12 + 1 + 5 * CU u 0 0 0) := a2
  obtain ⟨w3, e3, a3, R9, S3⟩ := wr_roots (d := d + 13) h1 l1 a2 (by simp only [List.length_append, List.length_nil]; omega) E2
  obtain ⟨w4, e4, a4, R10, R11, S4⟩ := wr_words (d := d + 13) h1 l1 a3 (by simp only [List.length_append, List.length_nil]; omega) R9.a
  have E3 := E2.sx S3 (by decide)
  have E4 := E3.sx S4 (by decide)
  have R9a := R9.sx S4 (by decide)
  have q3 := S3.1.1
  have q4 := S4.1.1
  obtain ⟨w5, e5, a5, R12, R13, R14, S5⟩ := wr_spells (d := d + 13) h1 l1 a4 (by simp only [List.length_append, List.length_nil]; omega) E4 R9a.a (by omega)
  have R10a := R10.sx S5 (by decide)
  obtain ⟨w6, e6, a6, R15, R16, S6⟩ := wr_rounds (d := d + 13) h1 l1 a5 (by simp only [List.length_append, List.length_nil]; omega) R10a.a
  have R10b := R10a.sx S6 (by decide)
  obtain ⟨w7, e7, a7, R17, S7⟩ := wr_orders (d := d + 12) h1 l1 a6 (by simp only [List.length_append, List.length_nil]; omega) R10b.a
  have q5 := S5.1.1
  have q6 := S6.1.1
  have q7 := S7.1.1
  have ST7 := (((S3.trans S4).trans S5).trans S6).trans S7
  have j278 : mI w7 278 = mI w1 278 := ST7.2.2.1.trans s2.2.2.1
  have j7 : mR w7 278 7 = some 279 := by rw [ST7.2.2.2 7 (by decide), s2.2.2.2]; exact r7
  have j279 := ST7.1.at (c := 279) ⟨by decide, by omega⟩ (by decide) (Or.inr (Or.inl (s279.1.trans t7)))
  have F7 : FIN w7 u (mSz w2 + 1) (mSz w3) (mSz w4) (mSz w5) (mSz w6) (mSz w7) := by
    refine ⟨⟨((R9a.sx S5 (by decide)).sx S6 (by decide)).sx S7 (by decide), R10b.sx S7 (by decide), ((R11.sx S5 (by decide)).sx S6 (by decide)).sx S7 (by decide)⟩, ⟨(R12.sx S6 (by decide)).sx S7 (by decide), (R13.sx S6 (by decide)).sx S7 (by decide), (R14.sx S6 (by decide)).sx S7 (by decide)⟩, ⟨R15.sx S7 (by decide), R16.sx S7 (by decide), R17⟩, ((E4.sx S5 (by decide)).sx S6 (by decide)).sx S7 (by decide), ⟨by omega, by have := R9.b; omega⟩, j7, j279.1.trans (s279.1.trans t7), j279.2.1.trans (s279.2.1.trans l7), fun j => ?_⟩
    rw [j279.2.2.1, s279.2.2.1]; exact i7 j
  have F8 := F7.w1 (x := nI 0)
  have t278 : mTg w7 278 = 10 := (ST7.2.1.trans s2.1).trans t1
  have et : (((((([] ++ flat (secL (tonL (CU u)) (CU u 0 0 0) 0)) ++ flat (secL (rooL (CU u)) (CU u 0 0 1) 0)) ++ flat (secL (worL (CU u)) (CU u 0 0 2) 0)) ++ flat (secL (speL (CU u)) (CU u 0 0 3) 0)) ++ flat (secL (rouL (CU u)) (CU u 0 0 4) 0)) ++ flat (ordsL (CU u) (CU u 0 0 5) 0 0)) = flat (EL (CU u)) := by
    unfold EL headL
    simp only [flat_app, List.append_assoc, List.nil_append]
  rw [et] at a7
  have a8 := a7.sm (j := 0) (w' := wI w7 278 1 (nI 0)) (sm.wI (X := fun c => 278 ≤ c ∧ ¬ mTg w7 c = 51) ⟨Nat.le_refl _, by rw [t278]; decide⟩) (gz.refl _ _)
  obtain ⟨y1, y2, y3, y4, y5, y6⟩ := a8
  refine ⟨wI w7 278 1 (nI 0), 278, ?_, F8.sw (fun j => ?_), F8.sb, y1, y4, y5, ?_, ?_⟩
  · refine Eq.trans e1 (Eq.trans e2 (Eq.trans e3 (Eq.trans e4 (Eq.trans e5 (Eq.trans e6 (Eq.trans e7 ?_))))))
    rw [b_167_1183 t278 (by omega), b_167_1188]
  · rw [miI]
    by_cases z : j = 1
    · rw [if_pos ⟨rfl, z⟩]
    · rw [if_neg (fun q => z q.2), j278]; exact i1 j z
  · have := y6.1
    omega
  · have := y6.2
    omega
