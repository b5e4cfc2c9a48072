/-! ===== the law's own list: a tongue is written ===== -/
section
variable {d k t T e : Nat} {u w : MW} {tx : List Nat}
theorem ton_tx (C : CD) (ht : t < 10) : ((((tx ++ sB 55) ++ dec t) ++ sB 56) ++ dec (C 1 t 0)) ++ (if t % 2 = 0 then sB 57 else sB 58) = tx ++ flat (tonL C t) := by
  rw [dec1 ht]
  by_cases z : t % 2 = 0
  · rw [if_pos z]
    have e : flat (tonL C t) = sB 55 ++ ([48 + t] ++ (sB 56 ++ (dec (C 1 t 0) ++ sB 57))) := by
      unfold tonL
      rw [if_pos z, if_pos z]
      rfl
    rw [e]
    simp only [List.append_assoc]
  · rw [if_neg z]
    have e : flat (tonL C t) = sB 55 ++ ([48 + t] ++ (sB 56 ++ (dec (C 1 t 0) ++ sB 58))) := by
      unfold tonL
      rw [if_neg z, if_neg z]
      rfl
    rw [e]
    simp only [List.append_assoc]
theorem wr_ton (h : WS u w tx k) (hl : tx.length ≤ 2000) (h1 : mTg u 1 = 50) (l1 : mLn u 1 < 2147483648) (hσ : mTg w 278 = 10) (r8 : mR w 278 8 = some e) (te : mTg w e = 50) (le : mLn w e = T) (ht : t < T) (hT : T ≤ 3) (he : 280 ≤ e ∧ e < mSz w) :
    ∃ w', mX (d + 7) 167 27 [.ref 1, .ref 276, .ref 278, .int (nI t), mJ, mJ, mJ, mJ, mJ] [] w = mX (d + 7) 167 27 [.ref 1, .ref 276, .ref 278, .int (nI (t + 1)), mJ, mJ, mJ, mJ, mJ] [] w' ∧ WS u w' (tx ++ flat (tonL (CS (ce u 1)) t)) (k + 5) ∧ kpW (wI w e t (nI (CS (ce u 1) 1 t 0))) w' := by
  have eE : mE = 166 := rfl
  have g8 : gR w 278 8 = e := gR_of r8
  have s8 : mR w 278 8 = some (gR w 278 8) := by rw [g8, r8]
  have hz : 278 < mSz w := by omega
  have cE : CS (ce u 1) 1 t 0 = bl (ce u 1 0 >>> ((nI 3 * nI t + nI 2) &&& 31)) 5 := rfl
  have vb : CS (ce u 1) 1 t 0 < 5 := by rw [cE]; exact bl_lt _ (by decide)
  generalize hv : CS (ce u 1) 1 t 0 = v at vb cE
  have h0 : WS u (wI w e t (nI v)) tx (k + 0) := h.sm (sm.wI (X := fun c => 278 ≤ c ∧ ¬ mTg w c = 51) ⟨by omega, by rw [te]; decide⟩) (gz.refl _ _)
  rw [Nat.add_zero] at h0
  have q55 := sB_le (i := 55) (by decide)
  have q56 := sB_le (i := 56) (by decide)
  have dt := (dec_len t).1
  have dv := (dec_len v).1
  obtain ⟨w1, e1, a1, b1⟩ := h0.app (d := d) (i := 55) (by decide) (by omega)
  obtain ⟨w2, e2, a2, b2⟩ := a1.appI (d := d) (n := t) (by omega) (by rw [List.length_append]; omega)
  obtain ⟨w3, e3, a3, b3⟩ := a2.app (d := d) (i := 56) (by decide) (by simp only [List.length_append]; omega)
  have b03 := (b1.trans b2).trans b3
  have c278 := b03.2 278 (by decide) hz (by rw [mTg_wI, hσ]; decide) (by rw [mTg_wI, hσ]; decide) (by rw [mTg_wI, hσ]; decide)
  have ce0 := b03.2 e (by omega) he.2 (by rw [mTg_wI, te]; decide) (by rw [mTg_wI, te]; decide) (by rw [mTg_wI, te]; decide)
  have g83 : gR w3 278 8 = e := by unfold gR; rw [c278.2.2.2]; exact g8
  have s83 : mR w3 278 8 = some (gR w3 278 8) := by rw [g83, c278.2.2.2]; exact r8
  have t83 : mTg w3 278 = 10 := c278.1.trans hσ
  have te3 : mTg w3 e = 50 := ce0.1.trans te
  have le3 : mLn w3 e = T := ce0.2.1.trans le
  have v3 : mI w3 e t = nI v := by rw [ce0.2.2.1, mI_wI, if_pos ⟨rfl, rfl⟩]
  obtain ⟨w4, e4, a4, b4⟩ := a3.appI (d := d) (n := v) (by omega) (by simp only [List.length_append]; omega)
  obtain ⟨w5, e5, a5, b5⟩ := a4.app (d := d) (i := if t % 2 = 0 then 57 else 58) (by split <;> decide) (by simp only [List.length_append]; omega)
  have tx5 : ((((tx ++ sB 55) ++ dec t) ++ sB 56) ++ dec v) ++ sB (if t % 2 = 0 then 57 else 58) = tx ++ flat (tonL (CS (ce u 1)) t) := by
    rw [← ton_tx (CS (ce u 1)) (by omega), hv]
    congr 1
    split <;> rfl
  rw [tx5] at a5
  refine ⟨w5, ?_, a5, (b03.trans b4).trans b5⟩
  rw [b_167_27 hσ s8 (by rw [g8, te]; decide), g8, le, ijle (by omega) (by omega), if_neg (by omega), b_167_36 hσ s8, g8, h.cell h1 l1 (by decide)]
  simp only [mThen_ok, Option.toList_some, Option.toList_none, List.cons_append, List.nil_append]
  rw [b_167_46, c_below _ (by decide) (by decide), ← cE]
  simp only [mThen_ok, Option.toList_some, Option.toList_none, List.cons_append, List.nil_append]
  rw [b_167_56 te (by omega) (by omega) (by omega), b_167_57 h0.1.1, e1]
  simp only [mThen_ok, Option.toList_some, Option.toList_none, List.cons_append, List.nil_append]
  rw [b_167_63 a1.1.1, e2]
  simp only [mThen_ok, Option.toList_some, Option.toList_none, List.cons_append, List.nil_append]
  rw [b_167_67 a2.1.1, e3]
  simp only [mThen_ok, Option.toList_some, Option.toList_none, List.cons_append, List.nil_append]
  rw [b_167_72 t83 s83 (by rw [g83]; exact te3) (by omega) (by rw [g83, le3]; exact ht) a3.1.1, g83, v3, e4]
  simp only [mThen_ok, Option.toList_some, Option.toList_none, List.cons_append, List.nil_append]
  have p : nI t - nI t / nI 2 * nI 2 = nI (t % 2) := by
    rw [jdiv (by omega) (by decide), jmul, jsub (by omega)]
    congr 1
    omega
  rw [b_167_81, p, ijne (by omega) (by decide)]
  by_cases z : t % 2 = 0
  · rw [if_pos z] at e5
    rw [if_neg (fun q => q z), b_167_87, b_167_94 a4.1.1, e5]
    simp only [mThen_ok, Option.toList_some, Option.toList_none, List.cons_append, List.nil_append]
    rw [b_167_97, jadd]
  · rw [if_neg z] at e5
    rw [if_pos z, b_167_92, b_167_94 a4.1.1, e5]
    simp only [mThen_ok, Option.toList_some, Option.toList_none, List.cons_append, List.nil_append]
    rw [b_167_97, jadd]
end
