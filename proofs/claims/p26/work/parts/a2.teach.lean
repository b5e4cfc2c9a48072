/-! ===== teach, on a whole list ===== -/
section
variable {d : Nat} {u w w1 : MW} {tx : List Nat} {E : List Tk} {P : List (Nat × Nat)} {C : CD}
theorem frX.out (h : frX u w) {c : Nat} (hc : ¬ gF c) (k : Nat) : mI w c k = mI u c k := by
  obtain ⟨J, rfl, a⟩ := h
  exact a c k hc
theorem frX.fb (h : frX u w) : frB 170 220 u w := by
  obtain ⟨J, rfl, a⟩ := h
  exact ⟨J, rfl, fun c j hc => a c j (by unfold gF; omega)⟩
theorem c_teach (hc : CfOk C) (hn : KnOk C) (hr : RgOk C) (hs : SpOk C) (hs2 : 2 ≤ C 0 0 3) (hq1 : 1 ≤ C 0 0 4) (hE : E = EL C) (hP : P = PL C) (hE4 : E.length ≤ 399) (hP4 : P.length ≤ 400) (hl : lexL E = true) (hf : flat E = tx) (htl : tx.length < 2000) (hR : ∀ j, tR (E.getD j tk0) < 21)
    (hT : TP u tx) (hX : TX u) (h0 : ∀ c, (197 ≤ c ∧ c ≤ 213) ∨ c = 219 → ∀ j, mI u c j = nI 0) (h3 : mI u 218 3 = nI 0) (hb : mI u 220 11 = nI NEG) :
    ∃ w', mK (d + 17) 98 [.ref 166] u = some (.inl (some (.int (nI 0))), w') ∧ GW w' C (begM C 0) ∧ frB 166 248 u w' := by
  have eE : mE = 166 := rfl
  have k := hT.1
  obtain ⟨w1, e1, x1⟩ := c_split (d := d + 9) hT hX hE4 htl hl hf
  have k1 : KW w1 := x1.1.kw k
  obtain ⟨w2, e2, g2⟩ := c_read (d := d + 1) hc hn hE hP k1 x1 hl hE4 hP4
  have k2 := g2.k
  have fx : frX w1 w2 := g2.2.1
  obtain ⟨f1, s1, r1⟩ := x1
  have eT : E.getD E.length tk0 = tk0 := by rw [List.getD_eq_getElem?_getD, List.getElem?_eq_none (Nat.le_refl _)]; rfl
  have hK := lexL_kd E hl
  have out2 : ∀ c j, ¬ gF c → c < 169 ∨ 175 ≤ c → mI w2 c j = mI u c j := fun c j h1 h2 => by
    rw [fx.out h1, f1.out h2]
  have S2 : SU w2 tx E := by
    refine ⟨⟨k2, ?_, hT.2.2.1, fun p hp => ?_, hT.2.2.2.2⟩, hE4, fun j => ⟨hK j, hR j⟩, ?_, fun j hj => ⟨g2.2.2.2.1 j hj, ?_⟩, fun j hj => ?_⟩
    · rw [out2 167 1 (by unfold gF; omega) (Or.inl (by decide))]; exact hT.2.1
    · rw [out2 168 p (by unfold gF; omega) (Or.inl (by decide))]; exact hT.2.2.2.1 p hp
    · rw [fx.out (by unfold gF; omega)]; exact s1
    · rw [g2.2.2.2.2.1 j hj]
      by_cases z : j < E.length
      · rw [if_pos z]
      · rw [if_neg z, show j = E.length by omega, eT]; rfl
    · obtain ⟨s, a, b, c⟩ := (r1 j (by omega)).2.2.2 hj
      exact ⟨s, by rw [fx.out (by unfold gF; omega)]; exact a, b, by rw [fx.out (by unfold gF; omega)]; exact c⟩
  have V2 : ∀ j, j ≤ E.length → mI w2 174 j = nI (tV (E.getD j tk0)) := fun j hj => by
    rw [g2.2.2.2.2.2.1 j hj]
    by_cases z : j < E.length
    · rw [if_pos (Or.inl z)]
    · rw [if_neg (by rintro (q | q); exact z q; exact absurd q.2 (by decide)), show j = E.length by omega, eT]; rfl
  obtain ⟨w3, e3, f3, cf3, hf3, kf3⟩ := c_tread (d := d + 11) hc hn hr hs hE hP hP4 S2 (fun c h j => by rw [out2 c j (by unfold gF; omega) (Or.inr (by omega))]; exact h0 c h j) (by rw [out2 218 3 (by unfold gF; omega) (Or.inr (by omega))]; exact h3) V2 g2.sz (fun j hj => g2.2.2.2.2.2.2 j hj)
  have k3 := f3.kw k2
  -- the error's place, and the tape's length
  have k4 : KW (wI w3 166 8 (-1 : Int32)) := k3.wI
  have k5 : KW (wI (wI w3 166 8 (-1 : Int32)) 167 1 (nI 0)) := k4.wI
  have f5 : frB 166 168 w3 (wI (wI w3 166 8 (-1 : Int32)) 167 1 (nI 0)) := ((frB.refl _ _ _).set (by decide) (by decide)).set (by decide) (by decide)
  have n5 : mI (wI (wI w3 166 8 (-1 : Int32)) 167 1 (nI 0)) 167 1 = nI 0 := by rw [miI, if_pos ⟨rfl, rfl⟩]
  have t9 : ∀ {w : MW}, KW w → mTg w 166 = 9 := fun k => k.tg 166 (by decide) (by decide)
  have r0 : ∀ {w : MW}, KW w → gR w 166 0 = 167 ∧ gR w 166 1 = 169 ∧ gR w 166 2 = 175 ∧ gR w 166 3 = 196 ∧ gR w 166 4 = 217 ∧ gR w 166 5 = 218 ∧ gR w 166 6 = 220 := fun k => ⟨gR_of (k.rf 1 (by decide)), gR_of (k.rf 8 (by decide)), gR_of (k.rf 29 (by decide)), gR_of (k.rf 50 (by decide)), gR_of (k.rf 53 (by decide)), gR_of (k.rf 57 (by decide)), gR_of (k.rf 86 (by decide))⟩
  have r9 : ∀ {w : MW}, KW w → mR w 166 0 = some (gR w 166 0) ∧ mR w 166 1 = some (gR w 166 1) ∧ mR w 166 2 = some (gR w 166 2) ∧ mR w 166 3 = some (gR w 166 3) ∧ mR w 166 4 = some (gR w 166 4) ∧ mR w 166 5 = some (gR w 166 5) ∧ mR w 166 6 = some (gR w 166 6) := fun k => by
    obtain ⟨a, b, c, d, e, f, g⟩ := r0 k
    rw [a, b, c, d, e, f, g]
    exact ⟨k.rf 1 (by decide), k.rf 8 (by decide), k.rf 29 (by decide), k.rf 50 (by decide), k.rf 53 (by decide), k.rf 57 (by decide), k.rf 86 (by decide)⟩
  have b57 := @b_98_57 (d + 17) 166 (nI 0) (-1 : Int32) 166 w3 (t9 k3) (by omega) (t9 k4) (r9 k4).1 (by rw [(r0 k4).1]; exact k4.tg 167 (by decide) (by decide)) (by rw [(r0 k4).1]; omega)
  rw [(r0 k4).1, if_neg (fun q => q rfl)] at b57
  generalize hw5 : wI (wI w3 166 8 (-1 : Int32)) 167 1 (nI 0) = w5 at f5 n5 k5 b57
  have same5 : ∀ c, 168 ≤ c → mI w5 c = mI w3 c := fun c h => f5.out (Or.inr h)
  have cf5 : CF w5 196 C := cf3.same (fun c h1 h2 => same5 c (by omega))
  have hf5 : HF w5 196 C := fun v hv => by rw [same5 _ (by omega)]; exact hf3 v hv
  have kf5 : KF w5 196 C := fun s h => ⟨by rw [same5 _ (by omega)]; exact (kf3 s h).1, fun q hq => by rw [same5 _ (by omega)]; exact (kf3 s h).2 q hq⟩
  obtain ⟨w6, e6, f6, cf6, hf6, kf6⟩ := c_copyTold (d := d + 13) k5 cf5 hf5 kf5 hc
  have k6 := f6.kw k5
  have hb6 : mI w6 220 11 = nI NEG := by
    rw [f6.out (Or.inr (by decide)), same5 220 (by decide), f3.out (Or.inr (by decide)), out2 220 11 (by unfold gF; omega) (Or.inr (by decide))]
    exact hb
  obtain ⟨w7, e7, J, rfl, j1, j2⟩ := c_begin (d := d + 13) k6.bT220 k6.tT175 cf6 hf6 kf6 hc hb6 hs2 hq1
  have k7 : KW (wJ w6 J) := k6
  have same7 : ∀ c, c < 220 → mI (wJ w6 J) c = mI w6 c := fun c h => funext fun j => j1 c j (Or.inl h)
  refine ⟨wJ w6 J, ?_, ⟨k7.qT, ?_, ⟨k7.bT220, k7.tT175, cf6.same (fun c h1 h2 => same7 c (by omega)), fun v hv => by rw [same7 _ (by omega)]; exact hf6 v hv, hc, j2⟩, k7.bT248⟩, ?_⟩
  · rw [e_98, b_98_0 (t9 k) (r9 k).2.1 (by rw [(r0 k).2.1]; exact k.t7), (r0 k).2.1, e1]
    simp only [mThen_ok, Option.toList_some, Option.toList_none, List.cons_append, List.nil_append]
    rw [b_98_7 (t9 k1) (r9 k1).2.2.2.2.1 (by rw [(r0 k1).2.2.2.2.1]; exact k1.t2), (r0 k1).2.2.2.2.1, e2]
    simp only [mThen_ok, Option.toList_some, Option.toList_none, List.cons_append, List.nil_append]
    rw [b_98_16, if_neg (jneg_nle (by decide)), b_98_21 (t9 k2) (r9 k2).2.2.2.2.2.1 (by rw [(r0 k2).2.2.2.2.2.1]; exact k2.t6), (r0 k2).2.2.2.2.2.1, e3]
    simp only [mThen_ok, Option.toList_some, Option.toList_none, List.cons_append, List.nil_append]
    rw [b_98_28 (t9 k3) (r9 k3).2.2.2.2.2.1 (by rw [(r0 k3).2.2.2.2.2.1]; exact k3.t6), b_98_37, if_neg (fun q => q rfl), b_98_42, b57, b_98_72 (t9 k5) (r9 k5).2.2.1 (r9 k5).2.2.2.1 (by rw [(r0 k5).2.2.1]; exact k5.tg 175 (by decide) (by decide)), (r0 k5).2.2.1, (r0 k5).2.2.2.1, e6]
    simp only [mThen_ok, Option.toList_some, Option.toList_none, List.cons_append, List.nil_append]
    rw [b_98_83 (t9 k6) (r9 k6).2.2.2.2.2.2 (by rw [(r0 k6).2.2.2.2.2.2]; exact k6.tg 220 (by decide) (by decide)), (r0 k6).2.2.2.2.2.2, e7]
    simp only [mThen_ok, Option.toList_some, Option.toList_none, List.cons_append, List.nil_append]
    rw [b_98_90]
  · rw [same7 167 (by decide), f6.out (Or.inl (by decide))]
    exact n5
  · have a1 : frB 166 248 u w1 := f1.mono (by decide) (by decide)
    have a2 : frB 166 248 w1 w2 := fx.fb.mono (by decide) (by decide)
    have a3 : frB 166 248 w2 w3 := f3.mono (by decide) (by decide)
    have a5 : frB 166 248 w3 w5 := f5.mono (by decide) (by decide)
    have a6 : frB 166 248 w5 w6 := f6.mono (by decide) (by decide)
    have a7 : frB 166 248 w6 (wJ w6 J) := ⟨J, rfl, fun c j h => j1 c j (by omega)⟩
    exact ((((a1.trans a2).trans a3).trans a5).trans a6).trans a7
end
