/-! ===== the list is taken over; teach ===== -/
section
variable {d n z : Nat} {u w w1 : MW} {tx : List Nat} {E : List Tk} {P : List (Nat × Nat)} {C : CD}
/-- n rows are taken over -/
def CPY (n : Nat) (w w' : MW) : Prop := frB 176 196 w w' ∧ ∀ f, f < n → ∀ j, j < rl f → mI w' (176 + f) j = mI w (197 + f) j
theorem KW.rd2 (k : KW w) (a : Nat) (ha : a < 17) : mTg w (176 + a) = 50 ∧ mLn w (176 + a) = rl a := by
  have e : a = 0 ∨ a = 1 ∨ a = 2 ∨ a = 3 ∨ a = 4 ∨ a = 5 ∨ a = 6 ∨ a = 7 ∨ a = 8 ∨ a = 9 ∨ a = 10 ∨ a = 11 ∨ a = 12 ∨ a = 13 ∨ a = 14 ∨ a = 15 ∨ a = 16 := by omega
  rcases e with rfl | rfl | rfl | rfl | rfl | rfl | rfl | rfl | rfl | rfl | rfl | rfl | rfl | rfl | rfl | rfl | rfl <;> exact ⟨k.tg _ (by decide) (by decide), k.ln _ (by decide) (by decide)⟩
theorem cpy_step (k : KW w) (hn : n < 17) (h : CPY n w w1) : ∃ w2, mK (d + 1) 125 [.ref (197 + n), .ref (176 + n)] w1 = some (.inl none, w2) ∧ CPY (n + 1) w w2 := by
  have eE : mE = 166 := rfl
  have k1 := h.1.kw k
  obtain ⟨a1, a2⟩ := k1.rd n hn
  obtain ⟨b1, b2⟩ := k1.rd2 n hn
  have hl := rl_lt n hn
  have c := c_copy (d := d) a1 b1 (by omega) (by omega) (by omega)
  refine ⟨_, c, ?_⟩
  obtain ⟨⟨J, rfl, a⟩, g⟩ := h
  have b2' : mLn (wJ w J) (176 + n) = rl n := b2
  have a2' : mLn (wJ w J) (197 + n) = rl n := a2
  refine ⟨⟨jr J (176 + n) (fun k => if k < min (mLn (wJ w J) (197 + n)) (mLn (wJ w J) (176 + n)) then J (197 + n) k else J (176 + n) k), rfl, fun c j hc => ?_⟩, fun f hf j hj => ?_⟩
  · unfold jr
    rw [if_neg (by omega)]
    exact a c j hc
  · show jr J (176 + n) (fun k => if k < min (mLn (wJ w J) (197 + n)) (mLn (wJ w J) (176 + n)) then J (197 + n) k else J (176 + n) k) (176 + f) j = _
    unfold jr
    by_cases z : f = n
    · subst z
      rw [if_pos rfl, a2', b2', Nat.min_self]
      exact (if_pos hj).trans (a _ _ (Or.inr (by omega)))
    · rw [if_neg (by omega)]
      exact g f (by omega) j hj
/-- the told list holds what the draft holds -/
theorem c_copyTold (k : KW w) (hc : CF w 196 C) (hh : HF w 196 C) (hkf : KF w 196 C) (hk : CfOk C) : ∃ w', mK (d + 3) 94 [.ref 175, .ref 196] w = some (.inl none, w') ∧ frB 176 196 w w' ∧ CF w' 175 C ∧ HF w' 175 C ∧ KF w' 175 C := by
  have eE : mE = 166 := rfl
  have c0 : CPY 0 w w := ⟨frB.refl _ _ _, fun f hf => absurd hf (by omega)⟩
  obtain ⟨w1, e1, c1⟩ := cpy_step (d := d + 1) k (by decide) c0
  have k1 := c1.1.kw k
  obtain ⟨w2, e2, c2⟩ := cpy_step (d := d + 1) k (by decide) c1
  have k2 := c2.1.kw k
  obtain ⟨w3, e3, c3⟩ := cpy_step (d := d + 1) k (by decide) c2
  have k3 := c3.1.kw k
  obtain ⟨w4, e4, c4⟩ := cpy_step (d := d + 1) k (by decide) c3
  have k4 := c4.1.kw k
  obtain ⟨w5, e5, c5⟩ := cpy_step (d := d + 1) k (by decide) c4
  have k5 := c5.1.kw k
  obtain ⟨w6, e6, c6⟩ := cpy_step (d := d + 1) k (by decide) c5
  have k6 := c6.1.kw k
  obtain ⟨w7, e7, c7⟩ := cpy_step (d := d + 1) k (by decide) c6
  have k7 := c7.1.kw k
  obtain ⟨w8, e8, c8⟩ := cpy_step (d := d + 1) k (by decide) c7
  have k8 := c8.1.kw k
  obtain ⟨w9, e9, c9⟩ := cpy_step (d := d + 1) k (by decide) c8
  have k9 := c9.1.kw k
  obtain ⟨w10, e10, c10⟩ := cpy_step (d := d + 1) k (by decide) c9
  have k10 := c10.1.kw k
  obtain ⟨w11, e11, c11⟩ := cpy_step (d := d + 1) k (by decide) c10
  have k11 := c11.1.kw k
  obtain ⟨w12, e12, c12⟩ := cpy_step (d := d + 1) k (by decide) c11
  have k12 := c12.1.kw k
  obtain ⟨w13, e13, c13⟩ := cpy_step (d := d + 1) k (by decide) c12
  have k13 := c13.1.kw k
  obtain ⟨w14, e14, c14⟩ := cpy_step (d := d + 1) k (by decide) c13
  have k14 := c14.1.kw k
  obtain ⟨w15, e15, c15⟩ := cpy_step (d := d + 1) k (by decide) c14
  have k15 := c15.1.kw k
  obtain ⟨w16, e16, c16⟩ := cpy_step (d := d + 1) k (by decide) c15
  have k16 := c16.1.kw k
  obtain ⟨w17, e17, c17⟩ := cpy_step (d := d + 1) k (by decide) c16
  have k17 := c17.1.kw k
  obtain ⟨f17, g17⟩ := c17
  -- the code
  have t1 : ∀ {w : MW}, KW w → mTg w 193 = 1 ∧ mTg w 214 = 1 := fun k => ⟨k.tg 193 (by decide) (by decide), k.tg 214 (by decide) (by decide)⟩
  have q0 : ∀ {w : MW}, KW w → gR w 193 0 = 194 ∧ gR w 193 1 = 195 := fun k => ⟨gR_of (k.rf 26 (by decide)), gR_of (k.rf 27 (by decide))⟩
  have q1 : ∀ {w : MW}, KW w → mR w 193 0 = some (gR w 193 0) ∧ mR w 193 1 = some (gR w 193 1) := fun k => by
    rw [(q0 k).1, (q0 k).2]; exact ⟨k.rf 26 (by decide), k.rf 27 (by decide)⟩
  have y1 := c_copy (d := d) (a := 215) (b := 194) (w := w17) (k17.tg 215 (by decide) (by decide)) (k17.tg 194 (by decide) (by decide)) (by omega) (by rw [k17.ln 215 (by decide) (by decide)]; decide) (by rw [k17.ln 194 (by decide) (by decide)]; decide)
  rw [k17.ln 215 (by decide) (by decide), k17.ln 194 (by decide) (by decide)] at y1
  generalize hJ1 : jr (mI w17) 194 (fun k => if k < min (cL.getD (215 - 166) (0, 0)).2 (cL.getD (194 - 166) (0, 0)).2 then mI w17 215 k else mI w17 194 k) = J1 at y1
  have k18 : KW (wJ w17 J1) := k17
  have m1 : ∀ c j, ¬ c = 194 → J1 c j = mI w17 c j := fun c j hc => by rw [← hJ1]; unfold jr; rw [if_neg hc]
  have m2 : ∀ j, j < 400 → J1 194 j = mI w17 215 j := fun j hj => by rw [← hJ1]; unfold jr; rw [if_pos rfl]; exact if_pos hj
  have y2 := c_copy (d := d) (a := 216) (b := 195) (w := wJ w17 J1) (k18.tg 216 (by decide) (by decide)) (k18.tg 195 (by decide) (by decide)) (by omega) (by rw [k18.ln 216 (by decide) (by decide)]; decide) (by rw [k18.ln 195 (by decide) (by decide)]; decide)
  rw [k18.ln 216 (by decide) (by decide), k18.ln 195 (by decide) (by decide), wJ_wJ, mI_wJ] at y2
  generalize hJ2 : jr J1 195 (fun k => if k < min (cL.getD (216 - 166) (0, 0)).2 (cL.getD (195 - 166) (0, 0)).2 then J1 216 k else J1 195 k) = J2 at y2
  have k19 : KW (wJ w17 J2) := k17
  have m3 : ∀ c j, ¬ c = 195 → J2 c j = J1 c j := fun c j hc => by rw [← hJ2]; unfold jr; rw [if_neg hc]
  have m4 : ∀ j, j < 400 → J2 195 j = J1 216 j := fun j hj => by rw [← hJ2]; unfold jr; rw [if_pos rfl]; exact if_pos hj
  have ht : ∀ {w : MW}, KW w → tT w 175 := fun k => k.tT175
  have F : frB 176 196 w (wI (wJ w17 J2) 193 2 (J2 214 2)) := by
    refine frB.set ?_ (by decide) (by decide)
    obtain ⟨J, rfl, a⟩ := f17
    refine ⟨J2, wJ_wJ _ _ _, fun c j hcj => ?_⟩
    rw [m3 c j (by omega), m1 c j (by omega)]
    exact a c j hcj
  have src : ∀ c, 196 ≤ c → ∀ j, J2 c j = mI w c j := fun c h j => by
    rw [m3 c j (by omega), m1 c j (by omega)]
    exact congrFun (f17.out (Or.inr h)) j
  have row : ∀ f, f < 17 → ∀ j, j < rl f → mI (wI (wJ w17 J2) 193 2 (J2 214 2)) (176 + f) j = mI w (197 + f) j := fun f hf j hj => by
    rw [miI, if_neg (by omega), mI_wJ, m3 _ _ (by omega), m1 _ _ (by omega)]
    exact g17 f hf j hj
  have o1 : ∀ j, j < 400 → mI (wI (wJ w17 J2) 193 2 (J2 214 2)) 194 j = mI w 215 j := fun j hj => by
    rw [miI, if_neg (by omega), mI_wJ, m3 _ _ (by omega), m2 j hj]
    exact congrFun (f17.out (Or.inr (by decide))) j
  have o2 : ∀ j, j < 400 → mI (wI (wJ w17 J2) 193 2 (J2 214 2)) 195 j = mI w 216 j := fun j hj => by
    rw [miI, if_neg (by omega), mI_wJ, m4 j hj, m1 _ _ (by omega)]
    exact congrFun (f17.out (Or.inr (by decide))) j
  have hb := hk.1
  refine ⟨wI (wJ w17 J2) 193 2 (J2 214 2), ?_, F, ?_, fun v hv => (row 7 (by decide) v (by show v < 12; omega)).trans (hh v hv), fun s hs => ⟨(row 8 (by decide) s (by show s < 6; omega)).trans (hkf s hs).1, fun q hq => (row 9 (by decide) _ (by show _ < 30; omega)).trans ((hkf s hs).2 q hq)⟩⟩
  · rw [e_94]
    rw [b_94_0 k.tT196.t0 k.tT196.s0_0 k.tT175.t0 k.tT175.s0_0, k.tT196.g0_0, k.tT175.g0_0, e1]
    simp only [mThen_ok, Option.toList_some, Option.toList_none, List.cons_append, List.nil_append]
    rw [b_94_11 k1.tT196.t0 k1.tT196.s0_1 k1.tT175.t0 k1.tT175.s0_1, k1.tT196.g0_1, k1.tT175.g0_1, e2]
    simp only [mThen_ok, Option.toList_some, Option.toList_none, List.cons_append, List.nil_append]
    rw [b_94_22 k2.tT196.t0 k2.tT196.s0_2 k2.tT175.t0 k2.tT175.s0_2, k2.tT196.g0_2, k2.tT175.g0_2, e3]
    simp only [mThen_ok, Option.toList_some, Option.toList_none, List.cons_append, List.nil_append]
    rw [b_94_33 k3.tT196.t0 k3.tT196.s0_3 k3.tT175.t0 k3.tT175.s0_3, k3.tT196.g0_3, k3.tT175.g0_3, e4]
    simp only [mThen_ok, Option.toList_some, Option.toList_none, List.cons_append, List.nil_append]
    rw [b_94_44 k4.tT196.t0 k4.tT196.s0_4 k4.tT175.t0 k4.tT175.s0_4, k4.tT196.g0_4, k4.tT175.g0_4, e5]
    simp only [mThen_ok, Option.toList_some, Option.toList_none, List.cons_append, List.nil_append]
    rw [b_94_55 k5.tT196.t0 k5.tT196.s0_5 k5.tT175.t0 k5.tT175.s0_5, k5.tT196.g0_5, k5.tT175.g0_5, e6]
    simp only [mThen_ok, Option.toList_some, Option.toList_none, List.cons_append, List.nil_append]
    rw [b_94_66 k6.tT196.t0 k6.tT196.s0_6 k6.tT175.t0 k6.tT175.s0_6, k6.tT196.g0_6, k6.tT175.g0_6, e7]
    simp only [mThen_ok, Option.toList_some, Option.toList_none, List.cons_append, List.nil_append]
    rw [b_94_77 k7.tT196.t0 k7.tT196.s0_7 k7.tT175.t0 k7.tT175.s0_7, k7.tT196.g0_7, k7.tT175.g0_7, e8]
    simp only [mThen_ok, Option.toList_some, Option.toList_none, List.cons_append, List.nil_append]
    rw [b_94_88 k8.tT196.t0 k8.tT196.s0_8 k8.tT175.t0 k8.tT175.s0_8, k8.tT196.g0_8, k8.tT175.g0_8, e9]
    simp only [mThen_ok, Option.toList_some, Option.toList_none, List.cons_append, List.nil_append]
    rw [b_94_99 k9.tT196.t0 k9.tT196.s0_9 k9.tT175.t0 k9.tT175.s0_9, k9.tT196.g0_9, k9.tT175.g0_9, e10]
    simp only [mThen_ok, Option.toList_some, Option.toList_none, List.cons_append, List.nil_append]
    rw [b_94_110 k10.tT196.t0 k10.tT196.s0_10 k10.tT175.t0 k10.tT175.s0_10, k10.tT196.g0_10, k10.tT175.g0_10, e11]
    simp only [mThen_ok, Option.toList_some, Option.toList_none, List.cons_append, List.nil_append]
    rw [b_94_121 k11.tT196.t0 k11.tT196.s0_11 k11.tT175.t0 k11.tT175.s0_11, k11.tT196.g0_11, k11.tT175.g0_11, e12]
    simp only [mThen_ok, Option.toList_some, Option.toList_none, List.cons_append, List.nil_append]
    rw [b_94_132 k12.tT196.t0 k12.tT196.s0_12 k12.tT175.t0 k12.tT175.s0_12, k12.tT196.g0_12, k12.tT175.g0_12, e13]
    simp only [mThen_ok, Option.toList_some, Option.toList_none, List.cons_append, List.nil_append]
    rw [b_94_143 k13.tT196.t0 k13.tT196.s0_13 k13.tT175.t0 k13.tT175.s0_13, k13.tT196.g0_13, k13.tT175.g0_13, e14]
    simp only [mThen_ok, Option.toList_some, Option.toList_none, List.cons_append, List.nil_append]
    rw [b_94_154 k14.tT196.t0 k14.tT196.s0_14 k14.tT175.t0 k14.tT175.s0_14, k14.tT196.g0_14, k14.tT175.g0_14, e15]
    simp only [mThen_ok, Option.toList_some, Option.toList_none, List.cons_append, List.nil_append]
    rw [b_94_165 k15.tT196.t0 k15.tT196.s0_15 k15.tT175.t0 k15.tT175.s0_15, k15.tT196.g0_15, k15.tT175.g0_15, e16]
    simp only [mThen_ok, Option.toList_some, Option.toList_none, List.cons_append, List.nil_append]
    rw [b_94_176 k16.tT196.t0 k16.tT196.s0_16 k16.tT175.t0 k16.tT175.s0_16, k16.tT196.g0_16, k16.tT175.g0_16, e17]
    simp only [mThen_ok, Option.toList_some, Option.toList_none, List.cons_append, List.nil_append]
    rw [b_94_187 k17.tT175.t0 k17.tT175.s0_17 k17.tT196.t0 k17.tT196.s0_17 (by rw [k17.tT175.g0_17]; exact k17.tT175.t18), k17.tT175.g0_17, k17.tT196.g0_17, e_32, b_32_0 (t1 k17).2 k17.s10 (t1 k17).1 (q1 k17).1, k17.g10, (q0 k17).1, y1]
    simp only [mThen_ok, Option.toList_some, Option.toList_none, List.cons_append, List.nil_append]
    rw [b_32_11 (t1 k18).2 k18.s11 (t1 k18).1 (q1 k18).2, k18.g11, (q0 k18).2, y2]
    simp only [mThen_ok, Option.toList_some, Option.toList_none, List.cons_append, List.nil_append]
    rw [b_32_22 (t1 k19).2 (t1 k19).1 (by omega)]
    simp only [mThen_ok, Option.toList_some, Option.toList_none, List.cons_append, List.nil_append]
    rw [b_94_198]
    rfl
  · obtain ⟨f1, f2, f3, f4, f5, f6, f7, f8⟩ := hc
    refine ⟨fun j hj => (row 0 (by decide) j hj).trans (f1 j hj), fun q hq => (row 1 (by decide) q (by show q < 5; omega)).trans (f2 q hq), fun r hr => ⟨(row 2 (by decide) r (by show r < 10; omega)).trans (f3 r hr).1, (row 3 (by decide) r (by show r < 10; omega)).trans (f3 r hr).2.1, (row 4 (by decide) r (by show r < 10; omega)).trans (f3 r hr).2.2⟩, fun v hv => ⟨(row 5 (by decide) v (by show v < 12; omega)).trans (f4 v hv).1, fun p hp => (row 6 (by decide) _ (by have := (hk.2.2.2.1 v hv).2.1; show _ < 48; omega)).trans ((f4 v hv).2 p hp)⟩, fun s hs => ⟨(row 8 (by decide) s (by show s < 6; omega)).trans (f5 s hs).1, fun q hq => (row 9 (by decide) _ (by show _ < 30; omega)).trans ((f5 s hs).2 q hq)⟩, fun q hq => ⟨(row 10 (by decide) q (by show q < 5; omega)).trans (f6 q hq).1, (row 11 (by decide) q (by show q < 5; omega)).trans (f6 q hq).2.1, (row 12 (by decide) q (by show q < 5; omega)).trans (f6 q hq).2.2.1, fun p hp => (row 13 (by decide) _ (by have := (hk.2.2.2.2.2.1 q hq).2.2.2.2.1; show _ < 40; omega)).trans ((f6 q hq).2.2.2 p hp)⟩, fun o ho => ⟨(row 14 (by decide) o (by show o < 20; omega)).trans (f7 o ho).1, (row 15 (by decide) o (by show o < 20; omega)).trans (f7 o ho).2⟩, ?_⟩
    obtain ⟨P, z, g1, g2, g3⟩ := f8
    refine ⟨P, z, g1, ?_, fun o ho => ⟨(row 16 (by decide) o (by show o < 20; omega)).trans (g3 o ho).1, (g3 o ho).2.1, fun i a b h => ?_⟩⟩
    · show mI (wI (wJ w17 J2) 193 2 (J2 214 2)) 193 2 = _
      rw [miI, if_pos ⟨rfl, rfl⟩, src 214 (by decide)]
      exact g2
    · have hl : i < (codeM C o).length := (List.getElem?_eq_some_iff.mp h).1
      have := (g3 o ho).2.1
      exact ⟨(o1 _ (by omega)).trans ((g3 o ho).2.2 i a b h).1, fun ha => (o2 _ (by omega)).trans (((g3 o ho).2.2 i a b h).2 ha)⟩
end
