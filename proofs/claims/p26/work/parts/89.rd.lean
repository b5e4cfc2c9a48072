/-! ===== the grammar's readings: by program (wip/p26/mkrd.py) ===== -/
section
variable {d i n i1 n1 i2 n2 l k : Nat} {u : MW} {E : List Tk} {P : List (Nat × Nat)}
/-- token i is of a kind and gets a role; its value stays -/
def TK (E : List Tk) (i k r : Nat) : Prop := i < E.length ∧ tK (E.getD i tk0) = k ∧ tR (E.getD i tk0) = r ∧ tV (E.getD i tk0) = v0 (E.getD i tk0)
/-- operation n is this -/
def OPx (P : List (Nat × Nat)) (n op arg : Nat) : Prop := n < P.length ∧ P.getD n (0, 0) = (op, arg)
theorem c_takeT {o : Bool} {w : MW} {r : Nat} (h : GI u w E P i n o) (t : TK E i k r) : ∃ w', mK (d + 1) 35 [.ref 217, .int (nI k), .int (nI r)] w = some (.inl (some (.int (nI 1))), w') ∧ GI u w' E P (i + 1) n false := c_take h t.1 t.2.1 t.2.2.1 (Or.inr t.2.2.2)
theorem GI.kt {o : Bool} {w : MW} {r : Nat} (h : GI u w E P i n o) (t : TK E i k r) : mI w 217 3 = nI k := by rw [h.kd, t.2.1]
theorem rd_num (hk : k = 259 ∨ k = 19 ∨ k = 20) (t : TK E i k 0) (p : OPx P n k i) : RD u E P (d + 2) 46 l i n (i + 1) (n + 1) := by
  intro w h
  obtain ⟨w1, e1, h1⟩ := c_opAdd (d := d) h p.1 p.2
  obtain ⟨w2, e2, h2⟩ := c_takeT (d := d) h1 t
  refine ⟨w2, ?_, h2⟩
  have z : mX (d + 2) 46 0 [.ref 217, .int (nI l), mJ] [] w = mX (d + 2) 46 112 [.ref 217, mJ, .int (nI k)] [] w := by
    have q := h.kt t
    rcases hk with rfl | rfl | rfl
    · rw [s_46_0_259 h.k.t2 q, q]
    · rw [s_46_0_19 h.k.t2 q, q]
    · rw [s_46_0_20 h.k.t2 q, q]
  rw [e_46, z, b_46_112 h.k.t2 h.k.s21 h.k.t21, h.k.g21, h.he, e1]
  simp only [mThen_ok, Option.toList_some, Option.toList_none, List.cons_append, List.nil_append]
  rw [b_46_124 h1.k.t2, e2]
  simp only [mThen_ok, Option.toList_some, Option.toList_none, List.cons_append, List.nil_append]
  rw [b_46_130 kr1]
theorem rd_name (hk : k = 21 ∨ k = 22 ∨ k = 23 ∨ k = 9) (t : TK E i k 0) (t2 : TK E (i + 1) 258 12) (p : OPx P n k (i + 1)) : RD u E P (d + 2) 46 l i n (i + 2) (n + 1) := by
  intro w h
  obtain ⟨w1, e1, h1⟩ := c_opAdd (d := d) h p.1 p.2
  obtain ⟨w2, e2, h2⟩ := c_takeT (d := d) h1 t
  obtain ⟨w3, e3, h3⟩ := c_takeT (d := d) h2 t2
  refine ⟨w3, ?_, h3⟩
  have z : mX (d + 2) 46 0 [.ref 217, .int (nI l), mJ] [] w = mX (d + 2) 46 131 [.ref 217, mJ, .int (nI k)] [] w := by
    have q := h.kt t
    rcases hk with rfl | rfl | rfl | rfl
    · rw [s_46_0_21 h.k.t2 q, q]
    · rw [s_46_0_22 h.k.t2 q, q]
    · rw [s_46_0_23 h.k.t2 q, q]
    · rw [s_46_0_9 h.k.t2 q, q]
  rw [e_46, z, b_46_131 h.k.t2 h.k.s21 h.k.t21, h.k.g21, h.he, jadd, e1]
  simp only [mThen_ok, Option.toList_some, Option.toList_none, List.cons_append, List.nil_append]
  rw [b_46_145 h1.k.t2, e2]
  simp only [mThen_ok, Option.toList_some, Option.toList_none, List.cons_append, List.nil_append]
  rw [b_46_151, if_neg n10, b_46_154 h2.k.t2, e3]
  simp only [mThen_ok, Option.toList_some, Option.toList_none, List.cons_append, List.nil_append]
  rw [b_46_163, if_neg n10, b_46_166, b_46_171 kr1]
theorem rd_hard (t : TK E i 5 0) (t2 : TK E (i + 1) 258 13) (p : OPx P n 5 (i + 1)) : RD u E P (d + 2) 46 l i n (i + 2) (n + 1) := by
  intro w h
  obtain ⟨w1, e1, h1⟩ := c_opAdd (d := d) h p.1 p.2
  obtain ⟨w2, e2, h2⟩ := c_takeT (d := d) h1 t
  obtain ⟨w3, e3, h3⟩ := c_takeT (d := d) h2 t2
  refine ⟨w3, ?_, h3⟩
  have z : mX (d + 2) 46 0 [.ref 217, .int (nI l), mJ] [] w = mX (d + 2) 46 172 [.ref 217, mJ, .int (nI 5)] [] w := by
    have q := h.kt t
    rw [s_46_0_5 h.k.t2 q, q]
  rw [e_46, z, b_46_172 h.k.t2 h.k.s21 h.k.t21, h.k.g21, h.he, jadd, e1]
  simp only [mThen_ok, Option.toList_some, Option.toList_none, List.cons_append, List.nil_append]
  rw [b_46_186 h1.k.t2, e2]
  simp only [mThen_ok, Option.toList_some, Option.toList_none, List.cons_append, List.nil_append]
  rw [b_46_192, if_neg n10, b_46_195 h2.k.t2, e3]
  simp only [mThen_ok, Option.toList_some, Option.toList_none, List.cons_append, List.nil_append]
  rw [b_46_204, if_neg n10, b_46_207, b_46_212 kr1]
theorem rd_min (hl : l < 8) (t : TK E i 29 0) (t2 : TK E (i + 1) 40 0) (a : RD u E P (d + 2) 44 (l + 1) (i + 2) n i1 n1) (t3 : TK E i1 44 0) (b : RD u E P (d + 2) 44 (l + 1) (i1 + 1) n1 i2 n2) (p : OPx P n2 29 i2) (t4 : TK E i2 41 0) : RD u E P (d + 3) 46 l i n (i2 + 1) (n2 + 1) := by
  intro w h
  obtain ⟨w1, e1, h1⟩ := c_takeT (d := d + 1) h t
  obtain ⟨w2, e2, h2⟩ := c_takeT (d := d + 1) h1 t2
  obtain ⟨w3, e3, h3⟩ := a w2 h2
  obtain ⟨w4, e4, h4⟩ := c_takeT (d := d + 1) h3 t3
  obtain ⟨w5, e5, h5⟩ := b w4 h4
  obtain ⟨w6, e6, h6⟩ := c_opAdd (d := d + 1) h5 p.1 p.2
  obtain ⟨w7, e7, h7⟩ := c_takeT (d := d + 1) h6 t4
  refine ⟨w7, ?_, h7⟩
  have z : mX (d + 3) 46 0 [.ref 217, .int (nI l), mJ] [] w = mX (d + 3) 46 299 [.ref 217, .int (nI l), .int (nI 29)] [] w := by
    have q := h.kt t
    rw [s_46_0_29 h.k.t2 q, q]
  rw [e_46, z, b_46_299 h.k.t2, e1]
  simp only [mThen_ok, Option.toList_some, Option.toList_none, List.cons_append, List.nil_append]
  rw [b_46_305, if_neg n10, b_46_308, ijle (by decide) (by omega), if_neg (by omega), b_46_314 h1.k.t2, e2]
  simp only [mThen_ok, Option.toList_some, Option.toList_none, List.cons_append, List.nil_append]
  rw [b_46_321, if_neg n10, b_46_324 h2.k.t2, jadd, e3]
  simp only [mThen_ok, Option.toList_some, Option.toList_none, List.cons_append, List.nil_append]
  rw [b_46_331, if_neg n10, b_46_334 h3.k.t2, e4]
  simp only [mThen_ok, Option.toList_some, Option.toList_none, List.cons_append, List.nil_append]
  rw [b_46_341, if_neg n10, b_46_344 h4.k.t2, jadd, e5]
  simp only [mThen_ok, Option.toList_some, Option.toList_none, List.cons_append, List.nil_append]
  rw [b_46_351, if_pos n10, b_46_356 h5.k.t2 h5.k.s21 h5.k.t21, h5.k.g21, h5.he, e6]
  simp only [mThen_ok, Option.toList_some, Option.toList_none, List.cons_append, List.nil_append]
  rw [b_46_368 h6.k.t2, e7]
  simp only [mThen_ok, Option.toList_some, Option.toList_none, List.cons_append, List.nil_append]
  rw [b_46_375 kr1]
theorem rd_45e {w : MW} {q : Nat} (hq : q < 400) (h : GI u w E P i n false) (h1 : ¬ tK (E.getD i tk0) = 42) (h2 : ¬ tK (E.getD i tk0) = 47) : mX (d + 2) 45 12 [.ref 217, .int (nI l), .int (nI q), mJ] [] w = some (.inl (some (.int (nI 1))), w) := by
  have := h.kl i
  rw [b_45_12, ijle (by decide) (by omega), if_neg (by omega), b_45_19 h.k.t2, h.kd, ijeq (by omega) (by decide), if_neg h1, b_45_28 h.k.t2, h.kd, ijne (by omega) (by decide), if_pos h2, b_45_79]
theorem rd_45s {w : MW} {q : Nat} (hq : q < 400) (h : GI u w E P i n false) (hk : k = 42 ∨ k = 47) (t : TK E i k 0) (a : RD u E P (d + 1) 46 l (i + 1) n i1 n1) (p : OPx P n1 k i1) : ∃ w', mX (d + 2) 45 12 [.ref 217, .int (nI l), .int (nI q), mJ] [] w = mX (d + 2) 45 12 [.ref 217, .int (nI l), .int (nI (q + 1)), mJ] [] w' ∧ GI u w' E P i1 (n1 + 1) false := by
  obtain ⟨w1, e1, g1⟩ := c_takeT (d := d) h t
  obtain ⟨w2, e2, g2⟩ := a w1 g1
  obtain ⟨w3, e3, g3⟩ := c_opAdd (d := d) g2 p.1 p.2
  refine ⟨w3, ?_, g3⟩
  have z : mX (d + 2) 45 19 [.ref 217, .int (nI l), .int (nI q), mJ] [] w = mX (d + 2) 45 37 [.ref 217, .int (nI l), .int (nI q), mJ] [] w := by
    rw [b_45_19 h.k.t2, h.kt t]
    rcases hk with rfl | rfl
    · rw [if_pos rfl]
    · rw [if_neg (by decide +kernel), b_45_28 h.k.t2, h.kt t, if_neg (fun q => q rfl)]
  rw [b_45_12, ijle (by decide) (by omega), if_neg (by omega), z, b_45_37 h.k.t2, h.kt t, e1]
  simp only [mThen_ok, Option.toList_some, Option.toList_none, List.cons_append, List.nil_append]
  rw [b_45_48, if_neg n10, b_45_51 g1.k.t2, e2]
  simp only [mThen_ok, Option.toList_some, Option.toList_none, List.cons_append, List.nil_append]
  rw [b_45_56, if_pos n10, b_45_61 g2.k.t2 g2.k.s21 g2.k.t21, g2.k.g21, g2.he, e3]
  simp only [mThen_ok, Option.toList_some, Option.toList_none, List.cons_append, List.nil_append]
  rw [b_45_73, jadd]
theorem rd_45_1 (a : RD u E P (d + 1) 46 l i n i1 n1) (h1 : ¬ tK (E.getD i1 tk0) = 42) (h2 : ¬ tK (E.getD i1 tk0) = 47) : RD u E P (d + 2) 45 l i n i1 n1 := by
  intro w h
  obtain ⟨w1, e1, g1⟩ := a w h
  refine ⟨w1, ?_, g1⟩
  rw [e_45, b_45_0 h.k.t2, e1]
  simp only [mThen_ok, Option.toList_some, Option.toList_none, List.cons_append, List.nil_append]
  rw [b_45_5, if_pos n10, b_45_10, rd_45e (by decide) g1 h1 h2]
theorem rd_45_2 (a : RD u E P (d + 1) 46 l i n i1 n1) (hk : k = 42 ∨ k = 47) (t : TK E i1 k 0) (b : RD u E P (d + 1) 46 l (i1 + 1) n1 i2 n2) (p : OPx P n2 k i2) (h1 : ¬ tK (E.getD i2 tk0) = 42) (h2 : ¬ tK (E.getD i2 tk0) = 47) : RD u E P (d + 2) 45 l i n i2 (n2 + 1) := by
  intro w h
  obtain ⟨w1, e1, g1⟩ := a w h
  obtain ⟨w2, e2, g2⟩ := rd_45s (q := 0) (by decide) g1 hk t b p
  refine ⟨w2, ?_, g2⟩
  rw [e_45, b_45_0 h.k.t2, e1]
  simp only [mThen_ok, Option.toList_some, Option.toList_none, List.cons_append, List.nil_append]
  rw [b_45_5, if_pos n10, b_45_10, e2, rd_45e (by decide) g2 h1 h2]
theorem rd_44e {w : MW} {q : Nat} (hq : q < 400) (h : GI u w E P i n false) (h1 : ¬ tK (E.getD i tk0) = 43) (h2 : ¬ tK (E.getD i tk0) = 45) : mX (d + 2) 44 12 [.ref 217, .int (nI l), .int (nI q), mJ] [] w = some (.inl (some (.int (nI 1))), w) := by
  have := h.kl i
  rw [b_44_12, ijle (by decide) (by omega), if_neg (by omega), b_44_19 h.k.t2, h.kd, ijeq (by omega) (by decide), if_neg h1, b_44_28 h.k.t2, h.kd, ijne (by omega) (by decide), if_pos h2, b_44_79]
theorem rd_44s {w : MW} {q : Nat} (hq : q < 400) (h : GI u w E P i n false) (hk : k = 43 ∨ k = 45) (t : TK E i k 0) (a : RD u E P (d + 1) 45 l (i + 1) n i1 n1) (p : OPx P n1 k i1) : ∃ w', mX (d + 2) 44 12 [.ref 217, .int (nI l), .int (nI q), mJ] [] w = mX (d + 2) 44 12 [.ref 217, .int (nI l), .int (nI (q + 1)), mJ] [] w' ∧ GI u w' E P i1 (n1 + 1) false := by
  obtain ⟨w1, e1, g1⟩ := c_takeT (d := d) h t
  obtain ⟨w2, e2, g2⟩ := a w1 g1
  obtain ⟨w3, e3, g3⟩ := c_opAdd (d := d) g2 p.1 p.2
  refine ⟨w3, ?_, g3⟩
  have z : mX (d + 2) 44 19 [.ref 217, .int (nI l), .int (nI q), mJ] [] w = mX (d + 2) 44 37 [.ref 217, .int (nI l), .int (nI q), mJ] [] w := by
    rw [b_44_19 h.k.t2, h.kt t]
    rcases hk with rfl | rfl
    · rw [if_pos rfl]
    · rw [if_neg (by decide +kernel), b_44_28 h.k.t2, h.kt t, if_neg (fun q => q rfl)]
  rw [b_44_12, ijle (by decide) (by omega), if_neg (by omega), z, b_44_37 h.k.t2, h.kt t, e1]
  simp only [mThen_ok, Option.toList_some, Option.toList_none, List.cons_append, List.nil_append]
  rw [b_44_48, if_neg n10, b_44_51 g1.k.t2, e2]
  simp only [mThen_ok, Option.toList_some, Option.toList_none, List.cons_append, List.nil_append]
  rw [b_44_56, if_pos n10, b_44_61 g2.k.t2 g2.k.s21 g2.k.t21, g2.k.g21, g2.he, e3]
  simp only [mThen_ok, Option.toList_some, Option.toList_none, List.cons_append, List.nil_append]
  rw [b_44_73, jadd]
theorem rd_44_1 (a : RD u E P (d + 1) 45 l i n i1 n1) (h1 : ¬ tK (E.getD i1 tk0) = 43) (h2 : ¬ tK (E.getD i1 tk0) = 45) : RD u E P (d + 2) 44 l i n i1 n1 := by
  intro w h
  obtain ⟨w1, e1, g1⟩ := a w h
  refine ⟨w1, ?_, g1⟩
  rw [e_44, b_44_0 h.k.t2, e1]
  simp only [mThen_ok, Option.toList_some, Option.toList_none, List.cons_append, List.nil_append]
  rw [b_44_5, if_pos n10, b_44_10, rd_44e (by decide) g1 h1 h2]
theorem rd_44_2 (a : RD u E P (d + 1) 45 l i n i1 n1) (hk : k = 43 ∨ k = 45) (t : TK E i1 k 0) (b : RD u E P (d + 1) 45 l (i1 + 1) n1 i2 n2) (p : OPx P n2 k i2) (h1 : ¬ tK (E.getD i2 tk0) = 43) (h2 : ¬ tK (E.getD i2 tk0) = 45) : RD u E P (d + 2) 44 l i n i2 (n2 + 1) := by
  intro w h
  obtain ⟨w1, e1, g1⟩ := a w h
  obtain ⟨w2, e2, g2⟩ := rd_44s (q := 0) (by decide) g1 hk t b p
  refine ⟨w2, ?_, g2⟩
  rw [e_44, b_44_0 h.k.t2, e1]
  simp only [mThen_ok, Option.toList_some, Option.toList_none, List.cons_append, List.nil_append]
  rw [b_44_5, if_pos n10, b_44_10, e2, rd_44e (by decide) g2 h1 h2]
theorem rd_43 (a : RD u E P (d + 1) 44 l i n i1 n1) (hk : k = 60 ∨ k = 62 ∨ k = 61 ∨ k = 256 ∨ k = 257) (t : TK E i1 k 0) (b : RD u E P (d + 1) 44 l (i1 + 1) n1 i2 n2) (p : OPx P n2 k i2) : RD u E P (d + 2) 43 l i n i2 (n2 + 1) := by
  intro w h
  obtain ⟨w1, e1, g1⟩ := a w h
  obtain ⟨w2, e2, g2⟩ := c_takeT (d := d) g1 t
  obtain ⟨w3, e3, g3⟩ := b w2 g2
  obtain ⟨w4, e4, g4⟩ := c_opAdd (d := d) g3 p.1 p.2
  refine ⟨w4, ?_, g4⟩
  have z : mX (d + 2) 43 10 [.ref 217, .int (nI l), mJ, mJ] [] w1 = mX (d + 2) 43 47 [.ref 217, .int (nI l), .int (nI k), mJ] [] w1 := by
    rw [b_43_10 g1.k.t2, g1.kt t]
    rcases hk with rfl | rfl | rfl | rfl | rfl
    · rw [if_pos rfl]
    · rw [if_neg (by decide +kernel), b_43_21, if_pos rfl]
    · rw [if_neg (by decide +kernel), b_43_21, if_neg (by decide +kernel), b_43_27, if_pos rfl]
    · rw [if_neg (by decide +kernel), b_43_21, if_neg (by decide +kernel), b_43_27, if_neg (by decide +kernel), b_43_33, if_pos rfl]
    · rw [if_neg (by decide +kernel), b_43_21, if_neg (by decide +kernel), b_43_27, if_neg (by decide +kernel), b_43_33, if_neg (by decide +kernel), b_43_40, if_neg (fun q => q rfl)]
  rw [e_43, b_43_0 h.k.t2, e1]
  simp only [mThen_ok, Option.toList_some, Option.toList_none, List.cons_append, List.nil_append]
  rw [b_43_5, if_pos n10, z, b_43_47, b_43_52, if_neg n10, b_43_57 g1.k.t2, e2]
  simp only [mThen_ok, Option.toList_some, Option.toList_none, List.cons_append, List.nil_append]
  rw [b_43_63, if_neg n10, b_43_66 g2.k.t2, e3]
  simp only [mThen_ok, Option.toList_some, Option.toList_none, List.cons_append, List.nil_append]
  rw [b_43_71, if_pos n10, b_43_76 g3.k.t2 g3.k.s21 g3.k.t21, g3.k.g21, g3.he, e4]
  simp only [mThen_ok, Option.toList_some, Option.toList_none, List.cons_append, List.nil_append]
  rw [b_43_88]
theorem rd_42_c (a : RD u E P (d + 1) 43 l i n i1 n1) (h1 : ¬ tK (E.getD i tk0) = 24) (h2 : ¬ tK (E.getD i tk0) = 25) (h3 : ¬ tK (E.getD i tk0) = 26) (h4 : ¬ tK (E.getD i tk0) = 91) : RD u E P (d + 2) 42 l i n i1 n1 := by
  intro w h
  obtain ⟨w1, e1, g1⟩ := a w h
  refine ⟨w1, ?_, g1⟩
  have hb := h.kl i
  rw [e_42, s_42_0_d h.k.t2 (by rw [h.kd, jti (by omega)]; omega), b_42_174 h.k.t2, e1]
  simp only [mThen_ok, Option.toList_some, Option.toList_none, List.cons_append, List.nil_append]
  rw [b_42_179 kr1]
theorem rd_42_in (hk : k = 24 ∨ k = 25) (t : TK E i k 0) (t2 : TK E (i + 1) 258 12) (p : OPx P n k (i + 1)) : RD u E P (d + 2) 42 l i n (i + 2) (n + 1) := by
  intro w h
  obtain ⟨w1, e1, h1⟩ := c_opAdd (d := d) h p.1 p.2
  obtain ⟨w2, e2, h2⟩ := c_takeT (d := d) h1 t
  obtain ⟨w3, e3, h3⟩ := c_takeT (d := d) h2 t2
  refine ⟨w3, ?_, h3⟩
  have z : mX (d + 2) 42 0 [.ref 217, .int (nI l), mJ] [] w = mX (d + 2) 42 133 [.ref 217, mJ, .int (nI k)] [] w := by
    have q := h.kt t
    rcases hk with rfl | rfl
    · rw [s_42_0_24 h.k.t2 q, q]
    · rw [s_42_0_25 h.k.t2 q, q]
  rw [e_42, z, b_42_133 h.k.t2 h.k.s21 h.k.t21, h.k.g21, h.he, jadd, e1]
  simp only [mThen_ok, Option.toList_some, Option.toList_none, List.cons_append, List.nil_append]
  rw [b_42_147 h1.k.t2, e2]
  simp only [mThen_ok, Option.toList_some, Option.toList_none, List.cons_append, List.nil_append]
  rw [b_42_153, if_neg n10, b_42_156 h2.k.t2, e3]
  simp only [mThen_ok, Option.toList_some, Option.toList_none, List.cons_append, List.nil_append]
  rw [b_42_165, if_neg n10, b_42_168, b_42_173 kr1]
theorem rd_42_not (hl : l < 8) (t : TK E i 26 0) (a : RD u E P (d + 2) 42 (l + 1) (i + 1) n i1 n1) (p : OPx P n1 26 i1) : RD u E P (d + 3) 42 l i n i1 (n1 + 1) := by
  intro w h
  obtain ⟨w1, e1, h1⟩ := c_takeT (d := d + 1) h t
  obtain ⟨w2, e2, h2⟩ := a w1 h1
  obtain ⟨w3, e3, h3⟩ := c_opAdd (d := d + 1) h2 p.1 p.2
  refine ⟨w3, ?_, h3⟩
  rw [e_42, s_42_0_26 h.k.t2 (h.kt t), b_42_48, ijle (by decide) (by omega), if_neg (by omega), b_42_54 h.k.t2, e1]
  simp only [mThen_ok, Option.toList_some, Option.toList_none, List.cons_append, List.nil_append]
  rw [b_42_61, if_neg n10, b_42_64 h1.k.t2, jadd, e2]
  simp only [mThen_ok, Option.toList_some, Option.toList_none, List.cons_append, List.nil_append]
  rw [b_42_71, if_pos n10, b_42_76 h2.k.t2 h2.k.s21 h2.k.t21, h2.k.g21, h2.he, e3]
  simp only [mThen_ok, Option.toList_some, Option.toList_none, List.cons_append, List.nil_append]
  rw [b_42_89]
theorem rd_42_br (hl : l < 8) (t : TK E i 91 0) (a : RD u E P (d + 2) 40 (l + 1) (i + 1) n i1 n1) (t2 : TK E i1 93 0) : RD u E P (d + 3) 42 l i n (i1 + 1) n1 := by
  intro w h
  obtain ⟨w1, e1, h1⟩ := c_takeT (d := d + 1) h t
  obtain ⟨w2, e2, h2⟩ := a w1 h1
  obtain ⟨w3, e3, h3⟩ := c_takeT (d := d + 1) h2 t2
  refine ⟨w3, ?_, h3⟩
  rw [e_42, s_42_0_91 h.k.t2 (h.kt t), b_42_91, ijle (by decide) (by omega), if_neg (by omega), b_42_97 h.k.t2, e1]
  simp only [mThen_ok, Option.toList_some, Option.toList_none, List.cons_append, List.nil_append]
  rw [b_42_104, if_neg n10, b_42_107 h1.k.t2, jadd, e2]
  simp only [mThen_ok, Option.toList_some, Option.toList_none, List.cons_append, List.nil_append]
  rw [b_42_114, if_neg n10, b_42_117 h2.k.t2, e3]
  simp only [mThen_ok, Option.toList_some, Option.toList_none, List.cons_append, List.nil_append]
  rw [b_42_124, if_neg n10, b_42_127, b_42_132 kr1]
theorem rd_41e {w : MW} {q : Nat} (hq : q < 400) (h : GI u w E P i n false) (h1 : ¬ tK (E.getD i tk0) = 27) : mX (d + 2) 41 12 [.ref 217, .int (nI l), .int (nI q)] [] w = some (.inl (some (.int (nI 1))), w) := by
  rw [b_41_12, ijle (by decide) (by omega), if_neg (by omega), b_41_19 h.k.t2, c_take0 (d := d) h (by decide) h1]
  simp only [mThen_ok, Option.toList_some, Option.toList_none, List.cons_append, List.nil_append]
  rw [b_41_26, if_pos rfl, b_41_58]
theorem rd_41s {w : MW} {q : Nat} (hq : q < 400) (h : GI u w E P i n false) (t : TK E i 27 0) (a : RD u E P (d + 1) 42 l (i + 1) n i1 n1) (p : OPx P n1 27 i1) : ∃ w', mX (d + 2) 41 12 [.ref 217, .int (nI l), .int (nI q)] [] w = mX (d + 2) 41 12 [.ref 217, .int (nI l), .int (nI (q + 1))] [] w' ∧ GI u w' E P i1 (n1 + 1) false := by
  obtain ⟨w1, e1, g1⟩ := c_takeT (d := d) h t
  obtain ⟨w2, e2, g2⟩ := a w1 g1
  obtain ⟨w3, e3, g3⟩ := c_opAdd (d := d) g2 p.1 p.2
  refine ⟨w3, ?_, g3⟩
  rw [b_41_12, ijle (by decide) (by omega), if_neg (by omega), b_41_19 h.k.t2, e1]
  simp only [mThen_ok, Option.toList_some, Option.toList_none, List.cons_append, List.nil_append]
  rw [b_41_26, if_neg n10, b_41_29 g1.k.t2, e2]
  simp only [mThen_ok, Option.toList_some, Option.toList_none, List.cons_append, List.nil_append]
  rw [b_41_34, if_pos n10, b_41_39 g2.k.t2 g2.k.s21 g2.k.t21, g2.k.g21, g2.he, e3]
  simp only [mThen_ok, Option.toList_some, Option.toList_none, List.cons_append, List.nil_append]
  rw [b_41_52, jadd]
theorem rd_41_1 (a : RD u E P (d + 1) 42 l i n i1 n1) (h1 : ¬ tK (E.getD i1 tk0) = 27) : RD u E P (d + 2) 41 l i n i1 n1 := by
  intro w h
  obtain ⟨w1, e1, g1⟩ := a w h
  refine ⟨w1, ?_, g1⟩
  rw [e_41, b_41_0 h.k.t2, e1]
  simp only [mThen_ok, Option.toList_some, Option.toList_none, List.cons_append, List.nil_append]
  rw [b_41_5, if_pos n10, b_41_10, rd_41e (by decide) g1 h1]
theorem rd_41_2 (a : RD u E P (d + 1) 42 l i n i1 n1) (t : TK E i1 27 0) (b : RD u E P (d + 1) 42 l (i1 + 1) n1 i2 n2) (p : OPx P n2 27 i2) (h1 : ¬ tK (E.getD i2 tk0) = 27) : RD u E P (d + 2) 41 l i n i2 (n2 + 1) := by
  intro w h
  obtain ⟨w1, e1, g1⟩ := a w h
  obtain ⟨w2, e2, g2⟩ := rd_41s (q := 0) (by decide) g1 t b p
  refine ⟨w2, ?_, g2⟩
  rw [e_41, b_41_0 h.k.t2, e1]
  simp only [mThen_ok, Option.toList_some, Option.toList_none, List.cons_append, List.nil_append]
  rw [b_41_5, if_pos n10, b_41_10, e2, rd_41e (by decide) g2 h1]
theorem rd_40e {w : MW} {q : Nat} (hq : q < 400) (h : GI u w E P i n false) (h1 : ¬ tK (E.getD i tk0) = 28) : mX (d + 2) 40 12 [.ref 217, .int (nI l), .int (nI q)] [] w = some (.inl (some (.int (nI 1))), w) := by
  rw [b_40_12, ijle (by decide) (by omega), if_neg (by omega), b_40_19 h.k.t2, c_take0 (d := d) h (by decide) h1]
  simp only [mThen_ok, Option.toList_some, Option.toList_none, List.cons_append, List.nil_append]
  rw [b_40_26, if_pos rfl, b_40_58]
theorem rd_40s {w : MW} {q : Nat} (hq : q < 400) (h : GI u w E P i n false) (t : TK E i 28 0) (a : RD u E P (d + 1) 41 l (i + 1) n i1 n1) (p : OPx P n1 28 i1) : ∃ w', mX (d + 2) 40 12 [.ref 217, .int (nI l), .int (nI q)] [] w = mX (d + 2) 40 12 [.ref 217, .int (nI l), .int (nI (q + 1))] [] w' ∧ GI u w' E P i1 (n1 + 1) false := by
  obtain ⟨w1, e1, g1⟩ := c_takeT (d := d) h t
  obtain ⟨w2, e2, g2⟩ := a w1 g1
  obtain ⟨w3, e3, g3⟩ := c_opAdd (d := d) g2 p.1 p.2
  refine ⟨w3, ?_, g3⟩
  rw [b_40_12, ijle (by decide) (by omega), if_neg (by omega), b_40_19 h.k.t2, e1]
  simp only [mThen_ok, Option.toList_some, Option.toList_none, List.cons_append, List.nil_append]
  rw [b_40_26, if_neg n10, b_40_29 g1.k.t2, e2]
  simp only [mThen_ok, Option.toList_some, Option.toList_none, List.cons_append, List.nil_append]
  rw [b_40_34, if_pos n10, b_40_39 g2.k.t2 g2.k.s21 g2.k.t21, g2.k.g21, g2.he, e3]
  simp only [mThen_ok, Option.toList_some, Option.toList_none, List.cons_append, List.nil_append]
  rw [b_40_52, jadd]
theorem rd_40_1 (a : RD u E P (d + 1) 41 l i n i1 n1) (h1 : ¬ tK (E.getD i1 tk0) = 28) : RD u E P (d + 2) 40 l i n i1 n1 := by
  intro w h
  obtain ⟨w1, e1, g1⟩ := a w h
  refine ⟨w1, ?_, g1⟩
  rw [e_40, b_40_0 h.k.t2, e1]
  simp only [mThen_ok, Option.toList_some, Option.toList_none, List.cons_append, List.nil_append]
  rw [b_40_5, if_pos n10, b_40_10, rd_40e (by decide) g1 h1]
theorem rd_40_2 (a : RD u E P (d + 1) 41 l i n i1 n1) (t : TK E i1 28 0) (b : RD u E P (d + 1) 41 l (i1 + 1) n1 i2 n2) (p : OPx P n2 28 i2) (h1 : ¬ tK (E.getD i2 tk0) = 28) : RD u E P (d + 2) 40 l i n i2 (n2 + 1) := by
  intro w h
  obtain ⟨w1, e1, g1⟩ := a w h
  obtain ⟨w2, e2, g2⟩ := rd_40s (q := 0) (by decide) g1 t b p
  refine ⟨w2, ?_, g2⟩
  rw [e_40, b_40_0 h.k.t2, e1]
  simp only [mThen_ok, Option.toList_some, Option.toList_none, List.cons_append, List.nil_append]
  rw [b_40_5, if_pos n10, b_40_10, e2, rd_40e (by decide) g2 h1]
end
