/-! ===== a list's lines, as tokens; the grammar reads each: by program (wip/p26/mkline.py) ===== -/
def nams (c r : Nat) (f : Nat → Nat) : Nat → Nat → List Tk
  | 0, _ => []
  | m + 1, k => nmT c (f k) (if m = 0 then [] else [32]) r :: nams c r f m (k + 1)
def knwL (f g : Nat → Nat) : Nat → Nat → List Tk
  | 0, _ => []
  | m + 1, k => kwT 10 [32] :: nmT 116 (f k) [32] 8 :: nuT (g k) (if m = 0 then [] else [32]) 18 :: knwL f g m (k + 1)
def tonL (C : CD) (t : Nat) : List Tk := [kwT 0 [32], nmT 116 t [32] 1, kwT 1 [32], nuT (C 1 t 0) (if t % 2 = 0 then [] else [32]) 14, syT 59 (if t % 2 = 0 then [] else [10])]
def rooL (C : CD) (r : Nat) : List Tk := [kwT 2 [32], nmT 114 r [32] 2, kwT 3 [32], nmT 116 (C 2 r 0) [32] 7, kwT 4 [32], nuT (C 2 r 1) [32] 15, kwT 5 [32], nuT (C 2 r 2) [] 16, syT 59 []]
def worL (C : CD) (v : Nat) : List Tk := kwT 6 [32] :: nmT 119 v [32] 3 :: kwT 7 [32] :: (nams 114 9 (C 4 v) (C 3 v 0) 0 ++ [syT 59 []])
def speL (C : CD) (s : Nat) : List Tk := kwT 8 [32] :: nmT 115 s [32] 4 :: kwT 9 [32] :: nuT (C 5 s 0) [32] 17 :: (knwL (C 11 s) (C 12 s) (C 10 s 0) 0 ++ [syT 59 [10]])
def rouL (C : CD) (q : Nat) : List Tk := kwT 11 [32] :: nmT 113 q [32] 5 :: kwT 12 [32] :: nuT (C 7 q 0) [32] 19 :: kwT 13 [32] :: nuT (C 7 q 1) [32] 20 :: kwT 14 [32] :: (nams 119 10 (C 8 q) (C 7 q 2) 0 ++ [syT 59 []])
def ordL (C : CD) (o p : Nat) : List Tk := orT (15 + C 9 o 0) [32] p :: nmT 115 (C 9 o 1) [32] 11 :: kwT 18 [32] :: (testL (C 9 o 2) (C 9 o 4) (C 9 o 3) (C 9 o 5) ++ [syT 59 []])
section
variable {d i j m k n i1 n1 i2 n2 : Nat} {u w : MW} {E : List Tk} {P : List (Nat × Nat)} {rE : List Tk} {rP : List (Nat × Nat)} {po : List Nat} {C : CD}
/-- a line is read -/
def RLN (u : MW) (E : List Tk) (P : List (Nat × Nat)) (D i n i' n' : Nat) : Prop := ∀ w, GI u w E P i n false → ∃ w', mK D 36 [.ref 217] w = some (.inl (some (.int (nI 1))), w') ∧ GI u w' E P i' n' false
theorem nams_len {c r : Nat} {f : Nat → Nat} : ∀ (m k : Nat), (nams c r f m k).length = m := by
  intro m
  induction m with
  | zero => intro k; rfl
  | succ m ih => intro k; show (nams c r f m (k + 1)).length + 1 = _; rw [ih]
theorem knw_len {f g : Nat → Nat} : ∀ (m k : Nat), (knwL f g m k).length = 3 * m := by
  intro m
  induction m with
  | zero => intro k; rfl
  | succ m ih => intro k; show (knwL f g m (k + 1)).length + 1 + 1 + 1 = _; rw [ih]; omega
theorem c_namesL {c r : Nat} {f : Nat → Nat} (hr : r < 2147483648) : ∀ (m k i q : Nat) (w : MW), q + m ≤ 200 → E.drop i = nams c r f m k ++ (syT 59 po :: rE) → GI u w E P i n false →
    ∃ w', mX (d + 2) 37 11 [.ref 217, .int (nI r), .int (nI 1), .int (nI q)] [] w = some (.inl (some (.int (nI 1))), w') ∧ GI u w' E P (i + m) n false ∧ E.drop (i + m) = syT 59 po :: rE := by
  intro m
  induction m with
  | zero =>
    intro k i q w hq hE h
    have hE' : E.drop i = syT 59 po :: rE := hE
    obtain ⟨t, x⟩ := TKs (k := 59) (r := 0) hE' rfl rfl rfl
    refine ⟨w, ?_, h, hE'⟩
    rw [b_37_11, ijle (by decide) (by omega), if_neg (by omega), b_37_18 h.k.t2, h.kt t, if_pos (by decide +kernel), b_37_43 kr1]
  | succ m ih =>
    intro k i q w hq hE h
    have hE' : E.drop i = nmT c (f k) (if m = 0 then [] else [32]) r :: (nams c r f m (k + 1) ++ (syT 59 po :: rE)) := hE
    obtain ⟨t, x⟩ := TKs (k := 258) (r := r) hE' rfl rfl rfl
    obtain ⟨w1, e1, h1⟩ := c_takeT (d := d) h t
    obtain ⟨w2, e2, h2, h3⟩ := ih (k + 1) (i + 1) (q + 1) w1 (by omega) x h1
    rw [show i + 1 + m = i + (m + 1) by omega] at h2 h3
    refine ⟨w2, ?_, h2, h3⟩
    rw [b_37_11, ijle (by decide) (by omega), if_neg (by omega), b_37_18 h.k.t2, h.kt t, if_neg (fun q => q rfl), b_37_28 h.k.t2, e1]
    simp only [mThen_ok, Option.toList_some, Option.toList_none, List.cons_append, List.nil_append]
    rw [b_37_36, jadd, e2]
theorem c_names {c r : Nat} {f : Nat → Nat} (hr : r < 2147483648) (hm : 1 ≤ m ∧ m ≤ 100) (hE : E.drop i = nams c r f m k ++ (syT 59 po :: rE)) (h : GI u w E P i n false) :
    ∃ w', mK (d + 2) 37 [.ref 217, .int (nI r)] w = some (.inl (some (.int (nI 1))), w') ∧ GI u w' E P (i + m) n false ∧ E.drop (i + m) = syT 59 po :: rE := by
  obtain ⟨m', rfl⟩ : ∃ m', m = m' + 1 := ⟨m - 1, by omega⟩
  have hE' : E.drop i = nmT c (f k) (if m' = 0 then [] else [32]) r :: (nams c r f m' (k + 1) ++ (syT 59 po :: rE)) := hE
  obtain ⟨t, x⟩ := TKs (k := 258) (r := r) hE' rfl rfl rfl
  obtain ⟨w1, e1, h1⟩ := c_takeT (d := d) h t
  obtain ⟨w2, e2, h2, h3⟩ := c_namesL (d := d) hr m' (k + 1) (i + 1) 0 w1 (by omega) x h1
  rw [show i + 1 + m' = i + (m' + 1) by omega] at h2 h3
  refine ⟨w2, ?_, h2, h3⟩
  rw [e_37, b_37_0 h.k.t2, e1]
  simp only [mThen_ok, Option.toList_some, Option.toList_none, List.cons_append, List.nil_append]
  rw [b_37_8, e2]
theorem c_knowsL {f g : Nat → Nat} (hg : ∀ k, g k < 100) : ∀ (m k i q : Nat) (w : MW), q + m ≤ 200 → E.drop i = knwL f g m k ++ (syT 59 po :: rE) → GI u w E P i n false →
    ∃ w', mX (d + 2) 38 2 [.ref 217, .int (nI q)] [] w = some (.inl (some (.int (nI 1))), w') ∧ GI u w' E P (i + 3 * m) n false ∧ E.drop (i + 3 * m) = syT 59 po :: rE := by
  intro m
  induction m with
  | zero =>
    intro k i q w hq hE h
    have hE' : E.drop i = syT 59 po :: rE := hE
    obtain ⟨t, x⟩ := TKs (k := 59) (r := 0) hE' rfl rfl rfl
    refine ⟨w, ?_, h, hE'⟩
    rw [b_38_2, ijle (by decide) (by omega), if_neg (by omega), b_38_9 h.k.t2, c_take0 (d := d) h (by decide) (by rw [t.2.1]; decide)]
    simp only [mThen_ok, Option.toList_some, Option.toList_none, List.cons_append, List.nil_append]
    rw [b_38_16, if_pos rfl, b_38_51]
  | succ m ih =>
    intro k i q w hq hE h
    have hE' : E.drop i = kwT 10 [32] :: nmT 116 (f k) [32] 8 :: nuT (g k) (if m = 0 then [] else [32]) 18 :: (knwL f g m (k + 1) ++ (syT 59 po :: rE)) := hE
    obtain ⟨t0, x0⟩ := TKs (k := 10) (r := 0) hE' rfl rfl rfl
    obtain ⟨t1, x1⟩ := TKs (k := 258) (r := 8) x0 rfl rfl rfl
    obtain ⟨t2, x2⟩ := TKs (k := 259) (r := 18) x1 rfl rfl (v0_num (hg k))
    obtain ⟨w1, e1, h1⟩ := c_takeT (d := d) h t0
    obtain ⟨w2, e2, h2⟩ := c_takeT (d := d) h1 t1
    obtain ⟨w3, e3, h3⟩ := c_takeT (d := d) h2 t2
    obtain ⟨w4, e4, h4, h5⟩ := ih (k + 1) (i + 1 + 1 + 1) (q + 1) w3 (by omega) x2 h3
    rw [show i + 1 + 1 + 1 + 3 * m = i + 3 * (m + 1) by omega] at h4 h5
    refine ⟨w4, ?_, h4, h5⟩
    rw [b_38_2, ijle (by decide) (by omega), if_neg (by omega), b_38_9 h.k.t2, e1]
    simp only [mThen_ok, Option.toList_some, Option.toList_none, List.cons_append, List.nil_append]
    rw [b_38_16, if_neg n10, b_38_19 h1.k.t2, e2]
    simp only [mThen_ok, Option.toList_some, Option.toList_none, List.cons_append, List.nil_append]
    rw [b_38_28, if_neg n10, b_38_31 h2.k.t2, e3]
    simp only [mThen_ok, Option.toList_some, Option.toList_none, List.cons_append, List.nil_append]
    rw [b_38_40, if_pos n10, b_38_45, jadd, e4]
/-- an order's place in the code is kept -/
theorem GI.put (h : GI u w E P i n false) (hi : i < E.length) (hv : tV (E.getD i tk0) = n) : GI u (wI w 174 i (nI n)) E P i n true := by
  obtain ⟨⟨k, hE, hP, hK⟩, f, ⟨a1, a2, a3⟩, b1, b2, b3, b4⟩ := h
  refine ⟨⟨k.wI, hE, hP, hK⟩, f.set (Or.inr (Or.inl rfl)), ⟨?_, ?_, ?_⟩, fun j hj => ?_, fun j hj => ?_, fun j hj => ?_, fun j hj => ⟨?_, ?_⟩⟩
  · rw [miI, if_neg (by omega), a1]
  · rw [miI, if_neg (by omega), a2]
  · rw [miI, if_neg (by omega), a3]
  · rw [miI, if_neg (by omega), b1 j hj]
  · rw [miI, if_neg (by omega), b2 j hj]
  · rw [miI]
    by_cases g : j = i
    · subst g
      rw [if_pos ⟨rfl, rfl⟩, if_pos (Or.inr ⟨rfl, rfl⟩), hv]
    · rw [if_neg (fun q => g q.2), b3 j hj]
      have eR : (j < i ∨ (j = i ∧ false = true)) ↔ (j < i ∨ (j = i ∧ true = true)) := by
        constructor
        · rintro (q | q)
          · exact Or.inl q
          · exact absurd q.1 g
        · rintro (q | q)
          · exact Or.inl q
          · exact absurd q.1 g
      simp only [eR]
  · rw [miI, if_neg (by omega)]; exact (b4 j hj).1
  · rw [miI, if_neg (by omega)]; exact (b4 j hj).2
theorem ln_ton {t : Nat} (h1 : C 1 t 0 < 100) (hE : E.drop i = tonL C t ++ rE) : ∃ i1, RLN u E P (d + 3) i n i1 n ∧ TK E i1 59 0 ∧ E.drop (i1 + 1) = rE ∧ i ≤ i1 ∧ ¬ tK (E.getD i tk0) = 260 := by
  have x0 : E.drop i = kwT 0 [32] :: nmT 116 t [32] 1 :: kwT 1 [32] :: nuT (C 1 t 0) (if t % 2 = 0 then [] else [32]) 14 :: syT 59 (if t % 2 = 0 then [] else [10]) :: rE := hE
  obtain ⟨t0, x1⟩ := TKs (k := 0) (r := 0) x0 rfl rfl rfl
  obtain ⟨t1, x2⟩ := TKs (k := 258) (r := 1) x1 rfl rfl rfl
  obtain ⟨t2, x3⟩ := TKs (k := 1) (r := 0) x2 rfl rfl rfl
  obtain ⟨t3, x4⟩ := TKs (k := 259) (r := 14) x3 rfl rfl (v0_num h1)
  obtain ⟨tE, xE⟩ := TKs (k := 59) (r := 0) x4 rfl rfl rfl
  refine ⟨i + 4, fun w h => ?_, tE, xE, by omega, by rw [t0.2.1]; decide⟩
  obtain ⟨w1, e1, h1_⟩ := c_takeT (d := d + 1) h t0
  obtain ⟨w2, e2, h2_⟩ := c_takeT (d := d + 1) h1_ t1
  obtain ⟨w3, e3, h3_⟩ := c_takeT (d := d + 1) h2_ t2
  obtain ⟨w4, e4, h4_⟩ := c_takeT (d := d + 1) h3_ t3
  refine ⟨w4, ?_, h4_⟩
  rw [e_36, s_36_0_0 h.k.t2 (h.kt t0), b_36_92 h.k.t2, e1]
  simp only [mThen_ok, Option.toList_some, Option.toList_none, List.cons_append, List.nil_append]
  rw [b_36_98, if_neg n10, b_36_101 h1_.k.t2, e2]
  simp only [mThen_ok, Option.toList_some, Option.toList_none, List.cons_append, List.nil_append]
  rw [b_36_109, if_neg n10, b_36_112 h2_.k.t2, e3]
  simp only [mThen_ok, Option.toList_some, Option.toList_none, List.cons_append, List.nil_append]
  rw [b_36_118, if_neg n10, b_36_121 h3_.k.t2, e4]
  simp only [mThen_ok, Option.toList_some, Option.toList_none, List.cons_append, List.nil_append]
  rw [b_36_130, if_neg n10, b_36_133, b_36_138 kr1]
theorem ln_roo {t : Nat} (h1 : C 2 t 1 < 100) (h2 : C 2 t 2 < 100) (hE : E.drop i = rooL C t ++ rE) : ∃ i1, RLN u E P (d + 3) i n i1 n ∧ TK E i1 59 0 ∧ E.drop (i1 + 1) = rE ∧ i ≤ i1 ∧ ¬ tK (E.getD i tk0) = 260 := by
  have x0 : E.drop i = kwT 2 [32] :: nmT 114 t [32] 2 :: kwT 3 [32] :: nmT 116 (C 2 t 0) [32] 7 :: kwT 4 [32] :: nuT (C 2 t 1) [32] 15 :: kwT 5 [32] :: nuT (C 2 t 2) [] 16 :: syT 59 [] :: rE := hE
  obtain ⟨t0, x1⟩ := TKs (k := 2) (r := 0) x0 rfl rfl rfl
  obtain ⟨t1, x2⟩ := TKs (k := 258) (r := 2) x1 rfl rfl rfl
  obtain ⟨t2, x3⟩ := TKs (k := 3) (r := 0) x2 rfl rfl rfl
  obtain ⟨t3, x4⟩ := TKs (k := 258) (r := 7) x3 rfl rfl rfl
  obtain ⟨t4, x5⟩ := TKs (k := 4) (r := 0) x4 rfl rfl rfl
  obtain ⟨t5, x6⟩ := TKs (k := 259) (r := 15) x5 rfl rfl (v0_num h1)
  obtain ⟨t6, x7⟩ := TKs (k := 5) (r := 0) x6 rfl rfl rfl
  obtain ⟨t7, x8⟩ := TKs (k := 259) (r := 16) x7 rfl rfl (v0_num h2)
  obtain ⟨tE, xE⟩ := TKs (k := 59) (r := 0) x8 rfl rfl rfl
  refine ⟨i + 8, fun w h => ?_, tE, xE, by omega, by rw [t0.2.1]; decide⟩
  obtain ⟨w1, e1, h1_⟩ := c_takeT (d := d + 1) h t0
  obtain ⟨w2, e2, h2_⟩ := c_takeT (d := d + 1) h1_ t1
  obtain ⟨w3, e3, h3_⟩ := c_takeT (d := d + 1) h2_ t2
  obtain ⟨w4, e4, h4_⟩ := c_takeT (d := d + 1) h3_ t3
  obtain ⟨w5, e5, h5_⟩ := c_takeT (d := d + 1) h4_ t4
  obtain ⟨w6, e6, h6_⟩ := c_takeT (d := d + 1) h5_ t5
  obtain ⟨w7, e7, h7_⟩ := c_takeT (d := d + 1) h6_ t6
  obtain ⟨w8, e8, h8_⟩ := c_takeT (d := d + 1) h7_ t7
  refine ⟨w8, ?_, h8_⟩
  rw [e_36, s_36_0_2 h.k.t2 (h.kt t0), b_36_139 h.k.t2, e1]
  simp only [mThen_ok, Option.toList_some, Option.toList_none, List.cons_append, List.nil_append]
  rw [b_36_145, if_neg n10, b_36_148 h1_.k.t2, e2]
  simp only [mThen_ok, Option.toList_some, Option.toList_none, List.cons_append, List.nil_append]
  rw [b_36_156, if_neg n10, b_36_159 h2_.k.t2, e3]
  simp only [mThen_ok, Option.toList_some, Option.toList_none, List.cons_append, List.nil_append]
  rw [b_36_165, if_neg n10, b_36_168 h3_.k.t2, e4]
  simp only [mThen_ok, Option.toList_some, Option.toList_none, List.cons_append, List.nil_append]
  rw [b_36_177, if_neg n10, b_36_180 h4_.k.t2, e5]
  simp only [mThen_ok, Option.toList_some, Option.toList_none, List.cons_append, List.nil_append]
  rw [b_36_186, if_neg n10, b_36_189 h5_.k.t2, e6]
  simp only [mThen_ok, Option.toList_some, Option.toList_none, List.cons_append, List.nil_append]
  rw [b_36_198, if_neg n10, b_36_201 h6_.k.t2, e7]
  simp only [mThen_ok, Option.toList_some, Option.toList_none, List.cons_append, List.nil_append]
  rw [b_36_207, if_neg n10, b_36_210 h7_.k.t2, e8]
  simp only [mThen_ok, Option.toList_some, Option.toList_none, List.cons_append, List.nil_append]
  rw [b_36_219, if_neg n10, b_36_222, b_36_227 kr1]
theorem ln_wor {t : Nat} (h1 : 1 ≤ C 3 t 0 ∧ C 3 t 0 ≤ 4) (hE : E.drop i = worL C t ++ rE) : ∃ i1, RLN u E P (d + 3) i n i1 n ∧ TK E i1 59 0 ∧ E.drop (i1 + 1) = rE ∧ i ≤ i1 ∧ ¬ tK (E.getD i tk0) = 260 := by
  have x0 : E.drop i = kwT 6 [32] :: nmT 119 t [32] 3 :: kwT 7 [32] :: (nams 114 9 (C 4 t) (C 3 t 0) 0 ++ (syT 59 [] :: rE)) := by
    rw [hE]
    unfold worL
    simp only [List.cons_append, List.append_assoc, List.nil_append]
  obtain ⟨t0, x1⟩ := TKs (k := 6) (r := 0) x0 rfl rfl rfl
  obtain ⟨t1, x2⟩ := TKs (k := 258) (r := 3) x1 rfl rfl rfl
  obtain ⟨t2, x3⟩ := TKs (k := 7) (r := 0) x2 rfl rfl rfl
  have xx : E.drop (i + 3 + C 3 t 0) = syT 59 [] :: rE := by
    have y := congrArg (List.drop (C 3 t 0)) x3
    rw [List.drop_drop] at y
    have z := nams_len (c := 114) (r := 9) (f := C 4 t) (C 3 t 0) 0
    exact y.trans (by
      have q : List.drop (nams 114 9 (C 4 t) (C 3 t 0) 0).length (nams 114 9 (C 4 t) (C 3 t 0) 0 ++ (syT 59 [] :: rE)) = syT 59 [] :: rE := List.drop_left
      rwa [z] at q)
  obtain ⟨tE, xE⟩ := TKs (k := 59) (r := 0) xx rfl rfl rfl
  refine ⟨i + 3 + C 3 t 0, fun w h => ?_, tE, xE, by omega, by rw [t0.2.1]; decide⟩
  obtain ⟨w1, e1, h1_⟩ := c_takeT (d := d + 1) h t0
  obtain ⟨w2, e2, h2_⟩ := c_takeT (d := d + 1) h1_ t1
  obtain ⟨w3, e3, h3_⟩ := c_takeT (d := d + 1) h2_ t2
  obtain ⟨w4, e4, h4_, _⟩ := c_names (d := d) (by decide) (m := C 3 t 0) ⟨by omega, by omega⟩ x3 h3_
  refine ⟨w4, ?_, h4_⟩
  rw [e_36, s_36_0_6 h.k.t2 (h.kt t0), b_36_228 h.k.t2, e1]
  simp only [mThen_ok, Option.toList_some, Option.toList_none, List.cons_append, List.nil_append]
  rw [b_36_235, if_neg n10, b_36_238 h1_.k.t2, e2]
  simp only [mThen_ok, Option.toList_some, Option.toList_none, List.cons_append, List.nil_append]
  rw [b_36_246, if_neg n10, b_36_249 h2_.k.t2, e3]
  simp only [mThen_ok, Option.toList_some, Option.toList_none, List.cons_append, List.nil_append]
  rw [b_36_256, if_neg n10, b_36_259 h3_.k.t2, e4]
  simp only [mThen_ok, Option.toList_some, Option.toList_none, List.cons_append, List.nil_append]
  rw [b_36_265, if_neg n10, b_36_268, b_36_273 kr1]
theorem ln_spe {t : Nat} (h1 : C 5 t 0 < 100) (h2 : ∀ k, C 12 t k < 100) (h3 : C 10 t 0 ≤ 100) (hE : E.drop i = speL C t ++ rE) : ∃ i1, RLN u E P (d + 3) i n i1 n ∧ TK E i1 59 0 ∧ E.drop (i1 + 1) = rE ∧ i ≤ i1 ∧ ¬ tK (E.getD i tk0) = 260 := by
  have x0 : E.drop i = kwT 8 [32] :: nmT 115 t [32] 4 :: kwT 9 [32] :: nuT (C 5 t 0) [32] 17 :: (knwL (C 11 t) (C 12 t) (C 10 t 0) 0 ++ (syT 59 [10] :: rE)) := by
    rw [hE]
    unfold speL
    simp only [List.cons_append, List.append_assoc, List.nil_append]
  obtain ⟨t0, x1⟩ := TKs (k := 8) (r := 0) x0 rfl rfl rfl
  obtain ⟨t1, x2⟩ := TKs (k := 258) (r := 4) x1 rfl rfl rfl
  obtain ⟨t2, x3⟩ := TKs (k := 9) (r := 0) x2 rfl rfl rfl
  obtain ⟨t3, x4⟩ := TKs (k := 259) (r := 17) x3 rfl rfl (v0_num h1)
  have xx : E.drop (i + 4 + 3 * C 10 t 0) = syT 59 [10] :: rE := by
    have y := congrArg (List.drop (3 * C 10 t 0)) x4
    rw [List.drop_drop] at y
    rw [show i + 4 + 3 * C 10 t 0 = i + 4 + 3 * C 10 t 0 from rfl]
    have z := knw_len (f := C 11 t) (g := C 12 t) (C 10 t 0) 0
    exact y.trans (by rw [← z, List.drop_left])
  obtain ⟨tE, xE⟩ := TKs (k := 59) (r := 0) xx rfl rfl rfl
  refine ⟨i + 4 + 3 * C 10 t 0, fun w h => ?_, tE, xE, by omega, by rw [t0.2.1]; decide⟩
  obtain ⟨w1, e1, h1_⟩ := c_takeT (d := d + 1) h t0
  obtain ⟨w2, e2, h2_⟩ := c_takeT (d := d + 1) h1_ t1
  obtain ⟨w3, e3, h3_⟩ := c_takeT (d := d + 1) h2_ t2
  obtain ⟨w4, e4, h4_⟩ := c_takeT (d := d + 1) h3_ t3
  obtain ⟨w5, e5, h5_, _⟩ := c_knowsL (d := d) h2 (C 10 t 0) 0 _ 0 w4 (by omega) x4 h4_
  refine ⟨w5, ?_, h5_⟩
  rw [e_36, s_36_0_8 h.k.t2 (h.kt t0), b_36_274 h.k.t2, e1]
  simp only [mThen_ok, Option.toList_some, Option.toList_none, List.cons_append, List.nil_append]
  rw [b_36_281, if_neg n10, b_36_284 h1_.k.t2, e2]
  simp only [mThen_ok, Option.toList_some, Option.toList_none, List.cons_append, List.nil_append]
  rw [b_36_292, if_neg n10, b_36_295 h2_.k.t2, e3]
  simp only [mThen_ok, Option.toList_some, Option.toList_none, List.cons_append, List.nil_append]
  rw [b_36_302, if_neg n10, b_36_305 h3_.k.t2, e4]
  simp only [mThen_ok, Option.toList_some, Option.toList_none, List.cons_append, List.nil_append]
  rw [b_36_314, if_neg n10, b_36_317 h4_.k.t2, e_38, b_38_0, e5]
  simp only [mThen_ok, Option.toList_some, Option.toList_none, List.cons_append, List.nil_append]
  rw [b_36_321, if_neg n10, b_36_324, b_36_329 kr1]
theorem ln_rou {t : Nat} (h1 : C 7 t 0 < 100) (h2 : C 7 t 1 < 100) (h3 : 1 ≤ C 7 t 2 ∧ C 7 t 2 ≤ 8) (hE : E.drop i = rouL C t ++ rE) : ∃ i1, RLN u E P (d + 3) i n i1 n ∧ TK E i1 59 0 ∧ E.drop (i1 + 1) = rE ∧ i ≤ i1 ∧ ¬ tK (E.getD i tk0) = 260 := by
  have x0 : E.drop i = kwT 11 [32] :: nmT 113 t [32] 5 :: kwT 12 [32] :: nuT (C 7 t 0) [32] 19 :: kwT 13 [32] :: nuT (C 7 t 1) [32] 20 :: kwT 14 [32] :: (nams 119 10 (C 8 t) (C 7 t 2) 0 ++ (syT 59 [] :: rE)) := by
    rw [hE]
    unfold rouL
    simp only [List.cons_append, List.append_assoc, List.nil_append]
  obtain ⟨t0, x1⟩ := TKs (k := 11) (r := 0) x0 rfl rfl rfl
  obtain ⟨t1, x2⟩ := TKs (k := 258) (r := 5) x1 rfl rfl rfl
  obtain ⟨t2, x3⟩ := TKs (k := 12) (r := 0) x2 rfl rfl rfl
  obtain ⟨t3, x4⟩ := TKs (k := 259) (r := 19) x3 rfl rfl (v0_num h1)
  obtain ⟨t4, x5⟩ := TKs (k := 13) (r := 0) x4 rfl rfl rfl
  obtain ⟨t5, x6⟩ := TKs (k := 259) (r := 20) x5 rfl rfl (v0_num h2)
  obtain ⟨t6, x7⟩ := TKs (k := 14) (r := 0) x6 rfl rfl rfl
  have xx : E.drop (i + 7 + C 7 t 2) = syT 59 [] :: rE := by
    have y := congrArg (List.drop (C 7 t 2)) x7
    rw [List.drop_drop] at y
    have z := nams_len (c := 119) (r := 10) (f := C 8 t) (C 7 t 2) 0
    exact y.trans (by
      have q : List.drop (nams 119 10 (C 8 t) (C 7 t 2) 0).length (nams 119 10 (C 8 t) (C 7 t 2) 0 ++ (syT 59 [] :: rE)) = syT 59 [] :: rE := List.drop_left
      rwa [z] at q)
  obtain ⟨tE, xE⟩ := TKs (k := 59) (r := 0) xx rfl rfl rfl
  refine ⟨i + 7 + C 7 t 2, fun w h => ?_, tE, xE, by omega, by rw [t0.2.1]; decide⟩
  obtain ⟨w1, e1, h1_⟩ := c_takeT (d := d + 1) h t0
  obtain ⟨w2, e2, h2_⟩ := c_takeT (d := d + 1) h1_ t1
  obtain ⟨w3, e3, h3_⟩ := c_takeT (d := d + 1) h2_ t2
  obtain ⟨w4, e4, h4_⟩ := c_takeT (d := d + 1) h3_ t3
  obtain ⟨w5, e5, h5_⟩ := c_takeT (d := d + 1) h4_ t4
  obtain ⟨w6, e6, h6_⟩ := c_takeT (d := d + 1) h5_ t5
  obtain ⟨w7, e7, h7_⟩ := c_takeT (d := d + 1) h6_ t6
  obtain ⟨w8, e8, h8_, _⟩ := c_names (d := d) (by decide) (m := C 7 t 2) ⟨by omega, by omega⟩ x7 h7_
  refine ⟨w8, ?_, h8_⟩
  rw [e_36, s_36_0_11 h.k.t2 (h.kt t0), b_36_330 h.k.t2, e1]
  simp only [mThen_ok, Option.toList_some, Option.toList_none, List.cons_append, List.nil_append]
  rw [b_36_337, if_neg n10, b_36_340 h1_.k.t2, e2]
  simp only [mThen_ok, Option.toList_some, Option.toList_none, List.cons_append, List.nil_append]
  rw [b_36_348, if_neg n10, b_36_351 h2_.k.t2, e3]
  simp only [mThen_ok, Option.toList_some, Option.toList_none, List.cons_append, List.nil_append]
  rw [b_36_358, if_neg n10, b_36_361 h3_.k.t2, e4]
  simp only [mThen_ok, Option.toList_some, Option.toList_none, List.cons_append, List.nil_append]
  rw [b_36_370, if_neg n10, b_36_373 h4_.k.t2, e5]
  simp only [mThen_ok, Option.toList_some, Option.toList_none, List.cons_append, List.nil_append]
  rw [b_36_380, if_neg n10, b_36_383 h5_.k.t2, e6]
  simp only [mThen_ok, Option.toList_some, Option.toList_none, List.cons_append, List.nil_append]
  rw [b_36_392, if_neg n10, b_36_395 h6_.k.t2, e7]
  simp only [mThen_ok, Option.toList_some, Option.toList_none, List.cons_append, List.nil_append]
  rw [b_36_402, if_neg n10, b_36_405 h7_.k.t2, e8]
  simp only [mThen_ok, Option.toList_some, Option.toList_none, List.cons_append, List.nil_append]
  rw [b_36_411, if_neg n10, b_36_414, b_36_419 kr1]
theorem tst_len (m s n v : Nat) : ∀ i, (testL m s n v).length ≤ 14 ∧ 1 ≤ (testP m i).length := by
  intro i
  match m with
  | 0 => exact ⟨Nat.le_of_ble_eq_true rfl, Nat.le_of_ble_eq_true rfl⟩
  | 1 => exact ⟨Nat.le_of_ble_eq_true rfl, Nat.le_of_ble_eq_true rfl⟩
  | 2 => exact ⟨Nat.le_of_ble_eq_true rfl, Nat.le_of_ble_eq_true rfl⟩
  | 3 => exact ⟨Nat.le_of_ble_eq_true rfl, Nat.le_of_ble_eq_true rfl⟩
  | 4 => exact ⟨Nat.le_of_ble_eq_true rfl, Nat.le_of_ble_eq_true rfl⟩
  | 5 => exact ⟨Nat.le_of_ble_eq_true rfl, Nat.le_of_ble_eq_true rfl⟩
  | 6 => exact ⟨Nat.le_of_ble_eq_true rfl, Nat.le_of_ble_eq_true rfl⟩
  | 7 => exact ⟨Nat.le_of_ble_eq_true rfl, Nat.le_of_ble_eq_true rfl⟩
  | _ + 8 => exact ⟨Nat.le_of_ble_eq_true rfl, Nat.le_of_ble_eq_true rfl⟩
theorem rd_test {m s v : Nat} {nv : Nat} (hn : nv < 100) (hE : E.drop i = testL m s nv v ++ (syT 59 po :: rE)) (hP : P.drop j = testP m i ++ rP) : ∃ i1 j1, RD u E P (d + 12) 40 0 i j i1 j1 ∧ OPx P j1 59 i1 ∧ TK E i1 59 0 ∧ E.drop (i1 + 1) = rE ∧ P.drop (j1 + 1) = rP ∧ i ≤ i1 := by
  match m, hE, hP with
  | 0, hE, hP => exact ⟨_, _, (rd_t0 (v := v) hn hE hP).1, (rd_t0 (v := v) (u := u) (d := d) hn hE hP).2.1, (rd_t0 (v := v) (u := u) (d := d) hn hE hP).2.2.1, (rd_t0 (v := v) (u := u) (d := d) hn hE hP).2.2.2.1, (rd_t0 (v := v) (u := u) (d := d) hn hE hP).2.2.2.2, by omega⟩
  | 1, hE, hP => exact ⟨_, _, (rd_t1 (v := v) hn hE hP).1, (rd_t1 (v := v) (u := u) (d := d) hn hE hP).2.1, (rd_t1 (v := v) (u := u) (d := d) hn hE hP).2.2.1, (rd_t1 (v := v) (u := u) (d := d) hn hE hP).2.2.2.1, (rd_t1 (v := v) (u := u) (d := d) hn hE hP).2.2.2.2, by omega⟩
  | 2, hE, hP => exact ⟨_, _, (rd_t2 (v := v) hn hE hP).1, (rd_t2 (v := v) (u := u) (d := d) hn hE hP).2.1, (rd_t2 (v := v) (u := u) (d := d) hn hE hP).2.2.1, (rd_t2 (v := v) (u := u) (d := d) hn hE hP).2.2.2.1, (rd_t2 (v := v) (u := u) (d := d) hn hE hP).2.2.2.2, by omega⟩
  | 3, hE, hP => exact ⟨_, _, (rd_t3 (v := v) hn hE hP).1, (rd_t3 (v := v) (u := u) (d := d) hn hE hP).2.1, (rd_t3 (v := v) (u := u) (d := d) hn hE hP).2.2.1, (rd_t3 (v := v) (u := u) (d := d) hn hE hP).2.2.2.1, (rd_t3 (v := v) (u := u) (d := d) hn hE hP).2.2.2.2, by omega⟩
  | 4, hE, hP => exact ⟨_, _, (rd_t4 (v := v) hn hE hP).1, (rd_t4 (v := v) (u := u) (d := d) hn hE hP).2.1, (rd_t4 (v := v) (u := u) (d := d) hn hE hP).2.2.1, (rd_t4 (v := v) (u := u) (d := d) hn hE hP).2.2.2.1, (rd_t4 (v := v) (u := u) (d := d) hn hE hP).2.2.2.2, by omega⟩
  | 5, hE, hP => exact ⟨_, _, (rd_t5 (v := v) hn hE hP).1, (rd_t5 (v := v) (u := u) (d := d) hn hE hP).2.1, (rd_t5 (v := v) (u := u) (d := d) hn hE hP).2.2.1, (rd_t5 (v := v) (u := u) (d := d) hn hE hP).2.2.2.1, (rd_t5 (v := v) (u := u) (d := d) hn hE hP).2.2.2.2, by omega⟩
  | 6, hE, hP => exact ⟨_, _, (rd_t6 (v := v) hn hE hP).1, (rd_t6 (v := v) (u := u) (d := d) hn hE hP).2.1, (rd_t6 (v := v) (u := u) (d := d) hn hE hP).2.2.1, (rd_t6 (v := v) (u := u) (d := d) hn hE hP).2.2.2.1, (rd_t6 (v := v) (u := u) (d := d) hn hE hP).2.2.2.2, by omega⟩
  | 7, hE, hP => exact ⟨_, _, (rd_t7 (v := v) hn hE hP).1, (rd_t7 (v := v) (u := u) (d := d) hn hE hP).2.1, (rd_t7 (v := v) (u := u) (d := d) hn hE hP).2.2.1, (rd_t7 (v := v) (u := u) (d := d) hn hE hP).2.2.2.1, (rd_t7 (v := v) (u := u) (d := d) hn hE hP).2.2.2.2, by omega⟩
  | _ + 8, hE, hP => exact ⟨_, _, (rd_t8 (v := v) hn hE hP).1, (rd_t8 (v := v) (u := u) (d := d) hn hE hP).2.1, (rd_t8 (v := v) (u := u) (d := d) hn hE hP).2.2.1, (rd_t8 (v := v) (u := u) (d := d) hn hE hP).2.2.2.1, (rd_t8 (v := v) (u := u) (d := d) hn hE hP).2.2.2.2, by omega⟩
theorem ln_ord {o p : Nat} (h0 : C 9 o 0 < 3) (h1 : C 9 o 3 < 100) (hp : p = n) (hE : E.drop i = ordL C o p ++ rE) (hP : P.drop n = testP (C 9 o 2) (i + 3) ++ rP) : ∃ i1 n1, RLN u E P (d + 14) i n i1 n1 ∧ TK E i1 59 0 ∧ E.drop (i1 + 1) = rE ∧ i ≤ i1 ∧ ¬ tK (E.getD i tk0) = 260 ∧ P.drop n1 = rP ∧ n1 ≤ P.length := by
  have eE : mE = 166 := rfl
  have x0 : E.drop i = orT (15 + C 9 o 0) [32] p :: nmT 115 (C 9 o 1) [32] 11 :: kwT 18 [32] :: (testL (C 9 o 2) (C 9 o 4) (C 9 o 3) (C 9 o 5) ++ (syT 59 [] :: rE)) := by
    rw [hE]
    unfold ordL
    simp only [List.cons_append, List.append_assoc, List.nil_append]
  obtain ⟨a0, x1, hi⟩ := drop_hd x0
  obtain ⟨t1, x2⟩ := TKs (k := 258) (r := 11) x1 rfl rfl rfl
  obtain ⟨t2, x3⟩ := TKs (k := 18) (r := 0) x2 rfl rfl rfl
  obtain ⟨i1, j1, r1, p1, tE, xE, yE, hle⟩ := rd_test (u := u) (d := d + 1) (rP := rP) h1 x3 hP
  have k0 : tK (E.getD i tk0) = 15 + C 9 o 0 := by rw [a0]; rfl
  refine ⟨i1, j1 + 1, fun w h => ?_, tE, xE, by omega, by rw [k0]; omega, yE, p1.1⟩
  have hput := h.put hi (by rw [a0]; exact hp)
  obtain ⟨w1, e1, g1⟩ := c_take (d := d + 12) hput hi k0 (role := 6) (by rw [a0]; rfl) (Or.inl rfl)
  obtain ⟨w2, e2, g2⟩ := c_takeT (d := d + 12) g1 t1
  obtain ⟨w3, e3, g3⟩ := c_takeT (d := d + 12) g2 t2
  obtain ⟨w4, e4, g4⟩ := r1 w3 g3
  obtain ⟨w5, e5, g5⟩ := c_opAdd (d := d + 11) g4 p1.1 p1.2
  refine ⟨w5, ?_, g5⟩
  have hk : mI w 217 3 = nI (15 + C 9 o 0) := by rw [h.kd, k0]
  have z : mX (d + 14) 36 0 [.ref 217, mJ] [] w = mX (d + 14) 36 420 [.ref 217, .int (nI (15 + C 9 o 0))] [] w := by
    rcases (show C 9 o 0 = 0 ∨ C 9 o 0 = 1 ∨ C 9 o 0 = 2 by omega) with q | q | q
    · rw [q] at hk ⊢; rw [s_36_0_15 h.k.t2 hk, hk]
    · rw [q] at hk ⊢; rw [s_36_0_16 h.k.t2 hk, hk]
    · rw [q] at hk ⊢; rw [s_36_0_17 h.k.t2 hk, hk]
  have hEl := h.1.2.1
  rw [e_36, z, b_36_420 h.k.t2 h.k.s20 h.k.t20 h.k.s2j.2.2.2.2.1 h.k.s21 h.k.t21, h.k.s2j.2.2.2.2.2, h.k.g21, h.he, h.sz, c_put7 h.k (by decide) (by decide) (by omega)]
  simp only [mThen_ok, Option.toList_some, Option.toList_none, List.cons_append, List.nil_append]
  rw [b_36_441 hput.k.t2, e1]
  simp only [mThen_ok, Option.toList_some, Option.toList_none, List.cons_append, List.nil_append]
  rw [b_36_448, if_neg n10, b_36_451 g1.k.t2, e2]
  simp only [mThen_ok, Option.toList_some, Option.toList_none, List.cons_append, List.nil_append]
  rw [b_36_460, if_neg n10, b_36_463 g2.k.t2, e3]
  simp only [mThen_ok, Option.toList_some, Option.toList_none, List.cons_append, List.nil_append]
  rw [b_36_470, if_neg n10, b_36_473 g3.k.t2, e4]
  simp only [mThen_ok, Option.toList_some, Option.toList_none, List.cons_append, List.nil_append]
  rw [b_36_478, if_neg n10, b_36_481 g4.k.t2, e_39, b_39_0 g4.k.t2 g4.k.s21 g4.k.t21, g4.k.g21, g4.he, e5]
  simp only [mThen_ok, Option.toList_some, Option.toList_none, List.cons_append, List.nil_append]
  rw [b_39_13]
  simp only [mThen_ok, Option.toList_some, Option.toList_none, List.cons_append, List.nil_append]
  rw [b_36_485, if_neg n10, b_36_488, b_36_493 kr1]
end
