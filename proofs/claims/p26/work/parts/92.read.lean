/-! ===== a whole list: its tokens, its operations; the grammar reads it ===== -/
def secL (f : Nat → List Tk) : Nat → Nat → List Tk
  | 0, _ => []
  | m + 1, t => f t ++ secL f m (t + 1)
def ordsL (C : CD) : Nat → Nat → Nat → List Tk
  | 0, _, _ => []
  | m + 1, o, p => ordL C o p ++ ordsL C m (o + 1) (p + (testP (C 9 o 2) 0).length)
def codeL (C : CD) : Nat → Nat → Nat → List (Nat × Nat)
  | 0, _, _ => []
  | m + 1, o, i => testP (C 9 o 2) (i + 3) ++ codeL C m (o + 1) (i + (ordL C o 0).length)
/-- the tokens in front of the orders -/
def headL (C : CD) : List Tk := secL (tonL C) (C 0 0 0) 0 ++ (secL (rooL C) (C 0 0 1) 0 ++ (secL (worL C) (C 0 0 2) 0 ++ (secL (speL C) (C 0 0 3) 0 ++ secL (rouL C) (C 0 0 4) 0)))
def EL (C : CD) : List Tk := headL C ++ ordsL C (C 0 0 5) 0 0
def PL (C : CD) : List (Nat × Nat) := codeL C (C 0 0 5) 0 (headL C).length
/-- what a list's numbers are besides: the knowledge as it is told -/
def KnOk (C : CD) : Prop := ∀ s, s < C 0 0 3 → (∀ i, C 12 s i < 15 ∧ C 11 s i < C 0 0 0) ∧ 1 ≤ C 10 s 0 ∧ C 10 s 0 ≤ 4
section
variable {d i j m k n i1 n1 i2 n2 : Nat} {u w : MW} {E : List Tk} {P : List (Nat × Nat)} {rE : List Tk} {rP : List (Nat × Nat)} {C : CD}
def RLs (u : MW) (E : List Tk) (P : List (Nat × Nat)) (D i n i' n' : Nat) : Prop := ∀ w q, q ≤ i → GI u w E P i n false → ∃ w' q', q' ≤ i' ∧ mX D 34 33 [.ref 217, .int (nI q)] [] w = mX D 34 33 [.ref 217, .int (nI q')] [] w' ∧ GI u w' E P i' n' false
theorem RLs.refl {D : Nat} : RLs u E P D i n i n := fun w q hq h => ⟨w, q, hq, rfl, h⟩
theorem RLs.trans {D : Nat} (a : RLs u E P D i n i1 n1) (b : RLs u E P D i1 n1 i2 n2) : RLs u E P D i n i2 n2 := by
  intro w q hq h
  obtain ⟨w1, q1, z1, e1, h1⟩ := a w q hq h
  obtain ⟨w2, q2, z2, e2, h2⟩ := b w1 q1 z1 h1
  exact ⟨w2, q2, z2, e1.trans e2, h2⟩
theorem RLs.line (l : RLN u E P (d + 1) i n i1 n1) (t : TK E i1 59 0) (hi : i ≤ i1) (hk : ¬ tK (E.getD i tk0) = 260) : RLs u E P (d + 2) i n (i1 + 1) n1 := by
  intro w q hq h
  obtain ⟨w1, e1, h1⟩ := l w h
  obtain ⟨w2, e2, h2⟩ := c_takeT (d := d) h1 t
  refine ⟨w2, q + 1, by omega, ?_, h2⟩
  have hE := h.1.2.1
  have hl := t.1
  have hb := h.kl i
  rw [b_34_33, ijlt (by decide) (by omega), if_neg (by omega), b_34_40 h.k.t2, h.kd, ijeq (by omega) (by decide), if_neg hk, b_34_50 h.k.t2, e1]
  simp only [mThen_ok, Option.toList_some, Option.toList_none, List.cons_append, List.nil_append]
  rw [b_34_54, if_neg n10, b_34_57 h1.k.t2, e2]
  simp only [mThen_ok, Option.toList_some, Option.toList_none, List.cons_append, List.nil_append]
  rw [b_34_64, if_pos n10, b_34_72, jadd]
/-- a section of lines without operations -/
theorem rl_sec {D : Nat} {f : Nat → List Tk} {N : Nat} (hf : ∀ t i n rE, t < N → E.drop i = f t ++ rE → ∃ i1, RLs u E P D i n i1 n ∧ E.drop i1 = rE ∧ i1 ≤ E.length) : ∀ (m t i n : Nat) (rE : List Tk), t + m ≤ N → i ≤ E.length → E.drop i = secL f m t ++ rE → ∃ i1, RLs u E P D i n i1 n ∧ E.drop i1 = rE ∧ i1 ≤ E.length := by
  intro m
  induction m with
  | zero => intro t i n rE ht hi h; exact ⟨i, RLs.refl, h, hi⟩
  | succ m ih =>
    intro t i n rE ht hi h
    have h' : E.drop i = f t ++ (secL f m (t + 1) ++ rE) := by rw [h]; show (f t ++ secL f m (t + 1)) ++ rE = _; rw [List.append_assoc]
    obtain ⟨i1, a1, a2, a3⟩ := hf t i n _ (by omega) h'
    obtain ⟨i2, b1, b2, b3⟩ := ih (t + 1) i1 n rE (by omega) a3 a2
    exact ⟨i2, a1.trans b1, b2, b3⟩
theorem testP_len (m i : Nat) : (testP m i).length = (testP m 0).length := by
  unfold testP
  split <;> rfl
theorem ordL_len {C : CD} {o p : Nat} : (ordL C o p).length = (ordL C o 0).length := rfl
theorem testP_pos (m i : Nat) : 1 ≤ (testP m i).length := (tst_len m 0 0 0 i).2
theorem rl_ords (hc : CfOk C) : ∀ (m o i n : Nat), o + m ≤ C 0 0 5 → i ≤ E.length → n ≤ P.length → E.drop i = ordsL C m o n → P.drop n = codeL C m o i → ∃ i1 n1, RLs u E P (d + 15) i n i1 n1 ∧ E.drop i1 = [] ∧ P.drop n1 = [] ∧ i1 ≤ E.length ∧ n1 ≤ P.length := by
  intro m
  induction m with
  | zero => intro o i n ho hi hn hE hP; exact ⟨i, n, RLs.refl, hE, hP, hi, hn⟩
  | succ m ih =>
    intro o i n ho hi hn hE hP
    have hco := hc.2.2.2.2.2.2 o (by omega)
    obtain ⟨i1, n1, l, t, xE, hle, hk, yP, hn1⟩ := ln_ord (u := u) (d := d) (n := n) hco.1 (by omega) rfl hE hP
    have L1 := congrArg List.length hE
    have L2 := congrArg List.length xE
    have L3 := congrArg List.length hP
    have L4 := congrArg List.length yP
    have e1 : (ordsL C (m + 1) o n).length = (ordL C o n).length + (ordsL C m (o + 1) (n + (testP (C 9 o 2) 0).length)).length := by
      show (ordL C o n ++ _).length = _
      rw [List.length_append]
    have e2 : (codeL C (m + 1) o i).length = (testP (C 9 o 2) (i + 3)).length + (codeL C m (o + 1) (i + (ordL C o 0).length)).length := by
      show (testP _ _ ++ _).length = _
      rw [List.length_append]
    rw [e1, List.length_drop] at L1
    rw [List.length_drop] at L2
    rw [e2, List.length_drop, testP_len] at L3
    rw [List.length_drop] at L4
    have hp := testP_pos (C 9 o 2) 0
    have hl := t.1
    have z0 : (ordL C o n).length = (ordL C o 0).length := rfl
    have q1 : i1 + 1 = i + (ordL C o 0).length := by omega
    have q2 : n1 = n + (testP (C 9 o 2) 0).length := by omega
    rw [← q1] at yP
    rw [← q2] at xE
    obtain ⟨i2, n2, b1, b2, b3, b4, b5⟩ := ih (o + 1) (i1 + 1) n1 (by omega) (by omega) hn1 xE yP
    exact ⟨i2, n2, (RLs.line (d := d + 13) l t hle hk).trans b1, b2, b3, b4, b5⟩
theorem rl_all (hc : CfOk C) (hn : KnOk C) (hE : E = EL C) (hP : P = PL C) : ∃ i1 n1, RLs u E P (d + 15) 0 0 i1 n1 ∧ E.drop i1 = [] ∧ P.drop n1 = [] ∧ i1 ≤ E.length ∧ n1 ≤ P.length := by
  have fin : ∀ {i i1 : Nat} {rE : List Tk}, TK E i1 59 0 → E.drop (i1 + 1) = rE → i1 + 1 ≤ E.length := fun t _ => t.1
  have s0 : E.drop 0 = secL (tonL C) (C 0 0 0) 0 ++ (secL (rooL C) (C 0 0 1) 0 ++ (secL (worL C) (C 0 0 2) 0 ++ (secL (speL C) (C 0 0 3) 0 ++ (secL (rouL C) (C 0 0 4) 0 ++ ordsL C (C 0 0 5) 0 0)))) := by
    rw [List.drop_zero, hE]
    unfold EL headL
    simp only [List.append_assoc]
  obtain ⟨i1, a1, x1, y1⟩ := rl_sec (u := u) (P := P) (D := d + 15) (f := tonL C) (N := C 0 0 0) (fun t i n rE ht h => by
    have hb := hc.2.1 t ht
    obtain ⟨i1, l, t1, xE, hle, hk⟩ := ln_ton (u := u) (P := P) (n := n) (d := d + 11) (by omega) h
    exact ⟨i1 + 1, RLs.line (d := d + 13) l t1 hle hk, xE, t1.1⟩) _ 0 0 0 _ (by omega) (Nat.zero_le _) s0
  obtain ⟨i2, a2, x2, y2⟩ := rl_sec (u := u) (P := P) (D := d + 15) (f := rooL C) (N := C 0 0 1) (fun t i n rE ht h => by
    have hb := hc.2.2.1 t ht
    obtain ⟨i1, l, t1, xE, hle, hk⟩ := ln_roo (u := u) (P := P) (n := n) (d := d + 11) (by omega) (by omega) h
    exact ⟨i1 + 1, RLs.line (d := d + 13) l t1 hle hk, xE, t1.1⟩) _ 0 i1 0 _ (by omega) y1 x1
  obtain ⟨i3, a3, x3, y3⟩ := rl_sec (u := u) (P := P) (D := d + 15) (f := worL C) (N := C 0 0 2) (fun t i n rE ht h => by
    have hb := hc.2.2.2.1 t ht
    obtain ⟨i1, l, t1, xE, hle, hk⟩ := ln_wor (u := u) (P := P) (n := n) (d := d + 11) ⟨hb.1, hb.2.1⟩ h
    exact ⟨i1 + 1, RLs.line (d := d + 13) l t1 hle hk, xE, t1.1⟩) _ 0 i2 0 _ (by omega) y2 x2
  obtain ⟨i4, a4, x4, y4⟩ := rl_sec (u := u) (P := P) (D := d + 15) (f := speL C) (N := C 0 0 3) (fun t i n rE ht h => by
    have hb := hc.2.2.2.2.1 t ht
    have hb2 := hn t ht
    obtain ⟨i1, l, t1, xE, hle, hk⟩ := ln_spe (u := u) (P := P) (n := n) (d := d + 11) (by omega) (fun k => by have := (hb2.1 k).1; omega) (by omega) h
    exact ⟨i1 + 1, RLs.line (d := d + 13) l t1 hle hk, xE, t1.1⟩) _ 0 i3 0 _ (by omega) y3 x3
  obtain ⟨i5, a5, x5, y5⟩ := rl_sec (u := u) (P := P) (D := d + 15) (f := rouL C) (N := C 0 0 4) (fun t i n rE ht h => by
    have hb := hc.2.2.2.2.2.1 t ht
    obtain ⟨i1, l, t1, xE, hle, hk⟩ := ln_rou (u := u) (P := P) (n := n) (d := d + 11) (by omega) (by omega) ⟨hb.2.2.2.1, hb.2.2.2.2.1⟩ h
    exact ⟨i1 + 1, RLs.line (d := d + 13) l t1 hle hk, xE, t1.1⟩) _ 0 i4 0 _ (by omega) y4 x4
  have q5 : i5 = (headL C).length := by
    have L1 := congrArg List.length x5
    have L2 := congrArg List.length hE
    unfold EL at L2
    rw [List.length_append] at L2
    rw [List.length_drop] at L1
    omega
  have p0 : P.drop 0 = codeL C (C 0 0 5) 0 i5 := by rw [List.drop_zero, hP, q5]; rfl
  obtain ⟨i6, n6, a6, x6, z6, y6, v6⟩ := rl_ords (u := u) (d := d) hc (C 0 0 5) 0 i5 0 (by omega) y5 (Nat.zero_le _) x5 p0
  exact ⟨i6, n6, ((((a1.trans a2).trans a3).trans a4).trans a5).trans a6, x6, z6, y6, v6⟩
theorem lexL_kd : ∀ (E : List Tk), lexL E = true → ∀ j, tK (E.getD j tk0) < 263 := by
  intro E
  induction E with
  | nil => intro _ j; show tK (([] : List Tk).getD j tk0) < 263; rw [List.getD_nil]; decide
  | cons t r ih =>
    intro h j
    obtain ⟨x1, x2, x3, x4, x5⟩ := lexL_split r t h
    cases j with
    | zero => show tK t < 263; have := kdOf_lt x1; omega
    | succ j => exact ih x5 j
/-- the grammar finds no error -/
theorem c_read {tx : List Nat} (hc : CfOk C) (hn : KnOk C) (hE : E = EL C) (hP : P = PL C) (hk : KW u) (hx : LX w u tx E (E.length + 1)) (hl : lexL E = true) (hE4 : E.length ≤ 399) (hP4 : P.length ≤ 400) :
    ∃ w', mK (d + 15) 34 [.ref 217] u = some (.inl (some (.int (nI NEG))), w') ∧ GI u w' E P E.length P.length false := by
  have eE : mE = 166 := rfl
  have hK := lexL_kd E hl
  have k1 : KW (wI u 217 2 (nI 0)) := hk.wI
  have k2 : KW (wI (wI u 217 2 (nI 0)) 217 3 (nI (tK (E.getD 0 tk0)))) := k1.wI
  have k3 : KW (wI (wI (wI u 217 2 (nI 0)) 217 3 (nI (tK (E.getD 0 tk0)))) 214 2 (nI 0)) := k2.wI
  obtain ⟨_, _, hx3⟩ := hx
  have r70 := k1.row 170 (by decide) (by decide)
  have m1 : mI (wI u 217 2 (nI 0)) 217 2 = nI 0 := by rw [miI, if_pos ⟨rfl, rfl⟩]
  have m2 : mI (wI u 217 2 (nI 0)) 170 0 = nI (tK (E.getD 0 tk0)) := by rw [miI, if_neg (by omega)]; exact (hx3 0 (by omega)).1
  have g0 : GI u (wI (wI (wI u 217 2 (nI 0)) 217 3 (nI (tK (E.getD 0 tk0)))) 214 2 (nI 0)) E P 0 0 false := by
    refine ⟨⟨k3, hE4, hP4, hK⟩, ((frX.refl.set (Or.inr (Or.inr (by decide)))).set (Or.inr (Or.inr (by decide)))).set (Or.inr (Or.inr (by decide))), ⟨?_, ?_, ?_⟩, fun j hj => ?_, fun j hj => ?_, fun j hj => ?_, fun j hj => absurd hj (by omega)⟩
    · rw [miI, if_neg (by omega), miI, if_neg (by omega), m1]
    · rw [miI, if_neg (by omega), miI, if_pos ⟨rfl, rfl⟩]
    · rw [miI, if_pos ⟨rfl, rfl⟩]
    · rw [miI, if_neg (by omega), miI, if_neg (by omega), miI, if_neg (by omega)]; exact (hx3 j (by omega)).1
    · rw [miI, if_neg (by omega), miI, if_neg (by omega), miI, if_neg (by omega), if_neg (by omega)]; exact (hx3 j (by omega)).2.1
    · rw [miI, if_neg (by omega), miI, if_neg (by omega), miI, if_neg (by omega), if_neg (by rintro (q | q); omega; exact absurd q.2 (by decide))]; exact (hx3 j (by omega)).2.2.1
  obtain ⟨i1, n1, r, x1, x2, y1, y2⟩ := rl_all (u := u) (d := d) hc hn hE hP
  obtain ⟨w', q', hq, e1, h1⟩ := r _ 0 (Nat.zero_le _) g0
  have L1 : i1 = E.length := by
    have := congrArg List.length x1
    rw [List.length_drop, List.length_nil] at this
    omega
  have L2 : n1 = P.length := by
    have := congrArg List.length x2
    rw [List.length_drop, List.length_nil] at this
    omega
  rw [L1, L2] at h1
  refine ⟨w', ?_, h1⟩
  have z := @b_34_20 (d + 15) 217 (nI (tK (E.getD 0 tk0))) 217 (wI u 217 2 (nI 0)) k1.t2 (by omega) k2.t2 k2.s21 k2.t21 (by rw [k2.g21]; omega)
  rw [k2.g21] at z
  have hk9 : tK (E.getD E.length tk0) = 260 := by rw [List.getD_eq_getElem?_getD, List.getElem?_eq_none (Nat.le_refl _)]; rfl
  rw [e_34, b_34_0 hk.t2 (by omega) k1.t2 k1.s20 k1.t20 k1.s2j.1, k1.s2j.2.1, m1, c_getN r70.1 (by omega) (by omega), m2]
  simp only [mThen_ok, Option.toList_some, Option.toList_none, List.cons_append, List.nil_append]
  rw [z, e1, b_34_33, ijlt (by decide) (by omega), if_neg (by omega), b_34_40 h1.k.t2, h1.kd, hk9, if_pos rfl, b_34_78 h1.k.t2, h1.kd, hk9, if_neg (fun q => q rfl), b_34_88, b_34_96]
  rfl
end
