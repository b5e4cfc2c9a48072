/-! ===== the grammar: what it holds at any time; a token taken; an operation added ===== -/
/-- the grammar's own cells -/
def gF (c : Nat) : Prop := c = 173 ∨ c = 174 ∨ (214 ≤ c ∧ c ≤ 217)
def frX (u w : MW) : Prop := ∃ J, w = wJ u J ∧ ∀ c k, ¬ gF c → J c k = mI u c k
/-- i tokens of E are read, n operations of P are made; o: the value of the token that is next is set -/
def GI (u w : MW) (E : List Tk) (P : List (Nat × Nat)) (i n : Nat) (o : Bool) : Prop :=
  (KW w ∧ E.length ≤ 399 ∧ P.length ≤ 400 ∧ ∀ j, tK (E.getD j tk0) < 263) ∧ frX u w ∧
  (mI w 217 2 = nI i ∧ mI w 217 3 = nI (tK (E.getD i tk0)) ∧ mI w 214 2 = nI n) ∧
  (∀ j, j ≤ E.length → mI w 170 j = nI (tK (E.getD j tk0))) ∧
  (∀ j, j ≤ E.length → mI w 173 j = nI (if j < i then tR (E.getD j tk0) else 0)) ∧
  (∀ j, j ≤ E.length → mI w 174 j = nI (if j < i ∨ (j = i ∧ o = true) then tV (E.getD j tk0) else v0 (E.getD j tk0))) ∧
  (∀ j, j < n → mI w 215 j = nI (P.getD j (0, 0)).1 ∧ mI w 216 j = nI (P.getD j (0, 0)).2)
section
variable {d i n : Nat} {u w w' : MW} {E : List Tk} {P : List (Nat × Nat)} {o : Bool}
theorem frX.refl : frX w w := ⟨mI w, (wJ_self w).symm, fun _ _ _ => rfl⟩
theorem frX.set {c k : Nat} {x : Int32} (h : frX u w) (hc : gF c) : frX u (wI w c k x) := by
  obtain ⟨J, rfl, a⟩ := h
  refine ⟨jw J c k x, wI_wJ _ _ _ _ _, fun c' k' g => ?_⟩
  unfold jw
  rw [if_neg (fun q => g (by rw [q.1]; exact hc))]
  exact a c' k' g
theorem KW.t2 (k : KW w) : mTg w 217 = 2 := k.tg 217 (by decide) (by decide)
theorem KW.g20 (k : KW w) : gR w 217 0 = 169 := gR_of (k.rf 51 (by decide))
theorem KW.g21 (k : KW w) : gR w 217 1 = 214 := gR_of (k.rf 52 (by decide))
theorem KW.s20 (k : KW w) : mR w 217 0 = some (gR w 217 0) := by rw [k.g20]; exact k.rf 51 (by decide)
theorem KW.s21 (k : KW w) : mR w 217 1 = some (gR w 217 1) := by rw [k.g21]; exact k.rf 52 (by decide)
theorem KW.t20 (k : KW w) : mTg w (gR w 217 0) = 7 := by rw [k.g20]; exact k.t7
theorem KW.t21 (k : KW w) : mTg w (gR w 217 1) = 1 := by rw [k.g21]; exact k.tg 214 (by decide) (by decide)
theorem KW.g10 (k : KW w) : gR w 214 0 = 215 := gR_of (k.rf 47 (by decide))
theorem KW.g11 (k : KW w) : gR w 214 1 = 216 := gR_of (k.rf 48 (by decide))
theorem KW.s10 (k : KW w) : mR w 214 0 = some (gR w 214 0) := by rw [k.g10]; exact k.rf 47 (by decide)
theorem KW.s11 (k : KW w) : mR w 214 1 = some (gR w 214 1) := by rw [k.g11]; exact k.rf 48 (by decide)
theorem KW.s2j (k : KW w) : mR w (gR w 217 0) 1 = some (gR w (gR w 217 0) 1) ∧ gR w (gR w 217 0) 1 = 170 ∧ mR w (gR w 217 0) 4 = some (gR w (gR w 217 0) 4) ∧ gR w (gR w 217 0) 4 = 173 ∧ mR w (gR w 217 0) 5 = some (gR w (gR w 217 0) 5) ∧ gR w (gR w 217 0) 5 = 174 := by
  rw [k.g20]
  exact ⟨k.s7.1, k.g7.1, k.s7.2.2.2.1, k.g7.2.2.2.1, k.s7.2.2.2.2, k.g7.2.2.2.2⟩
theorem GI.k (h : GI u w E P i n o) : KW w := h.1.1
theorem GI.kd (h : GI u w E P i n o) : mI w 217 3 = nI (tK (E.getD i tk0)) := h.2.2.1.2.1
theorem GI.kl (h : GI u w E P i n o) (j : Nat) : tK (E.getD j tk0) < 263 := h.1.2.2.2 j
theorem GI.he (h : GI u w E P i n o) : mI w 217 2 = nI i := h.2.2.1.1
theorem GI.sz (h : GI u w E P i n o) : mI w 214 2 = nI n := h.2.2.1.2.2
/-- the next token isn't of the kind that is due -/
theorem c_take0 {due : Nat} {x : Int32} (h : GI u w E P i n o) (hd : due < 2147483648) (hk : ¬ tK (E.getD i tk0) = due) : mK (d + 1) 35 [.ref 217, .int (nI due), .int x] w = some (.inl (some (.int (nI 0))), w) := by
  have := h.kl i
  rw [e_35, b_35_0 h.k.t2, h.kd, ijeq (by omega) hd, if_neg hk, b_35_8]
/-- the next token is taken -/
theorem c_take {due role : Nat} (h : GI u w E P i n o) (hi : i < E.length) (hk : tK (E.getD i tk0) = due) (hr : tR (E.getD i tk0) = role) (hv : o = true ∨ tV (E.getD i tk0) = v0 (E.getD i tk0)) :
    ∃ w', mK (d + 1) 35 [.ref 217, .int (nI due), .int (nI role)] w = some (.inl (some (.int (nI 1))), w') ∧ GI u w' E P (i + 1) n false := by
  have eE : mE = 166 := rfl
  obtain ⟨⟨k, hE, hP, hK⟩, f, ⟨a1, a2, a3⟩, b1, b2, b3, b4⟩ := h
  have k1 : KW (wI w 173 i (nI role)) := k.wI
  have k2 : KW (wI (wI w 173 i (nI role)) 217 2 (nI (i + 1))) := k1.wI
  have k3 : KW (wI (wI (wI w 173 i (nI role)) 217 2 (nI (i + 1))) 217 3 (nI (tK (E.getD (i + 1) tk0)))) := k2.wI
  have hd : due < 263 := hk ▸ hK i
  have n2 : mI (wI w 173 i (nI role)) 217 2 = nI i := by rw [miI, if_neg (by omega), a1]
  have n3 : mI (wI (wI w 173 i (nI role)) 217 2 (nI (i + 1))) 217 2 = nI (i + 1) := by rw [miI, if_pos ⟨rfl, rfl⟩]
  have n4 : mI (wI (wI w 173 i (nI role)) 217 2 (nI (i + 1))) 170 (i + 1) = nI (tK (E.getD (i + 1) tk0)) := by rw [miI, if_neg (by omega), miI, if_neg (by omega)]; exact b1 (i + 1) (by omega)
  have r70 := k2.row 170 (by decide) (by decide)
  have run : mK (d + 1) 35 [.ref 217, .int (nI due), .int (nI role)] w = some (.inl (some (.int (nI 1))), wI (wI (wI w 173 i (nI role)) 217 2 (nI (i + 1))) 217 3 (nI (tK (E.getD (i + 1) tk0)))) := by
    rw [e_35, b_35_0 k.t2, a2, hk, if_pos rfl, b_35_10 k.t2 k.s20 k.t20 k.s2j.2.2.1, k.s2j.2.2.2.1, a1, c_put7 k (by decide) (by decide) (by omega)]
    simp only [mThen_ok, Option.toList_some, Option.toList_none, List.cons_append, List.nil_append]
    have s := @b_35_25 d 217 (wI w 173 i (nI role)) k1.t2 (by omega)
    rw [n2, jadd] at s
    rw [s k2.t2 k2.s20 k2.t20 k2.s2j.1, k2.s2j.2.1, n3, c_getN r70.1 (by omega) (by omega), n4]
    simp only [mThen_ok, Option.toList_some, Option.toList_none, List.cons_append, List.nil_append]
    rw [b_35_50 k2.t2 (by omega)]
  refine ⟨_, run, ⟨⟨k3, hE, hP, hK⟩, (((f.set (Or.inl rfl)).set (Or.inr (Or.inr (by decide)))).set (Or.inr (Or.inr (by decide)))), ⟨?_, ?_, ?_⟩, fun j hj => ?_, fun j hj => ?_, fun j hj => ?_, fun j hj => ?_⟩⟩
  · rw [miI, if_neg (by omega), miI, if_pos ⟨rfl, rfl⟩]
  · rw [miI, if_pos ⟨rfl, rfl⟩]
  · rw [miI, if_neg (by omega), miI, if_neg (by omega), miI, if_neg (by omega), a3]
  · rw [miI, if_neg (by omega), miI, if_neg (by omega), miI, if_neg (by omega), b1 j hj]
  · rw [miI, if_neg (by omega), miI, if_neg (by omega), miI]
    by_cases g : j = i
    · rw [if_pos ⟨rfl, g⟩, if_pos (by omega), g, hr]
    · rw [if_neg (fun q => g q.2), b2 j hj]
      by_cases g2 : j < i
      · rw [if_pos g2, if_pos (by omega)]
      · rw [if_neg g2, if_neg (by omega)]
  · rw [miI, if_neg (by omega), miI, if_neg (by omega), miI, if_neg (by omega), b3 j hj]
    by_cases g : j = i
    · subst g
      have eR : (if j < j + 1 ∨ (j = j + 1 ∧ false = true) then tV (E.getD j tk0) else v0 (E.getD j tk0)) = tV (E.getD j tk0) := if_pos (Or.inl (by omega))
      rw [eR]
      split
      · rfl
      · rename_i z
        rcases hv with q | q
        · exact absurd (Or.inr ⟨rfl, q⟩) z
        · rw [q]
    · have eR : (j < i + 1 ∨ (j = i + 1 ∧ false = true)) ↔ (j < i ∨ (j = i ∧ o = true)) := by
        constructor
        · rintro (q | q)
          · exact Or.inl (by omega)
          · exact absurd q.2 (by decide)
        · rintro (q | q)
          · exact Or.inl (by omega)
          · exact absurd q.1 g
      simp only [eR]
  · rw [miI, if_neg (by omega), miI, if_neg (by omega), miI, if_neg (by omega)]
    exact ⟨(b4 j hj).1, by rw [miI, if_neg (by omega), miI, if_neg (by omega), miI, if_neg (by omega)]; exact (b4 j hj).2⟩
/-- an operation is added -/
theorem c_opAdd {op arg : Nat} (h : GI u w E P i n o) (hn : n < P.length) (hp : P.getD n (0, 0) = (op, arg)) :
    ∃ w', mK (d + 1) 30 [.ref 214, .int (nI op), .int (nI arg)] w = some (.inl none, w') ∧ GI u w' E P i (n + 1) o := by
  have eE : mE = 166 := rfl
  obtain ⟨⟨k, hE, hP, hK⟩, f, ⟨a1, a2, a3⟩, b1, b2, b3, b4⟩ := h
  have k1 : KW (wI w 215 n (nI op)) := k.wI
  have k2 : KW (wI (wI w 215 n (nI op)) 216 n (nI arg)) := k1.wI
  have k3 : KW (wI (wI (wI w 215 n (nI op)) 216 n (nI arg)) 214 2 (nI (n + 1))) := k2.wI
  have t1 : ∀ {w : MW}, KW w → mTg w 214 = 1 := fun k => k.tg 214 (by decide) (by decide)
  have n2 : mI (wI w 215 n (nI op)) 214 2 = nI n := by rw [miI, if_neg (by omega), a3]
  have n3 : mI (wI (wI w 215 n (nI op)) 216 n (nI arg)) 214 2 = nI n := by rw [miI, if_neg (by omega), n2]
  have l1 : mLn w 215 = 400 := k.ln 215 (by decide) (by decide)
  have l2 : mLn (wI w 215 n (nI op)) 216 = 400 := k1.ln 216 (by decide) (by decide)
  have run : mK (d + 1) 30 [.ref 214, .int (nI op), .int (nI arg)] w = some (.inl none, wI (wI (wI w 215 n (nI op)) 216 n (nI arg)) 214 2 (nI (n + 1))) := by
    rw [e_30, b_30_0 (t1 k) k.s10, k.g10, a3, c_putN (k.tg 215 (by decide) (by decide)) (by omega) (by omega) (by omega)]
    simp only [mThen_ok, Option.toList_some, Option.toList_none, List.cons_append, List.nil_append]
    rw [b_30_12 (t1 k1) k1.s11, k1.g11, n2, c_putN (k1.tg 216 (by decide) (by decide)) (by omega) (by omega) (by omega)]
    simp only [mThen_ok, Option.toList_some, Option.toList_none, List.cons_append, List.nil_append]
    rw [b_30_24 (t1 k2), n3, jadd, c_minN (by omega) (by decide), Nat.min_eq_left (by omega)]
    simp only [mThen_ok, Option.toList_some, Option.toList_none, List.cons_append, List.nil_append]
    rw [b_30_37 (t1 k2) (by omega)]
  refine ⟨_, run, ⟨⟨k3, hE, hP, hK⟩, (((f.set (Or.inr (Or.inr (by decide)))).set (Or.inr (Or.inr (by decide)))).set (Or.inr (Or.inr (by decide)))), ⟨?_, ?_, ?_⟩, fun j hj => ?_, fun j hj => ?_, fun j hj => ?_, fun j hj => ?_⟩⟩
  · rw [miI, if_neg (by omega), miI, if_neg (by omega), miI, if_neg (by omega), a1]
  · rw [miI, if_neg (by omega), miI, if_neg (by omega), miI, if_neg (by omega), a2]
  · rw [miI, if_pos ⟨rfl, rfl⟩]
  · rw [miI, if_neg (by omega), miI, if_neg (by omega), miI, if_neg (by omega), b1 j hj]
  · rw [miI, if_neg (by omega), miI, if_neg (by omega), miI, if_neg (by omega), b2 j hj]
  · rw [miI, if_neg (by omega), miI, if_neg (by omega), miI, if_neg (by omega), b3 j hj]
  · by_cases g : j = n
    · subst g
      rw [hp]
      refine ⟨?_, ?_⟩
      · rw [miI, if_neg (by omega), miI, if_neg (by omega), miI, if_pos ⟨rfl, rfl⟩]
      · rw [miI, if_neg (by omega), miI, if_pos ⟨rfl, rfl⟩]
    · refine ⟨?_, ?_⟩
      · rw [miI, if_neg (by omega), miI, if_neg (by omega), miI, if_neg (by omega)]
        exact (b4 j (by omega)).1
      · rw [miI, if_neg (by omega), miI, if_neg (by omega), miI, if_neg (by omega)]
        exact (b4 j (by omega)).2
/-- a reading goes well: from token i and operation n to i' and n' -/
def RD (u : MW) (E : List Tk) (P : List (Nat × Nat)) (D m l i n i' n' : Nat) : Prop := ∀ w, GI u w E P i n false → ∃ w', mK D m [.ref 217, .int (nI l)] w = some (.inl (some (.int (nI 1))), w') ∧ GI u w' E P i' n' false
end
