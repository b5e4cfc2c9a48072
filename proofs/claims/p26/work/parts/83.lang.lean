/-! ===== the class's cells as they stay; texts; the tape ===== -/
section
variable {u w w' : MW}
/-- tags, lengths and references of the class's cells -/
def KW (w : MW) : Prop := 276 ≤ mSz w ∧ (∀ i, i < 110 → mTg w (166 + i) = (cL.getD i (0, 0)).1 ∧ mLn w (166 + i) = (cL.getD i (0, 0)).2) ∧ (∀ j, j < 116 → mR w (cR.getD j (0, 0, 0)).1 (cR.getD j (0, 0, 0)).2.1 = some (cR.getD j (0, 0, 0)).2.2)
theorem CW.kw {u w : MW} (h : CW u w 110 116 3) : KW w := ⟨by have := h.1.1; omega, h.2.1, fun j hj => (h.2.2.1 j hj).1⟩
theorem KW.tg {w : MW} (h : KW w) (c : Nat) (h1 : 166 ≤ c) (h2 : c < 276) : mTg w c = (cL.getD (c - 166) (0, 0)).1 := by
  have := (h.2.1 (c - 166) (by omega)).1
  rwa [show 166 + (c - 166) = c by omega] at this
theorem KW.ln {w : MW} (h : KW w) (c : Nat) (h1 : 166 ≤ c) (h2 : c < 276) : mLn w c = (cL.getD (c - 166) (0, 0)).2 := by
  have := (h.2.1 (c - 166) (by omega)).2
  rwa [show 166 + (c - 166) = c by omega] at this
theorem KW.rf {w : MW} (h : KW w) (j : Nat) (h2 : j < 116) : mR w (cR.getD j (0, 0, 0)).1 (cR.getD j (0, 0, 0)).2.1 = some (cR.getD j (0, 0, 0)).2.2 := h.2.2 j h2
theorem cR_lo : ((List.range 116).all fun j => decide (166 ≤ (cR.getD j (0, 0, 0)).1) && decide ((cR.getD j (0, 0, 0)).1 < 276)) = true := by decide +kernel
theorem KW.of {w w' : MW} (h : KW w) (hz : mSz w ≤ mSz w') (ha : ∀ c, 166 ≤ c → c < 276 → mTg w' c = mTg w c ∧ mLn w' c = mLn w c ∧ mR w' c = mR w c) : KW w' := by
  obtain ⟨h1, h2, h3⟩ := h
  refine ⟨by omega, fun i hi => ?_, fun j hj => ?_⟩
  · obtain ⟨a1, a2, a3⟩ := ha (166 + i) (by omega) (by omega)
    rw [a1, a2]
    exact h2 i hi
  · have q := cR_lo
    rw [List.all_eq_true] at q
    have q1 := q j (List.mem_range.mpr hj)
    rw [Bool.and_eq_true, decide_eq_true_eq, decide_eq_true_eq] at q1
    obtain ⟨a1, a2, a3⟩ := ha _ q1.1 q1.2
    rw [a3]
    exact h3 j hj
theorem KW.wJ {w : MW} {J : Nat → Nat → Int32} (h : KW w) : KW (wJ w J) := h
/-- the text constants -/
def TX (w : MW) : Prop := ∀ i, i < 81 → mTg w (4 + 2 * i) = 11 ∧ mR w (4 + 2 * i) 0 = some (5 + 2 * i) ∧ mTg w (5 + 2 * i) = 51 ∧ mLn w (5 + 2 * i) = (sB i).length ∧ mI w (4 + 2 * i) 1 = nI 0 ∧ ∀ j, j < (sB i).length → mI w (5 + 2 * i) j = nI ((sB i).getD j 0)
theorem sB_len : ((List.range 81).all fun i => decide ((sB i).length ≤ 40)) = true := by decide +kernel
theorem sB_le {i : Nat} (hi : i < 81) : (sB i).length ≤ 40 := by
  have q := sB_len
  rw [List.all_eq_true] at q
  exact of_decide_eq_true (q i (List.mem_range.mpr hi))
theorem TX.g {w : MW} {i : Nat} (h : TX w) (hi : i < 81) : gR w (4 + 2 * i) 0 = 5 + 2 * i := gR_of (h i hi).2.1
theorem TX.str {w : MW} {i : Nat} (h : TX w) (hi : i < 81) : STR w (4 + 2 * i) (sB i) := by
  have g := h.g hi
  obtain ⟨h1, h2, h3, h4, h5, h6⟩ := h i hi
  have := sB_le hi
  unfold STR
  rw [g]
  exact ⟨h1, h2, h3, h4, h5, by omega, by omega, h6⟩
theorem TX.of {w w' : MW} (h : TX w) (ha : agr w w' 0 166) : TX w' := by
  intro i hi
  obtain ⟨a1, a2, a3, a4⟩ := ha (4 + 2 * i) (by omega) (by omega)
  obtain ⟨b1, b2, b3, b4⟩ := ha (5 + 2 * i) (by omega) (by omega)
  rw [a1, a4, b1, b2, a3, b3]
  exact h i hi
theorem TX.W0 {L : Nat} {xs : Nat → Int32} : TX (W0 L xs) := by
  intro i hi
  have e1 : (4 + 2 * i) % 2 = 0 := by omega
  have e2 : ¬ (5 + 2 * i) % 2 = 0 := by omega
  have e3 : (5 + 2 * i - 4) / 2 = i := by omega
  refine ⟨?_, ?_, ?_, ?_, ?_, fun j hj => ?_⟩
  · show tg0 (4 + 2 * i) = 11
    unfold tg0
    rw [if_neg (by omega), if_neg (by omega), if_neg (by omega), if_pos (by omega), if_pos e1]
  · show rf0 (4 + 2 * i) 0 = _
    unfold rf0
    rw [if_pos ⟨by omega, by omega, e1, rfl⟩]
    congr 1; omega
  · show tg0 (5 + 2 * i) = 51
    unfold tg0
    rw [if_neg (by omega), if_neg (by omega), if_neg (by omega), if_pos (by omega), if_neg e2]
  · show ln0 L (5 + 2 * i) = _
    unfold ln0
    rw [if_neg (by omega), if_neg (by omega), e3]
  · show in0 xs (4 + 2 * i) 1 = _
    unfold in0
    rw [if_neg (by omega), if_neg (by omega), if_neg (by omega), if_pos e1]
    decide +kernel
  · show in0 xs (5 + 2 * i) j = _
    unfold in0
    rw [if_neg (by omega), if_neg (by omega), if_neg (by omega), if_neg e2, e3]
theorem DGW.W0 {L : Nat} {xs : Nat → Int32} : DGW (W0 L xs) := ⟨⟨rfl, rfl, fun _ _ => rfl⟩, rfl, rfl, fun _ _ => rfl⟩
/-- the tape holds a text -/
def TP (w : MW) (tx : List Nat) : Prop := KW w ∧ mI w 167 1 = nI tx.length ∧ tx.length ≤ 2000 ∧ (∀ p, p < tx.length → mI w 168 p = nI (tx.getD p 0)) ∧ ∀ p, tx.getD p 0 < 128
def bv (tx : List Nat) (p : Nat) : Nat := tx.getD p 0
theorem bv_out {tx : List Nat} {p : Nat} (h : tx.length ≤ p) : bv tx p = 0 := by
  unfold bv
  rw [List.getD_eq_getElem?_getD, List.getElem?_eq_none h]
  rfl
def bn (b : Bool) : Nat := if b = true then 1 else 0
def isL (b : Nat) : Bool := decide (97 ≤ b) && decide (b ≤ 122)
def isD (b : Nat) : Bool := decide (48 ≤ b) && decide (b ≤ 57)
def isS (b : Nat) : Bool := decide (b = 32) || decide (b = 10)
theorem bn_lt {b : Bool} : bn b < 2147483648 := by unfold bn; split <;> omega
theorem bn_rk {b : Bool} : mRk 2 (nI (bn b)) = true := by cases b <;> decide +kernel
theorem bn0 {b : Bool} : (bn b = 0) ↔ b = false := by cases b <;> decide
end
section
variable {d p : Nat} {w : MW} {tx : List Nat}
theorem c_byteAt (h : TP w tx) (hp : p < 2147483648) : mK d 57 [.ref 167, .int (nI p)] w = some (.inl (some (.int (if p < tx.length then nI (bv tx p) else nI NEG))), w) := by
  obtain ⟨k, h1, h2, h3, h4⟩ := h
  have t1 : mTg w 167 = 5 := k.tg 167 (by decide) (by decide)
  have r1 : mR w 167 0 = some 168 := k.rf 0 (by decide)
  have g1 : gR w 167 0 = 168 := gR_of r1
  have t2 : mTg w 168 = 50 := k.tg 168 (by decide) (by decide)
  have l2 : mLn w 168 = 2000 := k.ln 168 (by decide) (by decide)
  rw [e_57, b_57_0, ijlt hp (by decide), if_neg (by omega), b_57_4 t1, h1, ijle (by omega) hp]
  by_cases g : p < tx.length
  · rw [if_neg (by omega), b_57_12 t1 (by rw [g1, r1]) (by rw [g1, t2]; decide), g1, l2, ijle (by decide) hp, if_neg (by omega), b_57_21 t1 (by rw [g1, r1]) (by rw [g1, t2]) (by rw [jlt hp (by decide)]; omega) (by rw [g1, l2, jcl hp]; omega), g1, jcl hp, h3 p g, b_57_31, if_pos g]
    rfl
  · rw [if_pos (by omega), b_57_30, b_57_31, if_neg g, jm1]
theorem ite_ba {b : Nat} {q : Bool} : (if (97 : Nat) ≤ b then q else q) = q := by split <;> rfl
theorem c_isL (h : TP w tx) (hp : p < 2147483648) : mK (d + 1) 58 [.ref 167, .int (nI p)] w = some (.inl (some (.int (nI (bn (isL (bv tx p)))))), w) := by
  have t1 : mTg w 167 = 5 := h.1.tg 167 (by decide) (by decide)
  have hb : bv tx p < 128 := h.2.2.2.2 p
  rw [e_58, b_58_0 t1, c_byteAt h hp]
  simp only [mThen_ok, Option.toList_some, Option.toList_none, List.cons_append, List.nil_append]
  rw [b_58_5]
  by_cases g : p < tx.length
  · rw [if_pos g, ijlt (by omega) (by decide)]
    by_cases g1 : bv tx p < 97
    · rw [if_pos g1, b_58_22, b_58_23 (by decide +kernel), show isL (bv tx p) = false by unfold isL; rw [decide_eq_false (by omega)]; rfl]; rfl
    · rw [if_neg g1, b_58_12, ijlt (by decide) (by omega)]
      by_cases g2 : 122 < bv tx p
      · rw [if_pos g2, b_58_22, b_58_23 (by decide +kernel), show isL (bv tx p) = false by unfold isL; rw [decide_eq_false (p := bv tx p ≤ 122) (by omega), Bool.and_false]]; rfl
      · rw [if_neg g2, b_58_18, b_58_23 (by decide +kernel), show isL (bv tx p) = true by unfold isL; rw [decide_eq_true (by omega), decide_eq_true (by omega)]; rfl]; rfl
  · rw [if_neg g, if_pos (jneg_lt2 (by decide)), b_58_22, b_58_23 (by decide +kernel), bv_out (by omega)]; rfl
theorem c_isD (h : TP w tx) (hp : p < 2147483648) : mK (d + 1) 59 [.ref 167, .int (nI p)] w = some (.inl (some (.int (nI (bn (isD (bv tx p)))))), w) := by
  have t1 : mTg w 167 = 5 := h.1.tg 167 (by decide) (by decide)
  have hb : bv tx p < 128 := h.2.2.2.2 p
  rw [e_59, b_59_0 t1, c_byteAt h hp]
  simp only [mThen_ok, Option.toList_some, Option.toList_none, List.cons_append, List.nil_append]
  rw [b_59_5]
  by_cases g : p < tx.length
  · rw [if_pos g, ijlt (by omega) (by decide)]
    by_cases g1 : bv tx p < 48
    · rw [if_pos g1, b_59_22, b_59_23 (by decide +kernel), show isD (bv tx p) = false by unfold isD; rw [decide_eq_false (by omega)]; rfl]; rfl
    · rw [if_neg g1, b_59_12, ijlt (by decide) (by omega)]
      by_cases g2 : 57 < bv tx p
      · rw [if_pos g2, b_59_22, b_59_23 (by decide +kernel), show isD (bv tx p) = false by unfold isD; rw [decide_eq_false (p := bv tx p ≤ 57) (by omega), Bool.and_false]]; rfl
      · rw [if_neg g2, b_59_18, b_59_23 (by decide +kernel), show isD (bv tx p) = true by unfold isD; rw [decide_eq_true (by omega), decide_eq_true (by omega)]; rfl]; rfl
  · rw [if_neg g, if_pos (jneg_lt2 (by decide)), b_59_22, b_59_23 (by decide +kernel), bv_out (by omega)]; rfl
theorem c_isS (h : TP w tx) (hp : p < 2147483648) : mK (d + 1) 60 [.ref 167, .int (nI p)] w = some (.inl (some (.int (nI (bn (isS (bv tx p)))))), w) := by
  have t1 : mTg w 167 = 5 := h.1.tg 167 (by decide) (by decide)
  have hb : bv tx p < 128 := h.2.2.2.2 p
  rw [e_60, b_60_0 t1, c_byteAt h hp]
  simp only [mThen_ok, Option.toList_some, Option.toList_none, List.cons_append, List.nil_append]
  rw [b_60_5]
  by_cases g : p < tx.length
  · rw [if_pos g, ijeq (by omega) (by decide)]
    by_cases g1 : bv tx p = 32
    · rw [if_pos g1, b_60_18, b_60_23 (by decide +kernel), g1]; rfl
    · rw [if_neg g1, b_60_12, ijne (by omega) (by decide)]
      by_cases g2 : bv tx p = 10
      · rw [if_neg (fun q => q g2), b_60_18, b_60_23 (by decide +kernel), g2]; rfl
      · rw [if_pos g2, b_60_22, b_60_23 (by decide +kernel), show isS (bv tx p) = false by unfold isS; rw [decide_eq_false g1, decide_eq_false g2]; rfl]; rfl
  · rw [if_neg g, if_neg (jneg_ne2 (by decide)), b_60_12, if_pos (jneg_ne2 (by decide)), b_60_22, b_60_23 (by decide +kernel), bv_out (by omega)]; rfl
/-- the first place from p on (at most n on) where a sign isn't of a kind -/
def skp (f : Nat → Bool) (tx : List Nat) : Nat → Nat → Nat
  | 0, _ => 0
  | n + 1, p => if f (bv tx p) = true then skp f tx n (p + 1) + 1 else 0
theorem c_blanks (h : TP w tx) (hp : p < 100000) : mK (d + 2) 74 [.ref 169, .int (nI p)] w = some (.inl (some (.int (nI (p + skp isS tx 2000 p)))), w) := by
  have t7 : mTg w 169 = 7 := h.1.tg 169 (by decide) (by decide)
  have r7 : mR w 169 0 = some 167 := h.1.rf 7 (by decide)
  have g7 : gR w 169 0 = 167 := gR_of r7
  have t1 : mTg w 167 = 5 := h.1.tg 167 (by decide) (by decide)
  rw [e_74, b_74_0]
  have key : ∀ n i p, n + i = 2000 → p < 200000 → mX (d + 2) 74 4 [.ref 169, mJ, .int (nI p), .int (nI i)] [] w = some (.inl (some (.int (nI (p + skp isS tx n p)))), w) := by
    intro n
    induction n with
    | zero =>
      intro i p hi hp
      rw [b_74_4, ijle (by decide) (by omega), if_pos (by omega), b_74_31]
      rfl
    | succ n ih =>
      intro i p hi hp
      rw [b_74_4, ijle (by decide) (by omega), if_neg (by omega), b_74_11 t7 (by rw [g7, r7]) (by rw [g7, t1]), g7, c_isS h (by omega)]
      simp only [mThen_ok, Option.toList_some, Option.toList_none, List.cons_append, List.nil_append]
      rw [b_74_19, ijeq bn_lt (by decide)]
      unfold skp
      by_cases g : isS (bv tx p) = true
      · have hlt : p < tx.length := by
          rcases Nat.lt_or_ge p tx.length with q | q
          · exact q
          · rw [bv_out q] at g; exact absurd g (by decide)
        have := h.2.2.1
        rw [g, if_neg (by decide), b_74_22, jadd, jadd, ih _ _ (by omega) (by omega), if_pos rfl]
        congr 6
        omega
      · rw [Bool.not_eq_true] at g
        rw [g, if_pos (by decide), b_74_31, if_neg (by decide)]
        rfl
  exact key 2000 0 p (by omega) (by omega)
end
