/-! ===== feed, trim: a text comes onto the tape ===== -/
/-- the tape has the first L bytes; besides, only the array at A differs -/
def FT (u w : MW) (A L : Nat) (bs : Nat → Nat) : Prop := (∃ J, w = wJ u J ∧ ∀ c k, ¬ (c = 167 ∨ c = 168 ∨ c = A) → J c k = mI u c k) ∧ mI w 167 1 = nI L ∧ ∀ p, p < L → mI w 168 p = nI (bs p)
/-- four bytes in one number -/
def pkB (bs : Nat → Nat) (p : Nat) : Nat → Nat
  | 0 => 0
  | j + 1 => pkB bs p j * 256 + bs (p + j)
section
variable {d A L p f k c s : Nat} {u w : MW} {bs : Nat → Nat} {tx : List Nat}
theorem FT.kw (h : FT u w A L bs) (q : KW u) : KW w := by
  obtain ⟨⟨J, rfl, _⟩, _⟩ := h
  exact q
theorem pk_step {X : Nat} (q : KW u) (hA : 276 ≤ A) (h : FT u w A L bs) (hL : L < 2000) (hX : X < 2147483648) (hs : s < 32) (hb : X / 2 ^ s % 256 = bs L) : ∃ w', mX (d + 1) 56 7 [.ref 167, .int (nI X), .int (nI s)] [] w = mX (d + 1) 56 3 [.ref 167, .int (nI X), .int (nI s + (-8 : Int32))] [] w' ∧ FT u w' A (L + 1) bs := by
  have eE : mE = 166 := rfl
  have k := h.kw q
  have t1 : mTg w 167 = 5 := k.tg 167 (by decide) (by decide)
  have g1 : gR w 167 0 = 168 := gR_of (k.rf 0 (by decide))
  have hd : X / 2 ^ s ≤ X := Nat.div_le_self _ _
  have k1 : KW (wI w 168 L (nI (bs L))) := k.wI
  obtain ⟨⟨J, rfl, a⟩, h1, h2⟩ := h
  have n1 : mI (wI (wJ u J) 168 L (nI (bs L))) 167 1 = nI L := by rw [miI, if_neg (by omega)]; exact h1
  refine ⟨wI (wI (wJ u J) 168 L (nI (bs L))) 167 1 (nI (L + 1)), ?_, ⟨jw (jw J 168 L (nI (bs L))) 167 1 (nI (L + 1)), by rw [wI_wJ, wI_wJ], fun c' k' hc => ?_⟩, ?_, fun p hp => ?_⟩
  · rw [b_56_7 t1 (by rw [g1]; exact k.rf 0 (by decide)), g1, h1, j_shr hX hs, j_and (by omega), hb, c_putN (k.tg 168 (by decide) (by decide)) (by omega) (by rw [k.ln 168 (by decide) (by decide)]; exact hL) (by rw [k.ln 168 (by decide) (by decide)]; decide)]
    simp only [mThen_ok, Option.toList_some, Option.toList_none, List.cons_append, List.nil_append]
    rw [b_56_25 (k1.tg 167 (by decide) (by decide)) (by omega), n1, jadd]
  · unfold jw
    rw [if_neg (fun z => hc (Or.inl z.1)), if_neg (fun z => hc (Or.inr (Or.inl z.1)))]
    exact a c' k' hc
  · rw [miI, if_pos ⟨rfl, rfl⟩]
  · rw [miI, if_neg (by omega), miI]
    by_cases z : p = L
    · rw [if_pos ⟨rfl, z⟩, z]
    · rw [if_neg (fun y => z y.2)]; exact h2 p (by omega)
theorem c_append (q : KW u) (hA : 276 ≤ A) (h : FT u w A L bs) (hL : L + 4 ≤ 2000) (hb : ∀ p, bs p < 128) : ∃ w', mK (d + 1) 56 [.ref 167, .int (nI (pkB bs L 4))] w = some (.inl none, w') ∧ FT u w' A (L + 4) bs := by
  have b0 := hb L
  have b1 := hb (L + 1)
  have b2 := hb (L + 2)
  have b3 := hb (L + 3)
  have hX : pkB bs L 4 = ((bs L * 256 + bs (L + 1)) * 256 + bs (L + 2)) * 256 + bs (L + 3) := by
    show (((0 * 256 + bs (L + 0)) * 256 + bs (L + 1)) * 256 + bs (L + 2)) * 256 + bs (L + 3) = _
    rw [Nat.zero_mul, Nat.zero_add, Nat.add_zero]
  have x1 : pkB bs L 4 < 2147483648 := by rw [hX]; omega
  obtain ⟨w1, e1, h1⟩ := pk_step (d := d) (s := 24) q hA h (by omega) x1 (by decide) (by rw [hX]; omega)
  obtain ⟨w2, e2, h2⟩ := pk_step (d := d) (s := 16) q hA h1 (by omega) x1 (by decide) (by rw [hX]; omega)
  obtain ⟨w3, e3, h3⟩ := pk_step (d := d) (s := 8) q hA h2 (by omega) x1 (by decide) (by rw [hX, show L + 1 + 1 = L + 2 from rfl]; omega)
  obtain ⟨w4, e4, h4⟩ := pk_step (d := d) (s := 0) q hA h3 (by omega) x1 (by decide) (by rw [hX, show L + 1 + 1 + 1 = L + 3 from rfl]; omega)
  refine ⟨w4, ?_, h4⟩
  rw [e_56, b_56_0, b_56_3, if_neg (by decide +kernel), e1, show nI 24 + (-8 : Int32) = nI 16 by decide +kernel, b_56_3, if_neg (by decide +kernel), e2, show nI 16 + (-8 : Int32) = nI 8 by decide +kernel, b_56_3, if_neg (by decide +kernel), e3, show nI 8 + (-8 : Int32) = nI 0 by decide +kernel, b_56_3, if_neg (by decide +kernel), e4, b_56_3, if_pos (by decide +kernel), b_56_41]
theorem KW.t9 (k : KW w) : mTg w 166 = 9 := k.tg 166 (by decide) (by decide)
theorem KW.g90 (k : KW w) : gR w 166 0 = 167 := gR_of (k.rf 1 (by decide))
theorem KW.s90 (k : KW w) : mR w 166 0 = some (gR w 166 0) := by rw [k.g90]; exact k.rf 1 (by decide)
theorem KW.t90 (k : KW w) : mTg w (gR w 166 0) = 5 := by rw [k.g90]; exact k.tg 167 (by decide) (by decide)
theorem c_feed (q : KW u) (hA : 276 ≤ A) (h : FT u w A L bs) (hL : L + 20 ≤ 2000) (hb : ∀ p, bs p < 128) : ∃ w', mK (d + 2) 96 [.ref 166, .int (nI (pkB bs L 4)), .int (nI (pkB bs (L + 4) 4)), .int (nI (pkB bs (L + 8) 4)), .int (nI (pkB bs (L + 12) 4)), .int (nI (pkB bs (L + 16) 4))] w = some (.inl (some (.int (nI (L + 20)))), w') ∧ FT u w' A (L + 20) bs := by
  obtain ⟨w1, e1, h1⟩ := c_append (d := d) q hA h (by omega) hb
  obtain ⟨w2, e2, h2⟩ := c_append (d := d) q hA h1 (by omega) hb
  obtain ⟨w3, e3, h3⟩ := c_append (d := d) q hA h2 (by omega) hb
  obtain ⟨w4, e4, h4⟩ := c_append (d := d) q hA h3 (by omega) hb
  obtain ⟨w5, e5, h5⟩ := c_append (d := d) q hA h4 (by omega) hb
  have k := h.kw q
  have k1 := h1.kw q
  have k2 := h2.kw q
  have k3 := h3.kw q
  have k4 := h4.kw q
  have k5 := h5.kw q
  refine ⟨w5, ?_, h5⟩
  rw [e_96, b_96_0 k.t9 k.s90 k.t90, k.g90, h.2.1, ijle (by omega) (by decide), if_pos (by omega), b_96_23 k.t9 k.s90 k.t90, k.g90, e1]
  simp only [mThen_ok, Option.toList_some, Option.toList_none, List.cons_append, List.nil_append]
  rw [b_96_31 k1.t9 k1.s90 k1.t90, k1.g90, e2]
  simp only [mThen_ok, Option.toList_some, Option.toList_none, List.cons_append, List.nil_append]
  rw [b_96_39 k2.t9 k2.s90 k2.t90, k2.g90, show L + 8 = L + 4 + 4 from rfl, e3]
  simp only [mThen_ok, Option.toList_some, Option.toList_none, List.cons_append, List.nil_append]
  rw [b_96_47 k3.t9 k3.s90 k3.t90, k3.g90, show L + 12 = L + 4 + 4 + 4 from rfl, e4]
  simp only [mThen_ok, Option.toList_some, Option.toList_none, List.cons_append, List.nil_append]
  rw [b_96_56 k4.t9 k4.s90 k4.t90, k4.g90, show L + 16 = L + 4 + 4 + 4 + 4 from rfl, e5]
  simp only [mThen_ok, Option.toList_some, Option.toList_none, List.cons_append, List.nil_append]
  rw [b_96_65 k5.t9 k5.s90 k5.t90, k5.g90, h5.2.1]
/-- the byte at a place of a text, a blank behind it -/
def byA (tx : List Nat) (p : Nat) : Nat := if p < tx.length then tx.getD p 0 else 32
/-- the text's cells and the array stay apart -/
def FA (u : MW) (c A : Nat) (tx : List Nat) : Prop := KW u ∧ STR u c tx ∧ ¬ c = 167 ∧ ¬ c = 168 ∧ ¬ c = A ∧ ¬ gR u c 0 = 167 ∧ ¬ gR u c 0 = 168 ∧ ¬ gR u c 0 = A ∧ mTg u A = 50 ∧ mLn u A = 5 ∧ 276 ≤ A ∧ tx.length < 2000 ∧ ∀ p, tx.getD p 0 < 128
theorem FT.str (h : FT u w A L bs) (g : FA u c A tx) : STR w c tx := by
  obtain ⟨⟨J, rfl, a⟩, _⟩ := h
  obtain ⟨_, ⟨s1, s2, s3, s4, s5, s6, s7, s8⟩, n1, n2, n3, n4, n5, n6, _⟩ := g
  exact ⟨s1, s2, s3, s4, (a c 1 (by omega)).trans s5, s6, s7, fun j hj => (a _ j (by show ¬ (gR u c 0 = 167 ∨ gR u c 0 = 168 ∨ gR u c 0 = A); omega)).trans (s8 j hj)⟩
theorem FT.setA {x : Int32} (h : FT u w A L bs) (hA : 276 ≤ A) : FT u (wI w A k x) A L bs := by
  obtain ⟨⟨J, rfl, a⟩, h1, h2⟩ := h
  refine ⟨⟨jw J A k x, wI_wJ _ _ _ _ _, fun c' k' hc => ?_⟩, ?_, fun p hp => ?_⟩
  · unfold jw
    rw [if_neg (fun z => hc (Or.inr (Or.inr z.1)))]
    exact a c' k' hc
  · rw [miI, if_neg (by omega)]; exact h1
  · rw [miI, if_neg (by omega)]; exact h2 p hp
theorem byA_lt (h : ∀ p, tx.getD p 0 < 128) (p : Nat) : byA tx p < 128 := by
  unfold byA
  split
  · exact h p
  · decide
/-- one byte more -/
theorem td_i {j : Nat} (g : FA u c A tx) (h : FT u w A f bs) (hk : k < 5) (hf : f ≤ 2000) (hj : j < 4) (hv : mI w A k = nI (pkB (byA tx) (f + 4 * k) j)) : ∃ w', mX (d + 6) 165 36 [.ref 166, .ref c, .ref A, .int (nI f), .int (nI k), .int (nI (f + 4 * k + j))] [] w = mX (d + 6) 165 36 [.ref 166, .ref c, .ref A, .int (nI f), .int (nI k), .int (nI (f + 4 * k + (j + 1)))] [] w' ∧ FT u w' A f bs ∧ mI w' A k = nI (pkB (byA tx) (f + 4 * k) (j + 1)) ∧ ∀ k', ¬ k' = k → mI w' A k' = mI w A k' := by
  have eE : mE = 166 := rfl
  have hs := h.str g
  obtain ⟨q, _, _, _, _, _, _, _, tA, lA, hA, hl, hb⟩ := g
  have tA' : mTg w A = 50 := by obtain ⟨⟨J, rfl, _⟩, _⟩ := h; exact tA
  have lA' : mLn w A = 5 := by obtain ⟨⟨J, rfl, _⟩, _⟩ := h; exact lA
  have len : mK (d + 5) 149 [.ref c] w = some (.inl (some (.int (nI tx.length))), w) := c_slen (d := d + 4) hs
  have hbb := byA_lt hb
  have pl : pkB (byA tx) (f + 4 * k) j < 8388608 := by
    have z0 := hbb (f + 4 * k + 0)
    have z1 := hbb (f + 4 * k + 1)
    have z2 := hbb (f + 4 * k + 2)
    rcases (show j = 0 ∨ j = 1 ∨ j = 2 ∨ j = 3 by omega) with z | z | z | z <;> subst z
    · show 0 < _; omega
    · show 0 * 256 + byA tx (f + 4 * k + 0) < _; omega
    · show (0 * 256 + byA tx (f + 4 * k + 0)) * 256 + byA tx (f + 4 * k + 1) < _; omega
    · show ((0 * 256 + byA tx (f + 4 * k + 0)) * 256 + byA tx (f + 4 * k + 1)) * 256 + byA tx (f + 4 * k + 2) < _; omega
  refine ⟨wI w A k (nI (pkB (byA tx) (f + 4 * k) (j + 1))), ?_, h.setA hA, by rw [miI, if_pos ⟨rfl, rfl⟩], fun k' hk' => by rw [miI, if_neg (fun z => hk' z.2)]⟩
  have hy := hbb (f + 4 * k + j)
  have fin : mX (d + 6) 165 79 [.ref 166, .ref c, .ref A, .int (nI f), .int (nI k), .int (nI (f + 4 * k + j))] [.int (nI (byA tx (f + 4 * k + j))), .int (nI (pkB (byA tx) (f + 4 * k) j) <<< (nI 8 &&& 31)), .int (nI k), .ref A] w = mX (d + 6) 165 36 [.ref 166, .ref c, .ref A, .int (nI f), .int (nI k), .int (nI (f + 4 * k + (j + 1)))] [] (wI w A k (nI (pkB (byA tx) (f + 4 * k) (j + 1)))) := by
    rw [b_165_79 tA' (by omega) (by omega) (by omega), j_shl pl, j_or pl (by omega), b_165_81, jadd]
    rfl
  rw [b_165_36, jmul, jadd, jadd, ijle (by omega) (by omega), if_neg (by omega), b_165_49 tA' (by omega) (by omega) hs.1, len]
  simp only [mThen_ok, Option.toList_some, Option.toList_none, List.cons_append, List.nil_append]
  rw [hv, b_165_65, ijle (by omega) (by omega)]
  by_cases z : f + 4 * k + j < tx.length
  · have ey : byA tx (f + 4 * k + j) = tx.getD (f + 4 * k + j) 0 := if_pos z
    have ch := c_charAt (d := d + 2) hs z (hb _)
    rw [if_neg (by omega), b_165_68 hs.1, ch]
    simp only [mThen_ok, Option.toList_some, Option.toList_none, List.cons_append, List.nil_append]
    rw [b_165_74, ← ey, fin]
  · have ey : byA tx (f + 4 * k + j) = 32 := if_neg z
    rw [if_pos (by omega), b_165_77, ← ey, fin]
end
