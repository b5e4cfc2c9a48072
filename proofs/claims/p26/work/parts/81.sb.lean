/-! ===== texts: append, toString ===== -/
/-- a number below 100, in digits -/
def dec (n : Nat) : List Nat := if n < 10 then [48 + n] else [48 + n / 10 % 10, 48 + n % 10]
theorem dec_len (n : Nat) : (dec n).length ≤ 2 ∧ 1 ≤ (dec n).length := by
  unfold dec
  split
  · exact ⟨Nat.le_succ _, Nat.le_refl _⟩
  · exact ⟨Nat.le_refl _, Nat.le_succ _⟩
section
variable {d : Nat} {w w' w1 w2 : MW} {X Y : Nat → Prop}
theorem getD_app {a b : List Nat} {j : Nat} : (a ++ b).getD j 0 = if j < a.length then a.getD j 0 else b.getD (j - a.length) 0 := by
  simp only [List.getD_eq_getElem?_getD]
  by_cases h : j < a.length
  · rw [if_pos h, List.getElem?_append_left h]
  · rw [if_neg h, List.getElem?_append_right (by omega)]
/-- a text constant is appended -/
theorem c_app {β c : Nat} {tx bs : List Nat} (h : SBW w β tx) (hc : STR w c bs) (hcz : c < mSz w ∧ gR w c 0 < mSz w) (hcb : ¬ c = β ∧ ¬ gR w c 0 = β ∧ ¬ c = gR w β 0 ∧ ¬ gR w c 0 = gR w β 0) (hl : tx.length + bs.length ≤ 3000) :
    ∃ w', mK (d + 6) 159 [.ref β, .ref c] w = some (.inl (some (.ref β)), w') ∧ SBW w' β (tx ++ bs) ∧ sbs β 1 w w' := by
  have eE : mE = 166 := rfl
  obtain ⟨w1, e1, h1, r1, s1⟩ := c_ens (d := d) h hl
  have hc1 : STR w1 c bs := hc.sm s1.1 hcz.1 hcz.2 (by rintro (q | q); exact hcb.1 q; exact hcb.2.2.1 q) (by rintro (q | q); exact hcb.2.1 q; exact hcb.2.2.2 q)
  have gc : gR w1 c 0 = gR w c 0 := by
    unfold gR
    rw [(s1.1.2 c hcz.1 (by rintro (q | q); exact hcb.1 q; exact hcb.2.2.1 q)).2.2.2]
  have hne : ¬ gR w1 c 0 = gR w1 β 0 := by
    rcases s1.2.1 with q | q
    · rw [gc, q]; exact hcb.2.2.2
    · rw [gc]; have := hcz.2; omega
  have h1' := h1
  obtain ⟨a1, a2, a3, a4, a5, a6, a7, a8, a9, a10, a11, a12⟩ := h1
  have hc1' := hc1
  obtain ⟨b1, b2, b3, b4, b5, b6, b7, b8⟩ := hc1
  have t12 := h.1
  have q0 : mK (d + 4) 149 [.ref c] w = some (.inl (some (.int (nI bs.length))), w) := c_slen (d := d + 3) hc
  have c1 := @jcl bs.length (by omega)
  have c2 := @jcl tx.length (by omega)
  have q3 : mK (d + 3) 153 [.ref c, .ref (gR w1 β 0), .int (nI tx.length), .int (nI 0)] w1 = some (.inl none, wC w1 (gR w1 c 0) 0 (gR w1 β 0) tx.length bs.length) := by
    rw [e_153, b_153_0 b1, c_coder b1 b5]
    simp only [mThen_ok, Option.toList_some, Option.toList_none, List.cons_append, List.nil_append]
    rw [b_153_4, if_neg (fun q => q rfl), b_153_8 b1 b2 (by omega) ⟨Or.inr ⟨b3, a3⟩, a4, kz0, by rw [sl0]; exact kzn (by omega), by rw [b4]; exact kzn (by omega), by rw [b4, kcl0, c1]; omega, by rw [b4, sl0, c1, c2]; omega, by omega⟩, b_153_25, b4, sl0, kcl0, c1, c2]
  have q2 : mK (d + 4) 179 [.ref β, .int (nI tx.length), .ref c] w1 = some (.inl none, wC w1 (gR w1 c 0) 0 (gR w1 β 0) tx.length bs.length) := by
    rw [e_179, b_179_0 a1, e_178, b_178_0, b_178_6 a1 b1, c_coder b1 b5]
    simp only [mThen_ok, Option.toList_some, Option.toList_none, List.cons_append, List.nil_append]
    rw [b_178_14, a8, if_pos rfl, b_178_21]
    simp only [mThen_ok, Option.toList_some, Option.toList_none, List.cons_append, List.nil_append]
    rw [b_179_5 a1 a2 b1, a8, q3]
    simp only [mThen_ok, Option.toList_some, Option.toList_none, List.cons_append, List.nil_append]
    rw [b_179_18]
  have hx : SBW (wI (wC w1 (gR w1 c 0) 0 (gR w1 β 0) tx.length bs.length) β 3 (nI (tx.length + bs.length))) β (tx ++ bs) := by
    refine ⟨a1, a2, a3, a4, a5, a6, a7, ?_, ?_, ?_, a11, fun j hj => ?_⟩
    · rw [mI_wI, if_neg (by omega)]
      show (if β = gR w1 β 0 then _ else mI w1 β 1) = _
      rw [if_neg (by omega), a8]
    · rw [mI_wI, if_pos ⟨rfl, rfl⟩, List.length_append]
    · rw [List.length_append]; exact r1
    · rw [List.length_append] at hj
      show mI (wI (wC w1 (gR w1 c 0) 0 (gR w1 β 0) tx.length bs.length) β 3 (nI (tx.length + bs.length))) (gR w1 β 0) j = _
      rw [mI_wI, if_neg (by omega)]
      show (if gR w1 β 0 = gR w1 β 0 then va_cpy (mI w1 (gR w1 c 0)) (mI w1 (gR w1 β 0)) 0 tx.length bs.length j else _) = _
      rw [if_pos rfl, getD_app]
      by_cases g : j < tx.length
      · rw [cpy_out (by omega), if_pos g, a12 j g]
      · rw [cpy_in ⟨by omega, by omega⟩, if_neg g, Nat.zero_add]
        exact b8 _ (by omega)
  have s2 : sbs β 0 w1 (wI (wC w1 (gR w1 c 0) 0 (gR w1 β 0) tx.length bs.length) β 3 (nI (tx.length + bs.length))) := by
    refine ⟨(sm.wC (X := fun c => c = β ∨ c = gR w1 β 0) (Or.inr rfl)).trans (sm.wI (X := fun c => c = β ∨ c = gR w1 β 0) (Or.inl rfl)) (fun c _ q => q), Or.inl rfl, ⟨Nat.le_refl _, Nat.le_refl _⟩⟩
  refine ⟨_, ?_, hx, (s1.trans s2).mono (by omega)⟩
  rw [e_159, b_159_0 t12, e_174, b_174_0 b6, b_174_9 hc.1, q0]
  simp only [mThen_ok, Option.toList_some, Option.toList_none, List.cons_append, List.nil_append]
  rw [b_174_13 t12, h.2.2.2.2.2.2.2.2.1, jadd, e1]
  simp only [mThen_ok, Option.toList_some, Option.toList_none, List.cons_append, List.nil_append]
  rw [b_174_24 a1, a9, q2]
  simp only [mThen_ok, Option.toList_some, Option.toList_none, List.cons_append, List.nil_append]
  rw [b_174_33 (w := wC w1 (gR w1 c 0) 0 (gR w1 β 0) tx.length bs.length) a1 a7]
  have e9 : mI (wC w1 (gR w1 c 0) 0 (gR w1 β 0) tx.length bs.length) β 3 = nI tx.length := by
    show (if β = gR w1 β 0 then _ else mI w1 β 3) = _
    rw [if_neg (by omega), a9]
  rw [e9, jadd, b_174_43]
  simp only [mThen_ok, Option.toList_some, Option.toList_none, List.cons_append, List.nil_append]
  rw [b_159_5]
theorem neg_f : (∀ n, n < 100 → (-(nI n) ≤ (-10 : Int32) ↔ 10 ≤ n)) ∧ (∀ n, n < 100 → ¬ -(nI n) ≤ (nI 10 * (-10 : Int32))) ∧ (∀ n, n < 100 → (-100 : Int32) < -(nI n)) ∧ (∀ n, n < 100 → -(-(nI n)) = nI n) ∧ (∀ n, n < 100 → ((-9 : Int32) ≤ -(nI n) ↔ n < 10)) := by
  refine ⟨?_, ?_, ?_, ?_, ?_⟩ <;> decide +kernel
theorem c_ssize {n : Nat} (hn : n < 100) : mK d 181 [.int (nI n)] w = some (.inl (some (.int (nI (dec n).length))), w) := by
  obtain ⟨f1, f2, f3, f4, f5⟩ := neg_f
  unfold dec
  rw [e_181, b_181_0, ijlt (by omega) (by decide), if_neg (by omega), b_181_6, b_181_11, b_181_16, if_neg (by decide +kernel : ¬ nI 10 ≤ nI 1), b_181_22]
  by_cases g : n < 10
  · rw [if_neg (fun q => by have := (f1 n hn).mp q; omega), b_181_27, if_pos g]
    rfl
  · rw [if_pos ((f1 n hn).mpr (by omega)), b_181_31, b_181_16, if_neg (by decide +kernel : ¬ nI 10 ≤ nI 1 + nI 1), b_181_22, if_neg (f2 n hn), b_181_27, if_neg g]
    have : nI 1 + nI 1 + nI 0 = nI 2 := by decide +kernel
    rw [this]
    rfl
/-- the digit rows are there -/
def DGW (w : MW) : Prop := (mTg w 2 = 51 ∧ mLn w 2 = 100 ∧ ∀ j, j < 100 → mI w 2 j = nI (48 + j % 10)) ∧ mTg w 3 = 51 ∧ mLn w 3 = 100 ∧ ∀ j, j < 100 → mI w 3 j = nI (48 + j / 10 % 10)
theorem DGW.sm (h : DGW w) (g : sm w w' X) (hz : 4 ≤ mSz w) (x2 : ¬ X 2) (x3 : ¬ X 3) : DGW w' := by
  obtain ⟨a1, a2, a3, a4⟩ := g.2 2 (by omega) x2
  obtain ⟨b1, b2, b3, b4⟩ := g.2 3 (by omega) x3
  unfold DGW
  rw [a1, a2, a3, b1, b2, b3]
  exact h
/-- a number is appended -/
theorem c_appI {β n : Nat} {tx : List Nat} (h : SBW w β tx) (hg : DGW w) (hn : n < 100) (hl : tx.length + 2 ≤ 3000) :
    ∃ w', mK (d + 6) 160 [.ref β, .int (nI n)] w = some (.inl (some (.ref β)), w') ∧ SBW w' β (tx ++ dec n) ∧ sbs β 1 w w' := by
  have eE : mE = 166 := rfl
  have dl := dec_len n
  obtain ⟨w1, e1, h1, r1, s1⟩ := c_ens (d := d) h (m := tx.length + (dec n).length) (by omega)
  have h5 := h.2.2.2.2.1
  have h6 := h.2.2.2.2.2.1
  have h4 := h.2.2.2.1
  have h7 := h.2.2.2.2.2.2.1
  have hg1 : DGW w1 := hg.sm s1.1 (by omega) (by omega) (by omega)
  obtain ⟨a1, a2, a3, a4, a5, a6, a7, a8, a9, a10, a11, a12⟩ := h1
  obtain ⟨⟨g1, g2, g3⟩, k1, k2, k3⟩ := hg1
  obtain ⟨f1, f2, f3, f4, f5⟩ := neg_f
  have by1 : ∀ n, n < 100 → (nI (48 + n % 10)).toInt8.toInt32 = nI (48 + n % 10) ∧ (nI (48 + n / 10 % 10)).toInt8.toInt32 = nI (48 + n / 10 % 10) := by decide +kernel
  have sub1 : ∀ m, m < 4000 → nI (m + 1) + (-1 : Int32) = nI m := fun m hm => by
    have : (-1 : Int32) = nI 4294967295 := by decide +kernel
    have q := @jsub (m + 1) 1 (by omega)
    have e : nI (m + 1) - nI 1 = nI (m + 1) + (-1 : Int32) := by rw [show (-1 : Int32) = -(nI 1) by decide +kernel, ← Int32.sub_eq_add_neg]
    rw [← e, q]
    rfl
  -- the digits are written
  have q2 : ∃ J, mK (d + 4) 180 [.int (nI n), .int (nI (tx.length + (dec n).length)), .ref (gR w1 β 0)] w1 = some (.inl (some (.int (nI tx.length))), wJ w1 J) ∧ (∀ c k, ¬ c = gR w1 β 0 → J c k = mI w1 c k) ∧ (∀ k, k < tx.length → J (gR w1 β 0) k = mI w1 (gR w1 β 0) k) ∧ ∀ k, k < (dec n).length → J (gR w1 β 0) (tx.length + k) = nI ((dec n).getD k 0) := by
    have pre : ∀ m, mK (d + 4) 180 [.int (nI n), .int (nI m), .ref (gR w1 β 0)] w1 = mX (d + 4) 180 72 [.int (-(nI n)), mJ, .ref (gR w1 β 0), mJ, mJ, .int (nI m), .int (nI 0)] [] w1 := fun m => by
      rw [e_180, b_180_0, ijle (by decide) (by omega), if_pos (Nat.zero_le _), b_180_11, b_180_12, if_neg (fun q => q rfl), b_180_19, b_180_22, if_pos (f3 n hn)]
    rw [pre]
    by_cases g : n < 10
    · have dn : dec n = [48 + n] := by unfold dec; rw [if_pos g]
      rw [dn] at r1 ⊢
      have e1' : nI (tx.length + [48 + n].length) + (-1 : Int32) = nI tx.length := sub1 tx.length (by omega)
      have l1 : tx.length < mLn w1 (gR w1 β 0) := by simp only [List.length_cons, List.length_nil] at r1; omega
      refine ⟨mI (wI w1 (gR w1 β 0) tx.length (nI (48 + n % 10))), ?_, fun c k hc => ?_, fun k hk => ?_, fun k hk => ?_⟩
      · rw [b_180_72 g1 (f4 n hn) (by omega) (by omega) a3 a4 e1' (by omega) l1, g3 n hn, (by1 n hn).1, e1', b_180_85, if_pos ((f5 n hn).mpr g), b_180_104, if_pos rfl, b_180_118]
        rfl
      · rw [mI_wI, if_neg (fun q => hc q.1)]
      · rw [mI_wI, if_neg (by omega)]
      · have k0 : k = 0 := by simpa using hk
        subst k0
        rw [mI_wI, if_pos ⟨rfl, rfl⟩]
        show nI (48 + n % 10) = nI (48 + n)
        rw [Nat.mod_eq_of_lt g]
    · have dn : dec n = [48 + n / 10 % 10, 48 + n % 10] := by unfold dec; rw [if_neg g]
      rw [dn] at r1 ⊢
      have e1' : nI (tx.length + [48 + n / 10 % 10, 48 + n % 10].length) + (-1 : Int32) = nI (tx.length + 1) := sub1 (tx.length + 1) (by omega)
      have e2' : nI (tx.length + 1) + (-1 : Int32) = nI tx.length := sub1 tx.length (by omega)
      have l1 : tx.length + 1 < mLn w1 (gR w1 β 0) := by simp only [List.length_cons, List.length_nil] at r1; omega
      have hz2 : ¬ 3 = gR w1 β 0 := by omega
      refine ⟨mI (wI (wI w1 (gR w1 β 0) (tx.length + 1) (nI (48 + n % 10))) (gR w1 β 0) tx.length (nI (48 + n / 10 % 10))), ?_, fun c k hc => ?_, fun k hk => ?_, fun k hk => ?_⟩
      · have m3 : mI (wI w1 (gR w1 β 0) (tx.length + 1) (nI (48 + n % 10))) 3 n = nI (48 + n / 10 % 10) := by rw [mI_wI, if_neg (by omega), k3 n hn]
        rw [b_180_72 g1 (f4 n hn) (by omega) (by omega) a3 a4 e1' (by omega) l1, g3 n hn, (by1 n hn).1, e1', b_180_85, if_neg (fun q => g ((f5 n hn).mp q)), b_180_91 (w := wI w1 (gR w1 β 0) (tx.length + 1) (nI (48 + n % 10))) (z0 := n) (z1 := tx.length) k1 (f4 n hn) (by omega) (by rw [show mLn (wI w1 (gR w1 β 0) (tx.length + 1) (nI (48 + n % 10))) 3 = 100 from k2]; exact hn) a3 a4 e2' (by omega) (by show tx.length < mLn w1 _; omega), m3, (by1 n hn).2, e2', b_180_104, if_pos rfl, b_180_118]
        rfl
      · rw [mI_wI, if_neg (fun q => hc q.1), mI_wI, if_neg (fun q => hc q.1)]
      · rw [mI_wI, if_neg (by omega), mI_wI, if_neg (by omega)]
      · rcases (show k = 0 ∨ k = 1 by simp only [List.length_cons, List.length_nil] at hk; omega) with e | e <;> subst e
        · rw [mI_wI, if_pos ⟨rfl, rfl⟩]; rfl
        · rw [mI_wI, if_neg (by omega), mI_wI, if_pos ⟨rfl, rfl⟩]; rfl
  obtain ⟨J, q2, j1, j2, j3⟩ := q2
  have hx : SBW (wI (wJ w1 J) β 3 (nI (tx.length + (dec n).length))) β (tx ++ dec n) := by
    refine ⟨a1, a2, a3, a4, a5, a6, a7, ?_, ?_, ?_, a11, fun j hj => ?_⟩
    · rw [mI_wI, if_neg (by omega), mI_wJ, j1 _ _ (by omega), a8]
    · rw [mI_wI, if_pos ⟨rfl, rfl⟩, List.length_append]
    · rw [List.length_append]; exact r1
    · rw [List.length_append] at hj
      show mI (wI (wJ w1 J) β 3 (nI (tx.length + (dec n).length))) (gR w1 β 0) j = _
      rw [mI_wI, if_neg (by omega), mI_wJ, getD_app]
      by_cases g : j < tx.length
      · rw [if_pos g, j2 j g, a12 j g]
      · rw [if_neg g]
        have := j3 (j - tx.length) (by omega)
        rw [show tx.length + (j - tx.length) = j by omega] at this
        exact this
  have s2 : sbs β 0 w1 (wI (wJ w1 J) β 3 (nI (tx.length + (dec n).length))) := by
    refine ⟨⟨Nat.le_refl _, fun c hc hX => ⟨rfl, rfl, funext fun k => ?_, rfl⟩⟩, Or.inl rfl, ⟨Nat.le_refl _, Nat.le_refl _⟩⟩
    rw [mI_wI, if_neg (fun q => hX (Or.inl q.1)), mI_wJ, j1 c k (fun q => hX (Or.inr q))]
  refine ⟨_, ?_, hx, (s1.trans s2).mono (by omega)⟩
  rw [e_160, b_160_0 h.1, e_175, b_175_0 h.1, c_ssize hn]
  simp only [mThen_ok, Option.toList_some, Option.toList_none, List.cons_append, List.nil_append]
  rw [b_175_10 h.1, h.2.2.2.2.2.2.2.2.1, jadd, e1]
  simp only [mThen_ok, Option.toList_some, Option.toList_none, List.cons_append, List.nil_append]
  rw [b_175_17 a1, e_177, b_177_0, b_177_6 a1, a8, if_neg (fun q => q rfl), b_177_13, b_177_18 kr1]
  simp only [mThen_ok, Option.toList_some, Option.toList_none, List.cons_append, List.nil_append]
  rw [b_175_21, if_neg n10, b_175_24 a1 a2, q2]
  simp only [mThen_ok, Option.toList_some, Option.toList_none, List.cons_append, List.nil_append]
  rw [b_175_33 (w := wJ w1 J) a1 a7, b_175_53]
  simp only [mThen_ok, Option.toList_some, Option.toList_none, List.cons_append, List.nil_append]
  rw [b_160_5]
/-- the text as a String -/
theorem c_toStr {β : Nat} {tx : List Nat} (h : SBW w β tx) (hl : tx.length ≤ 3000) :
    ∃ w', mK (d + 6) 161 [.ref β] w = some (.inl (some (.ref (mSz w))), w') ∧ STR w' (mSz w) tx ∧ sm w w' (fun _ => False) ∧ gz 2 w w' ∧ gR w' (mSz w) 0 = mSz w + 1 ∧ mSz w' = mSz w + 2 := by
  have eE : mE = 166 := rfl
  have h0 := h
  obtain ⟨a1, a2, a3, a4, a5, a6, a7, a8, a9, a10, a11, a12⟩ := h
  have hz : mSz w = w.1 := rfl
  have nf : mNf 11 = 4 := rfl
  -- the new cell
  generalize hw1 : wN w 11 0 (mNf 11) = w1
  have s1 : sm w w1 (fun _ => False) := by rw [← hw1]; exact sm.wN
  have z1 : mSz w1 = mSz w + 1 := by rw [← hw1]; rfl
  have y1 : mSl w1 = mSl w + 4 := by rw [← hw1]; rfl
  have tn : mTg w1 (mSz w) = 11 := by rw [← hw1]; exact if_pos rfl
  have h1 : SBW w1 β tx := h0.sm s1 id id
  obtain ⟨b1, b2, b3, b4, b5, b6, b7, b8, b9, b10, b11, b12⟩ := h1
  -- its coder
  have t2 : ∀ c, mTg (wI w1 (mSz w) 1 (nI 0)) c = mTg w1 c := fun _ => rfl
  have m2 : ∀ j, j < tx.length → mI (wI w1 (mSz w) 1 (nI 0)) (gR w1 β 0) j = nI (tx.getD j 0) := fun j hj => by
    rw [mI_wI, if_neg (by
      have : gR w1 β 0 = gR w β 0 := by unfold gR; rw [(s1.2 β (by omega) id).2.2.2]
      omega), b12 j hj]
  have gb : gR w1 β 0 = gR w β 0 := by unfold gR; rw [(s1.2 β (by omega) id).2.2.2]
  have tl := @jcl tx.length (by omega)
  have cp : ∃ w3, mK (d + 3) 191 [.ref (gR w1 β 0), .int (nI 0), .int (nI tx.length)] (wI w1 (mSz w) 1 (nI 0)) = some (.inl (some (.ref (mSz w + 1))), w3) ∧ mTg w3 (mSz w + 1) = 51 ∧ mLn w3 (mSz w + 1) = tx.length ∧ (∀ j, j < tx.length → mI w3 (mSz w + 1) j = nI (tx.getD j 0)) ∧ sm (wI w1 (mSz w) 1 (nI 0)) w3 (fun _ => False) ∧ mSz w3 = mSz w + 2 ∧ mSl w3 = mSl w1 + tx.length := by
    have zz : mSz (wI w1 (mSz w) 1 (nI 0)) = mSz w + 1 := z1
    by_cases g : tx.length = mLn w1 (gR w1 β 0)
    · refine ⟨wK (wI w1 (mSz w) 1 (nI 0)) (gR w1 β 0), ?_, ?_, ?_, fun j hj => ?_, sm.wK, ?_, ?_⟩
      · have tK : mTg (wK (wI w1 (mSz w) 1 (nI 0)) (gR w1 β 0)) (mSz w + 1) = 51 := by
          show (if mSz w + 1 = mSz w1 then mTg w1 (gR w1 β 0) else _) = _
          rw [if_pos z1.symm, b3]
        rw [e_191, b_191_0, if_neg (fun q => q rfl), b_191_4 (by rw [t2]; omega), if_pos (by rw [g]; rfl), b_191_17 (w := wI w1 (mSz w) 1 (nI 0)) ⟨b3, b4, by omega⟩, zz, b_191_21 tK (by omega)]
      · show (if mSz w + 1 = mSz w1 then mTg w1 (gR w1 β 0) else _) = _
        rw [if_pos z1.symm, b3]
      · show (if mSz w + 1 = mSz w1 then mLn w1 (gR w1 β 0) else _) = _
        rw [if_pos z1.symm, ← g]
      · show (if mSz w + 1 = mSz w1 then mI (wI w1 (mSz w) 1 (nI 0)) (gR w1 β 0) j else _) = _
        rw [if_pos z1.symm, m2 j hj]
      · show mSz w1 + 1 = _; omega
      · show mSl w1 + mLn w1 (gR w1 β 0) = _; omega
    · have tN : mTg (wN (wI w1 (mSz w) 1 (nI 0)) 51 tx.length tx.length) (gR w1 β 0) = 51 := by
        show (if gR w1 β 0 = mSz w1 then _ else mTg w1 (gR w1 β 0)) = _
        rw [if_neg (by omega), b3]
      have lN : mLn (wN (wI w1 (mSz w) 1 (nI 0)) 51 tx.length tx.length) (gR w1 β 0) = mLn w1 (gR w1 β 0) := by
        show (if gR w1 β 0 = mSz w1 then _ else mLn w1 (gR w1 β 0)) = _
        rw [if_neg (by omega)]
      have tM : mTg (wN (wI w1 (mSz w) 1 (nI 0)) 51 tx.length tx.length) (mSz w + 1) = 51 := if_pos z1.symm
      have lM : mLn (wN (wI w1 (mSz w) 1 (nI 0)) 51 tx.length tx.length) (mSz w + 1) = tx.length := if_pos z1.symm
      have lE : ¬ nI tx.length = nI (mLn (wI w1 (mSz w) 1 (nI 0)) (gR w1 β 0)) := by
        show ¬ nI tx.length = nI (mLn w1 (gR w1 β 0))
        rw [jeq (by omega) (by omega)]; exact g
      refine ⟨wC (wN (wI w1 (mSz w) 1 (nI 0)) 51 tx.length tx.length) (gR w1 β 0) 0 (mSz w + 1) 0 tx.length, ?_, tM, lM, fun j hj => ?_, ?_, ?_, ?_⟩
      · have sb : nI tx.length - nI 0 = nI tx.length := by rw [jsub (Nat.zero_le _), Nat.sub_zero]
        have sb2 : nI (mLn (wN (wI w1 (mSz w) 1 (nI 0)) 51 tx.length tx.length) (gR w1 β 0)) - nI 0 = nI (mLn w1 (gR w1 β 0)) := by rw [lN, jsub (Nat.zero_le _), Nat.sub_zero]
        rw [e_191, b_191_0, if_neg (fun q => q rfl), b_191_4 (by rw [t2]; omega), if_neg lE, b_191_10, e_192, b_192_0, e_190, b_190_0, ijle (by decide) (by omega), if_pos (Nat.zero_le _), b_190_37]
        simp only [mThen_ok, Option.toList_some, Option.toList_none, List.cons_append, List.nil_append]
        rw [b_192_5 (z0 := tx.length) sb (by omega) (by omega), zz, b_192_12 (by omega), sb2, sb, c_minN (by omega) (by omega), Nat.min_eq_right (by omega)]
        simp only [mThen_ok, Option.toList_some, Option.toList_none, List.cons_append, List.nil_append]
        rw [b_192_27 ⟨Or.inr ⟨tN, tM⟩, by omega, kz0, kz0, kzn (by omega), by rw [kcl0, tl, lN]; omega, by rw [kcl0, tl, lM]; omega, by omega⟩, b_192_30, kcl0, tl]
        simp only [mThen_ok, Option.toList_some, Option.toList_none, List.cons_append, List.nil_append]
        rw [b_191_16]
      · show (if mSz w + 1 = mSz w + 1 then va_cpy (mI (wN (wI w1 (mSz w) 1 (nI 0)) 51 tx.length tx.length) (gR w1 β 0)) _ 0 0 tx.length j else _) = _
        rw [if_pos rfl, cpy_in ⟨Nat.zero_le _, by omega⟩]
        show (if gR w1 β 0 = mSz w1 then 0 else mI (wI w1 (mSz w) 1 (nI 0)) (gR w1 β 0) (0 + (j - 0))) = _
        rw [if_neg (by omega), Nat.sub_zero, Nat.zero_add, m2 j hj]
      · refine sm.wN.trans (sm.wC (X := fun c => c = mSz w + 1) rfl) (fun c hc q => ?_)
        have : mSz (wI w1 (mSz w) 1 (nI 0)) = mSz w + 1 := z1
        omega
      · show mSz w1 + 1 = _; omega
      · rfl
  obtain ⟨w3, e3, t3, l3, r3, s3, z3, y3⟩ := cp
  have g3 : mTg w3 (mSz w) = 11 := by rw [(s3.2 (mSz w) (by show mSz w < mSz w1; omega) id).1]; exact tn
  have gn : gR (wR w3 (mSz w) 0 (some (mSz w + 1))) (mSz w) 0 = mSz w + 1 := by
    refine gR_of ?_
    show (if mSz w = mSz w ∧ 0 = 0 then some (mSz w + 1) else _) = _
    rw [if_pos ⟨rfl, rfl⟩]
  have SS : sm w (wR w3 (mSz w) 0 (some (mSz w + 1))) (fun _ => False) := by
    refine ((s1.trans (sm.wI (X := fun c => c = mSz w) rfl) (fun c hc q => ?_)).trans s3 (fun c hc q => q)).trans (sm.wR (X := fun c => c = mSz w) rfl) (fun c hc q => ?_)
    · omega
    · omega
  refine ⟨wR w3 (mSz w) 0 (some (mSz w + 1)), ?_, ⟨g3, ?_, ?_, ?_, ?_, by omega, hl, fun j hj => ?_⟩, SS, ⟨by show mSz w3 ≤ _; omega, by show mSl w3 ≤ _; omega⟩, gn, z3⟩
  · have q154 : mK (d + 4) 154 [.ref (mSz w), .ref β, .null] w1 = some (.inl none, wR w3 (mSz w) 0 (some (mSz w + 1))) := by
      rw [e_154, b_154_0 (by omega) b1, e_176, b_176_0 b1 b2]
      simp only [mThen_ok, Option.toList_some, Option.toList_none, List.cons_append, List.nil_append]
      rw [b_154_8 b1, e_162, b_162_0 b1, e_171, b_171_0 b1]
      simp only [mThen_ok, Option.toList_some, Option.toList_none, List.cons_append, List.nil_append]
      rw [b_162_4]
      simp only [mThen_ok, Option.toList_some, Option.toList_none, List.cons_append, List.nil_append]
      rw [b_154_13 b1, e_177, b_177_0, b_177_6 b1, b8, if_neg (fun q => q rfl), b_177_13, b_177_18 kr1]
      simp only [mThen_ok, Option.toList_some, Option.toList_none, List.cons_append, List.nil_append]
      rw [b_154_19, if_neg n10, b_154_22 tn (by omega), b_154_27, b9, e3]
      simp only [mThen_ok, Option.toList_some, Option.toList_none, List.cons_append, List.nil_append]
      rw [b_154_35 g3 (by omega), b_154_38, b_154_97]
      all_goals rfl
    rw [e_161, b_161_0, hw1, b_161_3 (by omega), e_148, b_148_0 (by omega), q154]
    simp only [mThen_ok, Option.toList_some, Option.toList_none, List.cons_append, List.nil_append]
    rw [b_148_6]
    simp only [mThen_ok, Option.toList_some, Option.toList_none, List.cons_append, List.nil_append]
    rw [b_161_8]
  · rw [gn]; show (if mSz w = mSz w ∧ 0 = 0 then some (mSz w + 1) else _) = _; rw [if_pos ⟨rfl, rfl⟩]
  · rw [gn]; exact t3
  · rw [gn]; exact l3
  · show mI w3 (mSz w) 1 = _
    rw [(s3.2 (mSz w) (by show mSz w < mSz w1; omega) id).2.2.1, mI_wI, if_pos ⟨rfl, rfl⟩]
  · rw [gn]; exact r3 j hj
end
