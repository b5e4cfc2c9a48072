/-! ===== the lexer: a text of tokens ===== -/
/-- a token: bytes, blanks behind it, kind, role, value -/
abbrev Tk : Type := List Nat × List Nat × Nat × Nat × Nat
def tB (t : Tk) : List Nat := t.1
def tP (t : Tk) : List Nat := t.2.1
def tK (t : Tk) : Nat := t.2.2.1
def tR (t : Tk) : Nat := t.2.2.2.1
def tV (t : Tk) : Nat := t.2.2.2.2
def tk0 : Tk := ([], [], 260, 0, 0)
def v0 (t : Tk) : Nat := if tK t = 259 then numO (tB t) 0 else 0
/-- a token's kind -/
def kdOf (b : List Nat) : Nat := if isL (b.getD 0 0) = true then kwFr b 31 0 else if isD (b.getD 0 0) = true then 259 else if b.length = 2 then (if b.getD 0 0 = 60 then 256 else 257) else b.getD 0 0
def alB (b : Nat) : Bool := isD b || isL b
/-- bytes that make a token -/
def lexOk (b : List Nat) : Bool :=
  if isL (b.getD 0 0) = true then b.all alB && decide (b.length ≤ 10)
  else if isD (b.getD 0 0) = true then b.all isD && decide (b.length ≤ 6)
  else b == [60, 61] || b == [62, 61] || (decide (b.length = 1) && (sB 0).contains (b.getD 0 0))
/-- what may come behind it -/
def nxOk (b : List Nat) (c : Nat) : Bool :=
  if isL (b.getD 0 0) = true then !goB true c
  else if isD (b.getD 0 0) = true then !goB false c
  else if b.length = 1 then !((b.getD 0 0 == 60 || b.getD 0 0 == 62) && c == 61) else true
def flat : List Tk → List Nat
  | [] => []
  | t :: r => tB t ++ (tP t ++ flat r)
def lexL : List Tk → Bool
  | [] => true
  | t :: r => lexOk (tB t) && (kdOf (tB t) == tK t) && (tP t).all isS && nxOk (tB t) ((tP t ++ flat r).getD 0 0) && lexL r
section
variable {d p q : Nat} {u w : MW} {tx : List Nat}
theorem drop_bv {l : List Nat} (h : tx.drop q = l) (j : Nat) : bv tx (q + j) = l.getD j 0 := by
  unfold bv
  rw [← h, List.getD_eq_getElem?_getD, List.getD_eq_getElem?_getD, List.getElem?_drop]
theorem drop_len {l : List Nat} (h : tx.drop q = l) (hq : q ≤ tx.length) : q + l.length = tx.length := by
  rw [← h, List.length_drop]; omega
theorem drop_app {a b : List Nat} (h : tx.drop q = a ++ b) : tx.drop (q + a.length) = b := by
  rw [← List.drop_drop, h, List.drop_left]
theorem drop_BT {b r : List Nat} (h : tx.drop q = b ++ r) (hq : q ≤ tx.length) : BT tx q b := by
  have := drop_len h hq
  rw [List.length_append] at this
  refine ⟨by omega, fun i hi => ?_⟩
  rw [drop_bv h i, getD_app, if_pos hi]
theorem skp_eq {f : Nat → Bool} : ∀ (m n p : Nat), m < n → (∀ i, i < m → f (bv tx (p + i)) = true) → f (bv tx (p + m)) = false → skp f tx n p = m := by
  intro m
  induction m with
  | zero =>
    intro n p hn h1 h2
    cases n with
    | zero => omega
    | succ n =>
      unfold skp
      rw [Nat.add_zero] at h2
      rw [h2, if_neg (by decide)]
  | succ m ih =>
    intro n p hn h1 h2
    cases n with
    | zero => omega
    | succ n =>
      unfold skp
      have h0 := h1 0 (by omega)
      rw [Nat.add_zero] at h0
      rw [if_pos h0, ih n (p + 1) (by omega) (fun i hi => by rw [show p + 1 + i = p + (i + 1) by omega]; exact h1 (i + 1) (by omega)) (by rw [show p + 1 + m = p + (m + 1) by omega]; exact h2)]
theorem all_getD {f : Nat → Bool} {b : List Nat} (h : b.all f = true) {i : Nat} (hi : i < b.length) : f (b.getD i 0) = true := by
  rw [List.all_eq_true] at h
  rw [List.getD_eq_getElem?_getD, List.getElem?_eq_getElem hi]
  exact h _ (List.getElem_mem hi)
theorem lex_pos {b : List Nat} (h : lexOk b = true) : 1 ≤ b.length ∧ b.length ≤ 10 := by
  unfold lexOk at h
  cases b with
  | nil => exact absurd h (by decide +kernel)
  | cons x r =>
    refine ⟨by simp only [List.length_cons]; omega, ?_⟩
    split at h
    · rw [Bool.and_eq_true, decide_eq_true_eq] at h; exact h.2
    · split at h
      · rw [Bool.and_eq_true, decide_eq_true_eq] at h; omega
      · rw [Bool.or_eq_true, Bool.or_eq_true, beq_iff_eq, beq_iff_eq, Bool.and_eq_true, decide_eq_true_eq] at h
        rcases h with (h | h) | h
        · rw [h]; decide
        · rw [h]; decide
        · omega
theorem lenAt_tok {b : List Nat} (hb : BT tx p b) (hl : lexOk b = true) (hn : nxOk b (bv tx (p + b.length)) = true) : lenAt tx p = b.length := by
  have hp := lex_pos hl
  have e0 : bv tx p = b.getD 0 0 := hb.2 0 (by omega)
  unfold lexOk at hl
  unfold nxOk at hn
  unfold lenAt
  rw [e0]
  split at hl
  · rename_i g
    rw [if_pos g] at hn
    rw [Bool.and_eq_true] at hl
    have z : skp (goB true) tx 2000 (p + 1) = b.length - 1 := by
      refine skp_eq (b.length - 1) 2000 (p + 1) (by omega) (fun i hi => ?_) ?_
      · rw [show p + 1 + i = p + (i + 1) by omega, hb.2 (i + 1) (by omega)]
        have := all_getD hl.1 (i := i + 1) (by omega)
        unfold goB
        rw [Bool.true_and]
        exact this
      · rw [show p + 1 + (b.length - 1) = p + b.length by omega]
        exact (Bool.not_eq_true' _).mp hn
    rw [g, Bool.true_or, if_pos rfl, z]
    omega
  · rename_i g
    rw [if_neg g] at hn
    rw [Bool.not_eq_true] at g
    split at hl
    · rename_i g2
      rw [if_pos g2] at hn
      rw [Bool.and_eq_true] at hl
      have z : skp (goB false) tx 2000 (p + 1) = b.length - 1 := by
        refine skp_eq (b.length - 1) 2000 (p + 1) (by omega) (fun i hi => ?_) ?_
        · rw [show p + 1 + i = p + (i + 1) by omega, hb.2 (i + 1) (by omega)]
          have := all_getD hl.1 (i := i + 1) (by omega)
          unfold goB
          rw [Bool.false_and, Bool.or_false]
          exact this
        · rw [show p + 1 + (b.length - 1) = p + b.length by omega]
          exact (Bool.not_eq_true' _).mp hn
      rw [g, g2, Bool.or_true, if_pos rfl, z]
      omega
    · rename_i g2
      rw [if_neg g2] at hn
      rw [Bool.not_eq_true] at g2
      rw [g, g2, Bool.or_false, if_neg (by decide)]
      unfold wdB
      rw [e0]
      rw [Bool.or_eq_true, Bool.or_eq_true, beq_iff_eq, beq_iff_eq, Bool.and_eq_true, decide_eq_true_eq] at hl
      rcases hl with (h | h) | h
      · subst h
        rw [hb.2 1 (by decide)]
        decide
      · subst h
        rw [hb.2 1 (by decide)]
        decide
      · rw [if_pos h.1] at hn
        rw [h.1] at hn ⊢
        rw [if_neg]
        intro z
        rw [Bool.and_eq_true, decide_eq_true_eq, Bool.or_eq_true, decide_eq_true_eq, decide_eq_true_eq] at z
        rw [z.2] at hn
        rcases z.1 with z | z <;> (rw [z] at hn; exact absurd hn (by decide))
theorem c_kindAt {b : List Nat} (h : TP w tx) (hx : TX w) (hb : BT tx p b) (hl : lexOk b = true) : mK (d + 6) 78 [.ref 169, .int (nI p), .int (nI b.length)] w = some (.inl (some (.int (nI (kdOf b)))), w) := by
  have k := h.1
  have hL := h.2.2.1
  have hp := lex_pos hl
  have hb1 := hb.1
  have e0 : bv tx p = b.getD 0 0 := hb.2 0 (by omega)
  have e1 : b.getD 0 0 < 128 := e0 ▸ h.2.2.2.2 p
  unfold lexOk at hl
  unfold kdOf
  rw [e_78, b_78_0 k.t7 k.s70 k.tt, k.g70, c_byteAt h (by omega), if_pos (by omega), e0]
  simp only [mThen_ok, Option.toList_some, Option.toList_none, List.cons_append, List.nil_append]
  rw [b_78_8, ijle (by decide) (by omega), if_pos (by omega), b_78_17 k.t7 k.s70 k.tt, k.g70, c_isL h (by omega), e0]
  simp only [mThen_ok, Option.toList_some, Option.toList_none, List.cons_append, List.nil_append]
  rw [b_78_25, ijeq bn_lt (by decide)]
  split at hl
  · rename_i g
    rw [g, if_neg (by decide), b_78_28, ijle (by omega) (by decide), if_pos (by omega), b_78_40 k.t7, c_kwAt h hx hb, if_pos rfl]
    simp only [mThen_ok, Option.toList_some, Option.toList_none, List.cons_append, List.nil_append]
    rw [b_78_46]
  · rename_i g
    rw [Bool.not_eq_true] at g
    rw [g, if_pos (by decide), if_neg (by decide), b_78_47 k.t7 k.s70 k.tt, k.g70, c_isD h (by omega), e0]
    simp only [mThen_ok, Option.toList_some, Option.toList_none, List.cons_append, List.nil_append]
    rw [b_78_55, ijeq bn_lt (by decide)]
    split at hl
    · rename_i g2
      rw [Bool.and_eq_true, decide_eq_true_eq] at hl
      rw [g2, if_neg (by decide), b_78_58, ijle (by omega) (by decide), if_pos (by omega), b_78_70, b_78_73, if_pos rfl]
    · rename_i g2
      rw [Bool.not_eq_true] at g2
      rw [g2, if_pos (by decide), if_neg (by decide), b_78_74, ijne (by omega) (by decide)]
      rw [Bool.or_eq_true, Bool.or_eq_true, beq_iff_eq, beq_iff_eq, Bool.and_eq_true, decide_eq_true_eq] at hl
      rcases hl with (h3 | h3) | h3
      · subst h3
        rw [if_neg (by decide), b_78_79, ijne (by decide) (by decide), if_neg (by decide), b_78_85, b_78_94]
        rfl
      · subst h3
        rw [if_neg (by decide), b_78_79, ijne (by decide) (by decide), if_pos (by decide), b_78_91, b_78_94]
        rfl
      · have hs : STR w 4 (sB 0) := hx.str (i := 0) (by decide)
        have hm : b.getD 0 0 ∈ sB 0 := List.contains_iff_mem.mp h3.2
        obtain ⟨j, hj, ej⟩ := List.getElem_of_mem hm
        obtain ⟨i, i1, i2⟩ := c_indexOf (d := d + 1) hs (fun i => sB_lt (by decide)) (ch := b.getD 0 0) hj (by rw [List.getD_eq_getElem?_getD, List.getElem?_eq_getElem hj, ej, Option.getD_some])
        have := sB_le (i := 0) (by decide)
        rw [h3.1, if_pos (by decide), b_78_95 hs.1, chr_f.1 _ e1, i2]
        simp only [mThen_ok, Option.toList_some, Option.toList_none, List.cons_append, List.nil_append]
        rw [b_78_102, ijlt (by omega) (by decide), if_neg (by omega), b_78_105, b_78_112, if_neg (by decide)]
theorem c_kindEnd {x : Int32} (h : TP w tx) : mK (d + 6) 78 [.ref 169, .int (nI tx.length), .int x] w = some (.inl (some (.int (nI 260))), w) := by
  have k := h.1
  have hL := h.2.2.1
  rw [e_78, b_78_0 k.t7 k.s70 k.tt, k.g70, c_byteAt h (by omega), if_neg (by omega)]
  simp only [mThen_ok, Option.toList_some, Option.toList_none, List.cons_append, List.nil_append]
  rw [b_78_8, if_neg (jneg_nle (by decide)), b_78_13]
theorem c_lenEnd (h : TP w tx) : mK (d + 3) 75 [.ref 169, .int (nI tx.length)] w = some (.inl (some (.int (nI 1))), w) := by
  have k := h.1
  have hL := h.2.2.1
  rw [e_75, b_75_0 k.t7 k.s70 k.tt, k.g70, c_isL h (by omega), bv_out (Nat.le_refl _)]
  simp only [mThen_ok, Option.toList_some, Option.toList_none, List.cons_append, List.nil_append]
  rw [b_75_8, ijne bn_lt (by decide), if_neg (by decide), b_75_13 k.t7 k.s70 k.tt, k.g70, c_isD h (by omega), bv_out (Nat.le_refl _)]
  simp only [mThen_ok, Option.toList_some, Option.toList_none, List.cons_append, List.nil_append]
  rw [b_75_21, ijne bn_lt (by decide), if_neg (by decide), b_75_24 k.t7, e_77, b_77_0 k.t7 k.s70 k.tt, k.g70, c_byteAt h (by omega), if_neg (by omega)]
  simp only [mThen_ok, Option.toList_some, Option.toList_none, List.cons_append, List.nil_append]
  rw [b_77_8, if_neg (jneg_ne2 (by decide)), b_77_15, if_pos (jneg_ne2 (by decide)), b_77_40, b_77_41 (by decide +kernel)]
  simp only [mThen_ok, Option.toList_some, Option.toList_none, List.cons_append, List.nil_append]
  rw [b_75_29, if_pos rfl, b_75_36, b_75_37]
end
