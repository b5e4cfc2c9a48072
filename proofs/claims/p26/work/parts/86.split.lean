/-! ===== the lexer: its loop ===== -/
/-- i tokens of E are split off -/
def LX (u w : MW) (tx : List Nat) (E : List Tk) (i : Nat) : Prop := frB 169 175 u w ∧ mI w 169 6 = nI i ∧ ∀ j, j < i → mI w 170 j = nI (tK (E.getD j tk0)) ∧ mI w 173 j = nI 0 ∧ mI w 174 j = nI (v0 (E.getD j tk0)) ∧ (j < E.length → ∃ s, mI w 171 j = nI s ∧ BT tx s (tB (E.getD j tk0)) ∧ mI w 172 j = nI (tB (E.getD j tk0)).length)
section
variable {d p q i : Nat} {u w : MW} {tx : List Nat} {E : List Tk}
theorem frB.kw {lo hi : Nat} (h : frB lo hi u w) (k : KW u) : KW w := by
  obtain ⟨J, rfl, _⟩ := h
  exact k
theorem frB.txk {lo hi : Nat} (h : frB lo hi u w) (hl : 166 ≤ lo) (k : TX u) : TX w := by
  obtain ⟨J, rfl, a⟩ := h
  exact k.of (fun c _ h2 => ⟨rfl, rfl, funext fun j => a c j (Or.inl (by omega)), rfl⟩)
theorem frB.tp {lo hi : Nat} (h : frB lo hi u w) (hl : 169 ≤ lo) (k : TP u tx) : TP w tx := by
  obtain ⟨J, rfl, a⟩ := h
  obtain ⟨k1, k2, k3, k4, k5⟩ := k
  refine ⟨k1, ?_, k3, fun p hp => ?_, k5⟩
  · show J 167 1 = _
    rw [a 167 1 (Or.inl (by omega))]; exact k2
  · show J 168 p = _
    rw [a 168 p (Or.inl (by omega))]; exact k4 p hp
theorem frB.set {lo hi c k : Nat} {x : Int32} (h : frB lo hi u w) (h1 : lo ≤ c) (h2 : c < hi) : frB lo hi u (wI w c k x) := by
  obtain ⟨J, rfl, a⟩ := h
  refine ⟨jw J c k x, wI_wJ _ _ _ _ _, fun c' k' hc => ?_⟩
  unfold jw
  rw [if_neg (by omega)]
  exact a c' k' hc
theorem miI (w : MW) (c k : Nat) (x : Int32) (a b : Nat) : mI (wI w c k x) a b = if a = c ∧ b = k then x else mI w a b := by rw [mI_wI]
theorem KW.wI {c k : Nat} {x : Int32} (h : KW w) : KW (wI w c k x) := h
theorem KW.g7 (k : KW w) : gR w 169 1 = 170 ∧ gR w 169 2 = 171 ∧ gR w 169 3 = 172 ∧ gR w 169 4 = 173 ∧ gR w 169 5 = 174 := ⟨gR_of (k.rf 2 (by decide)), gR_of (k.rf 3 (by decide)), gR_of (k.rf 4 (by decide)), gR_of (k.rf 5 (by decide)), gR_of (k.rf 6 (by decide))⟩
theorem KW.s7 (k : KW w) : mR w 169 1 = some (gR w 169 1) ∧ mR w 169 2 = some (gR w 169 2) ∧ mR w 169 3 = some (gR w 169 3) ∧ mR w 169 4 = some (gR w 169 4) ∧ mR w 169 5 = some (gR w 169 5) := by
  obtain ⟨g1, g2, g3, g4, g5⟩ := k.g7
  rw [g1, g2, g3, g4, g5]
  exact ⟨k.rf 2 (by decide), k.rf 3 (by decide), k.rf 4 (by decide), k.rf 5 (by decide), k.rf 6 (by decide)⟩
theorem KW.row (k : KW w) (c : Nat) (h1 : 170 ≤ c) (h2 : c < 175) : mTg w c = 50 ∧ mLn w c = 401 := by
  have e : c = 170 ∨ c = 171 ∨ c = 172 ∨ c = 173 ∨ c = 174 := by omega
  rcases e with rfl | rfl | rfl | rfl | rfl <;> exact ⟨k.tg _ (by decide) (by decide), k.ln _ (by decide) (by decide)⟩
theorem c_put7 {c i : Nat} {x : Int32} (k : KW w) (h1 : 170 ≤ c) (h2 : c < 175) (hi : i ≤ 400) : mK d 124 [.ref c, .int (nI i), .int x] w = some (.inl none, wI w c i x) := by
  have eE : mE = 166 := rfl
  have r := k.row c h1 h2
  exact c_putN r.1 (by omega) (by omega) (by omega)
theorem lx_step {K S N V : Int32} (h : LX u w tx E i) (hK : K = nI (tK (E.getD i tk0))) (hV : V = nI (v0 (E.getD i tk0))) (hs : i < E.length → ∃ s, S = nI s ∧ BT tx s (tB (E.getD i tk0)) ∧ N = nI (tB (E.getD i tk0)).length) :
    LX u (wI (wI (wI (wI (wI (wI w 170 i K) 171 i S) 172 i N) 173 i (nI 0)) 174 i V) 169 6 (nI (i + 1))) tx E (i + 1) := by
  obtain ⟨h1, h2, h3⟩ := h
  refine ⟨((((((h1.set (by decide) (by decide)).set (by decide) (by decide)).set (by decide) (by decide)).set (by decide) (by decide)).set (by decide) (by decide)).set (by decide) (by decide)), ?_, fun j hj => ?_⟩
  · rw [mI_wI, if_pos ⟨rfl, rfl⟩]
  · by_cases g : j = i
    · subst g
      refine ⟨?_, ?_, ?_, fun hl => ?_⟩
      · simp only [miI, Nat.reduceEqDiff, false_and, if_false, true_and, if_true, and_self]; exact hK
      · simp only [miI, Nat.reduceEqDiff, false_and, if_false, true_and, if_true, and_self]
      · simp only [miI, Nat.reduceEqDiff, false_and, if_false, true_and, if_true, and_self]; exact hV
      · obtain ⟨s, q1, q2, q3⟩ := hs hl
        refine ⟨s, ?_, q2, ?_⟩
        · simp only [miI, Nat.reduceEqDiff, false_and, if_false, true_and, if_true, and_self]; exact q1
        · simp only [miI, Nat.reduceEqDiff, false_and, if_false, true_and, if_true, and_self]; exact q3
    · obtain ⟨q1, q2, q3, q4⟩ := h3 j (by omega)
      simp only [miI, Nat.reduceEqDiff, false_and, if_false, true_and, if_neg g]
      exact ⟨q1, q2, q3, q4⟩
/-- one token's fields are written -/
theorem p_73_0 {x1 x2 x4 : Int32} (k : KW w) (hi : i ≤ 400) : mX (d + 7) 73 73 [.ref 169, .int x1, .int x2, .int (nI i), .int x4] [] w = mX (d + 7) 73 82 [.ref 169, .int x1, .int x2, .int (nI i), .int x4] [] (wI w 170 i x2) := by
  rw [b_73_73 k.t7 k.s7.1, k.g7.1, c_put7 k (by decide) (by decide) hi]
  simp only [mThen_ok, Option.toList_some, Option.toList_none, List.cons_append, List.nil_append]
theorem p_73_1 {x1 x2 x4 : Int32} (k : KW w) (hi : i ≤ 400) : mX (d + 7) 73 82 [.ref 169, .int x1, .int x2, .int (nI i), .int x4] [] w = mX (d + 7) 73 91 [.ref 169, .int x1, .int x2, .int (nI i), .int x4] [] (wI w 171 i x1) := by
  rw [b_73_82 k.t7 k.s7.2.1, k.g7.2.1, c_put7 k (by decide) (by decide) hi]
  simp only [mThen_ok, Option.toList_some, Option.toList_none, List.cons_append, List.nil_append]
theorem p_73_2 {x1 x2 x4 : Int32} (k : KW w) (hi : i ≤ 400) : mX (d + 7) 73 91 [.ref 169, .int x1, .int x2, .int (nI i), .int x4] [] w = mX (d + 7) 73 101 [.ref 169, .int x1, .int x2, .int (nI i), .int x4] [] (wI w 172 i x4) := by
  rw [b_73_91 k.t7 k.s7.2.2.1, k.g7.2.2.1, c_put7 k (by decide) (by decide) hi]
  simp only [mThen_ok, Option.toList_some, Option.toList_none, List.cons_append, List.nil_append]
theorem p_73_3 {x1 x2 x4 : Int32} (k : KW w) (hi : i ≤ 400) : mX (d + 7) 73 101 [.ref 169, .int x1, .int x2, .int (nI i), .int x4] [] w = mX (d + 7) 73 110 [.ref 169, .int x1, .int x2, .int (nI i), .int x4] [] (wI w 173 i (nI 0)) := by
  rw [b_73_101 k.t7 k.s7.2.2.2.1, k.g7.2.2.2.1, c_put7 k (by decide) (by decide) hi]
  simp only [mThen_ok, Option.toList_some, Option.toList_none, List.cons_append, List.nil_append]
theorem p_73_4 {x1 x2 x4 V : Int32} (k : KW w) (hi : i ≤ 400) (hv : x2 = nI 259 → mK (d + 6) 82 [.ref 169, .int x1, .int x4] w = some (.inl (some (.int V)), w)) (hv2 : ¬ x2 = nI 259 → V = nI 0) : mX (d + 7) 73 110 [.ref 169, .int x1, .int x2, .int (nI i), .int x4] [] w = mX (d + 7) 73 13 [.ref 169, .int (x1 + x4), .int x2, .int (nI (i + 1)), mJ] [] (wI (wI w 174 i V) 169 6 (nI (i + 1))) := by
  have eE : mE = 166 := rfl
  have fin : mX (d + 7) 73 133 [.ref 169, .int x1, .int x2, .int (nI i), .int x4] [.int V, .int (nI i), .ref 174] w = mX (d + 7) 73 13 [.ref 169, .int (x1 + x4), .int x2, .int (nI (i + 1)), mJ] [] (wI (wI w 174 i V) 169 6 (nI (i + 1))) := by
    rw [b_73_133, c_put7 k (by decide) (by decide) hi]
    simp only [mThen_ok, Option.toList_some, Option.toList_none, List.cons_append, List.nil_append]
    rw [b_73_136 k.wI.t7 (by omega), jadd]
  rw [b_73_110 k.t7 k.s7.2.2.2.2, k.g7.2.2.2.2]
  by_cases g : x2 = nI 259
  · rw [if_neg (fun q => q g), b_73_122 k.t7, hv g]
    simp only [mThen_ok, Option.toList_some, Option.toList_none, List.cons_append, List.nil_append]
    rw [b_73_129, fin]
  · rw [if_pos g, b_73_132, ← hv2 g, fin]
theorem c_tokPut {x1 x2 x4 V : Int32} (k : KW w) (hi : i ≤ 400) (hv : x2 = nI 259 → ∀ w', frB 169 175 w w' → mK (d + 6) 82 [.ref 169, .int x1, .int x4] w' = some (.inl (some (.int V)), w')) (hv2 : ¬ x2 = nI 259 → V = nI 0) :
    mX (d + 7) 73 73 [.ref 169, .int x1, .int x2, .int (nI i), .int x4] [] w = mX (d + 7) 73 13 [.ref 169, .int (x1 + x4), .int x2, .int (nI (i + 1)), mJ] [] (wI (wI (wI (wI (wI (wI w 170 i x2) 171 i x1) 172 i x4) 173 i (nI 0)) 174 i V) 169 6 (nI (i + 1))) := by
  have k1 : KW (wI w 170 i x2) := k.wI
  have k2 : KW (wI (wI w 170 i x2) 171 i x1) := k1.wI
  have k3 : KW (wI (wI (wI w 170 i x2) 171 i x1) 172 i x4) := k2.wI
  have k4 : KW (wI (wI (wI (wI w 170 i x2) 171 i x1) 172 i x4) 173 i (nI 0)) := k3.wI
  have f1 : frB 169 175 w (wI w 170 i x2) := (frB.refl _ _ _).set (by decide) (by decide)
  have f2 : frB 169 175 w (wI (wI w 170 i x2) 171 i x1) := f1.set (by decide) (by decide)
  have f3 : frB 169 175 w (wI (wI (wI w 170 i x2) 171 i x1) 172 i x4) := f2.set (by decide) (by decide)
  have f4 : frB 169 175 w (wI (wI (wI (wI w 170 i x2) 171 i x1) 172 i x4) 173 i (nI 0)) := f3.set (by decide) (by decide)
  exact (((((p_73_0 k hi).trans (p_73_1 k1 hi)).trans (p_73_2 k2 hi)).trans (p_73_3 k3 hi)).trans (p_73_4 k4 hi (fun q => hv q _ f4) hv2))
theorem lexL_split : ∀ (r : List Tk) (t : Tk), lexL (t :: r) = true → lexOk (tB t) = true ∧ kdOf (tB t) = tK t ∧ (tP t).all isS = true ∧ nxOk (tB t) ((tP t ++ flat r).getD 0 0) = true ∧ lexL r = true := by
  intro r t h
  unfold lexL at h
  rw [Bool.and_eq_true, Bool.and_eq_true, Bool.and_eq_true, Bool.and_eq_true, beq_iff_eq] at h
  exact ⟨h.1.1.1.1, h.1.1.1.2, h.1.1.2, h.1.2, h.2⟩
theorem flat_hd {r : List Tk} (h : lexL r = true) : isS ((flat r).getD 0 0) = false := by
  cases r with
  | nil => decide
  | cons t r =>
    obtain ⟨h1, _⟩ := lexL_split r t h
    have hp := lex_pos h1
    have e : (flat (t :: r)).getD 0 0 = (tB t).getD 0 0 := by
      unfold flat
      rw [getD_app, if_pos (by omega)]
    rw [e]
    unfold lexOk at h1
    cases g : isS ((tB t).getD 0 0) with
    | false => rfl
    | true =>
      exfalso
      have z : (tB t).getD 0 0 = 32 ∨ (tB t).getD 0 0 = 10 := by
        unfold isS at g
        rw [Bool.or_eq_true, decide_eq_true_eq, decide_eq_true_eq] at g
        exact g
      rcases z with z | z
      · rw [z, if_neg (by decide), if_neg (by decide), Bool.or_eq_true, Bool.or_eq_true, beq_iff_eq, beq_iff_eq, Bool.and_eq_true] at h1
        rcases h1 with (q | q) | q
        · rw [q] at z; exact absurd z (by decide)
        · rw [q] at z; exact absurd z (by decide)
        · exact absurd q.2 (by decide +kernel)
      · rw [z, if_neg (by decide), if_neg (by decide), Bool.or_eq_true, Bool.or_eq_true, beq_iff_eq, beq_iff_eq, Bool.and_eq_true] at h1
        rcases h1 with (q | q) | q
        · rw [q] at z; exact absurd z (by decide)
        · rw [q] at z; exact absurd z (by decide)
        · exact absurd q.2 (by decide +kernel)
theorem kdOf_lt {b : List Nat} (h : lexOk b = true) : kdOf b < 260 := by
  have key : ∀ n k, n + k = 31 → kwFr b n k ≤ 258 := by
    intro n
    induction n with
    | zero => intro k _; exact Nat.le_refl _
    | succ n ih =>
      intro k hk
      unfold kwFr
      split
      · omega
      · exact ih (k + 1) (by omega)
  unfold kdOf
  split
  · have := key 31 0 rfl; omega
  · split
    · omega
    · split
      · split <;> omega
      · rename_i g1 g2 g3
        unfold lexOk at h
        rw [if_neg g1, if_neg g2, Bool.or_eq_true, Bool.or_eq_true, beq_iff_eq, beq_iff_eq, Bool.and_eq_true] at h
        rcases h with (q | q) | q
        · rw [q] at g3; exact absurd rfl g3
        · rw [q] at g3; exact absurd rfl g3
        · have hm : b.getD 0 0 ∈ sB 0 := List.contains_iff_mem.mp q.2
          obtain ⟨j, hj, ej⟩ := List.getElem_of_mem hm
          have := sB_lt (i := 0) (j := j) (by decide)
          rw [List.getD_eq_getElem?_getD, List.getElem?_eq_getElem hj, ej] at this
          have e : (some (b.getD 0 0)).getD 0 = b.getD 0 0 := rfl
          omega
end
