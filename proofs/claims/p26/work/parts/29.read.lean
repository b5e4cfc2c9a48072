/-! ===== what a bee is asked: methods that write nothing ===== -/
theorem kr0 : mRk 2 (nI 0) = true := by decide +kernel
theorem kr1 : mRk 2 (nI 1) = true := by decide +kernel
/-- a truth as a number -/
def bI (p : Bool) : Int32 := if p then nI 1 else nI 0
theorem krb (p : Bool) : mRk 2 (bI p) = true := by cases p <;> decide +kernel
theorem bI_t : bI true = nI 1 := rfl
theorem bI_f : bI false = nI 0 := rfl
theorem bI_0 (p : Bool) : bI p = nI 0 ↔ p = false := by cases p <;> decide +kernel
theorem n10 : ¬ nI 1 = nI 0 := by decide +kernel
theorem nbt : ¬ bI true = nI 0 := by decide +kernel
theorem nbf : bI false = nI 0 := rfl
section
variable {d b t : Nat} {w : MW} {C : CD} {M : MD}
theorem CF.n (h : CF w t C) {j : Nat} (hj : j < 6) : mI w (t + 1) j = nI (C 0 0 j) := h.1 j hj
theorem c_cnt (ht : tT w t) (hc : CF w t C) {j : Nat} (hj : j < 6) : mK (d + 1) 85 [.ref t, .int (nI j)] w = some (.inl (some (.int (nI (C 0 0 j)))), w) := by
  rw [e_85, b_85_0 (tT.t0 ht) (tT.s0_0 ht), tT.g0_0 ht, c_getN (tT.t1 ht) (by rw [tT.l1 ht]; exact hj) (by rw [tT.l1 ht]; decide)]
  simp only [mThen_ok, Option.toList_some, Option.toList_none, List.cons_append, List.nil_append]
  rw [b_85_8, hc.n hj]
theorem c_has (ht : tT w t) (hc : CF w t C) {j x : Nat} (hj : j < 6) (hx : x < 2147483648) (hn : C 0 0 j < 2147483648) : mK (d + 1) 86 [.ref t, .int (nI j), .int (nI x)] w = some (.inl (some (.int (bI (decide (x < C 0 0 j))))), w) := by
  rw [e_86, b_86_0, if_neg (by rw [jlt hx (by decide)]; omega), b_86_4 (tT.t0 ht) (tT.s0_0 ht), tT.g0_0 ht, c_getN (tT.t1 ht) (by rw [tT.l1 ht]; exact hj) (by rw [tT.l1 ht]; decide)]
  simp only [mThen_ok, Option.toList_some, Option.toList_none, List.cons_append, List.nil_append]
  rw [b_86_13, hc.n hj, ijle hn hx]
  by_cases g : x < C 0 0 j
  · rw [if_neg (by omega), b_86_16, b_86_21 kr1, decide_eq_true g]; rfl
  · rw [if_pos (by omega), b_86_20, b_86_21 kr0, decide_eq_false g]; rfl
theorem c_hasN (ht : tT w t) (hc : CF w t C) {j : Nat} (hj : j < 6) : mK (d + 1) 86 [.ref t, .int (nI j), .int (nI 4294967295)] w = some (.inl (some (.int (bI false))), w) := by
  rw [e_86, b_86_0, if_pos jneg_lt, b_86_20, b_86_21 kr0]; rfl
theorem c_hard (ht : tT w t) (hk : CfOk C) (hh : HF w t C) {v : Nat} (hv : v < C 0 0 2) : mK (d + 1) 87 [.ref t, .int (nI v)] w = some (.inl (some (.int (nI (hardM C v)))), w) := by
  have h1 := hk.1
  rw [e_87, b_87_0 (tT.t0 ht) (tT.s0_7 ht), tT.g0_7 ht, c_getN (tT.t8 ht) (by rw [tT.l8 ht]; omega) (by rw [tT.l8 ht]; decide)]
  simp only [mThen_ok, Option.toList_some, Option.toList_none, List.cons_append, List.nil_append]
  rw [b_87_8, hh v hv]
theorem CF.sz (h : CF w t C) {v : Nat} (hv : v < C 0 0 2) : mI w (t + 6) v = nI (C 3 v 0) := (h.2.2.2.1 v hv).1
theorem CF.pa (h : CF w t C) {v p : Nat} (hv : v < C 0 0 2) (hp : p < C 3 v 0) : mI w (t + 7) (v * 4 + p) = nI (C 4 v p) := (h.2.2.2.1 v hv).2 p hp
theorem c_part (ht : tT w t) (hc : CF w t C) (hk : CfOk C) {v p : Nat} (hv : v < C 0 0 2) (hp : p < C 3 v 0) : mK (d + 1) 88 [.ref t, .int (nI v), .int (nI p)] w = some (.inl (some (.int (nI (C 4 v p)))), w) := by
  have h1 := hk.1
  have h2 := hk.2.2.2.1 v hv
  rw [e_88, b_88_0 (tT.t0 ht) (tT.s0_6 ht), tT.g0_6 ht, jmul, jadd, c_getN (tT.t7 ht) (by rw [tT.l7 ht]; omega) (by rw [tT.l7 ht]; decide)]
  simp only [mThen_ok, Option.toList_some, Option.toList_none, List.cons_append, List.nil_append]
  rw [b_88_12, hc.pa hv hp]
/-- the size of a word, by get -/
theorem c_size (ht : tT w t) (hc : CF w t C) (hk : CfOk C) {v : Nat} (hv : v < C 0 0 2) : mK d 123 [.ref (t + 6), .int (nI v)] w = some (.inl (some (.int (nI (C 3 v 0)))), w) := by
  have h1 := hk.1
  rw [c_getN (tT.t6 ht) (by rw [tT.l6 ht]; omega) (by rw [tT.l6 ht]; decide), hc.sz hv]
theorem c_rlet (ht : tT w t) (hc : CF w t C) (hk : CfOk C) {r : Nat} (hr : r < C 0 0 1) : mK d 123 [.ref (t + 4), .int (nI r)] w = some (.inl (some (.int (nI (C 2 r 1)))), w) := by
  have h1 := hk.1
  rw [c_getN (tT.t4 ht) (by rw [tT.l4 ht]; omega) (by rw [tT.l4 ht]; decide), (hc.2.2.1 r hr).2.1]
theorem c_rton (ht : tT w t) (hc : CF w t C) (hk : CfOk C) {r : Nat} (hr : r < C 0 0 1) : mK d 123 [.ref (t + 3), .int (nI r)] w = some (.inl (some (.int (nI (C 2 r 0)))), w) := by
  have h1 := hk.1
  rw [c_getN (tT.t3 ht) (by rw [tT.l3 ht]; omega) (by rw [tT.l3 ht]; decide), (hc.2.2.1 r hr).1]
theorem c_rhar (ht : tT w t) (hc : CF w t C) (hk : CfOk C) {r : Nat} (hr : r < C 0 0 1) : mK d 123 [.ref (t + 5), .int (nI r)] w = some (.inl (some (.int (nI (C 2 r 2)))), w) := by
  have h1 := hk.1
  rw [c_getN (tT.t5 ht) (by rw [tT.l5 ht]; omega) (by rw [tT.l5 ht]; decide), (hc.2.2.1 r hr).2.2]
theorem c_ease (ht : tT w t) (hc : CF w t C) (hk : CfOk C) {k : Nat} (hr : k < C 0 0 0) : mK d 123 [.ref (t + 2), .int (nI k)] w = some (.inl (some (.int (nI (C 1 k 0)))), w) := by
  have h1 := hk.1
  rw [c_getN (tT.t2 ht) (by rw [tT.l2 ht]; omega) (by rw [tT.l2 ht]; decide), hc.2.1 k hr]
theorem c_letters (ht : tT w t) (hc : CF w t C) (hk : CfOk C) {v : Nat} (hv : v < C 0 0 2) : mK (d + 2) 89 [.ref t, .int (nI v)] w = some (.inl (some (.int (nI (lettersM C v)))), w) := by
  have h2 := hk.2.2.2.1 v hv
  have key := loop0 (fun i => mX (d + 2) 89 4 [.ref t, .int (nI v), .int (nI (su i (fun p => C 2 (C 4 v p) 1))), .int (nI i)] [] w) (C 3 v 0) (fun i hi => by
    have hr := h2.2.2 i hi
    rw [b_89_4 (tT.t0 ht) (tT.s0_5 ht), tT.g0_5 ht, c_size ht hc hk hv]
    simp only [mThen_ok, Option.toList_some, Option.toList_none, List.cons_append, List.nil_append]
    rw [b_89_13, ijle (by omega) (by omega), if_neg (by omega), b_89_16 (tT.t0 ht) (tT.s0_3 ht), tT.g0_3 ht, c_part ht hc hk hv hi]
    simp only [mThen_ok, Option.toList_some, Option.toList_none, List.cons_append, List.nil_append]
    rw [b_89_27, c_rlet ht hc hk hr]
    simp only [mThen_ok, Option.toList_some, Option.toList_none, List.cons_append, List.nil_append]
    rw [b_89_30, jadd, jadd]
    rfl)
  rw [e_89, b_89_0]
  refine Eq.trans key ?_
  try dsimp only
  rw [b_89_4 (tT.t0 ht) (tT.s0_5 ht), tT.g0_5 ht, c_size ht hc hk hv]
  simp only [mThen_ok, Option.toList_some, Option.toList_none, List.cons_append, List.nil_append]
  rw [b_89_13, if_pos (by rw [jle (by omega) (by omega)]; exact Nat.le_refl _), b_89_38]
  rfl
/-- does a root come in a word, in its first n parts -/
def comesM (C : CD) (r v : Nat) : Nat → Bool
  | 0 => false
  | n + 1 => comesM C r v n || decide (C 4 v n = r)
theorem comesM_iff {r v n : Nat} : comesM C r v n = true ↔ ∃ p, p < n ∧ C 4 v p = r := by
  induction n with
  | zero => simp [comesM]
  | succ n ih =>
    simp only [comesM, Bool.or_eq_true, ih, decide_eq_true_eq]
    constructor
    · rintro (⟨p, h1, h2⟩ | h)
      · exact ⟨p, by omega, h2⟩
      · exact ⟨n, by omega, h⟩
    · rintro ⟨p, h1, h2⟩
      by_cases e : p = n
      · subst e; exact Or.inr h2
      · exact Or.inl ⟨p, by omega, h2⟩
theorem c_comes (ht : tT w t) (hc : CF w t C) (hk : CfOk C) {v r : Nat} (hv : v < C 0 0 2) (hr : r < 2147483648) : mK (d + 2) 91 [.ref t, .int (nI r), .int (nI v)] w = some (.inl (some (.int (bI (comesM C r v (C 3 v 0))))), w) := by
  have h2 := hk.2.2.2.1 v hv
  have hk1 := hk.1
  rw [e_91, b_91_0]
  suffices h : ∀ m i, i + m = C 3 v 0 → comesM C r v i = false → mX (d + 2) 91 2 [.ref t, .int (nI r), .int (nI v), .int (nI i)] [] w = some (.inl (some (.int (bI (comesM C r v (C 3 v 0))))), w) from h _ 0 (Nat.zero_add _) rfl
  intro m
  induction m with
  | zero =>
    intro i hi hf
    have hi : i = C 3 v 0 := hi
    subst hi
    rw [b_91_2 (tT.t0 ht) (tT.s0_5 ht), tT.g0_5 ht, c_size ht hc hk hv]
    simp only [mThen_ok, Option.toList_some, Option.toList_none, List.cons_append, List.nil_append]
    rw [b_91_11, if_pos (by rw [jle (by omega) (by omega)]; exact Nat.le_refl _), b_91_32, hf]
    rfl
  | succ m ih =>
    intro i hi hf
    have hp := h2.2.2 i (by omega)
    rw [b_91_2 (tT.t0 ht) (tT.s0_5 ht), tT.g0_5 ht, c_size ht hc hk hv]
    simp only [mThen_ok, Option.toList_some, Option.toList_none, List.cons_append, List.nil_append]
    rw [b_91_11, if_neg (by rw [jle (by omega) (by omega)]; omega), b_91_14 (tT.t0 ht), c_part ht hc hk hv (by omega)]
    simp only [mThen_ok, Option.toList_some, Option.toList_none, List.cons_append, List.nil_append]
    rw [b_91_20, ijne (by omega) hr]
    by_cases e : C 4 v i = r
    · rw [if_neg (by simp [e]), b_91_24]
      have : comesM C r v (C 3 v 0) = true := comesM_iff.mpr ⟨i, by omega, e⟩
      rw [this]
      rfl
    · rw [if_pos e, b_91_26, jadd, ih (i + 1) (by omega) (by simp [comesM, hf, e])]
theorem c_wordsWith (ht : tT w t) (hc : CF w t C) (hk : CfOk C) {r : Nat} (hr : r < 2147483648) : mK (d + 3) 90 [.ref t, .int (nI r)] w = some (.inl (some (.int (nI (su (C 0 0 2) (fun v => if comesM C r v (C 3 v 0) = true then 1 else 0))))), w) := by
  have h1 := hk.1
  have hd : ∀ i, mX (d + 3) 90 4 [.ref t, .int (nI r), .int (nI (su i (fun v => if comesM C r v (C 3 v 0) = true then 1 else 0))), .int (nI i)] [] w = mX (d + 3) 90 13 [.ref t, .int (nI r), .int (nI (su i (fun v => if comesM C r v (C 3 v 0) = true then 1 else 0))), .int (nI i)] [.int (nI (C 0 0 2)), .int (nI i)] w := fun i => by
    rw [b_90_4 (tT.t0 ht) (tT.s0_0 ht), tT.g0_0 ht, c_getN (tT.t1 ht) (by rw [tT.l1 ht]; decide) (by rw [tT.l1 ht]; decide), hc.n (by decide)]
    simp only [mThen_ok, Option.toList_some, Option.toList_none, List.cons_append, List.nil_append]
  have key := loop0 (fun i => mX (d + 3) 90 4 [.ref t, .int (nI r), .int (nI (su i (fun v => if comesM C r v (C 3 v 0) = true then 1 else 0))), .int (nI i)] [] w) (C 0 0 2) (fun i hi => by
    rw [hd, b_90_13, if_neg (by rw [jle (by omega) (by omega)]; omega), b_90_16 (tT.t0 ht), c_comes ht hc hk hi hr]
    simp only [mThen_ok, Option.toList_some, Option.toList_none, List.cons_append, List.nil_append]
    rw [b_90_22]
    cases e : comesM C r i (C 3 i 0) with
    | true => rw [if_neg (by decide +kernel), b_90_25, b_90_28, jadd, jadd, su, if_pos e]
    | false => rw [if_pos (by decide +kernel), b_90_28, jadd, su, e, if_neg (by decide)]; rfl)
  rw [e_90, b_90_0]
  refine Eq.trans key ?_
  try dsimp only
  rw [hd, b_90_13, if_pos (by rw [jle (by omega) (by omega)]; exact Nat.le_refl _), b_90_34]
end
