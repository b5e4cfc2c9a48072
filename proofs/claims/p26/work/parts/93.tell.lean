/-! ===== the teller: what it holds; names found ===== -/
/-- the teller's own cells -/
def tF (c : Nat) : Prop := c = 174 ∨ (197 ≤ c ∧ c ≤ 213) ∨ c = 218 ∨ c = 219
def frT (u w : MW) : Prop := ∃ J, w = wJ u J ∧ ∀ c k, ¬ tF c → J c k = mI u c k
/-- what stays: the tokens -/
def SU (u : MW) (tx : List Nat) (E : List Tk) : Prop := TP u tx ∧ E.length ≤ 399 ∧ (∀ j, tK (E.getD j tk0) < 263 ∧ tR (E.getD j tk0) < 21) ∧ mI u 169 6 = nI (E.length + 1) ∧
  (∀ j, j ≤ E.length → mI u 170 j = nI (tK (E.getD j tk0)) ∧ mI u 173 j = nI (tR (E.getD j tk0))) ∧
  (∀ j, j < E.length → ∃ s, mI u 171 j = nI s ∧ BT tx s (tB (E.getD j tk0)) ∧ mI u 172 j = nI (tB (E.getD j tk0)).length)
/-- a token's value in the end -/
def vF (t : Tk) : Nat := if tR t = 12 ∨ tR t = 13 then (tB t).getD 1 0 - 48 else tV t
/-- i tokens are looked at; M: the draft's rows, N: the names' tokens, q: the tongue that is known -/
def TI (u w : MW) (tx : List Nat) (E : List Tk) (M : Nat → Nat → Nat) (N : Nat → Nat) (q i : Nat) : Prop :=
  SU u tx E ∧ KW w ∧ frT u w ∧ (∀ a, a < 17 → ∀ j, mI w (197 + a) j = nI (M a j)) ∧ (∀ j, mI w 219 j = nI (N j)) ∧ mI w 218 3 = nI q ∧
  (∀ j, j ≤ E.length → mI w 174 j = nI (if j < i then vF (E.getD j tk0) else tV (E.getD j tk0))) ∧ (∀ j, N j < 400) ∧ ∀ j, j < 6 → M 0 j ≤ 20
/-- a row's place set -/
def up2 (M : Nat → Nat → Nat) (a j v : Nat) : Nat → Nat → Nat := fun a' j' => if a' = a ∧ j' = j then v else M a' j'
def up1 (N : Nat → Nat) (j v : Nat) : Nat → Nat := fun j' => if j' = j then v else N j'
section
variable {d i j x y q n : Nat} {u w : MW} {tx : List Nat} {E : List Tk} {M : Nat → Nat → Nat} {N : Nat → Nat}
theorem frT.refl : frT w w := ⟨mI w, (wJ_self w).symm, fun _ _ _ => rfl⟩
theorem frT.set {c k : Nat} {x : Int32} (h : frT u w) (hc : tF c) : frT u (wI w c k x) := by
  obtain ⟨J, rfl, a⟩ := h
  refine ⟨jw J c k x, wI_wJ _ _ _ _ _, fun c' k' g => ?_⟩
  unfold jw
  rw [if_neg (fun q => g (by rw [q.1]; exact hc))]
  exact a c' k' g
theorem frT.out (h : frT u w) {c : Nat} (hc : ¬ tF c) (k : Nat) : mI w c k = mI u c k := by
  obtain ⟨J, rfl, a⟩ := h
  exact a c k hc
theorem TI.k (h : TI u w tx E M N q i) : KW w := h.2.1
theorem TI.tp (h : TI u w tx E M N q i) : TP w tx := by
  obtain ⟨hs, hk, hf, _⟩ := h
  obtain ⟨⟨k1, k2, k3, k4, k5⟩, _⟩ := hs
  refine ⟨hk, ?_, k3, fun p hp => ?_, k5⟩
  · rw [hf.out (by unfold tF; omega)]; exact k2
  · rw [hf.out (by unfold tF; omega)]; exact k4 p hp
theorem TI.tok (h : TI u w tx E M N q i) {j : Nat} (hj : j ≤ E.length) : mI w 170 j = nI (tK (E.getD j tk0)) ∧ mI w 173 j = nI (tR (E.getD j tk0)) := by
  obtain ⟨hs, hk, hf, _⟩ := h
  rw [hf.out (by unfold tF; omega), hf.out (by unfold tF; omega)]
  exact hs.2.2.2.2.1 j hj
theorem TI.at (h : TI u w tx E M N q i) {j : Nat} (hj : j < E.length) : ∃ s, mI w 171 j = nI s ∧ BT tx s (tB (E.getD j tk0)) ∧ mI w 172 j = nI (tB (E.getD j tk0)).length := by
  obtain ⟨hs, hk, hf, _⟩ := h
  obtain ⟨s, a, b, c⟩ := hs.2.2.2.2.2 j hj
  exact ⟨s, by rw [hf.out (by unfold tF; omega)]; exact a, b, by rw [hf.out (by unfold tF; omega)]; exact c⟩
theorem TI.cnt (h : TI u w tx E M N q i) (a j : Nat) (ha : a < 17) : mI w (197 + a) j = nI (M a j) := h.2.2.2.1 a ha j
/-- the draft's rows -/
theorem KW.t6 (k : KW w) : mTg w 218 = 6 := k.tg 218 (by decide) (by decide)
theorem KW.g60 (k : KW w) : gR w 218 0 = 169 := gR_of (k.rf 55 (by decide))
theorem KW.s60 (k : KW w) : mR w 218 0 = some (gR w 218 0) := by rw [k.g60]; exact k.rf 55 (by decide)
theorem KW.t60 (k : KW w) : mTg w (gR w 218 0) = 7 := by rw [k.g60]; exact k.t7
theorem KW.g61 (k : KW w) : gR w 218 1 = 196 := gR_of (k.rf 56 (by decide))
theorem KW.s61 (k : KW w) : mR w 218 1 = some (gR w 218 1) := by rw [k.g61]; exact k.rf 56 (by decide)
theorem KW.t61 (k : KW w) : mTg w (gR w 218 1) = 8 := by rw [k.g61]; exact k.tg 196 (by decide) (by decide)
theorem KW.g62 (k : KW w) : gR w 218 2 = 219 := gR_of (k.rf 54 (by decide))
theorem KW.s62 (k : KW w) : mR w 218 2 = some (gR w 218 2) := by rw [k.g62]; exact k.rf 54 (by decide)
theorem KW.gd (k : KW w) (f : Nat) (hf : f < 17) : gR w (gR w 218 1) f = 197 + f := by
  rw [k.g61]
  have e : f = 0 ∨ f = 1 ∨ f = 2 ∨ f = 3 ∨ f = 4 ∨ f = 5 ∨ f = 6 ∨ f = 7 ∨ f = 8 ∨ f = 9 ∨ f = 10 ∨ f = 11 ∨ f = 12 ∨ f = 13 ∨ f = 14 ∨ f = 15 ∨ f = 16 := by omega
  rcases e with rfl | rfl | rfl | rfl | rfl | rfl | rfl | rfl | rfl | rfl | rfl | rfl | rfl | rfl | rfl | rfl | rfl
  · exact gR_of (k.rf 30 (by decide))
  · exact gR_of (k.rf 31 (by decide))
  · exact gR_of (k.rf 32 (by decide))
  · exact gR_of (k.rf 33 (by decide))
  · exact gR_of (k.rf 34 (by decide))
  · exact gR_of (k.rf 35 (by decide))
  · exact gR_of (k.rf 36 (by decide))
  · exact gR_of (k.rf 37 (by decide))
  · exact gR_of (k.rf 38 (by decide))
  · exact gR_of (k.rf 39 (by decide))
  · exact gR_of (k.rf 40 (by decide))
  · exact gR_of (k.rf 41 (by decide))
  · exact gR_of (k.rf 42 (by decide))
  · exact gR_of (k.rf 43 (by decide))
  · exact gR_of (k.rf 44 (by decide))
  · exact gR_of (k.rf 45 (by decide))
  · exact gR_of (k.rf 46 (by decide))
theorem KW.sd (k : KW w) (f : Nat) (hf : f < 17) : mR w (gR w 218 1) f = some (gR w (gR w 218 1) f) := by
  rw [k.gd f hf, k.g61]
  have e : f = 0 ∨ f = 1 ∨ f = 2 ∨ f = 3 ∨ f = 4 ∨ f = 5 ∨ f = 6 ∨ f = 7 ∨ f = 8 ∨ f = 9 ∨ f = 10 ∨ f = 11 ∨ f = 12 ∨ f = 13 ∨ f = 14 ∨ f = 15 ∨ f = 16 := by omega
  rcases e with rfl | rfl | rfl | rfl | rfl | rfl | rfl | rfl | rfl | rfl | rfl | rfl | rfl | rfl | rfl | rfl | rfl
  · exact k.rf 30 (by decide)
  · exact k.rf 31 (by decide)
  · exact k.rf 32 (by decide)
  · exact k.rf 33 (by decide)
  · exact k.rf 34 (by decide)
  · exact k.rf 35 (by decide)
  · exact k.rf 36 (by decide)
  · exact k.rf 37 (by decide)
  · exact k.rf 38 (by decide)
  · exact k.rf 39 (by decide)
  · exact k.rf 40 (by decide)
  · exact k.rf 41 (by decide)
  · exact k.rf 42 (by decide)
  · exact k.rf 43 (by decide)
  · exact k.rf 44 (by decide)
  · exact k.rf 45 (by decide)
  · exact k.rf 46 (by decide)
/-- how long the draft's rows are -/
def rl (a : Nat) : Nat := [6, 5, 10, 10, 10, 12, 48, 12, 6, 30, 5, 5, 5, 40, 20, 20, 20].getD a 0
theorem KW.rd (k : KW w) (a : Nat) (ha : a < 17) : mTg w (197 + a) = 50 ∧ mLn w (197 + a) = rl a := by
  have e : a = 0 ∨ a = 1 ∨ a = 2 ∨ a = 3 ∨ a = 4 ∨ a = 5 ∨ a = 6 ∨ a = 7 ∨ a = 8 ∨ a = 9 ∨ a = 10 ∨ a = 11 ∨ a = 12 ∨ a = 13 ∨ a = 14 ∨ a = 15 ∨ a = 16 := by omega
  rcases e with rfl | rfl | rfl | rfl | rfl | rfl | rfl | rfl | rfl | rfl | rfl | rfl | rfl | rfl | rfl | rfl | rfl <;> exact ⟨k.tg _ (by decide) (by decide), k.ln _ (by decide) (by decide)⟩
theorem rl_lt (a : Nat) (ha : a < 17) : rl a ≤ 48 := by
  have q : ∀ a, a < 17 → rl a ≤ 48 := by decide
  exact q a ha
theorem c_getD {a : Nat} (h : TI u w tx E M N q i) (ha : a < 17) (hj : j < rl a) : mK d 123 [.ref (197 + a), .int (nI j)] w = some (.inl (some (.int (nI (M a j)))), w) := by
  obtain ⟨r1, r2⟩ := h.k.rd a ha
  have := rl_lt a ha
  rw [c_getN r1 (by omega) (by omega), h.cnt a j ha]
theorem c_same (h : TI u w tx E M N q i) (hx : x < E.length) (hy : y < E.length) : mK (d + 1) 83 [.ref 169, .int (nI x), .int (nI y)] w = some (.inl (some (.int (nI (bn (decide (tB (E.getD x tk0) = tB (E.getD y tk0))))))), w) := by
  have k := h.k
  have hE := h.1.2.1
  have ht := h.tp
  have hL := ht.2.2.1
  obtain ⟨s, a1, a2, a3⟩ := h.at hx
  obtain ⟨s', b1, b2, b3⟩ := h.at hy
  generalize hbx : tB (E.getD x tk0) = b at *
  generalize hby : tB (E.getD y tk0) = b' at *
  have r1 := k.row 171 (by decide) (by decide)
  have r2 := k.row 172 (by decide) (by decide)
  have z1 := a2.1
  have z2 := b2.1
  rw [e_83, b_83_0 k.t7 k.s7.2.2.1, k.g7.2.2.1, c_getN r2.1 (by omega) (by omega), a3]
  simp only [mThen_ok, Option.toList_some, Option.toList_none, List.cons_append, List.nil_append]
  rw [b_83_8 k.t7 k.s7.2.2.1, k.g7.2.2.1, c_getN r2.1 (by omega) (by omega), b3]
  simp only [mThen_ok, Option.toList_some, Option.toList_none, List.cons_append, List.nil_append]
  rw [b_83_18, ijeq (by omega) (by omega)]
  by_cases gl : b.length = b'.length
  · rw [if_pos gl, b_83_23 k.t7 k.s7.2.1, k.g7.2.1, c_getN r1.1 (by omega) (by omega), a1]
    simp only [mThen_ok, Option.toList_some, Option.toList_none, List.cons_append, List.nil_append]
    rw [b_83_31 k.t7 k.s7.2.1, k.g7.2.1, c_getN r1.1 (by omega) (by omega), b1]
    simp only [mThen_ok, Option.toList_some, Option.toList_none, List.cons_append, List.nil_append]
    rw [b_83_41]
    have key : ∀ n i, i + n = b.length → (∀ j, j < i → b.getD j 0 = b'.getD j 0) → mX (d + 1) 83 46 [.ref 169, mJ, mJ, .int (nI b.length), .int (nI s), .int (nI s'), .int (nI i)] [] w = some (.inl (some (.int (nI (bn (decide (b = b')))))), w) := by
      intro n
      induction n with
      | zero =>
        intro i hi ha
        rw [b_83_46, ijle (by omega) (by omega), if_pos (by omega), b_83_87, decide_eq_true (list_ext0 gl (fun j hj => ha j (by omega)))]
        rfl
      | succ n ih =>
        intro i hi ha
        have e1 : bv tx (s + i) = b.getD i 0 := a2.2 i (by omega)
        have e2 : bv tx (s' + i) = b'.getD i 0 := b2.2 i (by omega)
        have e3 : bv tx (s + i) < 128 := ht.2.2.2.2 (s + i)
        have e4 : bv tx (s' + i) < 128 := ht.2.2.2.2 (s' + i)
        rw [b_83_46, ijle (by omega) (by omega), if_neg (by omega), b_83_52 k.t7 k.s70 k.tt, k.g70, jadd, c_byteAt ht (by omega), if_pos (by omega)]
        simp only [mThen_ok, Option.toList_some, Option.toList_none, List.cons_append, List.nil_append]
        rw [b_83_64 k.t7 k.s70 k.tt, k.g70, jadd, c_byteAt ht (by omega), if_pos (by omega)]
        simp only [mThen_ok, Option.toList_some, Option.toList_none, List.cons_append, List.nil_append]
        rw [b_83_76, ijeq (by omega) (by omega), e1, e2]
        by_cases g : b.getD i 0 = b'.getD i 0
        · rw [if_pos g, b_83_81, jadd]
          refine ih (i + 1) (by omega) (fun j hj => ?_)
          rcases Nat.lt_or_ge j i with z | z
          · exact ha j z
          · rw [show j = i by omega, g]
        · rw [if_neg g, b_83_79, decide_eq_false (fun q => g (by rw [q]))]
          rfl
    exact key b.length 0 (by omega) (fun j hj => absurd hj (by omega))
  · rw [if_neg gl, b_83_21, decide_eq_false (fun q => gl (by rw [q]))]
    rfl
/-- the names of a kind: their tokens are the letter and the number -/
def NMs (E : List Tk) (N : Nat → Nat) (kd c n : Nat) : Prop := ∀ j, j < n → N (kd * 12 + j) < E.length ∧ tB (E.getD (N (kd * 12 + j)) tk0) = [c, 48 + j]
/-- a name is found, or not -/
theorem c_find {kd c m : Nat} (h : TI u w tx E M N q i) (hk : kd < 6) (hx : x < E.length) (hb : tB (E.getD x tk0) = [c, 48 + m]) (hn : NMs E N kd c (M 0 kd)) (hm : M 0 kd ≤ 12) : mK (d + 2) 66 [.ref 218, .int (nI kd), .int (nI x)] w = some (.inl (some (.int (nI (if m < M 0 kd then m else NEG)))), w) := by
  have k := h.k
  have rN : mTg w 219 = 50 ∧ mLn w 219 = 72 := ⟨k.tg 219 (by decide) (by decide), k.ln 219 (by decide) (by decide)⟩
  rw [e_66, b_66_0]
  have key : ∀ n j, j + n = M 0 kd → j ≤ m → mX (d + 2) 66 2 [.ref 218, .int (nI kd), .int (nI x), .int (nI j)] [] w = some (.inl (some (.int (nI (if m < M 0 kd then m else NEG)))), w) := by
    intro n
    induction n with
    | zero =>
      intro j hj hjm
      rw [b_66_2 k.t6 k.s61 k.t61 (k.sd 0 (by decide)), k.gd 0 (by decide), c_getD h (by decide) (by show kd < 6; exact hk)]
      simp only [mThen_ok, Option.toList_some, Option.toList_none, List.cons_append, List.nil_append]
      rw [b_66_14, ijle (by omega) (by omega), if_pos (by omega), b_66_49, if_neg (by omega)]
      rfl
    | succ n ih =>
      intro j hj hjm
      obtain ⟨n1, n2⟩ := hn j (by omega)
      have s := c_same (d := d) h hx n1
      rw [hb, n2] at s
      rw [b_66_2 k.t6 k.s61 k.t61 (k.sd 0 (by decide)), k.gd 0 (by decide), c_getD h (by decide) (by show kd < 6; exact hk)]
      simp only [mThen_ok, Option.toList_some, Option.toList_none, List.cons_append, List.nil_append]
      rw [b_66_14, ijle (by omega) (by omega), if_neg (by omega), b_66_17 k.t6 k.s60 k.s62, k.g62, k.g60, jmul, jadd, c_getN rN.1 (by omega) (by omega), h.2.2.2.2.1]
      simp only [mThen_ok, Option.toList_some, Option.toList_none, List.cons_append, List.nil_append]
      rw [b_66_35 k.t7, s]
      simp only [mThen_ok, Option.toList_some, Option.toList_none, List.cons_append, List.nil_append]
      rw [b_66_38, ijeq bn_lt (by decide)]
      by_cases g : m = j
      · subst g
        rw [decide_eq_true rfl, if_neg (by decide), b_66_41, if_pos (by omega)]
      · rw [decide_eq_false (fun q => g (by simp only [List.cons.injEq] at q; omega)), if_pos (by decide), b_66_43, jadd, ih (j + 1) (by omega) (by omega)]
  exact key (M 0 kd) 0 (by omega) (Nat.zero_le _)
theorem c_last {kd : Nat} (h : TI u w tx E M N q i) (hk : kd < 6) (hp : 1 ≤ M 0 kd) : mK (d + 1) 65 [.ref 218, .int (nI kd)] w = some (.inl (some (.int (nI (M 0 kd - 1)))), w) := by
  have k := h.k
  rw [e_65, b_65_0 k.t6 k.s61 k.t61 (k.sd 0 (by decide)), k.gd 0 (by decide), c_getD h (by decide) (by show kd < 6; exact hk)]
  simp only [mThen_ok, Option.toList_some, Option.toList_none, List.cons_append, List.nil_append]
  rw [b_65_11, jsub hp]
/-- a row's place is set -/
theorem TI.put (h : TI u w tx E M N q i) {a j v : Nat} (ha : a < 17) (hv : a = 0 → v ≤ 20) : TI u (wI w (197 + a) j (nI v)) tx E (up2 M a j v) N q i := by
  obtain ⟨h1, h2, h3, h4, h5, h6, h7, h8, h9⟩ := h
  refine ⟨h1, h2.wI, h3.set (by unfold tF; omega), fun a' ha' j' => ?_, fun j' => ?_, ?_, fun j' hj' => ?_, h8, fun j' hj' => ?_⟩
  · rw [miI]
    unfold up2
    by_cases g : a' = a ∧ j' = j
    · rw [if_pos g, if_pos ⟨by omega, g.2⟩]
    · rw [if_neg g, if_neg (fun z => g ⟨by omega, z.2⟩)]
      exact h4 a' ha' j'
  · rw [miI, if_neg (by omega)]; exact h5 j'
  · rw [miI, if_neg (by omega)]; exact h6
  · rw [miI, if_neg (by omega)]; exact h7 j' hj'
  · unfold up2
    split
    · rename_i z; exact hv z.1.symm
    · exact h9 j' hj'
theorem c_putD {a v : Nat} (h : TI u w tx E M N q i) (ha : a < 17) (hj : j < rl a) (hv : a = 0 → v ≤ 20) : mK d 124 [.ref (197 + a), .int (nI j), .int (nI v)] w = some (.inl none, wI w (197 + a) j (nI v)) ∧ TI u (wI w (197 + a) j (nI v)) tx E (up2 M a j v) N q i := by
  have eE : mE = 166 := rfl
  obtain ⟨r1, r2⟩ := h.k.rd a ha
  have := rl_lt a ha
  exact ⟨c_putN r1 (by omega) (by omega) (by omega), h.put ha hv⟩
/-- a name is kept -/
theorem c_putN2 {v : Nat} (h : TI u w tx E M N q i) (hj : j < 72) (hv : v < 400) : mK d 124 [.ref 219, .int (nI j), .int (nI v)] w = some (.inl none, wI w 219 j (nI v)) ∧ TI u (wI w 219 j (nI v)) tx E M (up1 N j v) q i := by
  have eE : mE = 166 := rfl
  have k := h.k
  refine ⟨c_putN (k.tg 219 (by decide) (by decide)) (by omega) (by rw [k.ln 219 (by decide) (by decide)]; exact hj) (by rw [k.ln 219 (by decide) (by decide)]; decide), ?_⟩
  obtain ⟨h1, h2, h3, h4, h5, h6, h7, h8, h9⟩ := h
  refine ⟨h1, h2.wI, h3.set (by unfold tF; omega), fun a' ha' j' => ?_, fun j' => ?_, ?_, fun j' hj' => ?_, fun j' => ?_, h9⟩
  · rw [miI, if_neg (by omega)]; exact h4 a' ha' j'
  · rw [miI]
    unfold up1
    by_cases g : j' = j
    · rw [if_pos ⟨rfl, g⟩, if_pos g]
    · rw [if_neg (fun z => g z.2), if_neg g]; exact h5 j'
  · rw [miI, if_neg (by omega)]; exact h6
  · rw [miI, if_neg (by omega)]; exact h7 j' hj'
  · unfold up1
    split
    · exact hv
    · exact h8 j'
/-- the next token is looked at and done with: nothing of its value is changed -/
theorem TI.next (h : TI u w tx E M N q i) (hv : vF (E.getD i tk0) = tV (E.getD i tk0)) : TI u w tx E M N q (i + 1) := by
  obtain ⟨h1, h2, h3, h4, h5, h6, h7, h8, h9⟩ := h
  refine ⟨h1, h2, h3, h4, h5, h6, fun j hj => ?_, h8, h9⟩
  rw [h7 j hj]
  by_cases g : j = i
  · subst g
    rw [if_neg (Nat.lt_irrefl _), if_pos (Nat.lt_succ_self _), hv]
  · have e : (j < i + 1) ↔ (j < i) := by omega
    simp only [e]
end
