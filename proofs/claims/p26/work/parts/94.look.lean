/-! ===== the teller looks at a token, role by role: by program (wip/p26/mklook.py) ===== -/
section
variable {d i j x q n m : Nat} {u w : MW} {tx : List Nat} {E : List Tk} {M M' : Nat → Nat → Nat} {N N' : Nat → Nat}
/-- token i is looked at, without an error -/
def LK (u : MW) (tx : List Nat) (E : List Tk) (D : Nat) (M : Nat → Nat → Nat) (N : Nat → Nat) (q i : Nat) (M' : Nat → Nat → Nat) (N' : Nat → Nat) (q' : Nat) : Prop := ∀ w, TI u w tx E M N q i → ∃ w', mK D 63 [.ref 218, .int (nI i)] w = some (.inl (some (.int (nI 0))), w') ∧ TI u w' tx E M' N' q' (i + 1)
theorem KW.s6j (k : KW w) : mR w (gR w 218 0) 4 = some (gR w (gR w 218 0) 4) ∧ gR w (gR w 218 0) 4 = 173 ∧ mR w (gR w 218 0) 5 = some (gR w (gR w 218 0) 5) ∧ gR w (gR w 218 0) 5 = 174 ∧ mR w (gR w 218 0) 1 = some (gR w (gR w 218 0) 1) ∧ gR w (gR w 218 0) 1 = 170 := by
  rw [k.g60]
  exact ⟨k.s7.2.2.2.1, k.g7.2.2.2.1, k.s7.2.2.2.2, k.g7.2.2.2.2, k.s7.1, k.g7.1⟩
theorem c_lookN {r : Nat} {R : Option (MRes × MW)} (h : TI u w tx E M N q i) (hi : i ≤ E.length) (hr : tR (E.getD i tk0) = r) (h14 : r < 14) (g : mX (d + 4) 63 25 [.ref 218, .int (nI i), .int (nI r)] [] w = R) : mK (d + 4) 63 [.ref 218, .int (nI i)] w = R := by
  have k := h.k
  have hE := h.1.2.1
  have r3 := k.row 173 (by decide) (by decide)
  have t := (h.tok hi).2
  rw [hr] at t
  rw [e_63, b_63_0 k.t6 k.s60 k.t60 k.s6j.1, k.s6j.2.1, c_getN r3.1 (by omega) (by omega), t]
  simp only [mThen_ok, Option.toList_some, Option.toList_none, List.cons_append, List.nil_append]
  rw [b_63_11, ijlt (by omega) (by decide), if_pos h14, g]
theorem c_lookM {r : Nat} {w' : MW} (h : TI u w tx E M N q i) (hi : i ≤ E.length) (hr : tR (E.getD i tk0) = r) (h14 : 14 ≤ r ∧ r < 21) (g : mX (d + 3) 64 0 [.ref 218, .int (nI i), .int (nI r)] [] w = some (.inl (some (.int (nI 0))), w')) : mK (d + 4) 63 [.ref 218, .int (nI i)] w = some (.inl (some (.int (nI 0))), w') := by
  have k := h.k
  have hE := h.1.2.1
  have r3 := k.row 173 (by decide) (by decide)
  have t := (h.tok hi).2
  rw [hr] at t
  rw [e_63, b_63_0 k.t6 k.s60 k.t60 k.s6j.1, k.s6j.2.1, c_getN r3.1 (by omega) (by omega), t]
  simp only [mThen_ok, Option.toList_some, Option.toList_none, List.cons_append, List.nil_append]
  rw [b_63_11, ijlt (by omega) (by decide), if_neg (by omega), b_63_18 k.t6, e_64, g]
  simp only [mThen_ok, Option.toList_some, Option.toList_none, List.cons_append, List.nil_append]
  rw [b_63_24]
theorem vF_eq {t : Tk} (h : ¬ (tR t = 12 ∨ tR t = 13)) : vF t = tV t := by unfold vF; rw [if_neg h]
/-- nothing to be looked for -/
theorem lk_0 (hi : i ≤ E.length) (hr : tR (E.getD i tk0) = 0) : LK u tx E (d + 4) M N q i M N q := by
  intro w h
  refine ⟨w, ?_, h.next (vF_eq (by rw [hr]; omega))⟩
  refine c_lookN h hi hr (by decide) ?_
  rw [s_63_25_d (by rw [jti (by decide)]; omega), b_63_287]
/-- a new name of a kind -/
theorem c_addNew {kd c mx : Nat} (h : TI u w tx E M N q i) (hk : kd < 5) (hx : x < E.length) (hb : tB (E.getD x tk0) = [c, 48 + M 0 kd]) (hn : NMs E N kd c (M 0 kd)) (hm : M 0 kd < mx) (hmx : mx ≤ 12) :
    ∃ w', mK (d + 3) 67 [.ref 218, .int (nI kd), .int (nI mx), .int (nI x)] w = some (.inl (some (.int (nI 0))), w') ∧ TI u w' tx E (up2 M 0 kd (M 0 kd + 1)) (up1 N (kd * 12 + M 0 kd) x) q i := by
  have k := h.k
  have hE := h.1.2.1
  have f := c_find (d := d) h (by omega) hx hb hn (by omega)
  rw [if_neg (Nat.lt_irrefl _)] at f
  obtain ⟨p1, h1⟩ := c_putN2 (d := d + 2) (j := kd * 12 + M 0 kd) (v := x) h (by omega) (by omega)
  have k1 := h1.k
  obtain ⟨p2, h2⟩ := c_putD (d := d + 2) (a := 0) (j := kd) (v := M 0 kd + 1) h1 (by decide) (by show kd < 6; omega) (by omega)
  refine ⟨_, ?_, h2⟩
  rw [e_67, b_67_0 k.t6, f]
  simp only [mThen_ok, Option.toList_some, Option.toList_none, List.cons_append, List.nil_append]
  rw [b_67_6, if_pos jneg_lt, b_67_11 k.t6 k.s61 k.t61 (k.sd 0 (by decide)), k.gd 0 (by decide), c_getD h (by decide) (by show kd < 6; omega)]
  simp only [mThen_ok, Option.toList_some, Option.toList_none, List.cons_append, List.nil_append]
  rw [b_67_22, ijlt (by omega) (by omega), if_pos hm, b_67_32 k.t6 k.s62, k.g62, jmul, jadd, p1]
  simp only [mThen_ok, Option.toList_some, Option.toList_none, List.cons_append, List.nil_append]
  rw [b_67_47 k1.t6 k1.s61 k1.t61 (k1.sd 0 (by decide)), k1.gd 0 (by decide), jadd, p2]
  simp only [mThen_ok, Option.toList_some, Option.toList_none, List.cons_append, List.nil_append]
  rw [b_67_62]
theorem lk_new0 {c : Nat} (hi : i < E.length) (hr : tR (E.getD i tk0) = 1) (hb : tB (E.getD i tk0) = [c, 48 + M 0 0]) (hn : NMs E N 0 c (M 0 0)) (hm : M 0 0 < 5) : LK u tx E (d + 4) M N q i (up2 M 0 0 (M 0 0 + 1)) (up1 N (0 * 12 + M 0 0) i) q := by
  intro w h
  obtain ⟨w', e1, h1⟩ := c_addNew (d := d) (mx := 5) h (by decide) hi hb hn hm (by decide)
  refine ⟨w', ?_, h1.next (vF_eq (by rw [hr]; omega))⟩
  refine c_lookN h (by omega) hr (by decide) ?_
  rw [s_63_25_1 rfl, b_63_92 h.k.t6, e1]
  simp only [mThen_ok, Option.toList_some, Option.toList_none, List.cons_append, List.nil_append]
  rw [b_63_99]
theorem lk_new1 {c : Nat} (hi : i < E.length) (hr : tR (E.getD i tk0) = 2) (hb : tB (E.getD i tk0) = [c, 48 + M 0 1]) (hn : NMs E N 1 c (M 0 1)) (hm : M 0 1 < 10) : LK u tx E (d + 4) M N q i (up2 M 0 1 (M 0 1 + 1)) (up1 N (1 * 12 + M 0 1) i) q := by
  intro w h
  obtain ⟨w', e1, h1⟩ := c_addNew (d := d) (mx := 10) h (by decide) hi hb hn hm (by decide)
  refine ⟨w', ?_, h1.next (vF_eq (by rw [hr]; omega))⟩
  refine c_lookN h (by omega) hr (by decide) ?_
  rw [s_63_25_2 rfl, b_63_100 h.k.t6, e1]
  simp only [mThen_ok, Option.toList_some, Option.toList_none, List.cons_append, List.nil_append]
  rw [b_63_108]
theorem lk_new2 {c : Nat} (hi : i < E.length) (hr : tR (E.getD i tk0) = 3) (hb : tB (E.getD i tk0) = [c, 48 + M 0 2]) (hn : NMs E N 2 c (M 0 2)) (hm : M 0 2 < 12) : LK u tx E (d + 4) M N q i (up2 M 0 2 (M 0 2 + 1)) (up1 N (2 * 12 + M 0 2) i) q := by
  intro w h
  obtain ⟨w', e1, h1⟩ := c_addNew (d := d) (mx := 12) h (by decide) hi hb hn hm (by decide)
  refine ⟨w', ?_, h1.next (vF_eq (by rw [hr]; omega))⟩
  refine c_lookN h (by omega) hr (by decide) ?_
  rw [s_63_25_3 rfl, b_63_109 h.k.t6, e1]
  simp only [mThen_ok, Option.toList_some, Option.toList_none, List.cons_append, List.nil_append]
  rw [b_63_117]
theorem lk_new3 {c : Nat} (hi : i < E.length) (hr : tR (E.getD i tk0) = 4) (hb : tB (E.getD i tk0) = [c, 48 + M 0 3]) (hn : NMs E N 3 c (M 0 3)) (hm : M 0 3 < 6) : LK u tx E (d + 4) M N q i (up2 M 0 3 (M 0 3 + 1)) (up1 N (3 * 12 + M 0 3) i) q := by
  intro w h
  obtain ⟨w', e1, h1⟩ := c_addNew (d := d) (mx := 6) h (by decide) hi hb hn hm (by decide)
  refine ⟨w', ?_, h1.next (vF_eq (by rw [hr]; omega))⟩
  refine c_lookN h (by omega) hr (by decide) ?_
  rw [s_63_25_4 rfl, b_63_118 h.k.t6, e1]
  simp only [mThen_ok, Option.toList_some, Option.toList_none, List.cons_append, List.nil_append]
  rw [b_63_126]
theorem lk_new4 {c : Nat} (hi : i < E.length) (hr : tR (E.getD i tk0) = 5) (hb : tB (E.getD i tk0) = [c, 48 + M 0 4]) (hn : NMs E N 4 c (M 0 4)) (hm : M 0 4 < 5) : LK u tx E (d + 4) M N q i (up2 M 0 4 (M 0 4 + 1)) (up1 N (4 * 12 + M 0 4) i) q := by
  intro w h
  obtain ⟨w', e1, h1⟩ := c_addNew (d := d) (mx := 5) h (by decide) hi hb hn hm (by decide)
  refine ⟨w', ?_, h1.next (vF_eq (by rw [hr]; omega))⟩
  refine c_lookN h (by omega) hr (by decide) ?_
  rw [s_63_25_5 rfl, b_63_127 h.k.t6, e1]
  simp only [mThen_ok, Option.toList_some, Option.toList_none, List.cons_append, List.nil_append]
  rw [b_63_134]
/-- an order -/
theorem lk_ord (hi : i < E.length) (hr : tR (E.getD i tk0) = 6) (hm : M 0 5 < 20) : LK u tx E (d + 4) M N q i (up2 (up2 (up2 M 14 (M 0 5) (tK (E.getD i tk0))) 16 (M 0 5) (tV (E.getD i tk0))) 0 5 (M 0 5 + 1)) N q := by
  intro w h
  have k := h.k
  have hE := h.1.2.1
  have rK := k.row 170 (by decide) (by decide)
  have tk := (h.tok (j := i) (by omega)).1
  obtain ⟨p1, h1⟩ := c_putD (d := d + 2) (a := 14) (j := M 0 5) (v := tK (E.getD i tk0)) h (by decide) (by show M 0 5 < 20; exact hm) (by omega)
  have k1 := h1.k
  have rV := k1.row 174 (by decide) (by decide)
  have tv := h1.2.2.2.2.2.2.1 i (by omega)
  rw [if_neg (Nat.lt_irrefl _)] at tv
  obtain ⟨p2, h2⟩ := c_putD (d := d + 2) (a := 16) (j := M 0 5) (v := tV (E.getD i tk0)) h1 (by decide) (by show M 0 5 < 20; exact hm) (by omega)
  have k2 := h2.k
  obtain ⟨p3, h3⟩ := c_putD (d := d + 2) (a := 0) (j := 5) (v := M 0 5 + 1) h2 (by decide) (by decide) (by omega)
  refine ⟨_, ?_, h3.next (vF_eq (by rw [hr]; omega))⟩
  refine c_lookN h (by omega) hr (by decide) ?_
  rw [s_63_25_6 rfl, b_63_135 k.t6, e_68, b_68_0 k.t6 k.s61 k.t61 (k.sd 0 (by decide)), k.gd 0 (by decide), c_getD h (by decide) (by decide)]
  simp only [mThen_ok, Option.toList_some, Option.toList_none, List.cons_append, List.nil_append]
  rw [b_68_11, ijlt (by omega) (by decide), if_pos hm, b_68_20 k.t6 k.s61 k.t61 (k.sd 14 (by decide)) k.s60 k.t60 k.s6j.2.2.2.2.1, k.s6j.2.2.2.2.2, k.gd 14 (by decide), c_getN rK.1 (by omega) (by omega), tk]
  simp only [mThen_ok, Option.toList_some, Option.toList_none, List.cons_append, List.nil_append]
  rw [b_68_39, p1]
  simp only [mThen_ok, Option.toList_some, Option.toList_none, List.cons_append, List.nil_append]
  rw [b_68_42 k1.t6 k1.s61 k1.t61 (k1.sd 16 (by decide)) k1.s60 k1.t60 k1.s6j.2.2.1, k1.s6j.2.2.2.1, k1.gd 16 (by decide), c_getN rV.1 (by omega) (by omega), tv]
  simp only [mThen_ok, Option.toList_some, Option.toList_none, List.cons_append, List.nil_append]
  rw [b_68_61, p2]
  simp only [mThen_ok, Option.toList_some, Option.toList_none, List.cons_append, List.nil_append]
  rw [b_68_64 k2.t6 k2.s61 k2.t61 (k2.sd 0 (by decide)), k2.gd 0 (by decide), jadd, p3]
  simp only [mThen_ok, Option.toList_some, Option.toList_none, List.cons_append, List.nil_append]
  rw [b_68_78]
  simp only [mThen_ok, Option.toList_some, Option.toList_none, List.cons_append, List.nil_append]
  rw [b_63_140]
/-- a name that is known, into a row -/
theorem c_name {kd c a : Nat} (h : TI u w tx E M N q i) (hk : kd < 6) (hx : x < E.length) (hb : tB (E.getD x tk0) = [c, 48 + m]) (hn : NMs E N kd c (M 0 kd)) (hm : m < M 0 kd) (hc : M 0 kd ≤ 12) (ha : a < 17 ∧ 1 ≤ a) (hj : j < rl a) :
    ∃ w', mK (d + 3) 69 [.ref 218, .int (nI kd), .int (nI x), .ref (197 + a), .int (nI j)] w = some (.inl (some (.int (nI 0))), w') ∧ TI u w' tx E (up2 M a j m) N q i := by
  have f := c_find (d := d) h hk hx hb hn hc
  rw [if_pos hm] at f
  obtain ⟨p1, h1⟩ := c_putD (d := d + 2) (a := a) (j := j) (v := m) h ha.1 hj (by omega)
  refine ⟨_, ?_, h1⟩
  rw [e_69, b_69_0 h.k.t6, f]
  simp only [mThen_ok, Option.toList_some, Option.toList_none, List.cons_append, List.nil_append]
  rw [b_69_6, ijle (by decide) (by omega), if_pos (by omega), b_69_15, p1]
  simp only [mThen_ok, Option.toList_some, Option.toList_none, List.cons_append, List.nil_append]
  rw [b_69_23]
theorem lk_of {c : Nat} (hi : i < E.length) (hr : tR (E.getD i tk0) = 7) (hb : tB (E.getD i tk0) = [c, 48 + m]) (hn : NMs E N 0 c (M 0 0)) (hm : m < M 0 0) (hc : M 0 0 ≤ 12) (ho : 1 ≤ M 0 1 ∧ M 0 1 - 1 < rl 2) : LK u tx E (d + 4) M N q i (up2 M 2 (M 0 1 - 1) m) N q := by
  intro w h
  have k := h.k
  obtain ⟨w', e1, h1⟩ := c_name (d := d) (a := 2) (j := M 0 1 - 1) h (by decide) hi hb hn hm hc (by decide) ho.2
  have e1' : mK (d + 3) 69 [.ref 218, .int (nI 0), .int (nI i), .ref 199, .int (nI (M 0 1 - 1))] w = some (.inl (some (.int (nI 0))), w') := e1
  refine ⟨w', ?_, h1.next (vF_eq (by rw [hr]; omega))⟩
  refine c_lookN h (by omega) hr (by decide) ?_
  rw [s_63_25_7 rfl, b_63_141 k.t6 k.s61 k.t61 (k.sd 2 (by decide)), k.gd 2 (by decide), c_last (d := d + 2) h (by decide) ho.1]
  simp only [mThen_ok, Option.toList_some, Option.toList_none, List.cons_append, List.nil_append]
  rw [b_63_156 k.t6, e1']
  simp only [mThen_ok, Option.toList_some, Option.toList_none, List.cons_append, List.nil_append]
  rw [b_63_159]
theorem lk_osp {c : Nat} (hi : i < E.length) (hr : tR (E.getD i tk0) = 11) (hb : tB (E.getD i tk0) = [c, 48 + m]) (hn : NMs E N 3 c (M 0 3)) (hm : m < M 0 3) (hc : M 0 3 ≤ 12) (ho : 1 ≤ M 0 5 ∧ M 0 5 - 1 < rl 15) : LK u tx E (d + 4) M N q i (up2 M 15 (M 0 5 - 1) m) N q := by
  intro w h
  have k := h.k
  obtain ⟨w', e1, h1⟩ := c_name (d := d) (a := 15) (j := M 0 5 - 1) h (by decide) hi hb hn hm hc (by decide) ho.2
  have e1' : mK (d + 3) 69 [.ref 218, .int (nI 3), .int (nI i), .ref 212, .int (nI (M 0 5 - 1))] w = some (.inl (some (.int (nI 0))), w') := e1
  refine ⟨w', ?_, h1.next (vF_eq (by rw [hr]; omega))⟩
  refine c_lookN h (by omega) hr (by decide) ?_
  rw [s_63_25_11 rfl, b_63_238 k.t6 k.s61 k.t61 (k.sd 15 (by decide)), k.gd 15 (by decide), c_last (d := d + 2) h (by decide) ho.1]
  simp only [mThen_ok, Option.toList_some, Option.toList_none, List.cons_append, List.nil_append]
  rw [b_63_253 k.t6, e1']
  simp only [mThen_ok, Option.toList_some, Option.toList_none, List.cons_append, List.nil_append]
  rw [b_63_256]
/-- the tongue that is known -/
theorem lk_kn {c : Nat} (hi : i < E.length) (hr : tR (E.getD i tk0) = 8) (hb : tB (E.getD i tk0) = [c, 48 + m]) (hn : NMs E N 0 c (M 0 0)) (hm : m < M 0 0) (hc : M 0 0 ≤ 12) : LK u tx E (d + 4) M N q i M N m := by
  intro w h
  have eE : mE = 166 := rfl
  have k := h.k
  have f := c_find (d := d + 1) h (by decide) hi hb hn hc
  rw [if_pos hm] at f
  have k1 : KW (wI w 218 3 (nI m)) := k.wI
  have h1 : TI u (wI w 218 3 (nI m)) tx E M N m i := by
    obtain ⟨h1, h2, h3, h4, h5, h6, h7, h8, h9⟩ := h
    refine ⟨h1, h2.wI, h3.set (by unfold tF; omega), fun a' ha' j' => ?_, fun j' => ?_, ?_, fun j' hj' => ?_, h8, h9⟩
    · rw [miI, if_neg (by omega)]; exact h4 a' ha' j'
    · rw [miI, if_neg (by omega)]; exact h5 j'
    · rw [miI, if_pos ⟨rfl, rfl⟩]
    · rw [miI, if_neg (by omega)]; exact h7 j' hj'
  have n1 : mI (wI w 218 3 (nI m)) 218 3 = nI m := by rw [miI, if_pos ⟨rfl, rfl⟩]
  refine ⟨_, ?_, h1.next (vF_eq (by rw [hr]; omega))⟩
  refine c_lookN h (by omega) hr (by decide) ?_
  rw [s_63_25_8 rfl, b_63_160 k.t6, f]
  simp only [mThen_ok, Option.toList_some, Option.toList_none, List.cons_append, List.nil_append]
  rw [b_63_167 k.t6 (by omega) k1.t6, n1, ijle (by decide) (by omega), if_pos (by omega), b_63_181, b_63_182]
/-- a name is added to a row that has a size -/
theorem c_addName {kd c a b mx ow : Nat} (h : TI u w tx E M N q i) (hk : kd < 6) (hx : x < E.length) (hb : tB (E.getD x tk0) = [c, 48 + m]) (hn : NMs E N kd c (M 0 kd)) (hm : m < M 0 kd) (hc : M 0 kd ≤ 12) (ha : a < 17 ∧ 1 ≤ a) (hb2 : b < 17 ∧ 1 ≤ b) (hab : ¬ a = b) (hj : ow < rl b) (hs : M b ow < mx) (hmx : mx ≤ 8) (hj2 : ow * mx + M b ow < rl a) :
    ∃ w', mK (d + 3) 70 [.ref 218, .int (nI kd), .int (nI x), .ref (197 + a), .ref (197 + b), .int (nI ow), .int (nI mx)] w = some (.inl (some (.int (nI 0))), w') ∧ TI u w' tx E (up2 (up2 M a (ow * mx + M b ow) m) b ow (M b ow + 1)) N q i := by
  have f := c_find (d := d) h hk hx hb hn hc
  rw [if_pos hm] at f
  obtain ⟨p1, h1⟩ := c_putD (d := d + 2) (a := a) (j := ow * mx + M b ow) (v := m) h ha.1 hj2 (by omega)
  obtain ⟨p2, h2⟩ := c_putD (d := d + 2) (a := b) (j := ow) (v := M b ow + 1) h1 hb2.1 hj (by omega)
  refine ⟨_, ?_, h2⟩
  rw [e_70, b_70_0, c_getD h hb2.1 hj]
  simp only [mThen_ok, Option.toList_some, Option.toList_none, List.cons_append, List.nil_append]
  rw [b_70_7 h.k.t6, f]
  simp only [mThen_ok, Option.toList_some, Option.toList_none, List.cons_append, List.nil_append]
  rw [b_70_15, ijle (by decide) (by omega), if_pos (by omega), b_70_24, ijlt (by omega) (by omega), if_pos hs, b_70_33, jmul, jadd, p1]
  simp only [mThen_ok, Option.toList_some, Option.toList_none, List.cons_append, List.nil_append]
  rw [b_70_47, jadd, p2]
  simp only [mThen_ok, Option.toList_some, Option.toList_none, List.cons_append, List.nil_append]
  rw [b_70_58]
theorem lk_part {c : Nat} (hi : i < E.length) (hr : tR (E.getD i tk0) = 9) (hb : tB (E.getD i tk0) = [c, 48 + m]) (hn : NMs E N 1 c (M 0 1)) (hm : m < M 0 1) (hc : M 0 1 ≤ 12) (ho : 1 ≤ M 0 2 ∧ M 0 2 - 1 < rl 5) (hs : M 5 (M 0 2 - 1) < 4) (hj2 : (M 0 2 - 1) * 4 + M 5 (M 0 2 - 1) < rl 6) : LK u tx E (d + 4) M N q i (up2 (up2 M 6 ((M 0 2 - 1) * 4 + M 5 (M 0 2 - 1)) m) 5 (M 0 2 - 1) (M 5 (M 0 2 - 1) + 1)) N q := by
  intro w h
  have k := h.k
  obtain ⟨w', e1, h1⟩ := c_addName (d := d) (a := 6) (b := 5) (mx := 4) (ow := M 0 2 - 1) h (by decide) hi hb hn hm hc (by decide) (by decide) (by decide) ho.2 hs (by decide) hj2
  have e1' : mK (d + 3) 70 [.ref 218, .int (nI 1), .int (nI i), .ref 203, .ref 202, .int (nI (M 0 2 - 1)), .int (nI 4)] w = some (.inl (some (.int (nI 0))), w') := e1
  refine ⟨w', ?_, h1.next (vF_eq (by rw [hr]; omega))⟩
  refine c_lookN h (by omega) hr (by decide) ?_
  rw [s_63_25_9 rfl, b_63_183 k.t6 k.s61 k.t61 (k.sd 6 (by decide)) (k.sd 5 (by decide)), k.gd 6 (by decide), k.gd 5 (by decide), c_last (d := d + 2) h (by decide) ho.1]
  simp only [mThen_ok, Option.toList_some, Option.toList_none, List.cons_append, List.nil_append]
  rw [b_63_205 k.t6, e1']
  simp only [mThen_ok, Option.toList_some, Option.toList_none, List.cons_append, List.nil_append]
  rw [b_63_209]
theorem lk_list {c : Nat} (hi : i < E.length) (hr : tR (E.getD i tk0) = 10) (hb : tB (E.getD i tk0) = [c, 48 + m]) (hn : NMs E N 2 c (M 0 2)) (hm : m < M 0 2) (hc : M 0 2 ≤ 12) (ho : 1 ≤ M 0 4 ∧ M 0 4 - 1 < rl 12) (hs : M 12 (M 0 4 - 1) < 8) (hj2 : (M 0 4 - 1) * 8 + M 12 (M 0 4 - 1) < rl 13) : LK u tx E (d + 4) M N q i (up2 (up2 M 13 ((M 0 4 - 1) * 8 + M 12 (M 0 4 - 1)) m) 12 (M 0 4 - 1) (M 12 (M 0 4 - 1) + 1)) N q := by
  intro w h
  have k := h.k
  obtain ⟨w', e1, h1⟩ := c_addName (d := d) (a := 13) (b := 12) (mx := 8) (ow := M 0 4 - 1) h (by decide) hi hb hn hm hc (by decide) (by decide) (by decide) ho.2 hs (by decide) hj2
  have e1' : mK (d + 3) 70 [.ref 218, .int (nI 2), .int (nI i), .ref 210, .ref 209, .int (nI (M 0 4 - 1)), .int (nI 8)] w = some (.inl (some (.int (nI 0))), w') := e1
  refine ⟨w', ?_, h1.next (vF_eq (by rw [hr]; omega))⟩
  refine c_lookN h (by omega) hr (by decide) ?_
  rw [s_63_25_10 rfl, b_63_210 k.t6 k.s61 k.t61 (k.sd 13 (by decide)) (k.sd 12 (by decide)), k.gd 13 (by decide), k.gd 12 (by decide), c_last (d := d + 2) h (by decide) ho.1]
  simp only [mThen_ok, Option.toList_some, Option.toList_none, List.cons_append, List.nil_append]
  rw [b_63_232 k.t6, e1']
  simp only [mThen_ok, Option.toList_some, Option.toList_none, List.cons_append, List.nil_append]
  rw [b_63_237]
/-- a name in a test -/
theorem TI.putV {v : Nat} (h : TI u w tx E M N q i) (hv : vF (E.getD i tk0) = v) : TI u (wI w 174 i (nI v)) tx E M N q (i + 1) := by
  obtain ⟨h1, h2, h3, h4, h5, h6, h7, h8, h9⟩ := h
  refine ⟨h1, h2.wI, h3.set (Or.inl rfl), fun a' ha' j' => ?_, fun j' => ?_, ?_, fun j' hj' => ?_, h8, h9⟩
  · rw [miI, if_neg (by omega)]; exact h4 a' ha' j'
  · rw [miI, if_neg (by omega)]; exact h5 j'
  · rw [miI, if_neg (by omega)]; exact h6
  · rw [miI]
    by_cases g : j' = i
    · subst g
      rw [if_pos ⟨rfl, rfl⟩, if_pos (Nat.lt_succ_self _), hv]
    · rw [if_neg (fun z => g z.2), h7 j' hj']
      have e : (j' < i + 1) ↔ (j' < i) := by omega
      simp only [e]
theorem lk_tsp {c : Nat} (hi : i < E.length) (hr : tR (E.getD i tk0) = 12) (hb : tB (E.getD i tk0) = [c, 48 + m]) (hn : NMs E N 3 c (M 0 3)) (hm : m < M 0 3) (hc : M 0 3 ≤ 12) : LK u tx E (d + 4) M N q i M N q := by
  intro w h
  have k := h.k
  have hE := h.1.2.1
  have f := c_find (d := d) h (by decide) hi hb hn hc
  rw [if_pos hm] at f
  have hv : vF (E.getD i tk0) = m := by
    unfold vF
    rw [hr, hb]
    simp
  refine ⟨_, ?_, h.putV hv⟩
  refine c_lookN h (by omega) hr (by decide) ?_
  rw [s_63_25_12 rfl, b_63_257 k.t6 k.s60 k.t60 k.s6j.2.2.1, k.s6j.2.2.2.1, e_69, b_69_0 k.t6, f]
  simp only [mThen_ok, Option.toList_some, Option.toList_none, List.cons_append, List.nil_append]
  rw [b_69_6, ijle (by decide) (by omega), if_pos (by omega), b_69_15, c_put7 k (by decide) (by decide) (by omega)]
  simp only [mThen_ok, Option.toList_some, Option.toList_none, List.cons_append, List.nil_append]
  rw [b_69_23]
  simp only [mThen_ok, Option.toList_some, Option.toList_none, List.cons_append, List.nil_append]
  rw [b_63_271]
theorem lk_twd {c : Nat} (hi : i < E.length) (hr : tR (E.getD i tk0) = 13) (hb : tB (E.getD i tk0) = [c, 48 + m]) (hn : NMs E N 2 c (M 0 2)) (hm : m < M 0 2) (hc : M 0 2 ≤ 12) : LK u tx E (d + 4) M N q i M N q := by
  intro w h
  have k := h.k
  have hE := h.1.2.1
  have f := c_find (d := d) h (by decide) hi hb hn hc
  rw [if_pos hm] at f
  have hv : vF (E.getD i tk0) = m := by
    unfold vF
    rw [hr, hb]
    simp
  refine ⟨_, ?_, h.putV hv⟩
  refine c_lookN h (by omega) hr (by decide) ?_
  rw [s_63_25_13 rfl, b_63_272 k.t6 k.s60 k.t60 k.s6j.2.2.1, k.s6j.2.2.2.1, e_69, b_69_0 k.t6, f]
  simp only [mThen_ok, Option.toList_some, Option.toList_none, List.cons_append, List.nil_append]
  rw [b_69_6, ijle (by decide) (by omega), if_pos (by omega), b_69_15, c_put7 k (by decide) (by decide) (by omega)]
  simp only [mThen_ok, Option.toList_some, Option.toList_none, List.cons_append, List.nil_append]
  rw [b_69_23]
  simp only [mThen_ok, Option.toList_some, Option.toList_none, List.cons_append, List.nil_append]
  rw [b_63_286]
/-- a number into a row -/
theorem c_numI {a lo hi' : Nat} (h : TI u w tx E M N q i) (hi : i < E.length) (hv : lo ≤ tV (E.getD i tk0) ∧ tV (E.getD i tk0) ≤ hi') (hh : hi' < 100) (ha : a < 17 ∧ 1 ≤ a) (hj : j < rl a) :
    ∃ w', mK (d + 2) 71 [.ref 218, .int (nI i), .int (nI lo), .int (nI hi'), .ref (197 + a), .int (nI j)] w = some (.inl (some (.int (nI 0))), w') ∧ TI u w' tx E (up2 M a j (tV (E.getD i tk0))) N q i := by
  have k := h.k
  have hE := h.1.2.1
  have rV := k.row 174 (by decide) (by decide)
  have tv := h.2.2.2.2.2.2.1 i (by omega)
  rw [if_neg (Nat.lt_irrefl _)] at tv
  obtain ⟨p1, h1⟩ := c_putD (d := d + 1) (a := a) (j := j) (v := tV (E.getD i tk0)) h ha.1 hj (by omega)
  refine ⟨_, ?_, h1⟩
  rw [e_71, b_71_0 k.t6 k.s60 k.t60 k.s6j.2.2.1, k.s6j.2.2.2.1, c_getN rV.1 (by omega) (by omega), tv]
  simp only [mThen_ok, Option.toList_some, Option.toList_none, List.cons_append, List.nil_append]
  rw [b_71_11, ijlt (by omega) (by omega), if_neg (by omega), b_71_19, ijle (by omega) (by omega), if_pos hv.2, b_71_27, p1]
  simp only [mThen_ok, Option.toList_some, Option.toList_none, List.cons_append, List.nil_append]
  rw [b_71_36]
theorem lk_n14 (hi : i < E.length) (hr : tR (E.getD i tk0) = 14) (hv : 0 ≤ tV (E.getD i tk0) ∧ tV (E.getD i tk0) ≤ 9) (ho : 1 ≤ M 0 0 ∧ M 0 0 - 1 < rl 1) : LK u tx E (d + 4) M N q i (up2 M 1 (M 0 0 - 1) (tV (E.getD i tk0))) N q := by
  intro w h
  have k := h.k
  obtain ⟨w', e1, h1⟩ := c_numI (d := d) (a := 1) (lo := 0) (hi' := 9) (j := M 0 0 - 1) h hi hv (by decide) (by decide) ho.2
  have e1' : mK (d + 2) 71 [.ref 218, .int (nI i), .int (nI 0), .int (nI 9), .ref 198, .int (nI (M 0 0 - 1))] w = some (.inl (some (.int (nI 0))), w') := e1
  refine ⟨w', ?_, h1.next (vF_eq (by rw [hr]; omega))⟩
  refine c_lookM h (by omega) hr (by decide) ?_
  rw [s_64_0_14 rfl, b_64_44 k.t6 k.s61 k.t61 (k.sd 1 (by decide)), k.gd 1 (by decide), c_last (d := d + 1) h (by decide) ho.1]
  simp only [mThen_ok, Option.toList_some, Option.toList_none, List.cons_append, List.nil_append]
  rw [b_64_61 k.t6, e1']
  simp only [mThen_ok, Option.toList_some, Option.toList_none, List.cons_append, List.nil_append]
  rw [b_64_64]
theorem lk_n15 (hi : i < E.length) (hr : tR (E.getD i tk0) = 15) (hv : 1 ≤ tV (E.getD i tk0) ∧ tV (E.getD i tk0) ≤ 9) (ho : 1 ≤ M 0 1 ∧ M 0 1 - 1 < rl 3) : LK u tx E (d + 4) M N q i (up2 M 3 (M 0 1 - 1) (tV (E.getD i tk0))) N q := by
  intro w h
  have k := h.k
  obtain ⟨w', e1, h1⟩ := c_numI (d := d) (a := 3) (lo := 1) (hi' := 9) (j := M 0 1 - 1) h hi hv (by decide) (by decide) ho.2
  have e1' : mK (d + 2) 71 [.ref 218, .int (nI i), .int (nI 1), .int (nI 9), .ref 200, .int (nI (M 0 1 - 1))] w = some (.inl (some (.int (nI 0))), w') := e1
  refine ⟨w', ?_, h1.next (vF_eq (by rw [hr]; omega))⟩
  refine c_lookM h (by omega) hr (by decide) ?_
  rw [s_64_0_15 rfl, b_64_65 k.t6 k.s61 k.t61 (k.sd 3 (by decide)), k.gd 3 (by decide), c_last (d := d + 1) h (by decide) ho.1]
  simp only [mThen_ok, Option.toList_some, Option.toList_none, List.cons_append, List.nil_append]
  rw [b_64_82 k.t6, e1']
  simp only [mThen_ok, Option.toList_some, Option.toList_none, List.cons_append, List.nil_append]
  rw [b_64_85]
theorem lk_n16 (hi : i < E.length) (hr : tR (E.getD i tk0) = 16) (hv : 0 ≤ tV (E.getD i tk0) ∧ tV (E.getD i tk0) ≤ 9) (ho : 1 ≤ M 0 1 ∧ M 0 1 - 1 < rl 4) : LK u tx E (d + 4) M N q i (up2 M 4 (M 0 1 - 1) (tV (E.getD i tk0))) N q := by
  intro w h
  have k := h.k
  obtain ⟨w', e1, h1⟩ := c_numI (d := d) (a := 4) (lo := 0) (hi' := 9) (j := M 0 1 - 1) h hi hv (by decide) (by decide) ho.2
  have e1' : mK (d + 2) 71 [.ref 218, .int (nI i), .int (nI 0), .int (nI 9), .ref 201, .int (nI (M 0 1 - 1))] w = some (.inl (some (.int (nI 0))), w') := e1
  refine ⟨w', ?_, h1.next (vF_eq (by rw [hr]; omega))⟩
  refine c_lookM h (by omega) hr (by decide) ?_
  rw [s_64_0_16 rfl, b_64_86 k.t6 k.s61 k.t61 (k.sd 4 (by decide)), k.gd 4 (by decide), c_last (d := d + 1) h (by decide) ho.1]
  simp only [mThen_ok, Option.toList_some, Option.toList_none, List.cons_append, List.nil_append]
  rw [b_64_103 k.t6, e1']
  simp only [mThen_ok, Option.toList_some, Option.toList_none, List.cons_append, List.nil_append]
  rw [b_64_106]
theorem lk_n17 (hi : i < E.length) (hr : tR (E.getD i tk0) = 17) (hv : 0 ≤ tV (E.getD i tk0) ∧ tV (E.getD i tk0) ≤ 3) (ho : 1 ≤ M 0 3 ∧ M 0 3 - 1 < rl 8) : LK u tx E (d + 4) M N q i (up2 M 8 (M 0 3 - 1) (tV (E.getD i tk0))) N q := by
  intro w h
  have k := h.k
  obtain ⟨w', e1, h1⟩ := c_numI (d := d) (a := 8) (lo := 0) (hi' := 3) (j := M 0 3 - 1) h hi hv (by decide) (by decide) ho.2
  have e1' : mK (d + 2) 71 [.ref 218, .int (nI i), .int (nI 0), .int (nI 3), .ref 205, .int (nI (M 0 3 - 1))] w = some (.inl (some (.int (nI 0))), w') := e1
  refine ⟨w', ?_, h1.next (vF_eq (by rw [hr]; omega))⟩
  refine c_lookM h (by omega) hr (by decide) ?_
  rw [s_64_0_17 rfl, b_64_107 k.t6 k.s61 k.t61 (k.sd 8 (by decide)), k.gd 8 (by decide), c_last (d := d + 1) h (by decide) ho.1]
  simp only [mThen_ok, Option.toList_some, Option.toList_none, List.cons_append, List.nil_append]
  rw [b_64_123 k.t6, e1']
  simp only [mThen_ok, Option.toList_some, Option.toList_none, List.cons_append, List.nil_append]
  rw [b_64_126]
theorem lk_n19 (hi : i < E.length) (hr : tR (E.getD i tk0) = 19) (hv : 0 ≤ tV (E.getD i tk0) ∧ tV (E.getD i tk0) ≤ 99) (ho : 1 ≤ M 0 4 ∧ M 0 4 - 1 < rl 10) : LK u tx E (d + 4) M N q i (up2 M 10 (M 0 4 - 1) (tV (E.getD i tk0))) N q := by
  intro w h
  have k := h.k
  obtain ⟨w', e1, h1⟩ := c_numI (d := d) (a := 10) (lo := 0) (hi' := 99) (j := M 0 4 - 1) h hi hv (by decide) (by decide) ho.2
  have e1' : mK (d + 2) 71 [.ref 218, .int (nI i), .int (nI 0), .int (nI 99), .ref 207, .int (nI (M 0 4 - 1))] w = some (.inl (some (.int (nI 0))), w') := e1
  refine ⟨w', ?_, h1.next (vF_eq (by rw [hr]; omega))⟩
  refine c_lookM h (by omega) hr (by decide) ?_
  rw [s_64_0_19 rfl, b_64_155 k.t6 k.s61 k.t61 (k.sd 10 (by decide)), k.gd 10 (by decide), c_last (d := d + 1) h (by decide) ho.1]
  simp only [mThen_ok, Option.toList_some, Option.toList_none, List.cons_append, List.nil_append]
  rw [b_64_172 k.t6, e1']
  simp only [mThen_ok, Option.toList_some, Option.toList_none, List.cons_append, List.nil_append]
  rw [b_64_175]
theorem lk_n20 (hi : i < E.length) (hr : tR (E.getD i tk0) = 20) (hv : 1 ≤ tV (E.getD i tk0) ∧ tV (E.getD i tk0) ≤ 9) (ho : 1 ≤ M 0 4 ∧ M 0 4 - 1 < rl 11) : LK u tx E (d + 4) M N q i (up2 M 11 (M 0 4 - 1) (tV (E.getD i tk0))) N q := by
  intro w h
  have k := h.k
  obtain ⟨w', e1, h1⟩ := c_numI (d := d) (a := 11) (lo := 1) (hi' := 9) (j := M 0 4 - 1) h hi hv (by decide) (by decide) ho.2
  have e1' : mK (d + 2) 71 [.ref 218, .int (nI i), .int (nI 1), .int (nI 9), .ref 208, .int (nI (M 0 4 - 1))] w = some (.inl (some (.int (nI 0))), w') := e1
  refine ⟨w', ?_, h1.next (vF_eq (by rw [hr]; omega))⟩
  refine c_lookM h (by omega) hr (by decide) ?_
  rw [s_64_0_20 rfl, b_64_176 k.t6 k.s61 k.t61 (k.sd 11 (by decide)), k.gd 11 (by decide), c_last (d := d + 1) h (by decide) ho.1]
  simp only [mThen_ok, Option.toList_some, Option.toList_none, List.cons_append, List.nil_append]
  rw [b_64_193 k.t6, e1']
  simp only [mThen_ok, Option.toList_some, Option.toList_none, List.cons_append, List.nil_append]
  rw [b_64_196]
theorem lk_n18 (hi : i < E.length) (hr : tR (E.getD i tk0) = 18) (hv : tV (E.getD i tk0) ≤ 20) (ho : 1 ≤ M 0 3) (hj : (M 0 3 - 1) * 5 + q < 30) : LK u tx E (d + 4) M N q i (up2 M 9 ((M 0 3 - 1) * 5 + q) (tV (E.getD i tk0))) N q := by
  intro w h
  have k := h.k
  obtain ⟨w', e1, h1⟩ := c_numI (d := d) (a := 9) (lo := 0) (hi' := 20) (j := (M 0 3 - 1) * 5 + q) h hi ⟨Nat.zero_le _, hv⟩ (by decide) (by decide) (by show _ < 30; exact hj)
  have e1' : mK (d + 2) 71 [.ref 218, .int (nI i), .int (nI 0), .int (nI 20), .ref 206, .int (nI ((M 0 3 - 1) * 5 + q))] w = some (.inl (some (.int (nI 0))), w') := e1
  refine ⟨w', ?_, h1.next (vF_eq (by rw [hr]; omega))⟩
  refine c_lookM h (by omega) hr (by decide) ?_
  rw [s_64_0_18 rfl, b_64_127 k.t6 k.s61 k.t61 (k.sd 9 (by decide)), k.gd 9 (by decide), c_last (d := d + 1) h (by decide) ho]
  simp only [mThen_ok, Option.toList_some, Option.toList_none, List.cons_append, List.nil_append]
  rw [b_64_144 k.t6 k.t6, h.2.2.2.2.2.1, jmul, jadd, e1']
  simp only [mThen_ok, Option.toList_some, Option.toList_none, List.cons_append, List.nil_append]
  rw [b_64_154]
/-- the teller's loop -/
def TR (u : MW) (tx : List Nat) (E : List Tk) (D : Nat) (M : Nat → Nat → Nat) (N : Nat → Nat) (q i : Nat) (M' : Nat → Nat → Nat) (N' : Nat → Nat) (q' i' : Nat) : Prop := ∀ w, TI u w tx E M N q i → ∃ w', mX D 62 9 [.ref 218, .int (nI i), mJ] [] w = mX D 62 9 [.ref 218, .int (nI i'), mJ] [] w' ∧ TI u w' tx E M' N' q' i'
theorem TR.refl {D : Nat} : TR u tx E D M N q i M N q i := fun w h => ⟨w, rfl, h⟩
theorem TR.trans {D q1 i1 q2 i2 : Nat} {M2 : Nat → Nat → Nat} {N2 : Nat → Nat} (a : TR u tx E D M N q i M' N' q1 i1) (b : TR u tx E D M' N' q1 i1 M2 N2 q2 i2) : TR u tx E D M N q i M2 N2 q2 i2 := by
  intro w h
  obtain ⟨w1, e1, h1⟩ := a w h
  obtain ⟨w2, e2, h2⟩ := b w1 h1
  exact ⟨w2, e1.trans e2, h2⟩
theorem TR.step {q1 : Nat} (a : LK u tx E (d + 4) M N q i M' N' q1) (hi : i ≤ E.length) : TR u tx E (d + 5) M N q i M' N' q1 (i + 1) := by
  intro w h
  obtain ⟨w1, e1, h1⟩ := a w h
  refine ⟨w1, ?_, h1⟩
  have k := h.k
  have hE := h.1.2.1
  have sz : mI w 169 6 = nI (E.length + 1) := by rw [h.2.2.1.out (by unfold tF; omega)]; exact h.1.2.2.2.1
  rw [b_62_9 k.t6 k.s60 k.t60, k.g60, sz, ijle (by omega) (by omega), if_neg (by omega), b_62_20 k.t6, e1]
  simp only [mThen_ok, Option.toList_some, Option.toList_none, List.cons_append, List.nil_append]
  rw [b_62_25, if_pos rfl, b_62_37, jadd]
end
