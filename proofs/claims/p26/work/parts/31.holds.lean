/-! ===== the reckoner: tests of orders ===== -/
def jn (a : Nat) (x y : Int32) : Int32 := if a = 43 then x + y else if a = 45 then x - y else if a = 42 then x * y else if a = 47 then (if y = nI 0 then nI 0 else x / y) else if a = 29 then (if y < x then y else x) else if a = 30 then (if x < y then y else x)
  else if a = 60 then (if y ≤ x then nI 0 else nI 1) else if a = 61 then (if x = y then nI 1 else nI 0) else if a = 62 then (if x ≤ y then nI 0 else nI 1) else if a = 256 then (if y < x then nI 0 else nI 1) else if a = 257 then (if x < y then nI 0 else nI 1) else if a = 27 then x &&& y else x ||| y
def isJn (a : Nat) : Bool := a == 43 || a == 45 || a == 42 || a == 47 || a == 29 || a == 30 || a == 60 || a == 61 || a == 62 || a == 256 || a == 257 || a == 27 || a == 28
section
variable {d b t B : Nat} {w : MW} {C : CD} {M : MD}
theorem c_join {a : Nat} {x y : Int32} (ha : isJn a = true) : mK (d + 1) 51 [.int (nI a), .int x, .int y] w = some (.inl (some (.int (jn a x y))), w) := by
  simp only [isJn, Bool.or_eq_true, beq_iff_eq] at ha
  rw [e_51]
  rcases ha with (((((((((((rfl | rfl) | rfl) | rfl) | rfl) | rfl) | rfl) | rfl) | rfl) | rfl) | rfl) | rfl) | rfl
  · rw [s_51_0_43 rfl, b_51_108]; rfl
  · rw [s_51_0_45 rfl, b_51_112]; rfl
  · rw [s_51_0_42 rfl, b_51_116]; rfl
  · rw [s_51_0_47 rfl, b_51_120]
    by_cases e : y = nI 0
    · rw [if_neg (by simp [e]), b_51_124, b_51_131]
      show _ = some (Sum.inl (some (Value.int (if y = nI 0 then nI 0 else x / y))), w)
      rw [if_pos e]
    · rw [if_pos e, b_51_128 e, b_51_131]
      show _ = some (Sum.inl (some (Value.int (if y = nI 0 then nI 0 else x / y))), w)
      rw [if_neg e]
  · rw [s_51_0_29 rfl, b_51_132, c_min]
    simp only [mThen_ok, Option.toList_some, Option.toList_none, List.cons_append, List.nil_append]
    rw [b_51_137]; rfl
  · rw [s_51_0_30 rfl, b_51_138, c_max]
    simp only [mThen_ok, Option.toList_some, Option.toList_none, List.cons_append, List.nil_append]
    rw [b_51_143]; rfl
  · rw [s_51_0_60 rfl, b_51_144]
    show _ = some (Sum.inl (some (Value.int (if y ≤ x then nI 0 else nI 1))), w)
    split
    · rw [b_51_153, b_51_154]
    · rw [b_51_149, b_51_154]
  · rw [s_51_0_61 rfl, b_51_166]
    show _ = some (Sum.inl (some (Value.int (if x = y then nI 1 else nI 0))), w)
    by_cases e : x = y
    · rw [if_neg (by simp [e]), if_pos e, b_51_171, b_51_176]
    · rw [if_pos e, if_neg e, b_51_175, b_51_176]
  · rw [s_51_0_62 rfl, b_51_155]
    show _ = some (Sum.inl (some (Value.int (if x ≤ y then nI 0 else nI 1))), w)
    split
    · rw [b_51_164, b_51_165]
    · rw [b_51_160, b_51_165]
  · rw [s_51_0_256 rfl, b_51_177]
    show _ = some (Sum.inl (some (Value.int (if y < x then nI 0 else nI 1))), w)
    split
    · rw [b_51_186, b_51_187]
    · rw [b_51_182, b_51_187]
  · rw [s_51_0_257 rfl, b_51_188]
    show _ = some (Sum.inl (some (Value.int (if x < y then nI 0 else nI 1))), w)
    split
    · rw [b_51_197, b_51_198]
    · rw [b_51_193, b_51_198]
  · rw [s_51_0_27 rfl, b_51_199]; rfl
  · rw [s_51_0_d (by decide +kernel), b_51_203]; rfl
/-- what waits on the reckoner's row, the last first -/
def RS (w : MW) (b : Nat) (st : List Int32) : Prop := mI w (b + 1) 1 = nI st.length ∧ ∀ i x, st.reverse[i]? = some x → mI w (b + 2) i = x
theorem c_push (h : BW w b t C M) {st : List Int32} (hr : RS w b st) (hl : st.length < 64) (x : Int32) : ∃ w', mK (d + 1) 49 [.ref (b + 1), .int x] w = some (.inl none, w') ∧ upB b w w' M ∧ RS w' b (x :: st) := by
  have h8 := h.b.lo
  have hE : mE ≤ b + 1 := by show 166 ≤ b + 1; omega
  have hE2 : mE ≤ b + 2 := by show 166 ≤ b + 2; omega
  refine ⟨wI (wI w (b + 2) st.length x) (b + 1) 1 (nI (st.length + 1)), ?_, ?_, ?_, ?_⟩
  · rw [e_49, b_49_0 (bT.t1 h.b) (bT.s1_0 h.b), bT.g1_0 h.b, hr.1, c_putN (bT.t2 h.b) hE2 (by rw [bT.l2 h.b]; exact hl) (by rw [bT.l2 h.b]; decide)]
    simp only [mThen_ok, Option.toList_some, Option.toList_none, List.cons_append, List.nil_append]
    rw [b_49_12 (w := wI w (b + 2) st.length x) (bT.t1 h.b) hE]
    rw [mI_wI, if_neg (by omega), hr.1, jadd]
  · have u1 := upB.junk (x := x) (k := st.length) h.m (c := b + 2) (by omega) (by omega)
    exact u1.trans (upB.junk (h.up u1).m (by omega) (by omega))
  · rw [mI_wI, if_pos ⟨rfl, rfl⟩]; rfl
  · intro i y hy
    rw [mI_wI, if_neg (by omega), mI_wI]
    rw [List.reverse_cons] at hy
    by_cases e : i < st.reverse.length
    · rw [List.getElem?_append_left e] at hy
      have e2 : i < st.length := by simpa using e
      rw [if_neg (by omega)]
      exact hr.2 i y hy
    · rw [List.getElem?_append_right (by omega)] at hy
      have e1 : i - st.reverse.length = 0 := by
        rcases Nat.eq_zero_or_pos (i - st.reverse.length) with q | q
        · exact q
        · rw [List.getElem?_eq_none (show [x].length ≤ i - st.reverse.length from q)] at hy; cases hy
      rw [e1] at hy
      have e2 : i = st.length := by simp at e e1; omega
      rw [if_pos ⟨rfl, e2⟩]
      exact Option.some.inj hy
theorem c_pop (h : BW w b t C M) {st : List Int32} {x : Int32} (hr : RS w b (x :: st)) (hl : st.length < 64) : ∃ w', mK (d + 1) 50 [.ref (b + 1)] w = some (.inl (some (.int x)), w') ∧ upB b w w' M ∧ RS w' b st := by
  have h8 := h.b.lo
  have hE : mE ≤ b + 1 := by show 166 ≤ b + 1; omega
  have h1 : mI w (b + 1) 1 = nI (st.length + 1) := hr.1
  have h2 : mI w (b + 1) 1 - nI 1 = nI st.length := by rw [h1, jsub (by omega)]; rfl
  refine ⟨wI w (b + 1) 1 (nI st.length), ?_, ?_, ?_, ?_⟩
  · rw [e_50, b_50_0 (bT.t1 h.b) hE (bT.t1 h.b) (bT.s1_0 h.b), h2]
    have hg : gR (wI w (b + 1) 1 (nI st.length)) (b + 1) 0 = b + 2 := bT.g1_0 h.b
    have ht2 : mTg (wI w (b + 1) 1 (nI st.length)) (b + 2) = 50 := bT.t2 h.b
    have hl2 : mLn (wI w (b + 1) 1 (nI st.length)) (b + 2) = 64 := bT.l2 h.b
    rw [hg, mI_wI, if_pos ⟨rfl, rfl⟩, c_getN ht2 (by rw [hl2]; exact hl) (by rw [hl2]; decide), mI_wI, if_neg (by omega)]
    simp only [mThen_ok, Option.toList_some, Option.toList_none, List.cons_append, List.nil_append]
    rw [b_50_21, hr.2 st.length x (by simp)]
  · exact upB.junk h.m (by omega) (by omega)
  · rw [mI_wI, if_pos ⟨rfl, rfl⟩]
  · intro i y hy
    rw [mI_wI, if_neg (by omega)]
    refine hr.2 i y ?_
    rw [List.reverse_cons]
    have e : i < st.reverse.length := by
      rcases Nat.lt_or_ge i st.reverse.length with q | q
      · exact q
      · rw [List.getElem?_eq_none q] at hy; cases hy
    rw [List.getElem?_append_left e]
    exact hy
/-- the loop's head -/
noncomputable def hdH (d b t i : Nat) (W : Int32) (w : MW) : Option (MRes × MW) := mX (d + 4) 48 26 [.ref (b + 1), .ref b, mJ, .ref t, .int W, .int (nI i), mJ, mJ, mJ] [] w
theorem H_get (h : BW w b t C M) {i a z : Nat} {W : Int32} (hz : mI w (t + 18) 2 = nI z) (hi : i < z) (hz4 : z ≤ 400) (ha : mI w (t + 19) i = nI a) : hdH d b t i W w = mX (d + 4) 48 64 [.ref (b + 1), .ref b, mJ, .ref t, .int W, .int (nI i), .int (nI a), mJ, mJ] [.int (mI w (t + 20) i)] w := by
  unfold hdH
  rw [b_48_26 (tT.t0 h.t) (tT.s0_17 h.t) (by rw [tT.g0_17 h.t]; exact tT.t18 h.t), tT.g0_17 h.t, hz, if_neg (by rw [jle (by omega) (by omega)]; omega), b_48_38 (tT.t0 h.t) (tT.s0_17 h.t) (by rw [tT.g0_17 h.t]; exact tT.t18 h.t) (by rw [tT.g0_17 h.t]; exact tT.s18_0 h.t), tT.g0_17 h.t, tT.g18_0 h.t, c_getN (tT.t19 h.t) (by rw [tT.l19 h.t]; omega) (by rw [tT.l19 h.t]; decide), ha]
  simp only [mThen_ok, Option.toList_some, Option.toList_none, List.cons_append, List.nil_append]
  rw [b_48_50 (tT.t0 h.t) (tT.s0_17 h.t) (by rw [tT.g0_17 h.t]; exact tT.t18 h.t) (by rw [tT.g0_17 h.t]; exact tT.s18_1 h.t), tT.g0_17 h.t, tT.g18_1 h.t, c_getN (tT.t20 h.t) (by rw [tT.l20 h.t]; omega) (by rw [tT.l20 h.t]; decide)]
  simp only [mThen_ok, Option.toList_some, Option.toList_none, List.cons_append, List.nil_append]
theorem H_next {i : Nat} {W : Int32} : mX (d + 4) 48 411 [.ref (b + 1), .ref b, mJ, .ref t, .int W, .int (nI i), mJ, mJ, mJ] [] w = hdH d b t (i + 1) W w := by
  unfold hdH
  rw [b_48_411, jadd]
/-- what an operation that asks pushes -/
def opV (C : CD) (M : MD) (a x : Nat) : Int32 := if a = 259 then nI x else if a = 19 then nI (M 0 0 0) else if a = 20 then nI (leftM C M) else if a = 21 then nI (M 3 x 1) else if a = 22 then nI (M 3 x 2) else if a = 9 then nI (M 3 x 3) else if a = 23 then gapM C M x else if a = 5 then nI (hardM C x) else if a = 24 then nI (M 3 x 0) else bI (decide (M 0 0 4 = x))
def isOp (a : Nat) : Bool := a == 259 || a == 19 || a == 20 || a == 21 || a == 22 || a == 9 || a == 23 || a == 5 || a == 24 || a == 25

theorem H_259 (h : BW w b t C M) (hm : MOk C B M) (hB : B ≤ 1073741824) {i z x : Nat} {st : List Int32} (hr : RS w b st) (hl : st.length < 64) (hz : mI w (t + 18) 2 = nI z) (hi : i < z) (hz4 : z ≤ 400) (ha : mI w (t + 19) i = nI 259) (hx : mI w (t + 20) i = nI x) : ∃ w', hdH d b t i (nI (wordN C M)) w = hdH d b t (i + 1) (nI (wordN C M)) w' ∧ upB b w w' M ∧ RS w' b (opV C M 259 x :: st) := by
  have hk := h.k.1
  obtain ⟨w1, e1, u1, r1⟩ := c_push (d := d + 2) h hr hl (opV C M 259 x)
  refine ⟨w1, ?_, u1, r1⟩
  rw [H_get h hz hi hz4 ha, s_48_64_259 rfl, hx, b_48_184 (bT.t1 h.b)]
  have e1' : mK (d + 3) 49 [.ref (b + 1), .int (nI x)] w = some (.inl none, w1) := e1
  rw [e1']
  simp only [mThen_ok, Option.toList_some, Option.toList_none, List.cons_append, List.nil_append]
  rw [b_48_190, H_next]
theorem H_19 (h : BW w b t C M) (hm : MOk C B M) (hB : B ≤ 1073741824) {i z x : Nat} {st : List Int32} (hr : RS w b st) (hl : st.length < 64) (hz : mI w (t + 18) 2 = nI z) (hi : i < z) (hz4 : z ≤ 400) (ha : mI w (t + 19) i = nI 19) : ∃ w', hdH d b t i (nI (wordN C M)) w = hdH d b t (i + 1) (nI (wordN C M)) w' ∧ upB b w w' M ∧ RS w' b (opV C M 19 x :: st) := by
  have hk := h.k.1
  obtain ⟨w1, e1, u1, r1⟩ := c_push (d := d + 2) h hr hl (opV C M 19 x)
  refine ⟨w1, ?_, u1, r1⟩
  rw [H_get h hz hi hz4 ha, s_48_64_19 rfl, b_48_193 (bT.t0 h.b) (bT.t1 h.b), h.z0]
  have e1' : mK (d + 3) 49 [.ref (b + 1), .int (nI (M 0 0 0))] w = some (.inl none, w1) := e1
  rw [e1']
  simp only [mThen_ok, Option.toList_some, Option.toList_none, List.cons_append, List.nil_append]
  rw [b_48_201, H_next]
theorem H_20 (h : BW w b t C M) (hm : MOk C B M) (hB : B ≤ 1073741824) {i z x : Nat} {st : List Int32} (hr : RS w b st) (hl : st.length < 64) (hz : mI w (t + 18) 2 = nI z) (hi : i < z) (hz4 : z ≤ 400) (ha : mI w (t + 19) i = nI 20) : ∃ w', hdH d b t i (nI (wordN C M)) w = hdH d b t (i + 1) (nI (wordN C M)) w' ∧ upB b w w' M ∧ RS w' b (opV C M 20 x :: st) := by
  have hk := h.k.1
  obtain ⟨w1, e1, u1, r1⟩ := c_push (d := d + 2) h hr hl (opV C M 20 x)
  refine ⟨w1, ?_, u1, r1⟩
  rw [H_get h hz hi hz4 ha, s_48_64_20 rfl, b_48_204 (bT.t0 h.b), c_left h hm.i]
  simp only [mThen_ok, Option.toList_some, Option.toList_none, List.cons_append, List.nil_append]
  rw [b_48_209 (bT.t1 h.b)]
  have e1' : mK (d + 3) 49 [.ref (b + 1), .int (nI (leftM C M))] w = some (.inl none, w1) := e1
  rw [e1']
  simp only [mThen_ok, Option.toList_some, Option.toList_none, List.cons_append, List.nil_append]
  rw [b_48_212, H_next]
theorem H_21 (h : BW w b t C M) (hm : MOk C B M) (hB : B ≤ 1073741824) {i z x : Nat} {st : List Int32} (hr : RS w b st) (hl : st.length < 64) (hz : mI w (t + 18) 2 = nI z) (hi : i < z) (hz4 : z ≤ 400) (ha : mI w (t + 19) i = nI 21) (hx : mI w (t + 20) i = nI x) (hs : x < C 0 0 3) : ∃ w', hdH d b t i (nI (wordN C M)) w = hdH d b t (i + 1) (nI (wordN C M)) w' ∧ upB b w w' M ∧ RS w' b (opV C M 21 x :: st) := by
  have hk := h.k.1
  obtain ⟨w1, e1, u1, r1⟩ := c_push (d := d + 2) h hr hl (opV C M 21 x)
  refine ⟨w1, ?_, u1, r1⟩
  rw [H_get h hz hi hz4 ha, s_48_64_21 rfl, hx, b_48_215 (bT.t0 h.b), c_spAt h.b (by omega)]
  simp only [mThen_ok, Option.toList_some, Option.toList_none, List.cons_append, List.nil_append]
  rw [b_48_222 (bT.st h.b (by omega)) (bT.t1 h.b), h.f1 (by omega)]
  have e1' : mK (d + 3) 49 [.ref (b + 1), .int (nI (M 3 x 1))] w = some (.inl none, w1) := e1
  rw [e1']
  simp only [mThen_ok, Option.toList_some, Option.toList_none, List.cons_append, List.nil_append]
  rw [b_48_228, H_next]
theorem H_22 (h : BW w b t C M) (hm : MOk C B M) (hB : B ≤ 1073741824) {i z x : Nat} {st : List Int32} (hr : RS w b st) (hl : st.length < 64) (hz : mI w (t + 18) 2 = nI z) (hi : i < z) (hz4 : z ≤ 400) (ha : mI w (t + 19) i = nI 22) (hx : mI w (t + 20) i = nI x) (hs : x < C 0 0 3) : ∃ w', hdH d b t i (nI (wordN C M)) w = hdH d b t (i + 1) (nI (wordN C M)) w' ∧ upB b w w' M ∧ RS w' b (opV C M 22 x :: st) := by
  have hk := h.k.1
  obtain ⟨w1, e1, u1, r1⟩ := c_push (d := d + 2) h hr hl (opV C M 22 x)
  refine ⟨w1, ?_, u1, r1⟩
  rw [H_get h hz hi hz4 ha, s_48_64_22 rfl, hx, b_48_231 (bT.t0 h.b), c_spAt h.b (by omega)]
  simp only [mThen_ok, Option.toList_some, Option.toList_none, List.cons_append, List.nil_append]
  rw [b_48_238 (bT.st h.b (by omega)) (bT.t1 h.b), h.f2 (by omega)]
  have e1' : mK (d + 3) 49 [.ref (b + 1), .int (nI (M 3 x 2))] w = some (.inl none, w1) := e1
  rw [e1']
  simp only [mThen_ok, Option.toList_some, Option.toList_none, List.cons_append, List.nil_append]
  rw [b_48_244, H_next]
theorem H_9 (h : BW w b t C M) (hm : MOk C B M) (hB : B ≤ 1073741824) {i z x : Nat} {st : List Int32} (hr : RS w b st) (hl : st.length < 64) (hz : mI w (t + 18) 2 = nI z) (hi : i < z) (hz4 : z ≤ 400) (ha : mI w (t + 19) i = nI 9) (hx : mI w (t + 20) i = nI x) (hs : x < C 0 0 3) : ∃ w', hdH d b t i (nI (wordN C M)) w = hdH d b t (i + 1) (nI (wordN C M)) w' ∧ upB b w w' M ∧ RS w' b (opV C M 9 x :: st) := by
  have hk := h.k.1
  obtain ⟨w1, e1, u1, r1⟩ := c_push (d := d + 2) h hr hl (opV C M 9 x)
  refine ⟨w1, ?_, u1, r1⟩
  rw [H_get h hz hi hz4 ha, s_48_64_9 rfl, hx, b_48_247 (bT.t0 h.b), c_spAt h.b (by omega)]
  simp only [mThen_ok, Option.toList_some, Option.toList_none, List.cons_append, List.nil_append]
  rw [b_48_254 (bT.st h.b (by omega)) (bT.t1 h.b), h.f3 (by omega)]
  have e1' : mK (d + 3) 49 [.ref (b + 1), .int (nI (M 3 x 3))] w = some (.inl none, w1) := e1
  rw [e1']
  simp only [mThen_ok, Option.toList_some, Option.toList_none, List.cons_append, List.nil_append]
  rw [b_48_260, H_next]
theorem H_5 (h : BW w b t C M) (hm : MOk C B M) (hB : B ≤ 1073741824) {i z x : Nat} {st : List Int32} (hr : RS w b st) (hl : st.length < 64) (hz : mI w (t + 18) 2 = nI z) (hi : i < z) (hz4 : z ≤ 400) (ha : mI w (t + 19) i = nI 5) (hx : mI w (t + 20) i = nI x) (hv : x < C 0 0 2) : ∃ w', hdH d b t i (nI (wordN C M)) w = hdH d b t (i + 1) (nI (wordN C M)) w' ∧ upB b w w' M ∧ RS w' b (opV C M 5 x :: st) := by
  have hk := h.k.1
  obtain ⟨w1, e1, u1, r1⟩ := c_push (d := d + 2) h hr hl (opV C M 5 x)
  refine ⟨w1, ?_, u1, r1⟩
  rw [H_get h hz hi hz4 ha, s_48_64_5 rfl, hx, b_48_294 (tT.t0 h.t), c_hard h.t h.k h.h hv]
  simp only [mThen_ok, Option.toList_some, Option.toList_none, List.cons_append, List.nil_append]
  rw [b_48_301 (bT.t1 h.b)]
  have e1' : mK (d + 3) 49 [.ref (b + 1), .int (nI (hardM C x))] w = some (.inl none, w1) := e1
  rw [e1']
  simp only [mThen_ok, Option.toList_some, Option.toList_none, List.cons_append, List.nil_append]
  rw [b_48_304, H_next]
theorem H_24 (h : BW w b t C M) (hm : MOk C B M) (hB : B ≤ 1073741824) {i z x : Nat} {st : List Int32} (hr : RS w b st) (hl : st.length < 64) (hz : mI w (t + 18) 2 = nI z) (hi : i < z) (hz4 : z ≤ 400) (ha : mI w (t + 19) i = nI 24) (hx : mI w (t + 20) i = nI x) (hs : x < C 0 0 3) : ∃ w', hdH d b t i (nI (wordN C M)) w = hdH d b t (i + 1) (nI (wordN C M)) w' ∧ upB b w w' M ∧ RS w' b (opV C M 24 x :: st) := by
  have hk := h.k.1
  obtain ⟨w1, e1, u1, r1⟩ := c_push (d := d + 2) h hr hl (opV C M 24 x)
  refine ⟨w1, ?_, u1, r1⟩
  rw [H_get h hz hi hz4 ha, s_48_64_24 rfl, hx, b_48_307 (bT.t0 h.b), c_spAt h.b (by omega)]
  simp only [mThen_ok, Option.toList_some, Option.toList_none, List.cons_append, List.nil_append]
  rw [b_48_314 (bT.st h.b (by omega)), h.f0 (by omega)]
  have q1 := (hm.2.2.2.2.2.1 x).1
  have e1' : mK (d + 3) 49 [.ref (b + 1), .int (nI (M 3 x 0))] w = some (.inl none, w1) := e1
  rcases (show M 3 x 0 = 0 ∨ M 3 x 0 = 1 by omega) with q | q
  · rw [q] at e1' ⊢
    rw [if_pos rfl, b_48_324, b_48_325 (bT.t1 h.b), e1']
    simp only [mThen_ok, Option.toList_some, Option.toList_none, List.cons_append, List.nil_append]
    rw [b_48_328, H_next]
  · rw [q] at e1' ⊢
    rw [if_neg n10, b_48_320, b_48_325 (bT.t1 h.b), e1']
    simp only [mThen_ok, Option.toList_some, Option.toList_none, List.cons_append, List.nil_append]
    rw [b_48_328, H_next]
theorem H_25 (h : BW w b t C M) (hm : MOk C B M) (hB : B ≤ 1073741824) {i z x : Nat} {st : List Int32} (hr : RS w b st) (hl : st.length < 64) (hz : mI w (t + 18) 2 = nI z) (hi : i < z) (hz4 : z ≤ 400) (ha : mI w (t + 19) i = nI 25) (hx : mI w (t + 20) i = nI x) (hs : x < C 0 0 3) : ∃ w', hdH d b t i (nI (wordN C M)) w = hdH d b t (i + 1) (nI (wordN C M)) w' ∧ upB b w w' M ∧ RS w' b (opV C M 25 x :: st) := by
  have hk := h.k.1
  obtain ⟨w1, e1, u1, r1⟩ := c_push (d := d + 2) h hr hl (opV C M 25 x)
  refine ⟨w1, ?_, u1, r1⟩
  rw [H_get h hz hi hz4 ha, s_48_64_25 rfl, hx, b_48_331 (bT.t0 h.b), h.z4]
  have hz9 : (nI (M 0 0 4) = nI x) ↔ M 0 0 4 = x := by
    rcases hm.2.2.2.2.1 with e | e
    · rw [e]
      constructor
      · intro q; exact absurd q (jneg_ne2 (by omega))
      · intro q; rw [q]
    · exact jeq (by omega) (by omega)
  have e1' : mK (d + 3) 49 [.ref (b + 1), .int (bI (decide (M 0 0 4 = x)))] w = some (.inl none, w1) := e1
  simp only [hz9]
  by_cases q : M 0 0 4 = x
  · rw [decide_eq_true q, bI_t] at e1'
    rw [if_neg (by simp [q]), b_48_341, b_48_346 (bT.t1 h.b), e1']
    simp only [mThen_ok, Option.toList_some, Option.toList_none, List.cons_append, List.nil_append]
    rw [b_48_349, H_next]
  · rw [decide_eq_false q, bI_f] at e1'
    rw [if_pos q, b_48_345, b_48_346 (bT.t1 h.b), e1']
    simp only [mThen_ok, Option.toList_some, Option.toList_none, List.cons_append, List.nil_append]
    rw [b_48_349, H_next]
theorem H_23 (h : BW w b t C M) (hm : MOk C B M) (hB : B ≤ 1073741824) {i z x : Nat} {st : List Int32} (hr : RS w b st) (hl : st.length < 64) (hz : mI w (t + 18) 2 = nI z) (hi : i < z) (hz4 : z ≤ 400) (ha : mI w (t + 19) i = nI 23) (hx : mI w (t + 20) i = nI x) (hs : x < C 0 0 3) : ∃ w', hdH d b t i (nI (wordN C M)) w = hdH d b t (i + 1) (nI (wordN C M)) w' ∧ upB b w w' M ∧ RS w' b (opV C M 23 x :: st) := by
  have hk := h.k.1
  obtain ⟨w1, e1, u1, r1⟩ := c_push (d := d + 2) h hr hl (opV C M 23 x)
  refine ⟨w1, ?_, u1, r1⟩
  rw [H_get h hz hi hz4 ha, s_48_64_23 rfl, hx, b_48_263]
  have e1' : mK (d + 3) 49 [.ref (b + 1), .int (gapM C M x)] w = some (.inl none, w1) := e1
  unfold gapM at e1'
  unfold wordN
  rcases hm.2.2.2.2.1 with e | e
  · rw [if_pos e] at e1'
    rw [if_pos e, if_neg (by decide +kernel), b_48_269, b_48_288 (bT.t1 h.b), e1']
    simp only [mThen_ok, Option.toList_some, Option.toList_none, List.cons_append, List.nil_append]
    rw [b_48_291, H_next]
  · have hn : ¬ M 0 0 4 = NEG := by show ¬ M 0 0 4 = 4294967295; omega
    have q2 := (h.k.2.2.2.2.2.1 _ e.2.1).2.2.2.2.2 _ e.2.2.1
    have hw : wordM C M < C 0 0 2 := q2
    rw [if_neg hn] at e1'
    rw [if_neg hn, if_pos (by rw [jle (by decide) (by omega)]; exact Nat.zero_le _), b_48_273 (tT.t0 h.t), c_hard h.t h.k h.h hw]
    simp only [mThen_ok, Option.toList_some, Option.toList_none, List.cons_append, List.nil_append]
    rw [b_48_279 (bT.t0 h.b), c_strong h hm hB (by omega) hw]
    simp only [mThen_ok, Option.toList_some, Option.toList_none, List.cons_append, List.nil_append]
    rw [b_48_287, b_48_288 (bT.t1 h.b), e1']
    simp only [mThen_ok, Option.toList_some, Option.toList_none, List.cons_append, List.nil_append]
    rw [b_48_291, H_next]
theorem H_not (h : BW w b t C M) {i z : Nat} {W y : Int32} {st : List Int32} (hr : RS w b (y :: st)) (hl : st.length < 64) (hz : mI w (t + 18) 2 = nI z) (hi : i < z) (hz4 : z ≤ 400) (ha : mI w (t + 19) i = nI 26) : ∃ w', hdH d b t i W w = hdH d b t (i + 1) W w' ∧ upB b w w' M ∧ RS w' b ((nI 1 - y) :: st) := by
  obtain ⟨w1, e1, u1, r1⟩ := c_pop (d := d + 2) h hr hl
  have h1 := h.up u1
  obtain ⟨w2, e2, u2, r2⟩ := c_push (d := d + 2) h1 r1 hl (nI 1 - y)
  refine ⟨w2, ?_, u1.trans u2, r2⟩
  rw [H_get h hz hi hz4 ha, s_48_64_26 rfl, b_48_352 (bT.t1 h.b), e1]
  simp only [mThen_ok, Option.toList_some, Option.toList_none, List.cons_append, List.nil_append]
  rw [b_48_358 (bT.t1 h1.b), e2]
  simp only [mThen_ok, Option.toList_some, Option.toList_none, List.cons_append, List.nil_append]
  rw [b_48_362, H_next]
theorem H_join (h : BW w b t C M) {i z a : Nat} {W x y : Int32} {st : List Int32} (hr : RS w b (y :: x :: st)) (hl : st.length < 60) (hz : mI w (t + 18) 2 = nI z) (hi : i < z) (hz4 : z ≤ 400) (ha : mI w (t + 19) i = nI a) (hj : isJn a = true) : ∃ w', hdH d b t i W w = hdH d b t (i + 1) W w' ∧ upB b w w' M ∧ RS w' b (jn a x y :: st) := by
  have hd9 : ¬ (5 : Int) = (nI a).toInt ∧ ¬ (9 : Int) = (nI a).toInt ∧ ¬ (19 : Int) = (nI a).toInt ∧ ¬ (20 : Int) = (nI a).toInt ∧ ¬ (21 : Int) = (nI a).toInt ∧ ¬ (22 : Int) = (nI a).toInt ∧ ¬ (23 : Int) = (nI a).toInt ∧ ¬ (24 : Int) = (nI a).toInt ∧ ¬ (25 : Int) = (nI a).toInt ∧ ¬ (26 : Int) = (nI a).toInt ∧ ¬ (59 : Int) = (nI a).toInt ∧ ¬ (259 : Int) = (nI a).toInt ∧ ¬ (262 : Int) = (nI a).toInt := by
    have hj2 := hj
    simp only [isJn, Bool.or_eq_true, beq_iff_eq] at hj2
    rw [jti (by omega)]
    omega
  obtain ⟨w1, e1, u1, r1⟩ := c_pop (d := d + 2) h hr (by simp; omega)
  have h1 := h.up u1
  obtain ⟨w2, e2, u2, r2⟩ := c_pop (d := d + 2) h1 r1 (by omega)
  have h2 := h1.up u2
  obtain ⟨w3, e3, u3, r3⟩ := c_push (d := d + 2) h2 r2 (by omega) (jn a x y)
  refine ⟨w3, ?_, (u1.trans u2).trans u3, r3⟩
  rw [H_get h hz hi hz4 ha, s_48_64_d hd9, b_48_390 (bT.t1 h.b), e1]
  simp only [mThen_ok, Option.toList_some, Option.toList_none, List.cons_append, List.nil_append]
  rw [b_48_394 (bT.t1 h1.b), e2]
  simp only [mThen_ok, Option.toList_some, Option.toList_none, List.cons_append, List.nil_append]
  rw [b_48_403, c_join hj]
  simp only [mThen_ok, Option.toList_some, Option.toList_none, List.cons_append, List.nil_append]
  rw [b_48_408 (bT.t1 h2.b), e3]
  simp only [mThen_ok, Option.toList_some, Option.toList_none, List.cons_append, List.nil_append]
  rw [H_next]
/-- the reckoning, upon a stack -/
def ev1 (C : CD) (M : MD) (q : Nat × Nat) (st : List Int32) : List Int32 := if isOp q.1 = true then opV C M q.1 q.2 :: st else match st with
  | [] => []
  | y :: r => if q.1 = 26 then (nI 1 - y) :: r else match r with
    | [] => []
    | x :: r => jn q.1 x y :: r
/-- may the operation stand there -/
def okQ (C : CD) (q : Nat × Nat) (n : Nat) : Prop := (q.1 = 259 ∨ q.1 = 19 ∨ q.1 = 20 ∨ ((q.1 = 21 ∨ q.1 = 22 ∨ q.1 = 9 ∨ q.1 = 23 ∨ q.1 = 24 ∨ q.1 = 25) ∧ q.2 < C 0 0 3) ∨ (q.1 = 5 ∧ q.2 < C 0 0 2)) ∨ (q.1 = 26 ∧ 1 ≤ n) ∨ (isJn q.1 = true ∧ 2 ≤ n)
theorem H_one (h : BW w b t C M) (hm : MOk C B M) (hB : B ≤ 1073741824) {i z : Nat} {q : Nat × Nat} {st : List Int32} (hr : RS w b st) (hl : st.length < 60) (hz : mI w (t + 18) 2 = nI z) (hi : i < z) (hz4 : z ≤ 400) (ha : mI w (t + 19) i = nI q.1) (hx : argM q.1 = true → mI w (t + 20) i = nI q.2) (hq : okQ C q st.length) : ∃ w', hdH d b t i (nI (wordN C M)) w = hdH d b t (i + 1) (nI (wordN C M)) w' ∧ upB b w w' M ∧ RS w' b (ev1 C M q st) := by
  obtain ⟨a, x⟩ := q
  dsimp only at ha hx hq
  unfold okQ at hq
  dsimp only at hq
  rcases hq with (rfl | rfl | rfl | ⟨rfl | rfl | rfl | rfl | rfl | rfl, hs⟩ | ⟨rfl, hv⟩) | ⟨rfl, hn⟩ | ⟨hj, hn⟩
  · exact H_259 h hm hB hr (by omega) hz hi hz4 ha (hx rfl)
  · exact H_19 h hm hB hr (by omega) hz hi hz4 ha
  · exact H_20 h hm hB hr (by omega) hz hi hz4 ha
  · exact H_21 h hm hB hr (by omega) hz hi hz4 ha (hx rfl) hs
  · exact H_22 h hm hB hr (by omega) hz hi hz4 ha (hx rfl) hs
  · exact H_9 h hm hB hr (by omega) hz hi hz4 ha (hx rfl) hs
  · exact H_23 h hm hB hr (by omega) hz hi hz4 ha (hx rfl) hs
  · exact H_24 h hm hB hr (by omega) hz hi hz4 ha (hx rfl) hs
  · exact H_25 h hm hB hr (by omega) hz hi hz4 ha (hx rfl) hs
  · exact H_5 h hm hB hr (by omega) hz hi hz4 ha (hx rfl) hv
  · cases st with
    | nil => exact absurd hn (by decide)
    | cons y r => exact H_not h hr (by simp at hl; omega) hz hi hz4 ha
  · match st, hr, hl, hn with
    | [], _, _, hn => exact absurd hn (by decide)
    | [_], _, _, hn => exact absurd hn (by simp)
    | y :: x' :: r, hr, hl, hn =>
      have e : ev1 C M (a, x) (y :: x' :: r) = jn a x' y :: r := by
        have h1 : isOp a = false := by
          have hj2 := hj
          simp only [isJn, Bool.or_eq_true, beq_iff_eq] at hj2
          unfold isOp
          simp only [Bool.or_eq_false_iff, beq_eq_false_iff_ne]
          omega
        have h2 : ¬ a = 26 := by
          have hj2 := hj
          simp only [isJn, Bool.or_eq_true, beq_iff_eq] at hj2
          omega
        simp only [ev1, h1, h2, if_false, Bool.false_eq_true]
      rw [e]
      exact H_join h hr (by simp at hl; omega) hz hi hz4 ha hj
/-- a row of operations -/
def evL (C : CD) (M : MD) : List (Nat × Nat) → List Int32 → List Int32
  | [], st => st
  | q :: r, st => evL C M r (ev1 C M q st)
def okL (C : CD) (M : MD) : List (Nat × Nat) → List Int32 → Prop
  | [], _ => True
  | q :: r, st => okQ C q st.length ∧ st.length < 60 ∧ okL C M r (ev1 C M q st)
theorem H_all (hm : MOk C B M) (hB : B ≤ 1073741824) {z : Nat} (hz4 : z ≤ 400) : ∀ (L : List (Nat × Nat)) (i : Nat) (st : List Int32) (w : MW), BW w b t C M → RS w b st → mI w (t + 18) 2 = nI z → i + L.length ≤ z → okL C M L st → (∀ k a x, L[k]? = some (a, x) → mI w (t + 19) (i + k) = nI a ∧ (argM a = true → mI w (t + 20) (i + k) = nI x)) →
    ∃ w', hdH d b t i (nI (wordN C M)) w = hdH d b t (i + L.length) (nI (wordN C M)) w' ∧ upB b w w' M ∧ RS w' b (evL C M L st)
  | [], i, st, w, h, hr, hz, hi, hok, hc => ⟨w, rfl, h.refl, hr⟩
  | q :: L, i, st, w, h, hr, hz, hi, hok, hc => by
    obtain ⟨g1, g2, g3⟩ := hok
    have hlen : (q :: L).length = L.length + 1 := rfl
    have h0 : mI w (t + 19) i = nI q.1 ∧ (argM q.1 = true → mI w (t + 20) i = nI q.2) := hc 0 q.1 q.2 rfl
    obtain ⟨w1, e1, u1, r1⟩ := H_one (d := d) h hm hB hr g2 hz (by omega) hz4 h0.1 h0.2 g1
    have hlo := h.b.thi
    have h1 := h.up u1
    obtain ⟨w2, e2, u2, r2⟩ := H_all hm hB hz4 L (i + 1) (ev1 C M q st) w1 h1 r1 (by rw [u1.out (Or.inl (by omega))]; exact hz) (by omega) g3 (fun k a x hk => by
      rw [u1.out (c := t + 19) (Or.inl (by omega)), u1.out (c := t + 20) (Or.inl (by omega))]
      have := hc (k + 1) a x hk
      rw [show i + (k + 1) = i + 1 + k by omega] at this
      exact this)
    refine ⟨w2, ?_, u1.trans u2, r2⟩
    rw [e1, e2, hlen, show i + 1 + L.length = i + (L.length + 1) by omega]
theorem bI_and (p q : Bool) : bI p &&& bI q = bI (p && q) := by cases p <;> cases q <;> decide +kernel
theorem bI_or (p q : Bool) : bI p ||| bI q = bI (p || q) := by cases p <;> cases q <;> decide +kernel
theorem bI_not (p : Bool) : nI 1 - bI p = bI (!p) := by cases p <;> decide +kernel
theorem bI_le (x y : Int32) : (if x ≤ y then nI 0 else nI 1) = bI (decide (y < x)) := by
  by_cases e : x ≤ y
  · rw [if_pos e, decide_eq_false (by rw [Int32.not_lt]; exact e)]; rfl
  · rw [if_neg e, decide_eq_true (by rw [← Int32.not_le]; exact e)]; rfl
theorem bI_lt (x y : Int32) : (if x < y then nI 0 else nI 1) = bI (decide (y ≤ x)) := by
  by_cases e : x < y
  · rw [if_pos e, decide_eq_false (by rw [Int32.not_le]; exact e)]; rfl
  · rw [if_neg e, decide_eq_true (by rw [← Int32.not_lt]; exact e)]; rfl
theorem bI_eq (x y : Int32) : (if x = y then nI 1 else nI 0) = bI (decide (x = y)) := by
  by_cases e : x = y
  · rw [if_pos e, decide_eq_true e]; rfl
  · rw [if_neg e, decide_eq_false e]; rfl
end
