/-! ===== the lexer's parts ===== -/
section
variable {d p : Nat} {w : MW} {tx : List Nat}
theorem KW.t7 (h : KW w) : mTg w 169 = 7 := h.tg 169 (by decide) (by decide)
theorem KW.r70 (h : KW w) : mR w 169 0 = some 167 := h.rf 7 (by decide)
theorem KW.g70 (h : KW w) : gR w 169 0 = 167 := gR_of h.r70
theorem KW.s70 (h : KW w) : mR w 169 0 = some (gR w 169 0) := by rw [h.g70, h.r70]
theorem KW.tt (h : KW w) : mTg w (gR w 169 0) = 5 := by rw [h.g70]; exact h.tg 167 (by decide) (by decide)
/-- does a word or a number go on -/
def goB (q : Bool) (b : Nat) : Bool := isD b || (q && isL b)
theorem c_goes {q : Bool} (h : TP w tx) (hp : p < 2147483648) : mK (d + 2) 76 [.ref 169, .int (nI (bn q)), .int (nI p)] w = some (.inl (some (.int (nI (bn (goB q (bv tx p)))))), w) := by
  have k := h.1
  unfold goB
  rw [e_76, b_76_0 k.t7 k.s70 k.tt, k.g70, c_isD h hp]
  simp only [mThen_ok, Option.toList_some, Option.toList_none, List.cons_append, List.nil_append]
  rw [b_76_8, ijne bn_lt (by decide)]
  cases g : isD (bv tx p) with
  | true => rw [if_pos (by decide), b_76_26, b_76_31 (by decide +kernel)]; rfl
  | false =>
    rw [if_neg (by decide), b_76_11, ijeq bn_lt (by decide)]
    cases q with
    | false => rw [if_pos (by decide), b_76_30, b_76_31 (by decide +kernel)]; rfl
    | true =>
      rw [if_neg (by decide), b_76_15 k.t7 k.s70 k.tt, k.g70, c_isL h hp]
      simp only [mThen_ok, Option.toList_some, Option.toList_none, List.cons_append, List.nil_append]
      rw [b_76_23, ijeq bn_lt (by decide)]
      cases g2 : isL (bv tx p) with
      | true => rw [if_neg (by decide), b_76_26, b_76_31 (by decide +kernel)]; rfl
      | false => rw [if_pos (by decide), b_76_30, b_76_31 (by decide +kernel)]; rfl
def wdB (tx : List Nat) (p : Nat) : Bool := (decide (bv tx p = 60) || decide (bv tx p = 62)) && decide (bv tx (p + 1) = 61)
theorem c_wide (h : TP w tx) (hp : p < 2147483647) (hl : p < tx.length) : mK (d + 1) 77 [.ref 169, .int (nI p)] w = some (.inl (some (.int (nI (bn (wdB tx p))))), w) := by
  have k := h.1
  have hb := h.2.2.2.2
  have hb0 : bv tx p < 128 := hb p
  have hb1 : bv tx (p + 1) < 128 := hb (p + 1)
  have fin : mX (d + 1) 77 21 [.ref 169, .int (nI p), mJ] [] w = some (.inl (some (.int (nI (bn (decide (bv tx (p + 1) = 61)))))), w) := by
    rw [b_77_21 k.t7 k.s70 k.tt, k.g70, jadd, c_byteAt h (by omega)]
    simp only [mThen_ok, Option.toList_some, Option.toList_none, List.cons_append, List.nil_append]
    rw [b_77_31]
    by_cases g : p + 1 < tx.length
    · rw [if_pos g, ijne (by omega) (by decide)]
      by_cases g2 : bv tx (p + 1) = 61
      · rw [if_neg (fun q => q g2), b_77_36, b_77_41 (by decide +kernel), decide_eq_true g2]; rfl
      · rw [if_pos g2, b_77_40, b_77_41 (by decide +kernel), decide_eq_false g2]; rfl
    · rw [if_neg g, if_pos (jneg_ne2 (by decide)), b_77_40, b_77_41 (by decide +kernel), bv_out (by omega)]; rfl
  unfold wdB
  rw [e_77, b_77_0 k.t7 k.s70 k.tt, k.g70, c_byteAt h (by omega)]
  simp only [mThen_ok, Option.toList_some, Option.toList_none, List.cons_append, List.nil_append]
  rw [b_77_8, if_pos hl, ijeq (by omega) (by decide)]
  by_cases g : bv tx p = 60
  · rw [if_pos g, fin, decide_eq_true g, Bool.true_or, Bool.true_and]
  · rw [if_neg g, b_77_15, ijne (by omega) (by decide)]
    by_cases g2 : bv tx p = 62
    · rw [if_neg (fun q => q g2), fin, decide_eq_true g2, Bool.or_true, Bool.true_and]
    · rw [if_pos g2, b_77_40, b_77_41 (by decide +kernel), decide_eq_false g, decide_eq_false g2]; rfl
/-- how long what starts there is -/
def lenAt (tx : List Nat) (p : Nat) : Nat := if (isL (bv tx p) || isD (bv tx p)) = true then 1 + skp (goB (isL (bv tx p))) tx 2000 (p + 1) else if wdB tx p = true then 2 else 1
theorem goB_out {q : Bool} {p : Nat} (h : tx.length ≤ p) : goB q (bv tx p) = false := by
  rw [bv_out h]
  cases q <;> decide
theorem c_lenAt (h : TP w tx) (hp : p < tx.length) : mK (d + 3) 75 [.ref 169, .int (nI p)] w = some (.inl (some (.int (nI (lenAt tx p)))), w) := by
  have k := h.1
  have hL := h.2.2.1
  have key : ∀ (q : Bool) (n i l : Nat), n + i = 2000 → p + l < 200000 → mX (d + 3) 75 43 [.ref 169, .int (nI p), .int (nI (bn q)), .int (nI l), .int (nI i)] [] w = some (.inl (some (.int (nI (l + skp (goB q) tx n (p + l))))), w) := by
    intro q n
    induction n with
    | zero =>
      intro i l hi hl
      rw [b_75_43, ijle (by decide) (by omega), if_pos (by omega), b_75_71]
      rfl
    | succ n ih =>
      intro i l hi hl
      rw [b_75_43, ijle (by decide) (by omega), if_neg (by omega), b_75_51 k.t7, jadd, c_goes h (by omega)]
      simp only [mThen_ok, Option.toList_some, Option.toList_none, List.cons_append, List.nil_append]
      rw [b_75_59, ijeq bn_lt (by decide)]
      unfold skp
      by_cases g : goB q (bv tx (p + l)) = true
      · have hlt : p + l < tx.length := by
          rcases Nat.lt_or_ge (p + l) tx.length with z | z
          · exact z
          · rw [goB_out z] at g; exact absurd g (by decide)
        rw [g, if_neg (by decide), b_75_62, jadd, jadd, ih _ _ (by omega) (by omega), if_pos rfl]
        congr 6
        rw [show p + (l + 1) = p + l + 1 by omega]
        omega
      · rw [Bool.not_eq_true] at g
        rw [g, if_pos (by decide), b_75_71, if_neg (by decide)]
        rfl
  have go : mX (d + 3) 75 38 [.ref 169, .int (nI p), .int (nI (bn (isL (bv tx p)))), mJ, mJ] [] w = some (.inl (some (.int (nI (1 + skp (goB (isL (bv tx p))) tx 2000 (p + 1))))), w) := by
    rw [b_75_38, key _ 2000 0 1 (by omega) (by omega)]
  unfold lenAt
  rw [e_75, b_75_0 k.t7 k.s70 k.tt, k.g70, c_isL h (by omega)]
  simp only [mThen_ok, Option.toList_some, Option.toList_none, List.cons_append, List.nil_append]
  rw [b_75_8, ijne bn_lt (by decide)]
  cases g : isL (bv tx p) with
  | true =>
    rw [g] at go
    rw [if_pos (by decide), go, Bool.true_or, if_pos rfl]
  | false =>
    rw [g] at go
    rw [if_neg (by decide), b_75_13 k.t7 k.s70 k.tt, k.g70, c_isD h (by omega)]
    simp only [mThen_ok, Option.toList_some, Option.toList_none, List.cons_append, List.nil_append]
    rw [b_75_21, ijne bn_lt (by decide)]
    cases g2 : isD (bv tx p) with
    | true => rw [if_pos (by decide), go, Bool.or_true, if_pos rfl]
    | false =>
      rw [if_neg (by decide), b_75_24 k.t7, c_wide h (by omega) hp]
      simp only [mThen_ok, Option.toList_some, Option.toList_none, List.cons_append, List.nil_append]
      rw [b_75_29, ijeq bn_lt (by decide)]
      cases g3 : wdB tx p with
      | true => rw [if_neg (by decide), b_75_32, b_75_37, if_neg (by decide), if_pos rfl]
      | false => rw [if_pos (by decide), b_75_36, b_75_37, if_neg (by decide), if_neg (by decide)]
/-- the bytes b stand at p -/
def BT (tx : List Nat) (p : Nat) (b : List Nat) : Prop := p + b.length ≤ tx.length ∧ ∀ i, i < b.length → bv tx (p + i) = b.getD i 0
theorem list_ext0 {a b : List Nat} (hl : a.length = b.length) (h : ∀ i, i < a.length → a.getD i 0 = b.getD i 0) : a = b := by
  refine List.ext_getElem hl (fun i h1 h2 => ?_)
  have q := h i h1
  rw [List.getD_eq_getElem?_getD, List.getD_eq_getElem?_getD, List.getElem?_eq_getElem h1, List.getElem?_eq_getElem h2] at q
  exact q
theorem c_isText {c : Nat} {bs b : List Nat} (h : TP w tx) (hc : STR w c bs) (hs : ∀ i, bs.getD i 0 < 128) (hb : BT tx p b) : mK (d + 4) 80 [.ref 169, .ref c, .int (nI p), .int (nI b.length)] w = some (.inl (some (.int (nI (bn (decide (bs = b)))))), w) := by
  have k := h.1
  have hL := h.2.2.1
  have hc1 := hc.1
  have hl3 : bs.length ≤ 3000 := hc.2.2.2.2.2.2.1
  obtain ⟨hb1, hb2⟩ := hb
  have len : mK (d + 3) 149 [.ref c] w = some (.inl (some (.int (nI bs.length))), w) := c_slen (d := d + 2) hc
  rw [e_80, b_80_0 hc1, len]
  simp only [mThen_ok, Option.toList_some, Option.toList_none, List.cons_append, List.nil_append]
  rw [b_80_4, ijeq (by omega) (by omega)]
  by_cases gl : bs.length = b.length
  · rw [if_pos gl, b_80_10]
    have key : ∀ n i, i + n = bs.length → (∀ j, j < i → bs.getD j 0 = b.getD j 0) → mX (d + 4) 80 13 [.ref 169, .ref c, .int (nI p), mJ, .int (nI i)] [] w = some (.inl (some (.int (nI (bn (decide (bs = b)))))), w) := by
      intro n
      induction n with
      | zero =>
        intro i hi ha
        rw [b_80_13 hc1, len]
        simp only [mThen_ok, Option.toList_some, Option.toList_none, List.cons_append, List.nil_append]
        rw [b_80_19, ijle (by omega) (by omega), if_pos (by omega), b_80_50, decide_eq_true (list_ext0 gl (fun j hj => ha j (by omega)))]
        rfl
      | succ n ih =>
        intro i hi ha
        have c1 : mK (d + 3) 150 [.ref c, .int (nI i)] w = some (.inl (some (.int (nI (bs.getD i 0)))), w) := c_charAt (d := d) hc (by omega) (hs i)
        have e1 := hs i
        have e2 : bv tx (p + i) = b.getD i 0 := hb2 i (by omega)
        have e3 : bv tx (p + i) < 128 := h.2.2.2.2 (p + i)
        rw [b_80_13 hc1, len]
        simp only [mThen_ok, Option.toList_some, Option.toList_none, List.cons_append, List.nil_append]
        rw [b_80_19, ijle (by omega) (by omega), if_neg (by omega), b_80_22 hc1, c1]
        simp only [mThen_ok, Option.toList_some, Option.toList_none, List.cons_append, List.nil_append]
        rw [b_80_28 k.t7 k.s70 k.tt, k.g70, jadd, c_byteAt h (by omega), if_pos (by omega)]
        simp only [mThen_ok, Option.toList_some, Option.toList_none, List.cons_append, List.nil_append]
        rw [b_80_39, ijeq (by omega) (by omega)]
        by_cases g : bs.getD i 0 = bv tx (p + i)
        · rw [if_pos g, b_80_44, jadd]
          refine ih (i + 1) (by omega) (fun j hj => ?_)
          rcases Nat.lt_or_ge j i with z | z
          · exact ha j z
          · rw [show j = i by omega, g, e2]
        · rw [if_neg g, b_80_42, decide_eq_false (fun q => g (by rw [e2, q]))]
          rfl
    exact key bs.length 0 (by omega) (fun j hj => absurd hj (by omega))
  · rw [if_neg gl, b_80_8, decide_eq_false (fun q => gl (by rw [q]))]
    rfl
theorem c_kwText {k : Nat} (hk : k < 31) : mK d 81 [.int (nI k)] w = some (.inl (some (.ref (6 + 2 * k))), w) := by
  rw [e_81]
  match k, hk with
  | 0, _ => exact Eq.trans (s_81_0_0 rfl) b_81_140
  | 1, _ => exact Eq.trans (s_81_0_1 rfl) b_81_143
  | 2, _ => exact Eq.trans (s_81_0_2 rfl) b_81_146
  | 3, _ => exact Eq.trans (s_81_0_3 rfl) b_81_149
  | 4, _ => exact Eq.trans (s_81_0_4 rfl) b_81_152
  | 5, _ => exact Eq.trans (s_81_0_5 rfl) b_81_155
  | 6, _ => exact Eq.trans (s_81_0_6 rfl) b_81_158
  | 7, _ => exact Eq.trans (s_81_0_7 rfl) b_81_161
  | 8, _ => exact Eq.trans (s_81_0_8 rfl) b_81_164
  | 9, _ => exact Eq.trans (s_81_0_9 rfl) b_81_167
  | 10, _ => exact Eq.trans (s_81_0_10 rfl) b_81_170
  | 11, _ => exact Eq.trans (s_81_0_11 rfl) b_81_173
  | 12, _ => exact Eq.trans (s_81_0_12 rfl) b_81_176
  | 13, _ => exact Eq.trans (s_81_0_13 rfl) b_81_179
  | 14, _ => exact Eq.trans (s_81_0_14 rfl) b_81_182
  | 15, _ => exact Eq.trans (s_81_0_15 rfl) b_81_185
  | 16, _ => exact Eq.trans (s_81_0_16 rfl) b_81_188
  | 17, _ => exact Eq.trans (s_81_0_17 rfl) b_81_191
  | 18, _ => exact Eq.trans (s_81_0_18 rfl) b_81_194
  | 19, _ => exact Eq.trans (s_81_0_19 rfl) b_81_197
  | 20, _ => exact Eq.trans (s_81_0_20 rfl) b_81_200
  | 21, _ => exact Eq.trans (s_81_0_21 rfl) b_81_203
  | 22, _ => exact Eq.trans (s_81_0_22 rfl) b_81_206
  | 23, _ => exact Eq.trans (s_81_0_23 rfl) b_81_209
  | 24, _ => exact Eq.trans (s_81_0_24 rfl) b_81_212
  | 25, _ => exact Eq.trans (s_81_0_25 rfl) b_81_215
  | 26, _ => exact Eq.trans (s_81_0_26 rfl) b_81_218
  | 27, _ => exact Eq.trans (s_81_0_27 rfl) b_81_221
  | 28, _ => exact Eq.trans (s_81_0_28 rfl) b_81_224
  | 29, _ => exact Eq.trans (s_81_0_29 rfl) b_81_227
  | 30, _ => exact Eq.trans (s_81_0_30 rfl) b_81_230
  | k + 31, hk => exact absurd hk (by omega)
theorem sB_lt0 : ((List.range 81).all fun i => (sB i).all fun b => decide (b < 128)) = true := by decide +kernel
theorem sB_lt {i j : Nat} (hi : i < 81) : (sB i).getD j 0 < 128 := by
  have q := sB_lt0
  rw [List.all_eq_true] at q
  have q1 := q i (List.mem_range.mpr hi)
  rw [List.all_eq_true] at q1
  rw [List.getD_eq_getElem?_getD]
  cases g : (sB i)[j]? with
  | none => show 0 < 128; omega
  | some b => exact of_decide_eq_true (q1 b (List.mem_of_getElem? g))
/-- the number of a keyword, 258 for a name -/
def kwFr (b : List Nat) : Nat → Nat → Nat
  | 0, _ => 258
  | n + 1, k => if sB (k + 1) = b then k else kwFr b n (k + 1)
theorem c_kwAt {b : List Nat} (h : TP w tx) (hx : TX w) (hb : BT tx p b) : mK (d + 5) 79 [.ref 169, .int (nI p), .int (nI b.length)] w = some (.inl (some (.int (nI (kwFr b 31 0)))), w) := by
  have k := h.1
  rw [e_79, b_79_0]
  have key : ∀ n i, n + i = 31 → mX (d + 5) 79 2 [.ref 169, .int (nI p), .int (nI b.length), .int (nI i)] [] w = some (.inl (some (.int (nI (kwFr b n i)))), w) := by
    intro n
    induction n with
    | zero =>
      intro i hi
      rw [b_79_2, ijle (by decide) (by omega), if_pos (by omega), b_79_29]
      rfl
    | succ n ih =>
      intro i hi
      have hs : STR w (6 + 2 * i) (sB (i + 1)) := by
        have := hx.str (i := i + 1) (by omega)
        rwa [show 4 + 2 * (i + 1) = 6 + 2 * i by omega] at this
      rw [b_79_2, ijle (by decide) (by omega), if_neg (by omega), b_79_8, c_kwText (by omega)]
      simp only [mThen_ok, Option.toList_some, Option.toList_none, List.cons_append, List.nil_append]
      rw [b_79_13 k.t7, c_isText h hs (fun j => sB_lt (by omega)) hb]
      simp only [mThen_ok, Option.toList_some, Option.toList_none, List.cons_append, List.nil_append]
      rw [b_79_18, ijeq bn_lt (by decide)]
      unfold kwFr
      by_cases g : sB (i + 1) = b
      · rw [decide_eq_true g, if_neg (by decide), b_79_21, if_pos g]
      · rw [decide_eq_false g, if_pos (by decide), b_79_23, jadd, ih _ (by omega), if_neg g]
  exact key 31 0 rfl
theorem chr_f : (∀ b, b < 128 → ((nI b).toUInt32 % 65536).toInt32 = nI b) ∧ (∀ b, b < 128 → (nI b).toInt8.toInt32 = nI b) := by
  constructor <;> decide +kernel
/-- a sign that a text has is found -/
theorem c_indexOf {c ch j : Nat} {bs : List Nat} (hc : STR w c bs) (hs : ∀ i, bs.getD i 0 < 128) (hj : j < bs.length) (he : bs.getD j 0 = ch) : ∃ i, i ≤ j ∧ mK (d + 4) 151 [.ref c, .int (nI ch)] w = some (.inl (some (.int (nI i))), w) := by
  have hch : ch < 128 := he ▸ hs j
  obtain ⟨h1, h2, h3, h4, h5, h6, h7, h8⟩ := hc
  have len : mK (d + 2) 149 [.ref c] w = some (.inl (some (.int (nI bs.length))), w) := c_slen (d := d + 1) ⟨h1, h2, h3, h4, h5, h6, h7, h8⟩
  have key : ∀ n i, i + n = j → ∃ i', i' ≤ j ∧ mX (d + 1) 187 7 [.ref (gR w c 0), mJ, mJ, .int (nI bs.length), .int (nI ch), .int (nI i)] [] w = some (.inl (some (.int (nI i'))), w) := by
    intro n
    induction n with
    | zero =>
      intro i hi
      refine ⟨i, by omega, ?_⟩
      rw [b_187_7, ijle (by omega) (by omega), if_neg (by omega), b_187_13 h3 (by omega) (by omega), h8 i (by omega), show i = j by omega, he, if_neg (fun q => q rfl), b_187_22]
    | succ n ih =>
      intro i hi
      by_cases g : bs.getD i 0 = ch
      · refine ⟨i, by omega, ?_⟩
        rw [b_187_7, ijle (by omega) (by omega), if_neg (by omega), b_187_13 h3 (by omega) (by omega), h8 i (by omega), g, if_neg (fun q => q rfl), b_187_22]
      · obtain ⟨i', q1, q2⟩ := ih (i + 1) (by omega)
        refine ⟨i', q1, ?_⟩
        have := hs i
        rw [b_187_7, ijle (by omega) (by omega), if_neg (by omega), b_187_13 h3 (by omega) (by omega), h8 i (by omega), ijne (by omega) (by omega), if_pos g, b_187_25, jadd, q2]
  obtain ⟨i', q1, q2⟩ := key j 0 (by omega)
  refine ⟨i', q1, ?_⟩
  rw [e_151, b_151_0 h1, e_152, b_152_0 h1, c_lat1 h1 h5]
  simp only [mThen_ok, Option.toList_some, Option.toList_none, List.cons_append, List.nil_append]
  rw [b_152_4, if_neg n10, b_152_7 h1 h2, len]
  simp only [mThen_ok, Option.toList_some, Option.toList_none, List.cons_append, List.nil_append]
  rw [b_152_17, e_186, b_186_0, e_185, b_185_0, ijlt (by omega) (by decide), if_neg (by omega), b_185_4, ijlt (by decide) (by omega), if_neg (by omega), b_185_11, b_185_16 kr1]
  simp only [mThen_ok, Option.toList_some, Option.toList_none, List.cons_append, List.nil_append]
  rw [b_186_4, if_pos n10, b_186_9, c_maxN (by decide) (by decide)]
  simp only [mThen_ok, Option.toList_some, Option.toList_none, List.cons_append, List.nil_append]
  rw [b_186_14 (by rw [h3]; decide), h4, c_minN (by omega) (by omega), Nat.min_self]
  simp only [mThen_ok, Option.toList_some, Option.toList_none, List.cons_append, List.nil_append]
  rw [b_186_21, ijlt (by decide) (by omega), if_pos (by show max 0 0 < _; omega), b_186_29, e_187, b_187_0, chr_f.2 ch hch]
  rw [show max 0 0 = 0 from rfl, q2]
  simp only [mThen_ok, Option.toList_some, Option.toList_none, List.cons_append, List.nil_append]
  rw [b_186_36]
  simp only [mThen_ok, Option.toList_some, Option.toList_none, List.cons_append, List.nil_append]
  rw [b_152_20]
  simp only [mThen_ok, Option.toList_some, Option.toList_none, List.cons_append, List.nil_append]
  rw [b_151_6]
/-- a number in digits -/
def numO : List Nat → Nat → Nat
  | [], a => a
  | x :: r, a => numO r (a * 10 + (x - 48))
theorem c_number {b : List Nat} (h : TP w tx) (hb : BT tx p b) (hd : ∀ i, i < b.length → isD (b.getD i 0) = true) (hl : b.length ≤ 6) : mK (d + 1) 82 [.ref 169, .int (nI p), .int (nI b.length)] w = some (.inl (some (.int (nI (numO b 0)))), w) := by
  have k := h.1
  have hL := h.2.2.1
  obtain ⟨hb1, hb2⟩ := hb
  rw [e_82, b_82_0]
  have key : ∀ (r : List Nat) (i a : Nat), i + r.length = b.length → b.drop i = r → mX (d + 1) 82 5 [.ref 169, .int (nI p), .int (nI b.length), .int (nI a), .int (nI i)] [] w = some (.inl (some (.int (nI (numO r a)))), w) := by
    intro r
    induction r with
    | nil =>
      intro i a hi hr
      rw [b_82_5, ijle (by omega) (by omega), if_pos (by simp only [List.length_nil] at hi; omega), b_82_37]
      rfl
    | cons x r ih =>
      intro i a hi hr
      simp only [List.length_cons] at hi
      have hx : b.getD i 0 = x := by
        rw [List.getD_eq_getElem?_getD, ← List.head?_drop, hr]
        rfl
      have hdx := hd i (by omega)
      rw [hx] at hdx
      unfold isD at hdx
      rw [Bool.and_eq_true, decide_eq_true_eq, decide_eq_true_eq] at hdx
      rw [b_82_5, ijle (by omega) (by omega), if_neg (by omega), b_82_11 k.t7 k.s70 k.tt, k.g70, jadd, c_byteAt h (by omega), if_pos (by omega), hb2 i (by omega), hx]
      simp only [mThen_ok, Option.toList_some, Option.toList_none, List.cons_append, List.nil_append]
      rw [b_82_26, jsub hdx.1, jmul, jadd, jadd, ih (i + 1) (a * 10 + (x - 48)) (by omega) (by rw [← List.tail_drop, hr]; rfl)]
      rfl
  exact key b 0 0 (by omega) rfl
end
