/-! ===== the law writes a test, kind by kind: by program (wip/p26/mkwtest2.py) ===== -/
/-- what comes out: a String with a text; all that was there is as it was -/
def OT (D pc : Nat) (L : List Value) (S : List Value) (u : MW) (tx : List Nat) : Prop := ∃ w' b, mX D 166 pc L S u = some (.inl (some (.ref b)), w') ∧ STR w' b tx ∧ b < mSz w' ∧ gR w' b 0 < mSz w' ∧ ((b = 106 ∧ gR w' b 0 = 107) ∨ (mSz u ≤ b ∧ gR w' b 0 = b + 1)) ∧ sm u w' (fun _ => False) ∧ TX w' ∧ DGW w' ∧ gz 20 u w'
section
variable {d s n v c1 c2 : Nat} {u : MW} {st sv : List Nat}
theorem wt_0 (ht : TX u) (hd : DGW u) (hz : 276 ≤ mSz u) (hn : n < 100) (h1 : STR u c1 st) (k1 : c1 < mSz u ∧ gR u c1 0 < mSz u) (l1 : st.length ≤ 10) (h2 : STR u c2 sv) (k2 : c2 < mSz u ∧ gR u c2 0 < mSz u) (l2 : sv.length ≤ 10) : OT (d + 7) 96 [mJ, .int (nI n), .ref c1, mJ] [] u (((([] ++ sB 35) ++ st) ++ sB 36) ++ dec n) := by
  have eE : mE = 166 := rfl
  have dl := (dec_len n).1
  obtain ⟨w0, e0, r0⟩ := BR.new (d := d + 5) ht hd hz
  have q35 := sB_le (i := 35) (by decide)
  have q36 := sB_le (i := 36) (by decide)
  obtain ⟨w1, e1, r1⟩ := r0.app (d := d) (i := 35) (by decide) (by simp only [List.length_append, List.length_nil]; omega)
  obtain ⟨w2, e2, r2⟩ := r1.appS (d := d) h1 k1 (by simp only [List.length_append, List.length_nil]; omega)
  obtain ⟨w3, e3, r3⟩ := r2.app (d := d) (i := 36) (by decide) (by simp only [List.length_append, List.length_nil]; omega)
  obtain ⟨w4, e4, r4⟩ := r3.appI (d := d) hn (by simp only [List.length_append, List.length_nil]; omega)
  obtain ⟨w9, e9, s9, f9, x9, d9, g9, b9, z9, m9⟩ := r4.str (d := d) (by simp only [List.length_append, List.length_nil]; omega)
  refine ⟨w9, mSz w4, ?_, s9, by rw [z9]; exact Nat.lt_succ_of_lt (Nat.lt_succ_self _), by rw [b9, z9]; exact Nat.lt_succ_self _, Or.inr ⟨m9, b9⟩, f9, x9, d9, g9.mono (by omega)⟩
  rw [b_166_96, b_166_99 (show mE ≤ mSz u by omega), e0]
  simp only [mThen_ok, Option.toList_some, Option.toList_none, List.cons_append, List.nil_append]
  rw [b_166_103 r0.1.1, e1]
  simp only [mThen_ok, Option.toList_some, Option.toList_none, List.cons_append, List.nil_append]
  rw [b_166_108 r1.1.1, e2]
  simp only [mThen_ok, Option.toList_some, Option.toList_none, List.cons_append, List.nil_append]
  rw [b_166_112 r2.1.1, e3]
  simp only [mThen_ok, Option.toList_some, Option.toList_none, List.cons_append, List.nil_append]
  rw [b_166_117 r3.1.1, e4]
  simp only [mThen_ok, Option.toList_some, Option.toList_none, List.cons_append, List.nil_append]
  rw [b_166_121 r4.1.1, e9]
  simp only [mThen_ok, Option.toList_some, Option.toList_none, List.cons_append, List.nil_append]
  rw [b_166_124]
theorem wt_1 (ht : TX u) (hd : DGW u) (hz : 276 ≤ mSz u) (hn : n < 100) (h1 : STR u c1 st) (k1 : c1 < mSz u ∧ gR u c1 0 < mSz u) (l1 : st.length ≤ 10) (h2 : STR u c2 sv) (k2 : c2 < mSz u ∧ gR u c2 0 < mSz u) (l2 : sv.length ≤ 10) : OT (d + 7) 125 [mJ, .int (nI n), .ref c1, mJ] [] u (((([] ++ sB 37) ++ st) ++ sB 38) ++ dec n) := by
  have eE : mE = 166 := rfl
  have dl := (dec_len n).1
  obtain ⟨w0, e0, r0⟩ := BR.new (d := d + 5) ht hd hz
  have q37 := sB_le (i := 37) (by decide)
  have q38 := sB_le (i := 38) (by decide)
  obtain ⟨w1, e1, r1⟩ := r0.app (d := d) (i := 37) (by decide) (by simp only [List.length_append, List.length_nil]; omega)
  obtain ⟨w2, e2, r2⟩ := r1.appS (d := d) h1 k1 (by simp only [List.length_append, List.length_nil]; omega)
  obtain ⟨w3, e3, r3⟩ := r2.app (d := d) (i := 38) (by decide) (by simp only [List.length_append, List.length_nil]; omega)
  obtain ⟨w4, e4, r4⟩ := r3.appI (d := d) hn (by simp only [List.length_append, List.length_nil]; omega)
  obtain ⟨w9, e9, s9, f9, x9, d9, g9, b9, z9, m9⟩ := r4.str (d := d) (by simp only [List.length_append, List.length_nil]; omega)
  refine ⟨w9, mSz w4, ?_, s9, by rw [z9]; exact Nat.lt_succ_of_lt (Nat.lt_succ_self _), by rw [b9, z9]; exact Nat.lt_succ_self _, Or.inr ⟨m9, b9⟩, f9, x9, d9, g9.mono (by omega)⟩
  rw [b_166_125, b_166_128 (show mE ≤ mSz u by omega), e0]
  simp only [mThen_ok, Option.toList_some, Option.toList_none, List.cons_append, List.nil_append]
  rw [b_166_132 r0.1.1, e1]
  simp only [mThen_ok, Option.toList_some, Option.toList_none, List.cons_append, List.nil_append]
  rw [b_166_137 r1.1.1, e2]
  simp only [mThen_ok, Option.toList_some, Option.toList_none, List.cons_append, List.nil_append]
  rw [b_166_141 r2.1.1, e3]
  simp only [mThen_ok, Option.toList_some, Option.toList_none, List.cons_append, List.nil_append]
  rw [b_166_146 r3.1.1, e4]
  simp only [mThen_ok, Option.toList_some, Option.toList_none, List.cons_append, List.nil_append]
  rw [b_166_150 r4.1.1, e9]
  simp only [mThen_ok, Option.toList_some, Option.toList_none, List.cons_append, List.nil_append]
  rw [b_166_153]
theorem wt_2 (ht : TX u) (hd : DGW u) (hz : 276 ≤ mSz u) (hn : n < 100) (h1 : STR u c1 st) (k1 : c1 < mSz u ∧ gR u c1 0 < mSz u) (l1 : st.length ≤ 10) (h2 : STR u c2 sv) (k2 : c2 < mSz u ∧ gR u c2 0 < mSz u) (l2 : sv.length ≤ 10) : OT (d + 7) 154 [mJ, mJ, .ref c1, mJ] [] u ((([] ++ sB 39) ++ st) ++ sB 40) := by
  have eE : mE = 166 := rfl
  have dl := (dec_len n).1
  obtain ⟨w0, e0, r0⟩ := BR.new (d := d + 5) ht hd hz
  have q39 := sB_le (i := 39) (by decide)
  have q40 := sB_le (i := 40) (by decide)
  obtain ⟨w1, e1, r1⟩ := r0.app (d := d) (i := 39) (by decide) (by simp only [List.length_append, List.length_nil]; omega)
  obtain ⟨w2, e2, r2⟩ := r1.appS (d := d) h1 k1 (by simp only [List.length_append, List.length_nil]; omega)
  obtain ⟨w3, e3, r3⟩ := r2.app (d := d) (i := 40) (by decide) (by simp only [List.length_append, List.length_nil]; omega)
  obtain ⟨w9, e9, s9, f9, x9, d9, g9, b9, z9, m9⟩ := r3.str (d := d) (by simp only [List.length_append, List.length_nil]; omega)
  refine ⟨w9, mSz w3, ?_, s9, by rw [z9]; exact Nat.lt_succ_of_lt (Nat.lt_succ_self _), by rw [b9, z9]; exact Nat.lt_succ_self _, Or.inr ⟨m9, b9⟩, f9, x9, d9, g9.mono (by omega)⟩
  rw [b_166_154, b_166_157 (show mE ≤ mSz u by omega), e0]
  simp only [mThen_ok, Option.toList_some, Option.toList_none, List.cons_append, List.nil_append]
  rw [b_166_161 r0.1.1, e1]
  simp only [mThen_ok, Option.toList_some, Option.toList_none, List.cons_append, List.nil_append]
  rw [b_166_166 r1.1.1, e2]
  simp only [mThen_ok, Option.toList_some, Option.toList_none, List.cons_append, List.nil_append]
  rw [b_166_170 r2.1.1, e3]
  simp only [mThen_ok, Option.toList_some, Option.toList_none, List.cons_append, List.nil_append]
  rw [b_166_175 r3.1.1, e9]
  simp only [mThen_ok, Option.toList_some, Option.toList_none, List.cons_append, List.nil_append]
  rw [b_166_178]
theorem wt_3 (ht : TX u) (hd : DGW u) (hz : 276 ≤ mSz u) (hn : n < 100) (h1 : STR u c1 st) (k1 : c1 < mSz u ∧ gR u c1 0 < mSz u) (l1 : st.length ≤ 10) (h2 : STR u c2 sv) (k2 : c2 < mSz u ∧ gR u c2 0 < mSz u) (l2 : sv.length ≤ 10) : OT (d + 7) 179 [mJ, .int (nI n), mJ, mJ] [] u (([] ++ sB 41) ++ dec n) := by
  have eE : mE = 166 := rfl
  have dl := (dec_len n).1
  obtain ⟨w0, e0, r0⟩ := BR.new (d := d + 5) ht hd hz
  have q41 := sB_le (i := 41) (by decide)
  obtain ⟨w1, e1, r1⟩ := r0.app (d := d) (i := 41) (by decide) (by simp only [List.length_append, List.length_nil]; omega)
  obtain ⟨w2, e2, r2⟩ := r1.appI (d := d) hn (by simp only [List.length_append, List.length_nil]; omega)
  obtain ⟨w9, e9, s9, f9, x9, d9, g9, b9, z9, m9⟩ := r2.str (d := d) (by simp only [List.length_append, List.length_nil]; omega)
  refine ⟨w9, mSz w2, ?_, s9, by rw [z9]; exact Nat.lt_succ_of_lt (Nat.lt_succ_self _), by rw [b9, z9]; exact Nat.lt_succ_self _, Or.inr ⟨m9, b9⟩, f9, x9, d9, g9.mono (by omega)⟩
  rw [b_166_179, b_166_182 (show mE ≤ mSz u by omega), e0]
  simp only [mThen_ok, Option.toList_some, Option.toList_none, List.cons_append, List.nil_append]
  rw [b_166_186 r0.1.1, e1]
  simp only [mThen_ok, Option.toList_some, Option.toList_none, List.cons_append, List.nil_append]
  rw [b_166_191 r1.1.1, e2]
  simp only [mThen_ok, Option.toList_some, Option.toList_none, List.cons_append, List.nil_append]
  rw [b_166_195 r2.1.1, e9]
  simp only [mThen_ok, Option.toList_some, Option.toList_none, List.cons_append, List.nil_append]
  rw [b_166_198]
theorem wt_4 (ht : TX u) (hd : DGW u) (hz : 276 ≤ mSz u) (hn : n < 100) (h1 : STR u c1 st) (k1 : c1 < mSz u ∧ gR u c1 0 < mSz u) (l1 : st.length ≤ 10) (h2 : STR u c2 sv) (k2 : c2 < mSz u ∧ gR u c2 0 < mSz u) (l2 : sv.length ≤ 10) : OT (d + 7) 199 [mJ, .int (nI n), .ref c1, mJ] [] u ((((([] ++ sB 42) ++ dec n) ++ sB 43) ++ st) ++ sB 44) := by
  have eE : mE = 166 := rfl
  have dl := (dec_len n).1
  obtain ⟨w0, e0, r0⟩ := BR.new (d := d + 5) ht hd hz
  have q42 := sB_le (i := 42) (by decide)
  have q43 := sB_le (i := 43) (by decide)
  have q44 := sB_le (i := 44) (by decide)
  obtain ⟨w1, e1, r1⟩ := r0.app (d := d) (i := 42) (by decide) (by simp only [List.length_append, List.length_nil]; omega)
  obtain ⟨w2, e2, r2⟩ := r1.appI (d := d) hn (by simp only [List.length_append, List.length_nil]; omega)
  obtain ⟨w3, e3, r3⟩ := r2.app (d := d) (i := 43) (by decide) (by simp only [List.length_append, List.length_nil]; omega)
  obtain ⟨w4, e4, r4⟩ := r3.appS (d := d) h1 k1 (by simp only [List.length_append, List.length_nil]; omega)
  obtain ⟨w5, e5, r5⟩ := r4.app (d := d) (i := 44) (by decide) (by simp only [List.length_append, List.length_nil]; omega)
  obtain ⟨w9, e9, s9, f9, x9, d9, g9, b9, z9, m9⟩ := r5.str (d := d) (by simp only [List.length_append, List.length_nil]; omega)
  refine ⟨w9, mSz w5, ?_, s9, by rw [z9]; exact Nat.lt_succ_of_lt (Nat.lt_succ_self _), by rw [b9, z9]; exact Nat.lt_succ_self _, Or.inr ⟨m9, b9⟩, f9, x9, d9, g9.mono (by omega)⟩
  rw [b_166_199, b_166_202 (show mE ≤ mSz u by omega), e0]
  simp only [mThen_ok, Option.toList_some, Option.toList_none, List.cons_append, List.nil_append]
  rw [b_166_206 r0.1.1, e1]
  simp only [mThen_ok, Option.toList_some, Option.toList_none, List.cons_append, List.nil_append]
  rw [b_166_211 r1.1.1, e2]
  simp only [mThen_ok, Option.toList_some, Option.toList_none, List.cons_append, List.nil_append]
  rw [b_166_215 r2.1.1, e3]
  simp only [mThen_ok, Option.toList_some, Option.toList_none, List.cons_append, List.nil_append]
  rw [b_166_220 r3.1.1, e4]
  simp only [mThen_ok, Option.toList_some, Option.toList_none, List.cons_append, List.nil_append]
  rw [b_166_224 r4.1.1, e5]
  simp only [mThen_ok, Option.toList_some, Option.toList_none, List.cons_append, List.nil_append]
  rw [b_166_229 r5.1.1, e9]
  simp only [mThen_ok, Option.toList_some, Option.toList_none, List.cons_append, List.nil_append]
  rw [b_166_232]
theorem wt_5 (ht : TX u) (hd : DGW u) (hz : 276 ≤ mSz u) (hn : n < 100) (h1 : STR u c1 st) (k1 : c1 < mSz u ∧ gR u c1 0 < mSz u) (l1 : st.length ≤ 10) (h2 : STR u c2 sv) (k2 : c2 < mSz u ∧ gR u c2 0 < mSz u) (l2 : sv.length ≤ 10) : OT (d + 7) 233 [mJ, .int (nI n), .ref c1, .ref c2] [] u (((((([] ++ sB 45) ++ st) ++ sB 46) ++ sv) ++ sB 36) ++ dec n) := by
  have eE : mE = 166 := rfl
  have dl := (dec_len n).1
  obtain ⟨w0, e0, r0⟩ := BR.new (d := d + 5) ht hd hz
  have q36 := sB_le (i := 36) (by decide)
  have q45 := sB_le (i := 45) (by decide)
  have q46 := sB_le (i := 46) (by decide)
  obtain ⟨w1, e1, r1⟩ := r0.app (d := d) (i := 45) (by decide) (by simp only [List.length_append, List.length_nil]; omega)
  obtain ⟨w2, e2, r2⟩ := r1.appS (d := d) h1 k1 (by simp only [List.length_append, List.length_nil]; omega)
  obtain ⟨w3, e3, r3⟩ := r2.app (d := d) (i := 46) (by decide) (by simp only [List.length_append, List.length_nil]; omega)
  obtain ⟨w4, e4, r4⟩ := r3.appS (d := d) h2 k2 (by simp only [List.length_append, List.length_nil]; omega)
  obtain ⟨w5, e5, r5⟩ := r4.app (d := d) (i := 36) (by decide) (by simp only [List.length_append, List.length_nil]; omega)
  obtain ⟨w6, e6, r6⟩ := r5.appI (d := d) hn (by simp only [List.length_append, List.length_nil]; omega)
  obtain ⟨w9, e9, s9, f9, x9, d9, g9, b9, z9, m9⟩ := r6.str (d := d) (by simp only [List.length_append, List.length_nil]; omega)
  refine ⟨w9, mSz w6, ?_, s9, by rw [z9]; exact Nat.lt_succ_of_lt (Nat.lt_succ_self _), by rw [b9, z9]; exact Nat.lt_succ_self _, Or.inr ⟨m9, b9⟩, f9, x9, d9, g9.mono (by omega)⟩
  rw [b_166_233, b_166_236 (show mE ≤ mSz u by omega), e0]
  simp only [mThen_ok, Option.toList_some, Option.toList_none, List.cons_append, List.nil_append]
  rw [b_166_240 r0.1.1, e1]
  simp only [mThen_ok, Option.toList_some, Option.toList_none, List.cons_append, List.nil_append]
  rw [b_166_245 r1.1.1, e2]
  simp only [mThen_ok, Option.toList_some, Option.toList_none, List.cons_append, List.nil_append]
  rw [b_166_249 r2.1.1, e3]
  simp only [mThen_ok, Option.toList_some, Option.toList_none, List.cons_append, List.nil_append]
  rw [b_166_254 r3.1.1, e4]
  simp only [mThen_ok, Option.toList_some, Option.toList_none, List.cons_append, List.nil_append]
  rw [b_166_258 r4.1.1, e5]
  simp only [mThen_ok, Option.toList_some, Option.toList_none, List.cons_append, List.nil_append]
  rw [b_166_263 r5.1.1, e6]
  simp only [mThen_ok, Option.toList_some, Option.toList_none, List.cons_append, List.nil_append]
  rw [b_166_267 r6.1.1, e9]
  simp only [mThen_ok, Option.toList_some, Option.toList_none, List.cons_append, List.nil_append]
  rw [b_166_270]
theorem wt_6 (ht : TX u) (hd : DGW u) (hz : 276 ≤ mSz u) (hn : n < 100) (h1 : STR u c1 st) (k1 : c1 < mSz u ∧ gR u c1 0 < mSz u) (l1 : st.length ≤ 10) (h2 : STR u c2 sv) (k2 : c2 < mSz u ∧ gR u c2 0 < mSz u) (l2 : sv.length ≤ 10) : OT (d + 7) 271 [mJ, .int (nI n), .ref c1, .ref c2] [] u (((((((([] ++ sB 47) ++ st) ++ sB 48) ++ st) ++ sB 49) ++ sv) ++ sB 50) ++ dec n) := by
  have eE : mE = 166 := rfl
  have dl := (dec_len n).1
  obtain ⟨w0, e0, r0⟩ := BR.new (d := d + 5) ht hd hz
  have q47 := sB_le (i := 47) (by decide)
  have q48 := sB_le (i := 48) (by decide)
  have q49 := sB_le (i := 49) (by decide)
  have q50 := sB_le (i := 50) (by decide)
  obtain ⟨w1, e1, r1⟩ := r0.app (d := d) (i := 47) (by decide) (by simp only [List.length_append, List.length_nil]; omega)
  obtain ⟨w2, e2, r2⟩ := r1.appS (d := d) h1 k1 (by simp only [List.length_append, List.length_nil]; omega)
  obtain ⟨w3, e3, r3⟩ := r2.app (d := d) (i := 48) (by decide) (by simp only [List.length_append, List.length_nil]; omega)
  obtain ⟨w4, e4, r4⟩ := r3.appS (d := d) h1 k1 (by simp only [List.length_append, List.length_nil]; omega)
  obtain ⟨w5, e5, r5⟩ := r4.app (d := d) (i := 49) (by decide) (by simp only [List.length_append, List.length_nil]; omega)
  obtain ⟨w6, e6, r6⟩ := r5.appS (d := d) h2 k2 (by simp only [List.length_append, List.length_nil]; omega)
  obtain ⟨w7, e7, r7⟩ := r6.app (d := d) (i := 50) (by decide) (by simp only [List.length_append, List.length_nil]; omega)
  obtain ⟨w8, e8, r8⟩ := r7.appI (d := d) hn (by simp only [List.length_append, List.length_nil]; omega)
  obtain ⟨w9, e9, s9, f9, x9, d9, g9, b9, z9, m9⟩ := r8.str (d := d) (by simp only [List.length_append, List.length_nil]; omega)
  refine ⟨w9, mSz w8, ?_, s9, by rw [z9]; exact Nat.lt_succ_of_lt (Nat.lt_succ_self _), by rw [b9, z9]; exact Nat.lt_succ_self _, Or.inr ⟨m9, b9⟩, f9, x9, d9, g9.mono (by omega)⟩
  rw [b_166_271, b_166_274 (show mE ≤ mSz u by omega), e0]
  simp only [mThen_ok, Option.toList_some, Option.toList_none, List.cons_append, List.nil_append]
  rw [b_166_278 r0.1.1, e1]
  simp only [mThen_ok, Option.toList_some, Option.toList_none, List.cons_append, List.nil_append]
  rw [b_166_283 r1.1.1, e2]
  simp only [mThen_ok, Option.toList_some, Option.toList_none, List.cons_append, List.nil_append]
  rw [b_166_287 r2.1.1, e3]
  simp only [mThen_ok, Option.toList_some, Option.toList_none, List.cons_append, List.nil_append]
  rw [b_166_292 r3.1.1, e4]
  simp only [mThen_ok, Option.toList_some, Option.toList_none, List.cons_append, List.nil_append]
  rw [b_166_296 r4.1.1, e5]
  simp only [mThen_ok, Option.toList_some, Option.toList_none, List.cons_append, List.nil_append]
  rw [b_166_301 r5.1.1, e6]
  simp only [mThen_ok, Option.toList_some, Option.toList_none, List.cons_append, List.nil_append]
  rw [b_166_305 r6.1.1, e7]
  simp only [mThen_ok, Option.toList_some, Option.toList_none, List.cons_append, List.nil_append]
  rw [b_166_310 r7.1.1, e8]
  simp only [mThen_ok, Option.toList_some, Option.toList_none, List.cons_append, List.nil_append]
  rw [b_166_314 r8.1.1, e9]
  simp only [mThen_ok, Option.toList_some, Option.toList_none, List.cons_append, List.nil_append]
  rw [b_166_317]
theorem wt_8 (ht : TX u) (hd : DGW u) (hz : 276 ≤ mSz u) (hn : n < 100) (h1 : STR u c1 st) (k1 : c1 < mSz u ∧ gR u c1 0 < mSz u) (l1 : st.length ≤ 10) (h2 : STR u c2 sv) (k2 : c2 < mSz u ∧ gR u c2 0 < mSz u) (l2 : sv.length ≤ 10) : OT (d + 7) 321 [mJ, .int (nI n), .ref c1, mJ] [] u ((((([] ++ sB 52) ++ st) ++ sB 53) ++ dec n) ++ sB 54) := by
  have eE : mE = 166 := rfl
  have dl := (dec_len n).1
  obtain ⟨w0, e0, r0⟩ := BR.new (d := d + 5) ht hd hz
  have q52 := sB_le (i := 52) (by decide)
  have q53 := sB_le (i := 53) (by decide)
  have q54 := sB_le (i := 54) (by decide)
  obtain ⟨w1, e1, r1⟩ := r0.app (d := d) (i := 52) (by decide) (by simp only [List.length_append, List.length_nil]; omega)
  obtain ⟨w2, e2, r2⟩ := r1.appS (d := d) h1 k1 (by simp only [List.length_append, List.length_nil]; omega)
  obtain ⟨w3, e3, r3⟩ := r2.app (d := d) (i := 53) (by decide) (by simp only [List.length_append, List.length_nil]; omega)
  obtain ⟨w4, e4, r4⟩ := r3.appI (d := d) hn (by simp only [List.length_append, List.length_nil]; omega)
  obtain ⟨w5, e5, r5⟩ := r4.app (d := d) (i := 54) (by decide) (by simp only [List.length_append, List.length_nil]; omega)
  obtain ⟨w9, e9, s9, f9, x9, d9, g9, b9, z9, m9⟩ := r5.str (d := d) (by simp only [List.length_append, List.length_nil]; omega)
  refine ⟨w9, mSz w5, ?_, s9, by rw [z9]; exact Nat.lt_succ_of_lt (Nat.lt_succ_self _), by rw [b9, z9]; exact Nat.lt_succ_self _, Or.inr ⟨m9, b9⟩, f9, x9, d9, g9.mono (by omega)⟩
  rw [b_166_321, b_166_324 (show mE ≤ mSz u by omega), e0]
  simp only [mThen_ok, Option.toList_some, Option.toList_none, List.cons_append, List.nil_append]
  rw [b_166_328 r0.1.1, e1]
  simp only [mThen_ok, Option.toList_some, Option.toList_none, List.cons_append, List.nil_append]
  rw [b_166_333 r1.1.1, e2]
  simp only [mThen_ok, Option.toList_some, Option.toList_none, List.cons_append, List.nil_append]
  rw [b_166_337 r2.1.1, e3]
  simp only [mThen_ok, Option.toList_some, Option.toList_none, List.cons_append, List.nil_append]
  rw [b_166_342 r3.1.1, e4]
  simp only [mThen_ok, Option.toList_some, Option.toList_none, List.cons_append, List.nil_append]
  rw [b_166_346 r4.1.1, e5]
  simp only [mThen_ok, Option.toList_some, Option.toList_none, List.cons_append, List.nil_append]
  rw [b_166_351 r5.1.1, e9]
  simp only [mThen_ok, Option.toList_some, Option.toList_none, List.cons_append, List.nil_append]
  rw [b_166_354]
theorem wt_7 (ht : TX u) (hd : DGW u) (hz : 276 ≤ mSz u) : OT (d + 7) 318 [mJ, mJ, mJ, mJ] [] u (sB 51) := by
  have g := ht.g (i := 51) (by decide)
  refine ⟨u, 106, b_166_318, ht.str (i := 51) (by decide), (show 106 < mSz u from Nat.lt_of_lt_of_le (by decide) hz), ?_, Or.inl ⟨rfl, g⟩, sm.refl _ _, ht, hd, gz.refl _ _⟩
  rw [show (106 : Nat) = 4 + 2 * 51 from rfl, g]
  omega
end
