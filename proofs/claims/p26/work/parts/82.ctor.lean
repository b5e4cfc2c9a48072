/-! ===== the constructor: by program (wip/p26/mkctor.py) ===== -/
/-- the class's cells: tag and length -/
def cL : List (Nat × Nat) := [(9, 0), (5, 0), (50, 2000), (7, 0), (50, 401), (50, 401), (50, 401), (50, 401), (50, 401), (8, 0), (50, 6), (50, 5), (50, 10), (50, 10), (50, 10), (50, 12), (50, 48), (50, 12), (50, 6), (50, 30), (50, 5), (50, 5), (50, 5), (50, 40), (50, 20), (50, 20), (50, 20), (1, 0), (50, 400), (50, 400), (8, 0), (50, 6), (50, 5), (50, 10), (50, 10), (50, 10), (50, 12), (50, 48), (50, 12), (50, 6), (50, 30), (50, 5), (50, 5), (50, 5), (50, 40), (50, 20), (50, 20), (50, 20), (1, 0), (50, 400), (50, 400), (2, 0), (6, 0), (50, 72), (0, 0), (3, 0), (50, 64), (53, 6), (4, 0), (50, 5), (50, 10), (50, 6), (50, 12), (50, 12), (4, 0), (50, 5), (50, 10), (4, 0), (50, 5), (50, 10), (4, 0), (50, 5), (50, 10), (4, 0), (50, 5), (50, 10), (4, 0), (50, 5), (50, 10), (4, 0), (50, 5), (50, 10), (0, 0), (3, 0), (50, 64), (53, 6), (4, 0), (50, 5), (50, 10), (50, 6), (50, 12), (50, 12), (4, 0), (50, 5), (50, 10), (4, 0), (50, 5), (50, 10), (4, 0), (50, 5), (50, 10), (4, 0), (50, 5), (50, 10), (4, 0), (50, 5), (50, 10), (4, 0), (50, 5), (50, 10)]
/-- the class's references: cell, field, what it holds -/
def cR : List (Nat × Nat × Nat) := [(167, 0, 168), (166, 0, 167), (169, 1, 170), (169, 2, 171), (169, 3, 172), (169, 4, 173), (169, 5, 174), (169, 0, 167), (166, 1, 169), (175, 0, 176), (175, 1, 177), (175, 2, 178), (175, 3, 179), (175, 4, 180), (175, 5, 181), (175, 6, 182), (175, 7, 183), (175, 8, 184), (175, 9, 185), (175, 10, 186), (175, 11, 187), (175, 12, 188), (175, 13, 189), (175, 14, 190), (175, 15, 191), (175, 16, 192), (193, 0, 194), (193, 1, 195), (175, 17, 193), (166, 2, 175), (196, 0, 197), (196, 1, 198), (196, 2, 199), (196, 3, 200), (196, 4, 201), (196, 5, 202), (196, 6, 203), (196, 7, 204), (196, 8, 205), (196, 9, 206), (196, 10, 207), (196, 11, 208), (196, 12, 209), (196, 13, 210), (196, 14, 211), (196, 15, 212), (196, 16, 213), (214, 0, 215), (214, 1, 216), (196, 17, 214), (166, 3, 196), (217, 0, 169), (217, 1, 214), (166, 4, 217), (218, 2, 219), (218, 0, 169), (218, 1, 196), (166, 5, 218), (221, 0, 222), (220, 1, 221), (220, 2, 223), (224, 0, 225), (224, 1, 226), (220, 3, 224), (220, 4, 227), (220, 5, 228), (220, 6, 229), (220, 0, 175), (230, 0, 231), (230, 1, 232), (223, 0, 230), (233, 0, 234), (233, 1, 235), (223, 1, 233), (236, 0, 237), (236, 1, 238), (223, 2, 236), (239, 0, 240), (239, 1, 241), (223, 3, 239), (242, 0, 243), (242, 1, 244), (223, 4, 242), (245, 0, 246), (245, 1, 247), (223, 5, 245), (166, 6, 220), (249, 0, 250), (248, 1, 249), (248, 2, 251), (252, 0, 253), (252, 1, 254), (248, 3, 252), (248, 4, 255), (248, 5, 256), (248, 6, 257), (248, 0, 175), (258, 0, 259), (258, 1, 260), (251, 0, 258), (261, 0, 262), (261, 1, 263), (251, 1, 261), (264, 0, 265), (264, 1, 266), (251, 2, 264), (267, 0, 268), (267, 1, 269), (251, 3, 267), (270, 0, 271), (270, 1, 272), (251, 4, 270), (273, 0, 274), (273, 1, 275), (251, 5, 273), (166, 7, 248)]
/-- the class's numbers that are -1 -/
def cI : List (Nat × Nat) := [(220, 11), (248, 11), (166, 8)]
/-- n cells are made, m references and p numbers are written -/
def CW (u w : MW) (n m p : Nat) : Prop := (mSz w = 166 + n ∧ mSl w ≤ mSl u + 2100 * n) ∧ (∀ i, i < n → mTg w (166 + i) = (cL.getD i (0, 0)).1 ∧ mLn w (166 + i) = (cL.getD i (0, 0)).2) ∧ (∀ j, j < m → mR w (cR.getD j (0, 0, 0)).1 (cR.getD j (0, 0, 0)).2.1 = some (cR.getD j (0, 0, 0)).2.2 ∧ (cR.getD j (0, 0, 0)).1 < 166 + n) ∧ (∀ j, j < p → mI w (cI.getD j (0, 0)).1 (cI.getD j (0, 0)).2 = nI NEG ∧ (cI.getD j (0, 0)).1 < 166 + n) ∧ (∀ c k, 166 ≤ c → c < 166 + n → ¬ c = 166 → ¬ c = 220 → ¬ c = 248 → mI w c k = nI 0) ∧ agr u w 0 166
theorem cR_ne : ((List.range 116).all fun i => (List.range i).all fun j => !((cR.getD i (0, 0, 0)).1 == (cR.getD j (0, 0, 0)).1 && (cR.getD i (0, 0, 0)).2.1 == (cR.getD j (0, 0, 0)).2.1)) = true := by decide +kernel
theorem cI_ne : ((List.range 3).all fun i => (List.range i).all fun j => !((cI.getD i (0, 0)).1 == (cI.getD j (0, 0)).1)) = true := by decide +kernel
theorem CW.N {u w : MW} {n m p t l k : Nat} (hc : cL.getD n (0, 0) = (t, l)) (hk : k ≤ 2100) (h : CW u w n m p) : CW u (wN w t l k) (n + 1) m p := by
  obtain ⟨⟨h1, h1'⟩, h2, h3, h4, h5, h6⟩ := h
  have hz : mSz w = w.1 := rfl
  refine ⟨⟨?_, ?_⟩, fun i hi => ?_, fun j hj => ?_, fun j hj => ?_, fun c k' q1 q2 n1 n2 n3 => ?_, fun c q1 q2 => ?_⟩
  · show mSz w + 1 = _; omega
  · show mSl w + k ≤ _; omega
  · by_cases g : i = n
    · subst g
      rw [hc, ← h1]
      exact ⟨if_pos rfl, if_pos rfl⟩
    · have q := h2 i (by omega)
      rw [tgN (by omega), lnN (by omega)]
      exact q
  · have q := h3 j hj
    rw [mrN (by omega)]
    exact ⟨q.1, by omega⟩
  · have q := h4 j hj
    rw [miN (by omega)]
    exact ⟨q.1, by omega⟩
  · by_cases g : c = mSz w
    · subst g
      exact (if_pos rfl).trans (by decide +kernel)
    · rw [miN g]
      exact h5 c k' q1 (by omega) n1 n2 n3
  · have a := h6 c q1 q2
    rw [tgN (by omega), lnN (by omega), miN (by omega), mrN (by omega)]
    exact a
theorem CW.Rr {u w : MW} {n m p c k x : Nat} (hc : cR.getD m (0, 0, 0) = (c, k, x)) (hm : m < 116) (hl : 166 ≤ c ∧ c < 166 + n) (h : CW u w n m p) : CW u (wR w c k (some x)) n (m + 1) p := by
  obtain ⟨h1, h2, h3, h4, h5, h6⟩ := h
  refine ⟨h1, h2, fun j hj => ?_, h4, h5, fun c' q1 q2 => ?_⟩
  · by_cases g : j = m
    · subst g
      rw [hc]
      exact ⟨if_pos ⟨rfl, rfl⟩, hl.2⟩
    · have q := h3 j (by omega)
      have r := cR_ne
      rw [List.all_eq_true] at r
      have r1 := r m (List.mem_range.mpr hm)
      rw [List.all_eq_true] at r1
      have r2 := r1 j (List.mem_range.mpr (by omega))
      rw [hc] at r2
      refine ⟨?_, q.2⟩
      show (if _ = c ∧ _ = k then _ else mR w _ _) = _
      rw [if_neg (fun e => by rw [e.1, e.2] at r2; simp at r2)]
      exact q.1
  · have a := h6 c' q1 q2
    refine ⟨a.1, a.2.1, a.2.2.1, funext fun j => ?_⟩
    show (if c' = c ∧ j = k then _ else mR w c' j) = _
    rw [if_neg (by omega), a.2.2.2]
theorem CW.I {u w : MW} {n m p c k : Nat} {x : Int32} (hx : x = nI NEG) (hc : cI.getD p (0, 0) = (c, k)) (hm : p < 3) (hl : 166 ≤ c ∧ c < 166 + n) (hs : c = 166 ∨ c = 220 ∨ c = 248) (h : CW u w n m p) : CW u (wI w c k x) n m (p + 1) := by
  obtain ⟨h1, h2, h3, h4, h5, h6⟩ := h
  refine ⟨h1, h2, h3, fun j hj => ?_, fun c' k' q1 q2 n1 n2 n3 => ?_, fun c' q1 q2 => ?_⟩
  · by_cases g : j = p
    · subst g
      rw [hc, mI_wI, if_pos ⟨rfl, rfl⟩]
      exact ⟨hx, hl.2⟩
    · have q := h4 j (by omega)
      have r := cI_ne
      rw [List.all_eq_true] at r
      have r1 := r p (List.mem_range.mpr hm)
      rw [List.all_eq_true] at r1
      have r2 := r1 j (List.mem_range.mpr (by omega))
      rw [hc] at r2
      refine ⟨?_, q.2⟩
      rw [mI_wI, if_neg (fun e => by rw [e.1] at r2; simp at r2)]
      exact q.1
  · rw [mI_wI, if_neg (by omega)]
    exact h5 c' k' q1 q2 n1 n2 n3
  · have a := h6 c' q1 q2
    refine ⟨a.1, a.2.1, funext fun j => ?_, a.2.2.2⟩
    rw [mI_wI, if_neg (by omega), a.2.2.1]
theorem CW.tg {u w : MW} {n m p : Nat} (h : CW u w n m p) (c : Nat) (h1 : 166 ≤ c) (h2 : c < 166 + n) : mTg w c = (cL.getD (c - 166) (0, 0)).1 := by
  have := (h.2.1 (c - 166) (by omega)).1
  rwa [show 166 + (c - 166) = c by omega] at this
theorem CW.ln {u w : MW} {n m p : Nat} (h : CW u w n m p) (c : Nat) (h1 : 166 ≤ c) (h2 : c < 166 + n) : mLn w c = (cL.getD (c - 166) (0, 0)).2 := by
  have := (h.2.1 (c - 166) (by omega)).2
  rwa [show 166 + (c - 166) = c by omega] at this
theorem CW.rf {u w : MW} {n m p : Nat} (h : CW u w n m p) (j : Nat) (h2 : j < m) : mR w (cR.getD j (0, 0, 0)).1 (cR.getD j (0, 0, 0)).2.1 = some (cR.getD j (0, 0, 0)).2.2 := (h.2.2.1 j h2).1
def QQ (u : MW) (X : Option (MRes × MW)) : Prop := ∃ w', X = some (.inl none, w') ∧ CW u w' 110 116 3
theorem QQ.f0 {f : MW → Option (MRes × MW)} {u w : MW} (n m p : Nat) (h : CW u w n m p) (g : ∀ w', CW u w' n m p → QQ u (f w')) : QQ u (f w) := g w h
section
variable {u w : MW} {d c pc : Nat} {L S : List Value} {F F1 F2 : Option Value → MW → Option (MRes × MW)}
theorem QQ.x0 (n m p : Nat) (h : CW u w n m p) (g : ∀ w', CW u w' n m p → QQ u (mX d c pc L S w')) : QQ u (mX d c pc L S w) := g w h
theorem QQ.x1 (n m p : Nat) (h : CW u w n m p) (g : ∀ w', CW u w' n m p → QQ u (mThen (mX d c pc L S w') F)) : QQ u (mThen (mX d c pc L S w) F) := g w h
theorem QQ.x2 (n m p : Nat) (h : CW u w n m p) (g : ∀ w', CW u w' n m p → QQ u (mThen (mThen (mX d c pc L S w') F1) F)) : QQ u (mThen (mThen (mX d c pc L S w) F1) F) := g w h
theorem QQ.k1 (n m p : Nat) (h : CW u w n m p) (g : ∀ w', CW u w' n m p → QQ u (mThen (mK d c L w') F)) : QQ u (mThen (mK d c L w) F) := g w h
theorem QQ.s1 {v : Option Value} (n m p : Nat) (h : CW u w n m p) (g : ∀ w', CW u w' n m p → QQ u (mThen (some (.inl v, w')) F)) : QQ u (mThen (some (.inl v, w)) F) := g w h
theorem QQ.s2 {v : Option Value} (n m p : Nat) (h : CW u w n m p) (g : ∀ w', CW u w' n m p → QQ u (mThen (mThen (some (.inl v, w')) F1) F)) : QQ u (mThen (mThen (some (.inl v, w)) F1) F) := g w h
theorem QQ.k2 (n m p : Nat) (h : CW u w n m p) (g : ∀ w', CW u w' n m p → QQ u (mThen (mThen (mK d c L w') F1) F)) : QQ u (mThen (mThen (mK d c L w) F1) F) := g w h
end
theorem s_tgN {w : MW} {t n k c : Nat} : mTg (wN w t n k) c = if c = mSz w then t else mTg w c := rfl
theorem s_tgR {w : MW} {c k a : Nat} {x : Option Nat} : mTg (wR w c k x) a = mTg w a := rfl
theorem s_tgI {w : MW} {c k a : Nat} {x : Int32} : mTg (wI w c k x) a = mTg w a := rfl
theorem s_lnN {w : MW} {t n k c : Nat} : mLn (wN w t n k) c = if c = mSz w then n else mLn w c := rfl
theorem s_lnR {w : MW} {c k a : Nat} {x : Option Nat} : mLn (wR w c k x) a = mLn w a := rfl
theorem s_lnI {w : MW} {c k a : Nat} {x : Int32} : mLn (wI w c k x) a = mLn w a := rfl
theorem s_rN {w : MW} {t n k c j : Nat} : mR (wN w t n k) c j = if c = mSz w then none else mR w c j := rfl
theorem s_rR {w : MW} {c k a j : Nat} {x : Option Nat} : mR (wR w c k x) a j = if a = c ∧ j = k then x else mR w a j := rfl
theorem s_rI {w : MW} {c k a j : Nat} {x : Int32} : mR (wI w c k x) a j = mR w a j := rfl
theorem s_zN {w : MW} {t n k : Nat} : mSz (wN w t n k) = mSz w + 1 := rfl
theorem s_zR {w : MW} {c k : Nat} {x : Option Nat} : mSz (wR w c k x) = mSz w := rfl
theorem s_zI {w : MW} {c k : Nat} {x : Int32} : mSz (wI w c k x) = mSz w := rfl
theorem s_gR {w : MW} {c k : Nat} : gR w c k = (mR w c k).getD 0 := rfl
theorem c_ctor {d : Nat} {u w0 : MW} (h0 : CW u w0 1 0 0) : QQ u (mK (d + 4) 95 [.ref 166] w0) := by
  have eE : mE = 166 := rfl
  have hz0 : mSz w0 = 167 := h0.1.1
  rw [e_95]
  -- 95 0
  have t166 : mTg w0 166 = 9 := h0.tg 166 (by decide) (by decide)
  have l166 : mLn w0 166 = 0 := h0.ln 166 (by decide) (by decide)
  rw [b_95_0] <;> try ((try simp only [s_tgN, s_tgR, s_tgI, s_lnN, s_lnR, s_lnI, s_rN, s_rR, s_rI, s_zN, s_zR, s_zI, s_gR, hz0, Option.getD_some, Nat.reduceAdd, Nat.reduceEqDiff, if_false, if_true, and_false, false_and, and_true, true_and, and_self, t166, l166]); first | done | assumption | omega | decide +kernel)
  try simp only [s_tgN, s_tgR, s_tgI, s_lnN, s_lnR, s_lnI, s_rN, s_rR, s_rI, s_zN, s_zR, s_zI, s_gR, hz0, Option.getD_some, Nat.reduceAdd, Nat.reduceEqDiff, if_false, if_true, and_false, false_and, and_true, true_and, and_self, t166, l166]
  clear t166 l166
  first | refine QQ.k1 2 0 0 ?_ ?_ | refine QQ.k2 2 0 0 ?_ ?_ | refine QQ.x0 2 0 0 ?_ ?_ | refine QQ.x1 2 0 0 ?_ ?_ | refine QQ.x2 2 0 0 ?_ ?_ | refine QQ.s1 2 0 0 ?_ ?_ | refine QQ.s2 2 0 0 ?_ ?_
  · repeat (first | exact h0 | refine CW.N (by rfl) (by decide) ?_ | refine CW.Rr (by rfl) (by decide) (by decide) ?_ | refine CW.I (by rfl) (by rfl) (by decide) (by decide) (by decide) ?_)
  intro w1 h1
  clear hz0 h0
  have hz1 : mSz w1 = 168 := h1.1.1
  rw [e_55]
  -- 55 0
  have t167 : mTg w1 167 = 5 := h1.tg 167 (by decide) (by decide)
  have l167 : mLn w1 167 = 0 := h1.ln 167 (by decide) (by decide)
  rw [b_55_0] <;> try ((try simp only [s_tgN, s_tgR, s_tgI, s_lnN, s_lnR, s_lnI, s_rN, s_rR, s_rI, s_zN, s_zR, s_zI, s_gR, hz1, Option.getD_some, Nat.reduceAdd, Nat.reduceEqDiff, if_false, if_true, and_false, false_and, and_true, true_and, and_self, t167, l167]); first | done | assumption | omega | decide +kernel)
  try simp only [s_tgN, s_tgR, s_tgI, s_lnN, s_lnR, s_lnI, s_rN, s_rR, s_rI, s_zN, s_zR, s_zI, s_gR, hz1, Option.getD_some, Nat.reduceAdd, Nat.reduceEqDiff, if_false, if_true, and_false, false_and, and_true, true_and, and_self, t167, l167]
  clear t167 l167
  first | refine QQ.k1 3 1 0 ?_ ?_ | refine QQ.k2 3 1 0 ?_ ?_ | refine QQ.x0 3 1 0 ?_ ?_ | refine QQ.x1 3 1 0 ?_ ?_ | refine QQ.x2 3 1 0 ?_ ?_ | refine QQ.s1 3 1 0 ?_ ?_ | refine QQ.s2 3 1 0 ?_ ?_
  · repeat (first | exact h1 | refine CW.N (by rfl) (by decide) ?_ | refine CW.Rr (by rfl) (by decide) (by decide) ?_ | refine CW.I (by rfl) (by rfl) (by decide) (by decide) (by decide) ?_)
  intro w2 h2
  clear hz1 h1
  clear w1
  have hz2 : mSz w2 = 169 := h2.1.1
  simp only [mThen_ok, Option.toList_some, Option.toList_none, List.cons_append, List.nil_append]
  -- 95 12
  have t166 : mTg w2 166 = 9 := h2.tg 166 (by decide) (by decide)
  have l166 : mLn w2 166 = 0 := h2.ln 166 (by decide) (by decide)
  have t167 : mTg w2 167 = 5 := h2.tg 167 (by decide) (by decide)
  have l167 : mLn w2 167 = 0 := h2.ln 167 (by decide) (by decide)
  rw [b_95_12] <;> try ((try simp only [s_tgN, s_tgR, s_tgI, s_lnN, s_lnR, s_lnI, s_rN, s_rR, s_rI, s_zN, s_zR, s_zI, s_gR, hz2, Option.getD_some, Nat.reduceAdd, Nat.reduceEqDiff, if_false, if_true, and_false, false_and, and_true, true_and, and_self, t166, l166, t167, l167]); first | done | assumption | omega | decide +kernel)
  try simp only [s_tgN, s_tgR, s_tgI, s_lnN, s_lnR, s_lnI, s_rN, s_rR, s_rI, s_zN, s_zR, s_zI, s_gR, hz2, Option.getD_some, Nat.reduceAdd, Nat.reduceEqDiff, if_false, if_true, and_false, false_and, and_true, true_and, and_self, t166, l166, t167, l167]
  clear t166 l166 t167 l167
  first | refine QQ.k1 4 2 0 ?_ ?_ | refine QQ.k2 4 2 0 ?_ ?_ | refine QQ.x0 4 2 0 ?_ ?_ | refine QQ.x1 4 2 0 ?_ ?_ | refine QQ.x2 4 2 0 ?_ ?_ | refine QQ.s1 4 2 0 ?_ ?_ | refine QQ.s2 4 2 0 ?_ ?_
  · repeat (first | exact h2 | refine CW.N (by rfl) (by decide) ?_ | refine CW.Rr (by rfl) (by decide) (by decide) ?_ | refine CW.I (by rfl) (by rfl) (by decide) (by decide) (by decide) ?_)
  intro w3 h3
  clear hz2 h2
  clear w2
  have hz3 : mSz w3 = 170 := h3.1.1
  rw [e_72]
  -- 72 0
  have t167 : mTg w3 167 = 5 := h3.tg 167 (by decide) (by decide)
  have l167 : mLn w3 167 = 0 := h3.ln 167 (by decide) (by decide)
  have t169 : mTg w3 169 = 7 := h3.tg 169 (by decide) (by decide)
  have l169 : mLn w3 169 = 0 := h3.ln 169 (by decide) (by decide)
  rw [b_72_0] <;> try ((try simp only [s_tgN, s_tgR, s_tgI, s_lnN, s_lnR, s_lnI, s_rN, s_rR, s_rI, s_zN, s_zR, s_zI, s_gR, hz3, Option.getD_some, Nat.reduceAdd, Nat.reduceEqDiff, if_false, if_true, and_false, false_and, and_true, true_and, and_self, t167, l167, t169, l169]); first | done | assumption | omega | decide +kernel)
  try simp only [s_tgN, s_tgR, s_tgI, s_lnN, s_lnR, s_lnI, s_rN, s_rR, s_rI, s_zN, s_zR, s_zI, s_gR, hz3, Option.getD_some, Nat.reduceAdd, Nat.reduceEqDiff, if_false, if_true, and_false, false_and, and_true, true_and, and_self, t167, l167, t169, l169]
  clear t167 l167 t169 l169
  first | refine QQ.k1 6 4 0 ?_ ?_ | refine QQ.k2 6 4 0 ?_ ?_ | refine QQ.x0 6 4 0 ?_ ?_ | refine QQ.x1 6 4 0 ?_ ?_ | refine QQ.x2 6 4 0 ?_ ?_ | refine QQ.s1 6 4 0 ?_ ?_ | refine QQ.s2 6 4 0 ?_ ?_
  · repeat (first | exact h3 | refine CW.N (by rfl) (by decide) ?_ | refine CW.Rr (by rfl) (by decide) (by decide) ?_ | refine CW.I (by rfl) (by rfl) (by decide) (by decide) (by decide) ?_)
  intro w4 h4
  clear hz3 h3
  clear w3
  have hz4 : mSz w4 = 172 := h4.1.1
  -- 72 22
  have t167 : mTg w4 167 = 5 := h4.tg 167 (by decide) (by decide)
  have l167 : mLn w4 167 = 0 := h4.ln 167 (by decide) (by decide)
  have t169 : mTg w4 169 = 7 := h4.tg 169 (by decide) (by decide)
  have l169 : mLn w4 169 = 0 := h4.ln 169 (by decide) (by decide)
  rw [b_72_22] <;> try ((try simp only [s_tgN, s_tgR, s_tgI, s_lnN, s_lnR, s_lnI, s_rN, s_rR, s_rI, s_zN, s_zR, s_zI, s_gR, hz4, Option.getD_some, Nat.reduceAdd, Nat.reduceEqDiff, if_false, if_true, and_false, false_and, and_true, true_and, and_self, t167, l167, t169, l169]); first | done | assumption | omega | decide +kernel)
  try simp only [s_tgN, s_tgR, s_tgI, s_lnN, s_lnR, s_lnI, s_rN, s_rR, s_rI, s_zN, s_zR, s_zI, s_gR, hz4, Option.getD_some, Nat.reduceAdd, Nat.reduceEqDiff, if_false, if_true, and_false, false_and, and_true, true_and, and_self, t167, l167, t169, l169]
  clear t167 l167 t169 l169
  first | refine QQ.k1 8 6 0 ?_ ?_ | refine QQ.k2 8 6 0 ?_ ?_ | refine QQ.x0 8 6 0 ?_ ?_ | refine QQ.x1 8 6 0 ?_ ?_ | refine QQ.x2 8 6 0 ?_ ?_ | refine QQ.s1 8 6 0 ?_ ?_ | refine QQ.s2 8 6 0 ?_ ?_
  · repeat (first | exact h4 | refine CW.N (by rfl) (by decide) ?_ | refine CW.Rr (by rfl) (by decide) (by decide) ?_ | refine CW.I (by rfl) (by rfl) (by decide) (by decide) (by decide) ?_)
  intro w5 h5
  clear hz4 h4
  clear w4
  have hz5 : mSz w5 = 174 := h5.1.1
  -- 72 40
  have t167 : mTg w5 167 = 5 := h5.tg 167 (by decide) (by decide)
  have l167 : mLn w5 167 = 0 := h5.ln 167 (by decide) (by decide)
  have t169 : mTg w5 169 = 7 := h5.tg 169 (by decide) (by decide)
  have l169 : mLn w5 169 = 0 := h5.ln 169 (by decide) (by decide)
  rw [b_72_40] <;> try ((try simp only [s_tgN, s_tgR, s_tgI, s_lnN, s_lnR, s_lnI, s_rN, s_rR, s_rI, s_zN, s_zR, s_zI, s_gR, hz5, Option.getD_some, Nat.reduceAdd, Nat.reduceEqDiff, if_false, if_true, and_false, false_and, and_true, true_and, and_self, t167, l167, t169, l169]); first | done | assumption | omega | decide +kernel)
  try simp only [s_tgN, s_tgR, s_tgI, s_lnN, s_lnR, s_lnI, s_rN, s_rR, s_rI, s_zN, s_zR, s_zI, s_gR, hz5, Option.getD_some, Nat.reduceAdd, Nat.reduceEqDiff, if_false, if_true, and_false, false_and, and_true, true_and, and_self, t167, l167, t169, l169]
  clear t167 l167 t169 l169
  first | refine QQ.k1 9 8 0 ?_ ?_ | refine QQ.k2 9 8 0 ?_ ?_ | refine QQ.x0 9 8 0 ?_ ?_ | refine QQ.x1 9 8 0 ?_ ?_ | refine QQ.x2 9 8 0 ?_ ?_ | refine QQ.s1 9 8 0 ?_ ?_ | refine QQ.s2 9 8 0 ?_ ?_
  · repeat (first | exact h5 | refine CW.N (by rfl) (by decide) ?_ | refine CW.Rr (by rfl) (by decide) (by decide) ?_ | refine CW.I (by rfl) (by rfl) (by decide) (by decide) (by decide) ?_)
  intro w6 h6
  clear hz5 h5
  clear w5
  have hz6 : mSz w6 = 175 := h6.1.1
  simp only [mThen_ok, Option.toList_some, Option.toList_none, List.cons_append, List.nil_append]
  -- 95 27
  have t166 : mTg w6 166 = 9 := h6.tg 166 (by decide) (by decide)
  have l166 : mLn w6 166 = 0 := h6.ln 166 (by decide) (by decide)
  have t169 : mTg w6 169 = 7 := h6.tg 169 (by decide) (by decide)
  have l169 : mLn w6 169 = 0 := h6.ln 169 (by decide) (by decide)
  have r1 : mR w6 166 0 = some 167 := h6.rf 1 (by decide)
  rw [b_95_27] <;> try ((try simp only [s_tgN, s_tgR, s_tgI, s_lnN, s_lnR, s_lnI, s_rN, s_rR, s_rI, s_zN, s_zR, s_zI, s_gR, hz6, Option.getD_some, Nat.reduceAdd, Nat.reduceEqDiff, if_false, if_true, and_false, false_and, and_true, true_and, and_self, t166, l166, t169, l169, r1]); first | done | assumption | omega | decide +kernel)
  try simp only [s_tgN, s_tgR, s_tgI, s_lnN, s_lnR, s_lnI, s_rN, s_rR, s_rI, s_zN, s_zR, s_zI, s_gR, hz6, Option.getD_some, Nat.reduceAdd, Nat.reduceEqDiff, if_false, if_true, and_false, false_and, and_true, true_and, and_self, t166, l166, t169, l169, r1]
  clear t166 l166 t169 l169 r1
  first | refine QQ.k1 10 9 0 ?_ ?_ | refine QQ.k2 10 9 0 ?_ ?_ | refine QQ.x0 10 9 0 ?_ ?_ | refine QQ.x1 10 9 0 ?_ ?_ | refine QQ.x2 10 9 0 ?_ ?_ | refine QQ.s1 10 9 0 ?_ ?_ | refine QQ.s2 10 9 0 ?_ ?_
  · repeat (first | exact h6 | refine CW.N (by rfl) (by decide) ?_ | refine CW.Rr (by rfl) (by decide) (by decide) ?_ | refine CW.I (by rfl) (by rfl) (by decide) (by decide) (by decide) ?_)
  intro w7 h7
  clear hz6 h6
  clear w6
  have hz7 : mSz w7 = 176 := h7.1.1
  rw [e_84]
  -- 84 0
  have t175 : mTg w7 175 = 8 := h7.tg 175 (by decide) (by decide)
  have l175 : mLn w7 175 = 0 := h7.ln 175 (by decide) (by decide)
  rw [b_84_0] <;> try ((try simp only [s_tgN, s_tgR, s_tgI, s_lnN, s_lnR, s_lnI, s_rN, s_rR, s_rI, s_zN, s_zR, s_zI, s_gR, hz7, Option.getD_some, Nat.reduceAdd, Nat.reduceEqDiff, if_false, if_true, and_false, false_and, and_true, true_and, and_self, t175, l175]); first | done | assumption | omega | decide +kernel)
  try simp only [s_tgN, s_tgR, s_tgI, s_lnN, s_lnR, s_lnI, s_rN, s_rR, s_rI, s_zN, s_zR, s_zI, s_gR, hz7, Option.getD_some, Nat.reduceAdd, Nat.reduceEqDiff, if_false, if_true, and_false, false_and, and_true, true_and, and_self, t175, l175]
  clear t175 l175
  first | refine QQ.k1 13 11 0 ?_ ?_ | refine QQ.k2 13 11 0 ?_ ?_ | refine QQ.x0 13 11 0 ?_ ?_ | refine QQ.x1 13 11 0 ?_ ?_ | refine QQ.x2 13 11 0 ?_ ?_ | refine QQ.s1 13 11 0 ?_ ?_ | refine QQ.s2 13 11 0 ?_ ?_
  · repeat (first | exact h7 | refine CW.N (by rfl) (by decide) ?_ | refine CW.Rr (by rfl) (by decide) (by decide) ?_ | refine CW.I (by rfl) (by rfl) (by decide) (by decide) (by decide) ?_)
  intro w8 h8
  clear hz7 h7
  clear w7
  have hz8 : mSz w8 = 179 := h8.1.1
  -- 84 24
  have t175 : mTg w8 175 = 8 := h8.tg 175 (by decide) (by decide)
  have l175 : mLn w8 175 = 0 := h8.ln 175 (by decide) (by decide)
  have t178 : mTg w8 178 = 50 := h8.tg 178 (by decide) (by decide)
  have l178 : mLn w8 178 = 10 := h8.ln 178 (by decide) (by decide)
  rw [b_84_24] <;> try ((try simp only [s_tgN, s_tgR, s_tgI, s_lnN, s_lnR, s_lnI, s_rN, s_rR, s_rI, s_zN, s_zR, s_zI, s_gR, hz8, Option.getD_some, Nat.reduceAdd, Nat.reduceEqDiff, if_false, if_true, and_false, false_and, and_true, true_and, and_self, t175, l175, t178, l178]); first | done | assumption | omega | decide +kernel)
  try simp only [s_tgN, s_tgR, s_tgI, s_lnN, s_lnR, s_lnI, s_rN, s_rR, s_rI, s_zN, s_zR, s_zI, s_gR, hz8, Option.getD_some, Nat.reduceAdd, Nat.reduceEqDiff, if_false, if_true, and_false, false_and, and_true, true_and, and_self, t175, l175, t178, l178]
  clear t175 l175 t178 l178
  first | refine QQ.k1 15 14 0 ?_ ?_ | refine QQ.k2 15 14 0 ?_ ?_ | refine QQ.x0 15 14 0 ?_ ?_ | refine QQ.x1 15 14 0 ?_ ?_ | refine QQ.x2 15 14 0 ?_ ?_ | refine QQ.s1 15 14 0 ?_ ?_ | refine QQ.s2 15 14 0 ?_ ?_
  · repeat (first | exact h8 | refine CW.N (by rfl) (by decide) ?_ | refine CW.Rr (by rfl) (by decide) (by decide) ?_ | refine CW.I (by rfl) (by rfl) (by decide) (by decide) (by decide) ?_)
  intro w9 h9
  clear hz8 h8
  clear w8
  have hz9 : mSz w9 = 181 := h9.1.1
  -- 84 43
  have t175 : mTg w9 175 = 8 := h9.tg 175 (by decide) (by decide)
  have l175 : mLn w9 175 = 0 := h9.ln 175 (by decide) (by decide)
  rw [b_84_43] <;> try ((try simp only [s_tgN, s_tgR, s_tgI, s_lnN, s_lnR, s_lnI, s_rN, s_rR, s_rI, s_zN, s_zR, s_zI, s_gR, hz9, Option.getD_some, Nat.reduceAdd, Nat.reduceEqDiff, if_false, if_true, and_false, false_and, and_true, true_and, and_self, t175, l175]); first | done | assumption | omega | decide +kernel)
  try simp only [s_tgN, s_tgR, s_tgI, s_lnN, s_lnR, s_lnI, s_rN, s_rR, s_rI, s_zN, s_zR, s_zI, s_gR, hz9, Option.getD_some, Nat.reduceAdd, Nat.reduceEqDiff, if_false, if_true, and_false, false_and, and_true, true_and, and_self, t175, l175]
  clear t175 l175
  first | refine QQ.k1 18 16 0 ?_ ?_ | refine QQ.k2 18 16 0 ?_ ?_ | refine QQ.x0 18 16 0 ?_ ?_ | refine QQ.x1 18 16 0 ?_ ?_ | refine QQ.x2 18 16 0 ?_ ?_ | refine QQ.s1 18 16 0 ?_ ?_ | refine QQ.s2 18 16 0 ?_ ?_
  · repeat (first | exact h9 | refine CW.N (by rfl) (by decide) ?_ | refine CW.Rr (by rfl) (by decide) (by decide) ?_ | refine CW.I (by rfl) (by rfl) (by decide) (by decide) (by decide) ?_)
  intro w10 h10
  clear hz9 h9
  clear w9
  have hz10 : mSz w10 = 184 := h10.1.1
  -- 84 64
  have t175 : mTg w10 175 = 8 := h10.tg 175 (by decide) (by decide)
  have l175 : mLn w10 175 = 0 := h10.ln 175 (by decide) (by decide)
  have t183 : mTg w10 183 = 50 := h10.tg 183 (by decide) (by decide)
  have l183 : mLn w10 183 = 12 := h10.ln 183 (by decide) (by decide)
  rw [b_84_64] <;> try ((try simp only [s_tgN, s_tgR, s_tgI, s_lnN, s_lnR, s_lnI, s_rN, s_rR, s_rI, s_zN, s_zR, s_zI, s_gR, hz10, Option.getD_some, Nat.reduceAdd, Nat.reduceEqDiff, if_false, if_true, and_false, false_and, and_true, true_and, and_self, t175, l175, t183, l183]); first | done | assumption | omega | decide +kernel)
  try simp only [s_tgN, s_tgR, s_tgI, s_lnN, s_lnR, s_lnI, s_rN, s_rR, s_rI, s_zN, s_zR, s_zI, s_gR, hz10, Option.getD_some, Nat.reduceAdd, Nat.reduceEqDiff, if_false, if_true, and_false, false_and, and_true, true_and, and_self, t175, l175, t183, l183]
  clear t175 l175 t183 l183
  first | refine QQ.k1 20 19 0 ?_ ?_ | refine QQ.k2 20 19 0 ?_ ?_ | refine QQ.x0 20 19 0 ?_ ?_ | refine QQ.x1 20 19 0 ?_ ?_ | refine QQ.x2 20 19 0 ?_ ?_ | refine QQ.s1 20 19 0 ?_ ?_ | refine QQ.s2 20 19 0 ?_ ?_
  · repeat (first | exact h10 | refine CW.N (by rfl) (by decide) ?_ | refine CW.Rr (by rfl) (by decide) (by decide) ?_ | refine CW.I (by rfl) (by rfl) (by decide) (by decide) (by decide) ?_)
  intro w11 h11
  clear hz10 h10
  clear w10
  have hz11 : mSz w11 = 186 := h11.1.1
  -- 84 83
  have t175 : mTg w11 175 = 8 := h11.tg 175 (by decide) (by decide)
  have l175 : mLn w11 175 = 0 := h11.ln 175 (by decide) (by decide)
  rw [b_84_83] <;> try ((try simp only [s_tgN, s_tgR, s_tgI, s_lnN, s_lnR, s_lnI, s_rN, s_rR, s_rI, s_zN, s_zR, s_zI, s_gR, hz11, Option.getD_some, Nat.reduceAdd, Nat.reduceEqDiff, if_false, if_true, and_false, false_and, and_true, true_and, and_self, t175, l175]); first | done | assumption | omega | decide +kernel)
  try simp only [s_tgN, s_tgR, s_tgI, s_lnN, s_lnR, s_lnI, s_rN, s_rR, s_rI, s_zN, s_zR, s_zI, s_gR, hz11, Option.getD_some, Nat.reduceAdd, Nat.reduceEqDiff, if_false, if_true, and_false, false_and, and_true, true_and, and_self, t175, l175]
  clear t175 l175
  first | refine QQ.k1 23 21 0 ?_ ?_ | refine QQ.k2 23 21 0 ?_ ?_ | refine QQ.x0 23 21 0 ?_ ?_ | refine QQ.x1 23 21 0 ?_ ?_ | refine QQ.x2 23 21 0 ?_ ?_ | refine QQ.s1 23 21 0 ?_ ?_ | refine QQ.s2 23 21 0 ?_ ?_
  · repeat (first | exact h11 | refine CW.N (by rfl) (by decide) ?_ | refine CW.Rr (by rfl) (by decide) (by decide) ?_ | refine CW.I (by rfl) (by rfl) (by decide) (by decide) (by decide) ?_)
  intro w12 h12
  clear hz11 h11
  clear w11
  have hz12 : mSz w12 = 189 := h12.1.1
  -- 84 101
  have t175 : mTg w12 175 = 8 := h12.tg 175 (by decide) (by decide)
  have l175 : mLn w12 175 = 0 := h12.ln 175 (by decide) (by decide)
  have t188 : mTg w12 188 = 50 := h12.tg 188 (by decide) (by decide)
  have l188 : mLn w12 188 = 5 := h12.ln 188 (by decide) (by decide)
  rw [b_84_101] <;> try ((try simp only [s_tgN, s_tgR, s_tgI, s_lnN, s_lnR, s_lnI, s_rN, s_rR, s_rI, s_zN, s_zR, s_zI, s_gR, hz12, Option.getD_some, Nat.reduceAdd, Nat.reduceEqDiff, if_false, if_true, and_false, false_and, and_true, true_and, and_self, t175, l175, t188, l188]); first | done | assumption | omega | decide +kernel)
  try simp only [s_tgN, s_tgR, s_tgI, s_lnN, s_lnR, s_lnI, s_rN, s_rR, s_rI, s_zN, s_zR, s_zI, s_gR, hz12, Option.getD_some, Nat.reduceAdd, Nat.reduceEqDiff, if_false, if_true, and_false, false_and, and_true, true_and, and_self, t175, l175, t188, l188]
  clear t175 l175 t188 l188
  first | refine QQ.k1 25 24 0 ?_ ?_ | refine QQ.k2 25 24 0 ?_ ?_ | refine QQ.x0 25 24 0 ?_ ?_ | refine QQ.x1 25 24 0 ?_ ?_ | refine QQ.x2 25 24 0 ?_ ?_ | refine QQ.s1 25 24 0 ?_ ?_ | refine QQ.s2 25 24 0 ?_ ?_
  · repeat (first | exact h12 | refine CW.N (by rfl) (by decide) ?_ | refine CW.Rr (by rfl) (by decide) (by decide) ?_ | refine CW.I (by rfl) (by rfl) (by decide) (by decide) (by decide) ?_)
  intro w13 h13
  clear hz12 h12
  clear w12
  have hz13 : mSz w13 = 191 := h13.1.1
  -- 84 120
  have t175 : mTg w13 175 = 8 := h13.tg 175 (by decide) (by decide)
  have l175 : mLn w13 175 = 0 := h13.ln 175 (by decide) (by decide)
  rw [b_84_120] <;> try ((try simp only [s_tgN, s_tgR, s_tgI, s_lnN, s_lnR, s_lnI, s_rN, s_rR, s_rI, s_zN, s_zR, s_zI, s_gR, hz13, Option.getD_some, Nat.reduceAdd, Nat.reduceEqDiff, if_false, if_true, and_false, false_and, and_true, true_and, and_self, t175, l175]); first | done | assumption | omega | decide +kernel)
  try simp only [s_tgN, s_tgR, s_tgI, s_lnN, s_lnR, s_lnI, s_rN, s_rR, s_rI, s_zN, s_zR, s_zI, s_gR, hz13, Option.getD_some, Nat.reduceAdd, Nat.reduceEqDiff, if_false, if_true, and_false, false_and, and_true, true_and, and_self, t175, l175]
  clear t175 l175
  first | refine QQ.k1 28 26 0 ?_ ?_ | refine QQ.k2 28 26 0 ?_ ?_ | refine QQ.x0 28 26 0 ?_ ?_ | refine QQ.x1 28 26 0 ?_ ?_ | refine QQ.x2 28 26 0 ?_ ?_ | refine QQ.s1 28 26 0 ?_ ?_ | refine QQ.s2 28 26 0 ?_ ?_
  · repeat (first | exact h13 | refine CW.N (by rfl) (by decide) ?_ | refine CW.Rr (by rfl) (by decide) (by decide) ?_ | refine CW.I (by rfl) (by rfl) (by decide) (by decide) (by decide) ?_)
  intro w14 h14
  clear hz13 h13
  clear w13
  have hz14 : mSz w14 = 194 := h14.1.1
  -- 84 140
  have t175 : mTg w14 175 = 8 := h14.tg 175 (by decide) (by decide)
  have l175 : mLn w14 175 = 0 := h14.ln 175 (by decide) (by decide)
  have t193 : mTg w14 193 = 1 := h14.tg 193 (by decide) (by decide)
  have l193 : mLn w14 193 = 0 := h14.ln 193 (by decide) (by decide)
  rw [b_84_140] <;> try ((try simp only [s_tgN, s_tgR, s_tgI, s_lnN, s_lnR, s_lnI, s_rN, s_rR, s_rI, s_zN, s_zR, s_zI, s_gR, hz14, Option.getD_some, Nat.reduceAdd, Nat.reduceEqDiff, if_false, if_true, and_false, false_and, and_true, true_and, and_self, t175, l175, t193, l193]); first | done | assumption | omega | decide +kernel)
  try simp only [s_tgN, s_tgR, s_tgI, s_lnN, s_lnR, s_lnI, s_rN, s_rR, s_rI, s_zN, s_zR, s_zI, s_gR, hz14, Option.getD_some, Nat.reduceAdd, Nat.reduceEqDiff, if_false, if_true, and_false, false_and, and_true, true_and, and_self, t175, l175, t193, l193]
  clear t175 l175 t193 l193
  rw [e_29]
  -- 29 0
  have t193 : mTg w14 193 = 1 := h14.tg 193 (by decide) (by decide)
  have l193 : mLn w14 193 = 0 := h14.ln 193 (by decide) (by decide)
  rw [b_29_0] <;> try ((try simp only [s_tgN, s_tgR, s_tgI, s_lnN, s_lnR, s_lnI, s_rN, s_rR, s_rI, s_zN, s_zR, s_zI, s_gR, hz14, Option.getD_some, Nat.reduceAdd, Nat.reduceEqDiff, if_false, if_true, and_false, false_and, and_true, true_and, and_self, t193, l193]); first | done | assumption | omega | decide +kernel)
  try simp only [s_tgN, s_tgR, s_tgI, s_lnN, s_lnR, s_lnI, s_rN, s_rR, s_rI, s_zN, s_zR, s_zI, s_gR, hz14, Option.getD_some, Nat.reduceAdd, Nat.reduceEqDiff, if_false, if_true, and_false, false_and, and_true, true_and, and_self, t193, l193]
  clear t193 l193
  first | refine QQ.k1 30 28 0 ?_ ?_ | refine QQ.k2 30 28 0 ?_ ?_ | refine QQ.x0 30 28 0 ?_ ?_ | refine QQ.x1 30 28 0 ?_ ?_ | refine QQ.x2 30 28 0 ?_ ?_ | refine QQ.s1 30 28 0 ?_ ?_ | refine QQ.s2 30 28 0 ?_ ?_
  · repeat (first | exact h14 | refine CW.N (by rfl) (by decide) ?_ | refine CW.Rr (by rfl) (by decide) (by decide) ?_ | refine CW.I (by rfl) (by rfl) (by decide) (by decide) (by decide) ?_)
  intro w15 h15
  clear hz14 h14
  clear w14
  have hz15 : mSz w15 = 196 := h15.1.1
  -- 29 22
  have t193 : mTg w15 193 = 1 := h15.tg 193 (by decide) (by decide)
  have l193 : mLn w15 193 = 0 := h15.ln 193 (by decide) (by decide)
  rw [b_29_22] <;> try ((try simp only [s_tgN, s_tgR, s_tgI, s_lnN, s_lnR, s_lnI, s_rN, s_rR, s_rI, s_zN, s_zR, s_zI, s_gR, hz15, Option.getD_some, Nat.reduceAdd, Nat.reduceEqDiff, if_false, if_true, and_false, false_and, and_true, true_and, and_self, t193, l193]); first | done | assumption | omega | decide +kernel)
  try simp only [s_tgN, s_tgR, s_tgI, s_lnN, s_lnR, s_lnI, s_rN, s_rR, s_rI, s_zN, s_zR, s_zI, s_gR, hz15, Option.getD_some, Nat.reduceAdd, Nat.reduceEqDiff, if_false, if_true, and_false, false_and, and_true, true_and, and_self, t193, l193]
  clear t193 l193
  simp only [mThen_ok, Option.toList_some, Option.toList_none, List.cons_append, List.nil_append]
  -- 84 144
  have t175 : mTg w15 175 = 8 := h15.tg 175 (by decide) (by decide)
  have l175 : mLn w15 175 = 0 := h15.ln 175 (by decide) (by decide)
  have t193 : mTg w15 193 = 1 := h15.tg 193 (by decide) (by decide)
  have l193 : mLn w15 193 = 0 := h15.ln 193 (by decide) (by decide)
  rw [b_84_144] <;> try ((try simp only [s_tgN, s_tgR, s_tgI, s_lnN, s_lnR, s_lnI, s_rN, s_rR, s_rI, s_zN, s_zR, s_zI, s_gR, hz15, Option.getD_some, Nat.reduceAdd, Nat.reduceEqDiff, if_false, if_true, and_false, false_and, and_true, true_and, and_self, t175, l175, t193, l193]); first | done | assumption | omega | decide +kernel)
  try simp only [s_tgN, s_tgR, s_tgI, s_lnN, s_lnR, s_lnI, s_rN, s_rR, s_rI, s_zN, s_zR, s_zI, s_gR, hz15, Option.getD_some, Nat.reduceAdd, Nat.reduceEqDiff, if_false, if_true, and_false, false_and, and_true, true_and, and_self, t175, l175, t193, l193]
  clear t175 l175 t193 l193
  first | refine QQ.k1 30 29 0 ?_ ?_ | refine QQ.k2 30 29 0 ?_ ?_ | refine QQ.x0 30 29 0 ?_ ?_ | refine QQ.x1 30 29 0 ?_ ?_ | refine QQ.x2 30 29 0 ?_ ?_ | refine QQ.s1 30 29 0 ?_ ?_ | refine QQ.s2 30 29 0 ?_ ?_
  · repeat (first | exact h15 | refine CW.N (by rfl) (by decide) ?_ | refine CW.Rr (by rfl) (by decide) (by decide) ?_ | refine CW.I (by rfl) (by rfl) (by decide) (by decide) (by decide) ?_)
  intro w16 h16
  clear hz15 h15
  clear w15
  have hz16 : mSz w16 = 196 := h16.1.1
  simp only [mThen_ok, Option.toList_some, Option.toList_none, List.cons_append, List.nil_append]
  -- 95 38
  have t166 : mTg w16 166 = 9 := h16.tg 166 (by decide) (by decide)
  have l166 : mLn w16 166 = 0 := h16.ln 166 (by decide) (by decide)
  have t175 : mTg w16 175 = 8 := h16.tg 175 (by decide) (by decide)
  have l175 : mLn w16 175 = 0 := h16.ln 175 (by decide) (by decide)
  have r1 : mR w16 166 0 = some 167 := h16.rf 1 (by decide)
  have r8 : mR w16 166 1 = some 169 := h16.rf 8 (by decide)
  rw [b_95_38] <;> try ((try simp only [s_tgN, s_tgR, s_tgI, s_lnN, s_lnR, s_lnI, s_rN, s_rR, s_rI, s_zN, s_zR, s_zI, s_gR, hz16, Option.getD_some, Nat.reduceAdd, Nat.reduceEqDiff, if_false, if_true, and_false, false_and, and_true, true_and, and_self, t166, l166, t175, l175, r1, r8]); first | done | assumption | omega | decide +kernel)
  try simp only [s_tgN, s_tgR, s_tgI, s_lnN, s_lnR, s_lnI, s_rN, s_rR, s_rI, s_zN, s_zR, s_zI, s_gR, hz16, Option.getD_some, Nat.reduceAdd, Nat.reduceEqDiff, if_false, if_true, and_false, false_and, and_true, true_and, and_self, t166, l166, t175, l175, r1, r8]
  clear t166 l166 t175 l175 r1 r8
  first | refine QQ.k1 31 30 0 ?_ ?_ | refine QQ.k2 31 30 0 ?_ ?_ | refine QQ.x0 31 30 0 ?_ ?_ | refine QQ.x1 31 30 0 ?_ ?_ | refine QQ.x2 31 30 0 ?_ ?_ | refine QQ.s1 31 30 0 ?_ ?_ | refine QQ.s2 31 30 0 ?_ ?_
  · repeat (first | exact h16 | refine CW.N (by rfl) (by decide) ?_ | refine CW.Rr (by rfl) (by decide) (by decide) ?_ | refine CW.I (by rfl) (by rfl) (by decide) (by decide) (by decide) ?_)
  intro w17 h17
  clear hz16 h16
  clear w16
  have hz17 : mSz w17 = 197 := h17.1.1
  rw [e_84]
  -- 84 0
  have t196 : mTg w17 196 = 8 := h17.tg 196 (by decide) (by decide)
  have l196 : mLn w17 196 = 0 := h17.ln 196 (by decide) (by decide)
  rw [b_84_0] <;> try ((try simp only [s_tgN, s_tgR, s_tgI, s_lnN, s_lnR, s_lnI, s_rN, s_rR, s_rI, s_zN, s_zR, s_zI, s_gR, hz17, Option.getD_some, Nat.reduceAdd, Nat.reduceEqDiff, if_false, if_true, and_false, false_and, and_true, true_and, and_self, t196, l196]); first | done | assumption | omega | decide +kernel)
  try simp only [s_tgN, s_tgR, s_tgI, s_lnN, s_lnR, s_lnI, s_rN, s_rR, s_rI, s_zN, s_zR, s_zI, s_gR, hz17, Option.getD_some, Nat.reduceAdd, Nat.reduceEqDiff, if_false, if_true, and_false, false_and, and_true, true_and, and_self, t196, l196]
  clear t196 l196
  first | refine QQ.k1 34 32 0 ?_ ?_ | refine QQ.k2 34 32 0 ?_ ?_ | refine QQ.x0 34 32 0 ?_ ?_ | refine QQ.x1 34 32 0 ?_ ?_ | refine QQ.x2 34 32 0 ?_ ?_ | refine QQ.s1 34 32 0 ?_ ?_ | refine QQ.s2 34 32 0 ?_ ?_
  · repeat (first | exact h17 | refine CW.N (by rfl) (by decide) ?_ | refine CW.Rr (by rfl) (by decide) (by decide) ?_ | refine CW.I (by rfl) (by rfl) (by decide) (by decide) (by decide) ?_)
  intro w18 h18
  clear hz17 h17
  clear w17
  have hz18 : mSz w18 = 200 := h18.1.1
  -- 84 24
  have t196 : mTg w18 196 = 8 := h18.tg 196 (by decide) (by decide)
  have l196 : mLn w18 196 = 0 := h18.ln 196 (by decide) (by decide)
  have t199 : mTg w18 199 = 50 := h18.tg 199 (by decide) (by decide)
  have l199 : mLn w18 199 = 10 := h18.ln 199 (by decide) (by decide)
  rw [b_84_24] <;> try ((try simp only [s_tgN, s_tgR, s_tgI, s_lnN, s_lnR, s_lnI, s_rN, s_rR, s_rI, s_zN, s_zR, s_zI, s_gR, hz18, Option.getD_some, Nat.reduceAdd, Nat.reduceEqDiff, if_false, if_true, and_false, false_and, and_true, true_and, and_self, t196, l196, t199, l199]); first | done | assumption | omega | decide +kernel)
  try simp only [s_tgN, s_tgR, s_tgI, s_lnN, s_lnR, s_lnI, s_rN, s_rR, s_rI, s_zN, s_zR, s_zI, s_gR, hz18, Option.getD_some, Nat.reduceAdd, Nat.reduceEqDiff, if_false, if_true, and_false, false_and, and_true, true_and, and_self, t196, l196, t199, l199]
  clear t196 l196 t199 l199
  first | refine QQ.k1 36 35 0 ?_ ?_ | refine QQ.k2 36 35 0 ?_ ?_ | refine QQ.x0 36 35 0 ?_ ?_ | refine QQ.x1 36 35 0 ?_ ?_ | refine QQ.x2 36 35 0 ?_ ?_ | refine QQ.s1 36 35 0 ?_ ?_ | refine QQ.s2 36 35 0 ?_ ?_
  · repeat (first | exact h18 | refine CW.N (by rfl) (by decide) ?_ | refine CW.Rr (by rfl) (by decide) (by decide) ?_ | refine CW.I (by rfl) (by rfl) (by decide) (by decide) (by decide) ?_)
  intro w19 h19
  clear hz18 h18
  clear w18
  have hz19 : mSz w19 = 202 := h19.1.1
  -- 84 43
  have t196 : mTg w19 196 = 8 := h19.tg 196 (by decide) (by decide)
  have l196 : mLn w19 196 = 0 := h19.ln 196 (by decide) (by decide)
  rw [b_84_43] <;> try ((try simp only [s_tgN, s_tgR, s_tgI, s_lnN, s_lnR, s_lnI, s_rN, s_rR, s_rI, s_zN, s_zR, s_zI, s_gR, hz19, Option.getD_some, Nat.reduceAdd, Nat.reduceEqDiff, if_false, if_true, and_false, false_and, and_true, true_and, and_self, t196, l196]); first | done | assumption | omega | decide +kernel)
  try simp only [s_tgN, s_tgR, s_tgI, s_lnN, s_lnR, s_lnI, s_rN, s_rR, s_rI, s_zN, s_zR, s_zI, s_gR, hz19, Option.getD_some, Nat.reduceAdd, Nat.reduceEqDiff, if_false, if_true, and_false, false_and, and_true, true_and, and_self, t196, l196]
  clear t196 l196
  first | refine QQ.k1 39 37 0 ?_ ?_ | refine QQ.k2 39 37 0 ?_ ?_ | refine QQ.x0 39 37 0 ?_ ?_ | refine QQ.x1 39 37 0 ?_ ?_ | refine QQ.x2 39 37 0 ?_ ?_ | refine QQ.s1 39 37 0 ?_ ?_ | refine QQ.s2 39 37 0 ?_ ?_
  · repeat (first | exact h19 | refine CW.N (by rfl) (by decide) ?_ | refine CW.Rr (by rfl) (by decide) (by decide) ?_ | refine CW.I (by rfl) (by rfl) (by decide) (by decide) (by decide) ?_)
  intro w20 h20
  clear hz19 h19
  clear w19
  have hz20 : mSz w20 = 205 := h20.1.1
  -- 84 64
  have t196 : mTg w20 196 = 8 := h20.tg 196 (by decide) (by decide)
  have l196 : mLn w20 196 = 0 := h20.ln 196 (by decide) (by decide)
  have t204 : mTg w20 204 = 50 := h20.tg 204 (by decide) (by decide)
  have l204 : mLn w20 204 = 12 := h20.ln 204 (by decide) (by decide)
  rw [b_84_64] <;> try ((try simp only [s_tgN, s_tgR, s_tgI, s_lnN, s_lnR, s_lnI, s_rN, s_rR, s_rI, s_zN, s_zR, s_zI, s_gR, hz20, Option.getD_some, Nat.reduceAdd, Nat.reduceEqDiff, if_false, if_true, and_false, false_and, and_true, true_and, and_self, t196, l196, t204, l204]); first | done | assumption | omega | decide +kernel)
  try simp only [s_tgN, s_tgR, s_tgI, s_lnN, s_lnR, s_lnI, s_rN, s_rR, s_rI, s_zN, s_zR, s_zI, s_gR, hz20, Option.getD_some, Nat.reduceAdd, Nat.reduceEqDiff, if_false, if_true, and_false, false_and, and_true, true_and, and_self, t196, l196, t204, l204]
  clear t196 l196 t204 l204
  first | refine QQ.k1 41 40 0 ?_ ?_ | refine QQ.k2 41 40 0 ?_ ?_ | refine QQ.x0 41 40 0 ?_ ?_ | refine QQ.x1 41 40 0 ?_ ?_ | refine QQ.x2 41 40 0 ?_ ?_ | refine QQ.s1 41 40 0 ?_ ?_ | refine QQ.s2 41 40 0 ?_ ?_
  · repeat (first | exact h20 | refine CW.N (by rfl) (by decide) ?_ | refine CW.Rr (by rfl) (by decide) (by decide) ?_ | refine CW.I (by rfl) (by rfl) (by decide) (by decide) (by decide) ?_)
  intro w21 h21
  clear hz20 h20
  clear w20
  have hz21 : mSz w21 = 207 := h21.1.1
  -- 84 83
  have t196 : mTg w21 196 = 8 := h21.tg 196 (by decide) (by decide)
  have l196 : mLn w21 196 = 0 := h21.ln 196 (by decide) (by decide)
  rw [b_84_83] <;> try ((try simp only [s_tgN, s_tgR, s_tgI, s_lnN, s_lnR, s_lnI, s_rN, s_rR, s_rI, s_zN, s_zR, s_zI, s_gR, hz21, Option.getD_some, Nat.reduceAdd, Nat.reduceEqDiff, if_false, if_true, and_false, false_and, and_true, true_and, and_self, t196, l196]); first | done | assumption | omega | decide +kernel)
  try simp only [s_tgN, s_tgR, s_tgI, s_lnN, s_lnR, s_lnI, s_rN, s_rR, s_rI, s_zN, s_zR, s_zI, s_gR, hz21, Option.getD_some, Nat.reduceAdd, Nat.reduceEqDiff, if_false, if_true, and_false, false_and, and_true, true_and, and_self, t196, l196]
  clear t196 l196
  first | refine QQ.k1 44 42 0 ?_ ?_ | refine QQ.k2 44 42 0 ?_ ?_ | refine QQ.x0 44 42 0 ?_ ?_ | refine QQ.x1 44 42 0 ?_ ?_ | refine QQ.x2 44 42 0 ?_ ?_ | refine QQ.s1 44 42 0 ?_ ?_ | refine QQ.s2 44 42 0 ?_ ?_
  · repeat (first | exact h21 | refine CW.N (by rfl) (by decide) ?_ | refine CW.Rr (by rfl) (by decide) (by decide) ?_ | refine CW.I (by rfl) (by rfl) (by decide) (by decide) (by decide) ?_)
  intro w22 h22
  clear hz21 h21
  clear w21
  have hz22 : mSz w22 = 210 := h22.1.1
  -- 84 101
  have t196 : mTg w22 196 = 8 := h22.tg 196 (by decide) (by decide)
  have l196 : mLn w22 196 = 0 := h22.ln 196 (by decide) (by decide)
  have t209 : mTg w22 209 = 50 := h22.tg 209 (by decide) (by decide)
  have l209 : mLn w22 209 = 5 := h22.ln 209 (by decide) (by decide)
  rw [b_84_101] <;> try ((try simp only [s_tgN, s_tgR, s_tgI, s_lnN, s_lnR, s_lnI, s_rN, s_rR, s_rI, s_zN, s_zR, s_zI, s_gR, hz22, Option.getD_some, Nat.reduceAdd, Nat.reduceEqDiff, if_false, if_true, and_false, false_and, and_true, true_and, and_self, t196, l196, t209, l209]); first | done | assumption | omega | decide +kernel)
  try simp only [s_tgN, s_tgR, s_tgI, s_lnN, s_lnR, s_lnI, s_rN, s_rR, s_rI, s_zN, s_zR, s_zI, s_gR, hz22, Option.getD_some, Nat.reduceAdd, Nat.reduceEqDiff, if_false, if_true, and_false, false_and, and_true, true_and, and_self, t196, l196, t209, l209]
  clear t196 l196 t209 l209
  first | refine QQ.k1 46 45 0 ?_ ?_ | refine QQ.k2 46 45 0 ?_ ?_ | refine QQ.x0 46 45 0 ?_ ?_ | refine QQ.x1 46 45 0 ?_ ?_ | refine QQ.x2 46 45 0 ?_ ?_ | refine QQ.s1 46 45 0 ?_ ?_ | refine QQ.s2 46 45 0 ?_ ?_
  · repeat (first | exact h22 | refine CW.N (by rfl) (by decide) ?_ | refine CW.Rr (by rfl) (by decide) (by decide) ?_ | refine CW.I (by rfl) (by rfl) (by decide) (by decide) (by decide) ?_)
  intro w23 h23
  clear hz22 h22
  clear w22
  have hz23 : mSz w23 = 212 := h23.1.1
  -- 84 120
  have t196 : mTg w23 196 = 8 := h23.tg 196 (by decide) (by decide)
  have l196 : mLn w23 196 = 0 := h23.ln 196 (by decide) (by decide)
  rw [b_84_120] <;> try ((try simp only [s_tgN, s_tgR, s_tgI, s_lnN, s_lnR, s_lnI, s_rN, s_rR, s_rI, s_zN, s_zR, s_zI, s_gR, hz23, Option.getD_some, Nat.reduceAdd, Nat.reduceEqDiff, if_false, if_true, and_false, false_and, and_true, true_and, and_self, t196, l196]); first | done | assumption | omega | decide +kernel)
  try simp only [s_tgN, s_tgR, s_tgI, s_lnN, s_lnR, s_lnI, s_rN, s_rR, s_rI, s_zN, s_zR, s_zI, s_gR, hz23, Option.getD_some, Nat.reduceAdd, Nat.reduceEqDiff, if_false, if_true, and_false, false_and, and_true, true_and, and_self, t196, l196]
  clear t196 l196
  first | refine QQ.k1 49 47 0 ?_ ?_ | refine QQ.k2 49 47 0 ?_ ?_ | refine QQ.x0 49 47 0 ?_ ?_ | refine QQ.x1 49 47 0 ?_ ?_ | refine QQ.x2 49 47 0 ?_ ?_ | refine QQ.s1 49 47 0 ?_ ?_ | refine QQ.s2 49 47 0 ?_ ?_
  · repeat (first | exact h23 | refine CW.N (by rfl) (by decide) ?_ | refine CW.Rr (by rfl) (by decide) (by decide) ?_ | refine CW.I (by rfl) (by rfl) (by decide) (by decide) (by decide) ?_)
  intro w24 h24
  clear hz23 h23
  clear w23
  have hz24 : mSz w24 = 215 := h24.1.1
  -- 84 140
  have t196 : mTg w24 196 = 8 := h24.tg 196 (by decide) (by decide)
  have l196 : mLn w24 196 = 0 := h24.ln 196 (by decide) (by decide)
  have t214 : mTg w24 214 = 1 := h24.tg 214 (by decide) (by decide)
  have l214 : mLn w24 214 = 0 := h24.ln 214 (by decide) (by decide)
  rw [b_84_140] <;> try ((try simp only [s_tgN, s_tgR, s_tgI, s_lnN, s_lnR, s_lnI, s_rN, s_rR, s_rI, s_zN, s_zR, s_zI, s_gR, hz24, Option.getD_some, Nat.reduceAdd, Nat.reduceEqDiff, if_false, if_true, and_false, false_and, and_true, true_and, and_self, t196, l196, t214, l214]); first | done | assumption | omega | decide +kernel)
  try simp only [s_tgN, s_tgR, s_tgI, s_lnN, s_lnR, s_lnI, s_rN, s_rR, s_rI, s_zN, s_zR, s_zI, s_gR, hz24, Option.getD_some, Nat.reduceAdd, Nat.reduceEqDiff, if_false, if_true, and_false, false_and, and_true, true_and, and_self, t196, l196, t214, l214]
  clear t196 l196 t214 l214
  rw [e_29]
  -- 29 0
  have t214 : mTg w24 214 = 1 := h24.tg 214 (by decide) (by decide)
  have l214 : mLn w24 214 = 0 := h24.ln 214 (by decide) (by decide)
  rw [b_29_0] <;> try ((try simp only [s_tgN, s_tgR, s_tgI, s_lnN, s_lnR, s_lnI, s_rN, s_rR, s_rI, s_zN, s_zR, s_zI, s_gR, hz24, Option.getD_some, Nat.reduceAdd, Nat.reduceEqDiff, if_false, if_true, and_false, false_and, and_true, true_and, and_self, t214, l214]); first | done | assumption | omega | decide +kernel)
  try simp only [s_tgN, s_tgR, s_tgI, s_lnN, s_lnR, s_lnI, s_rN, s_rR, s_rI, s_zN, s_zR, s_zI, s_gR, hz24, Option.getD_some, Nat.reduceAdd, Nat.reduceEqDiff, if_false, if_true, and_false, false_and, and_true, true_and, and_self, t214, l214]
  clear t214 l214
  first | refine QQ.k1 51 49 0 ?_ ?_ | refine QQ.k2 51 49 0 ?_ ?_ | refine QQ.x0 51 49 0 ?_ ?_ | refine QQ.x1 51 49 0 ?_ ?_ | refine QQ.x2 51 49 0 ?_ ?_ | refine QQ.s1 51 49 0 ?_ ?_ | refine QQ.s2 51 49 0 ?_ ?_
  · repeat (first | exact h24 | refine CW.N (by rfl) (by decide) ?_ | refine CW.Rr (by rfl) (by decide) (by decide) ?_ | refine CW.I (by rfl) (by rfl) (by decide) (by decide) (by decide) ?_)
  intro w25 h25
  clear hz24 h24
  clear w24
  have hz25 : mSz w25 = 217 := h25.1.1
  -- 29 22
  have t214 : mTg w25 214 = 1 := h25.tg 214 (by decide) (by decide)
  have l214 : mLn w25 214 = 0 := h25.ln 214 (by decide) (by decide)
  rw [b_29_22] <;> try ((try simp only [s_tgN, s_tgR, s_tgI, s_lnN, s_lnR, s_lnI, s_rN, s_rR, s_rI, s_zN, s_zR, s_zI, s_gR, hz25, Option.getD_some, Nat.reduceAdd, Nat.reduceEqDiff, if_false, if_true, and_false, false_and, and_true, true_and, and_self, t214, l214]); first | done | assumption | omega | decide +kernel)
  try simp only [s_tgN, s_tgR, s_tgI, s_lnN, s_lnR, s_lnI, s_rN, s_rR, s_rI, s_zN, s_zR, s_zI, s_gR, hz25, Option.getD_some, Nat.reduceAdd, Nat.reduceEqDiff, if_false, if_true, and_false, false_and, and_true, true_and, and_self, t214, l214]
  clear t214 l214
  simp only [mThen_ok, Option.toList_some, Option.toList_none, List.cons_append, List.nil_append]
  -- 84 144
  have t196 : mTg w25 196 = 8 := h25.tg 196 (by decide) (by decide)
  have l196 : mLn w25 196 = 0 := h25.ln 196 (by decide) (by decide)
  have t214 : mTg w25 214 = 1 := h25.tg 214 (by decide) (by decide)
  have l214 : mLn w25 214 = 0 := h25.ln 214 (by decide) (by decide)
  rw [b_84_144] <;> try ((try simp only [s_tgN, s_tgR, s_tgI, s_lnN, s_lnR, s_lnI, s_rN, s_rR, s_rI, s_zN, s_zR, s_zI, s_gR, hz25, Option.getD_some, Nat.reduceAdd, Nat.reduceEqDiff, if_false, if_true, and_false, false_and, and_true, true_and, and_self, t196, l196, t214, l214]); first | done | assumption | omega | decide +kernel)
  try simp only [s_tgN, s_tgR, s_tgI, s_lnN, s_lnR, s_lnI, s_rN, s_rR, s_rI, s_zN, s_zR, s_zI, s_gR, hz25, Option.getD_some, Nat.reduceAdd, Nat.reduceEqDiff, if_false, if_true, and_false, false_and, and_true, true_and, and_self, t196, l196, t214, l214]
  clear t196 l196 t214 l214
  first | refine QQ.k1 51 50 0 ?_ ?_ | refine QQ.k2 51 50 0 ?_ ?_ | refine QQ.x0 51 50 0 ?_ ?_ | refine QQ.x1 51 50 0 ?_ ?_ | refine QQ.x2 51 50 0 ?_ ?_ | refine QQ.s1 51 50 0 ?_ ?_ | refine QQ.s2 51 50 0 ?_ ?_
  · repeat (first | exact h25 | refine CW.N (by rfl) (by decide) ?_ | refine CW.Rr (by rfl) (by decide) (by decide) ?_ | refine CW.I (by rfl) (by rfl) (by decide) (by decide) (by decide) ?_)
  intro w26 h26
  clear hz25 h25
  clear w25
  have hz26 : mSz w26 = 217 := h26.1.1
  simp only [mThen_ok, Option.toList_some, Option.toList_none, List.cons_append, List.nil_append]
  -- 95 49
  have t166 : mTg w26 166 = 9 := h26.tg 166 (by decide) (by decide)
  have l166 : mLn w26 166 = 0 := h26.ln 166 (by decide) (by decide)
  have t196 : mTg w26 196 = 8 := h26.tg 196 (by decide) (by decide)
  have l196 : mLn w26 196 = 0 := h26.ln 196 (by decide) (by decide)
  have r1 : mR w26 166 0 = some 167 := h26.rf 1 (by decide)
  have r8 : mR w26 166 1 = some 169 := h26.rf 8 (by decide)
  have r29 : mR w26 166 2 = some 175 := h26.rf 29 (by decide)
  have r49 : mR w26 196 17 = some 214 := h26.rf 49 (by decide)
  rw [b_95_49] <;> try ((try simp only [s_tgN, s_tgR, s_tgI, s_lnN, s_lnR, s_lnI, s_rN, s_rR, s_rI, s_zN, s_zR, s_zI, s_gR, hz26, Option.getD_some, Nat.reduceAdd, Nat.reduceEqDiff, if_false, if_true, and_false, false_and, and_true, true_and, and_self, t166, l166, t196, l196, r1, r8, r29, r49]); first | done | assumption | omega | decide +kernel)
  try simp only [s_tgN, s_tgR, s_tgI, s_lnN, s_lnR, s_lnI, s_rN, s_rR, s_rI, s_zN, s_zR, s_zI, s_gR, hz26, Option.getD_some, Nat.reduceAdd, Nat.reduceEqDiff, if_false, if_true, and_false, false_and, and_true, true_and, and_self, t166, l166, t196, l196, r1, r8, r29, r49]
  clear t166 l166 t196 l196 r1 r8 r29 r49
  first | refine QQ.k1 52 51 0 ?_ ?_ | refine QQ.k2 52 51 0 ?_ ?_ | refine QQ.x0 52 51 0 ?_ ?_ | refine QQ.x1 52 51 0 ?_ ?_ | refine QQ.x2 52 51 0 ?_ ?_ | refine QQ.s1 52 51 0 ?_ ?_ | refine QQ.s2 52 51 0 ?_ ?_
  · repeat (first | exact h26 | refine CW.N (by rfl) (by decide) ?_ | refine CW.Rr (by rfl) (by decide) (by decide) ?_ | refine CW.I (by rfl) (by rfl) (by decide) (by decide) (by decide) ?_)
  intro w27 h27
  clear hz26 h26
  clear w26
  have hz27 : mSz w27 = 218 := h27.1.1
  rw [e_33]
  -- 33 0
  have t169 : mTg w27 169 = 7 := h27.tg 169 (by decide) (by decide)
  have l169 : mLn w27 169 = 0 := h27.ln 169 (by decide) (by decide)
  have t214 : mTg w27 214 = 1 := h27.tg 214 (by decide) (by decide)
  have l214 : mLn w27 214 = 0 := h27.ln 214 (by decide) (by decide)
  have t217 : mTg w27 217 = 2 := h27.tg 217 (by decide) (by decide)
  have l217 : mLn w27 217 = 0 := h27.ln 217 (by decide) (by decide)
  rw [b_33_0] <;> try ((try simp only [s_tgN, s_tgR, s_tgI, s_lnN, s_lnR, s_lnI, s_rN, s_rR, s_rI, s_zN, s_zR, s_zI, s_gR, hz27, Option.getD_some, Nat.reduceAdd, Nat.reduceEqDiff, if_false, if_true, and_false, false_and, and_true, true_and, and_self, t169, l169, t214, l214, t217, l217]); first | done | assumption | omega | decide +kernel)
  try simp only [s_tgN, s_tgR, s_tgI, s_lnN, s_lnR, s_lnI, s_rN, s_rR, s_rI, s_zN, s_zR, s_zI, s_gR, hz27, Option.getD_some, Nat.reduceAdd, Nat.reduceEqDiff, if_false, if_true, and_false, false_and, and_true, true_and, and_self, t169, l169, t214, l214, t217, l217]
  clear t169 l169 t214 l214 t217 l217
  first | refine QQ.k1 52 53 0 ?_ ?_ | refine QQ.k2 52 53 0 ?_ ?_ | refine QQ.x0 52 53 0 ?_ ?_ | refine QQ.x1 52 53 0 ?_ ?_ | refine QQ.x2 52 53 0 ?_ ?_ | refine QQ.s1 52 53 0 ?_ ?_ | refine QQ.s2 52 53 0 ?_ ?_
  · repeat (first | exact h27 | refine CW.N (by rfl) (by decide) ?_ | refine CW.Rr (by rfl) (by decide) (by decide) ?_ | refine CW.I (by rfl) (by rfl) (by decide) (by decide) (by decide) ?_)
  intro w28 h28
  clear hz27 h27
  clear w27
  have hz28 : mSz w28 = 218 := h28.1.1
  simp only [mThen_ok, Option.toList_some, Option.toList_none, List.cons_append, List.nil_append]
  -- 95 71
  have t166 : mTg w28 166 = 9 := h28.tg 166 (by decide) (by decide)
  have l166 : mLn w28 166 = 0 := h28.ln 166 (by decide) (by decide)
  have t196 : mTg w28 196 = 8 := h28.tg 196 (by decide) (by decide)
  have l196 : mLn w28 196 = 0 := h28.ln 196 (by decide) (by decide)
  have t217 : mTg w28 217 = 2 := h28.tg 217 (by decide) (by decide)
  have l217 : mLn w28 217 = 0 := h28.ln 217 (by decide) (by decide)
  have r1 : mR w28 166 0 = some 167 := h28.rf 1 (by decide)
  have r8 : mR w28 166 1 = some 169 := h28.rf 8 (by decide)
  have r29 : mR w28 166 2 = some 175 := h28.rf 29 (by decide)
  have r49 : mR w28 196 17 = some 214 := h28.rf 49 (by decide)
  have r50 : mR w28 166 3 = some 196 := h28.rf 50 (by decide)
  rw [b_95_71] <;> try ((try simp only [s_tgN, s_tgR, s_tgI, s_lnN, s_lnR, s_lnI, s_rN, s_rR, s_rI, s_zN, s_zR, s_zI, s_gR, hz28, Option.getD_some, Nat.reduceAdd, Nat.reduceEqDiff, if_false, if_true, and_false, false_and, and_true, true_and, and_self, t166, l166, t196, l196, t217, l217, r1, r8, r29, r49, r50]); first | done | assumption | omega | decide +kernel)
  try simp only [s_tgN, s_tgR, s_tgI, s_lnN, s_lnR, s_lnI, s_rN, s_rR, s_rI, s_zN, s_zR, s_zI, s_gR, hz28, Option.getD_some, Nat.reduceAdd, Nat.reduceEqDiff, if_false, if_true, and_false, false_and, and_true, true_and, and_self, t166, l166, t196, l196, t217, l217, r1, r8, r29, r49, r50]
  clear t166 l166 t196 l196 t217 l217 r1 r8 r29 r49 r50
  first | refine QQ.k1 53 54 0 ?_ ?_ | refine QQ.k2 53 54 0 ?_ ?_ | refine QQ.x0 53 54 0 ?_ ?_ | refine QQ.x1 53 54 0 ?_ ?_ | refine QQ.x2 53 54 0 ?_ ?_ | refine QQ.s1 53 54 0 ?_ ?_ | refine QQ.s2 53 54 0 ?_ ?_
  · repeat (first | exact h28 | refine CW.N (by rfl) (by decide) ?_ | refine CW.Rr (by rfl) (by decide) (by decide) ?_ | refine CW.I (by rfl) (by rfl) (by decide) (by decide) (by decide) ?_)
  intro w29 h29
  clear hz28 h28
  clear w28
  have hz29 : mSz w29 = 219 := h29.1.1
  rw [e_61]
  -- 61 0
  have t169 : mTg w29 169 = 7 := h29.tg 169 (by decide) (by decide)
  have l169 : mLn w29 169 = 0 := h29.ln 169 (by decide) (by decide)
  have t196 : mTg w29 196 = 8 := h29.tg 196 (by decide) (by decide)
  have l196 : mLn w29 196 = 0 := h29.ln 196 (by decide) (by decide)
  have t218 : mTg w29 218 = 6 := h29.tg 218 (by decide) (by decide)
  have l218 : mLn w29 218 = 0 := h29.ln 218 (by decide) (by decide)
  have r49 : mR w29 196 17 = some 214 := h29.rf 49 (by decide)
  rw [b_61_0] <;> try ((try simp only [s_tgN, s_tgR, s_tgI, s_lnN, s_lnR, s_lnI, s_rN, s_rR, s_rI, s_zN, s_zR, s_zI, s_gR, hz29, Option.getD_some, Nat.reduceAdd, Nat.reduceEqDiff, if_false, if_true, and_false, false_and, and_true, true_and, and_self, t169, l169, t196, l196, t218, l218, r49]); first | done | assumption | omega | decide +kernel)
  try simp only [s_tgN, s_tgR, s_tgI, s_lnN, s_lnR, s_lnI, s_rN, s_rR, s_rI, s_zN, s_zR, s_zI, s_gR, hz29, Option.getD_some, Nat.reduceAdd, Nat.reduceEqDiff, if_false, if_true, and_false, false_and, and_true, true_and, and_self, t169, l169, t196, l196, t218, l218, r49]
  clear t169 l169 t196 l196 t218 l218 r49
  first | refine QQ.k1 54 57 0 ?_ ?_ | refine QQ.k2 54 57 0 ?_ ?_ | refine QQ.x0 54 57 0 ?_ ?_ | refine QQ.x1 54 57 0 ?_ ?_ | refine QQ.x2 54 57 0 ?_ ?_ | refine QQ.s1 54 57 0 ?_ ?_ | refine QQ.s2 54 57 0 ?_ ?_
  · repeat (first | exact h29 | refine CW.N (by rfl) (by decide) ?_ | refine CW.Rr (by rfl) (by decide) (by decide) ?_ | refine CW.I (by rfl) (by rfl) (by decide) (by decide) (by decide) ?_)
  intro w30 h30
  clear hz29 h29
  clear w29
  have hz30 : mSz w30 = 220 := h30.1.1
  simp only [mThen_ok, Option.toList_some, Option.toList_none, List.cons_append, List.nil_append]
  -- 95 90
  have t166 : mTg w30 166 = 9 := h30.tg 166 (by decide) (by decide)
  have l166 : mLn w30 166 = 0 := h30.ln 166 (by decide) (by decide)
  have t196 : mTg w30 196 = 8 := h30.tg 196 (by decide) (by decide)
  have l196 : mLn w30 196 = 0 := h30.ln 196 (by decide) (by decide)
  have t218 : mTg w30 218 = 6 := h30.tg 218 (by decide) (by decide)
  have l218 : mLn w30 218 = 0 := h30.ln 218 (by decide) (by decide)
  have r1 : mR w30 166 0 = some 167 := h30.rf 1 (by decide)
  have r8 : mR w30 166 1 = some 169 := h30.rf 8 (by decide)
  have r29 : mR w30 166 2 = some 175 := h30.rf 29 (by decide)
  have r49 : mR w30 196 17 = some 214 := h30.rf 49 (by decide)
  have r50 : mR w30 166 3 = some 196 := h30.rf 50 (by decide)
  have r53 : mR w30 166 4 = some 217 := h30.rf 53 (by decide)
  rw [b_95_90] <;> try ((try simp only [s_tgN, s_tgR, s_tgI, s_lnN, s_lnR, s_lnI, s_rN, s_rR, s_rI, s_zN, s_zR, s_zI, s_gR, hz30, Option.getD_some, Nat.reduceAdd, Nat.reduceEqDiff, if_false, if_true, and_false, false_and, and_true, true_and, and_self, t166, l166, t196, l196, t218, l218, r1, r8, r29, r49, r50, r53]); first | done | assumption | omega | decide +kernel)
  try simp only [s_tgN, s_tgR, s_tgI, s_lnN, s_lnR, s_lnI, s_rN, s_rR, s_rI, s_zN, s_zR, s_zI, s_gR, hz30, Option.getD_some, Nat.reduceAdd, Nat.reduceEqDiff, if_false, if_true, and_false, false_and, and_true, true_and, and_self, t166, l166, t196, l196, t218, l218, r1, r8, r29, r49, r50, r53]
  clear t166 l166 t196 l196 t218 l218 r1 r8 r29 r49 r50 r53
  first | refine QQ.k1 55 58 0 ?_ ?_ | refine QQ.k2 55 58 0 ?_ ?_ | refine QQ.x0 55 58 0 ?_ ?_ | refine QQ.x1 55 58 0 ?_ ?_ | refine QQ.x2 55 58 0 ?_ ?_ | refine QQ.s1 55 58 0 ?_ ?_ | refine QQ.s2 55 58 0 ?_ ?_
  · repeat (first | exact h30 | refine CW.N (by rfl) (by decide) ?_ | refine CW.Rr (by rfl) (by decide) (by decide) ?_ | refine CW.I (by rfl) (by rfl) (by decide) (by decide) (by decide) ?_)
  intro w31 h31
  clear hz30 h30
  clear w30
  have hz31 : mSz w31 = 221 := h31.1.1
  rw [e_0]
  -- 0 0
  have t175 : mTg w31 175 = 8 := h31.tg 175 (by decide) (by decide)
  have l175 : mLn w31 175 = 0 := h31.ln 175 (by decide) (by decide)
  have t220 : mTg w31 220 = 0 := h31.tg 220 (by decide) (by decide)
  have l220 : mLn w31 220 = 0 := h31.ln 220 (by decide) (by decide)
  rw [b_0_0] <;> try ((try simp only [s_tgN, s_tgR, s_tgI, s_lnN, s_lnR, s_lnI, s_rN, s_rR, s_rI, s_zN, s_zR, s_zI, s_gR, hz31, Option.getD_some, Nat.reduceAdd, Nat.reduceEqDiff, if_false, if_true, and_false, false_and, and_true, true_and, and_self, t175, l175, t220, l220]); first | done | assumption | omega | decide +kernel)
  try simp only [s_tgN, s_tgR, s_tgI, s_lnN, s_lnR, s_lnI, s_rN, s_rR, s_rI, s_zN, s_zR, s_zI, s_gR, hz31, Option.getD_some, Nat.reduceAdd, Nat.reduceEqDiff, if_false, if_true, and_false, false_and, and_true, true_and, and_self, t175, l175, t220, l220]
  clear t175 l175 t220 l220
  first | refine QQ.k1 56 58 0 ?_ ?_ | refine QQ.k2 56 58 0 ?_ ?_ | refine QQ.x0 56 58 0 ?_ ?_ | refine QQ.x1 56 58 0 ?_ ?_ | refine QQ.x2 56 58 0 ?_ ?_ | refine QQ.s1 56 58 0 ?_ ?_ | refine QQ.s2 56 58 0 ?_ ?_
  · repeat (first | exact h31 | refine CW.N (by rfl) (by decide) ?_ | refine CW.Rr (by rfl) (by decide) (by decide) ?_ | refine CW.I (by rfl) (by rfl) (by decide) (by decide) (by decide) ?_)
  intro w32 h32
  clear hz31 h31
  clear w31
  have hz32 : mSz w32 = 222 := h32.1.1
  rw [e_47]
  -- 47 0
  have t221 : mTg w32 221 = 3 := h32.tg 221 (by decide) (by decide)
  have l221 : mLn w32 221 = 0 := h32.ln 221 (by decide) (by decide)
  rw [b_47_0] <;> try ((try simp only [s_tgN, s_tgR, s_tgI, s_lnN, s_lnR, s_lnI, s_rN, s_rR, s_rI, s_zN, s_zR, s_zI, s_gR, hz32, Option.getD_some, Nat.reduceAdd, Nat.reduceEqDiff, if_false, if_true, and_false, false_and, and_true, true_and, and_self, t221, l221]); first | done | assumption | omega | decide +kernel)
  try simp only [s_tgN, s_tgR, s_tgI, s_lnN, s_lnR, s_lnI, s_rN, s_rR, s_rI, s_zN, s_zR, s_zI, s_gR, hz32, Option.getD_some, Nat.reduceAdd, Nat.reduceEqDiff, if_false, if_true, and_false, false_and, and_true, true_and, and_self, t221, l221]
  clear t221 l221
  first | refine QQ.k1 57 59 0 ?_ ?_ | refine QQ.k2 57 59 0 ?_ ?_ | refine QQ.x0 57 59 0 ?_ ?_ | refine QQ.x1 57 59 0 ?_ ?_ | refine QQ.x2 57 59 0 ?_ ?_ | refine QQ.s1 57 59 0 ?_ ?_ | refine QQ.s2 57 59 0 ?_ ?_
  · repeat (first | exact h32 | refine CW.N (by rfl) (by decide) ?_ | refine CW.Rr (by rfl) (by decide) (by decide) ?_ | refine CW.I (by rfl) (by rfl) (by decide) (by decide) (by decide) ?_)
  intro w33 h33
  clear hz32 h32
  clear w32
  have hz33 : mSz w33 = 223 := h33.1.1
  simp only [mThen_ok, Option.toList_some, Option.toList_none, List.cons_append, List.nil_append]
  -- 0 12
  have t175 : mTg w33 175 = 8 := h33.tg 175 (by decide) (by decide)
  have l175 : mLn w33 175 = 0 := h33.ln 175 (by decide) (by decide)
  have t220 : mTg w33 220 = 0 := h33.tg 220 (by decide) (by decide)
  have l220 : mLn w33 220 = 0 := h33.ln 220 (by decide) (by decide)
  have t221 : mTg w33 221 = 3 := h33.tg 221 (by decide) (by decide)
  have l221 : mLn w33 221 = 0 := h33.ln 221 (by decide) (by decide)
  rw [b_0_12] <;> try ((try simp only [s_tgN, s_tgR, s_tgI, s_lnN, s_lnR, s_lnI, s_rN, s_rR, s_rI, s_zN, s_zR, s_zI, s_gR, hz33, Option.getD_some, Nat.reduceAdd, Nat.reduceEqDiff, if_false, if_true, and_false, false_and, and_true, true_and, and_self, t175, l175, t220, l220, t221, l221]); first | done | assumption | omega | decide +kernel)
  try simp only [s_tgN, s_tgR, s_tgI, s_lnN, s_lnR, s_lnI, s_rN, s_rR, s_rI, s_zN, s_zR, s_zI, s_gR, hz33, Option.getD_some, Nat.reduceAdd, Nat.reduceEqDiff, if_false, if_true, and_false, false_and, and_true, true_and, and_self, t175, l175, t220, l220, t221, l221]
  clear t175 l175 t220 l220 t221 l221
  first | refine QQ.k1 59 61 0 ?_ ?_ | refine QQ.k2 59 61 0 ?_ ?_ | refine QQ.x0 59 61 0 ?_ ?_ | refine QQ.x1 59 61 0 ?_ ?_ | refine QQ.x2 59 61 0 ?_ ?_ | refine QQ.s1 59 61 0 ?_ ?_ | refine QQ.s2 59 61 0 ?_ ?_
  · repeat (first | exact h33 | refine CW.N (by rfl) (by decide) ?_ | refine CW.Rr (by rfl) (by decide) (by decide) ?_ | refine CW.I (by rfl) (by rfl) (by decide) (by decide) (by decide) ?_)
  intro w34 h34
  clear hz33 h33
  clear w33
  have hz34 : mSz w34 = 225 := h34.1.1
  rw [e_52]
  -- 52 0
  have t224 : mTg w34 224 = 4 := h34.tg 224 (by decide) (by decide)
  have l224 : mLn w34 224 = 0 := h34.ln 224 (by decide) (by decide)
  rw [b_52_0] <;> try ((try simp only [s_tgN, s_tgR, s_tgI, s_lnN, s_lnR, s_lnI, s_rN, s_rR, s_rI, s_zN, s_zR, s_zI, s_gR, hz34, Option.getD_some, Nat.reduceAdd, Nat.reduceEqDiff, if_false, if_true, and_false, false_and, and_true, true_and, and_self, t224, l224]); first | done | assumption | omega | decide +kernel)
  try simp only [s_tgN, s_tgR, s_tgI, s_lnN, s_lnR, s_lnI, s_rN, s_rR, s_rI, s_zN, s_zR, s_zI, s_gR, hz34, Option.getD_some, Nat.reduceAdd, Nat.reduceEqDiff, if_false, if_true, and_false, false_and, and_true, true_and, and_self, t224, l224]
  clear t224 l224
  first | refine QQ.k1 61 63 0 ?_ ?_ | refine QQ.k2 61 63 0 ?_ ?_ | refine QQ.x0 61 63 0 ?_ ?_ | refine QQ.x1 61 63 0 ?_ ?_ | refine QQ.x2 61 63 0 ?_ ?_ | refine QQ.s1 61 63 0 ?_ ?_ | refine QQ.s2 61 63 0 ?_ ?_
  · repeat (first | exact h34 | refine CW.N (by rfl) (by decide) ?_ | refine CW.Rr (by rfl) (by decide) (by decide) ?_ | refine CW.I (by rfl) (by rfl) (by decide) (by decide) (by decide) ?_)
  intro w35 h35
  clear hz34 h34
  clear w34
  have hz35 : mSz w35 = 227 := h35.1.1
  simp only [mThen_ok, Option.toList_some, Option.toList_none, List.cons_append, List.nil_append]
  -- 0 32
  have t175 : mTg w35 175 = 8 := h35.tg 175 (by decide) (by decide)
  have l175 : mLn w35 175 = 0 := h35.ln 175 (by decide) (by decide)
  have t220 : mTg w35 220 = 0 := h35.tg 220 (by decide) (by decide)
  have l220 : mLn w35 220 = 0 := h35.ln 220 (by decide) (by decide)
  have t223 : mTg w35 223 = 53 := h35.tg 223 (by decide) (by decide)
  have l223 : mLn w35 223 = 6 := h35.ln 223 (by decide) (by decide)
  have t224 : mTg w35 224 = 4 := h35.tg 224 (by decide) (by decide)
  have l224 : mLn w35 224 = 0 := h35.ln 224 (by decide) (by decide)
  have r60 : mR w35 220 2 = some 223 := h35.rf 60 (by decide)
  rw [b_0_32] <;> try ((try simp only [s_tgN, s_tgR, s_tgI, s_lnN, s_lnR, s_lnI, s_rN, s_rR, s_rI, s_zN, s_zR, s_zI, s_gR, hz35, Option.getD_some, Nat.reduceAdd, Nat.reduceEqDiff, if_false, if_true, and_false, false_and, and_true, true_and, and_self, t175, l175, t220, l220, t223, l223, t224, l224, r60]); first | done | assumption | omega | decide +kernel)
  try simp only [s_tgN, s_tgR, s_tgI, s_lnN, s_lnR, s_lnI, s_rN, s_rR, s_rI, s_zN, s_zR, s_zI, s_gR, hz35, Option.getD_some, Nat.reduceAdd, Nat.reduceEqDiff, if_false, if_true, and_false, false_and, and_true, true_and, and_self, t175, l175, t220, l220, t223, l223, t224, l224, r60]
  clear t175 l175 t220 l220 t223 l223 t224 l224 r60
  first | refine QQ.k1 63 66 0 ?_ ?_ | refine QQ.k2 63 66 0 ?_ ?_ | refine QQ.x0 63 66 0 ?_ ?_ | refine QQ.x1 63 66 0 ?_ ?_ | refine QQ.x2 63 66 0 ?_ ?_ | refine QQ.s1 63 66 0 ?_ ?_ | refine QQ.s2 63 66 0 ?_ ?_
  · repeat (first | exact h35 | refine CW.N (by rfl) (by decide) ?_ | refine CW.Rr (by rfl) (by decide) (by decide) ?_ | refine CW.I (by rfl) (by rfl) (by decide) (by decide) (by decide) ?_)
  intro w36 h36
  clear hz35 h35
  clear w35
  have hz36 : mSz w36 = 229 := h36.1.1
  -- 0 51
  have t175 : mTg w36 175 = 8 := h36.tg 175 (by decide) (by decide)
  have l175 : mLn w36 175 = 0 := h36.ln 175 (by decide) (by decide)
  have t220 : mTg w36 220 = 0 := h36.tg 220 (by decide) (by decide)
  have l220 : mLn w36 220 = 0 := h36.ln 220 (by decide) (by decide)
  have t223 : mTg w36 223 = 53 := h36.tg 223 (by decide) (by decide)
  have l223 : mLn w36 223 = 6 := h36.ln 223 (by decide) (by decide)
  have r60 : mR w36 220 2 = some 223 := h36.rf 60 (by decide)
  rw [b_0_51] <;> try ((try simp only [s_tgN, s_tgR, s_tgI, s_lnN, s_lnR, s_lnI, s_rN, s_rR, s_rI, s_zN, s_zR, s_zI, s_gR, hz36, Option.getD_some, Nat.reduceAdd, Nat.reduceEqDiff, if_false, if_true, and_false, false_and, and_true, true_and, and_self, t175, l175, t220, l220, t223, l223, r60]); first | done | assumption | omega | decide +kernel)
  try simp only [s_tgN, s_tgR, s_tgI, s_lnN, s_lnR, s_lnI, s_rN, s_rR, s_rI, s_zN, s_zR, s_zI, s_gR, hz36, Option.getD_some, Nat.reduceAdd, Nat.reduceEqDiff, if_false, if_true, and_false, false_and, and_true, true_and, and_self, t175, l175, t220, l220, t223, l223, r60]
  clear t175 l175 t220 l220 t223 l223 r60
  first | refine QQ.k1 64 68 1 ?_ ?_ | refine QQ.k2 64 68 1 ?_ ?_ | refine QQ.x0 64 68 1 ?_ ?_ | refine QQ.x1 64 68 1 ?_ ?_ | refine QQ.x2 64 68 1 ?_ ?_ | refine QQ.s1 64 68 1 ?_ ?_ | refine QQ.s2 64 68 1 ?_ ?_
  · repeat (first | exact h36 | refine CW.N (by rfl) (by decide) ?_ | refine CW.Rr (by rfl) (by decide) (by decide) ?_ | refine CW.I (by rfl) (by rfl) (by decide) (by decide) (by decide) ?_)
  intro w37 h37
  clear hz36 h36
  clear w36
  have hz37 : mSz w37 = 230 := h37.1.1
  -- 0 71
  have t175 : mTg w37 175 = 8 := h37.tg 175 (by decide) (by decide)
  have l175 : mLn w37 175 = 0 := h37.ln 175 (by decide) (by decide)
  have t220 : mTg w37 220 = 0 := h37.tg 220 (by decide) (by decide)
  have l220 : mLn w37 220 = 0 := h37.ln 220 (by decide) (by decide)
  have t223 : mTg w37 223 = 53 := h37.tg 223 (by decide) (by decide)
  have l223 : mLn w37 223 = 6 := h37.ln 223 (by decide) (by decide)
  have r60 : mR w37 220 2 = some 223 := h37.rf 60 (by decide)
  rw [b_0_71 (by assumption) (by simp only [s_tgN, s_tgR, s_tgI, s_lnN, s_lnR, s_lnI, s_rN, s_rR, s_rI, s_zN, s_zR, s_zI, s_gR, hz37, Option.getD_some, Nat.reduceAdd, Nat.reduceEqDiff, if_false, if_true, and_false, false_and, and_true, true_and, and_self, t175, l175, t220, l220, t223, l223, r60]) (by simp only [s_tgN, s_tgR, s_tgI, s_lnN, s_lnR, s_lnI, s_rN, s_rR, s_rI, s_zN, s_zR, s_zI, s_gR, hz37, Option.getD_some, Nat.reduceAdd, Nat.reduceEqDiff, if_false, if_true, and_false, false_and, and_true, true_and, and_self, t175, l175, t220, l220, t223, l223, r60]; decide)]
  simp only [s_tgN, s_tgR, s_tgI, s_lnN, s_lnR, s_lnI, s_rN, s_rR, s_rI, s_zN, s_zR, s_zI, s_gR, hz37, Option.getD_some, Nat.reduceAdd, Nat.reduceEqDiff, if_false, if_true, and_false, false_and, and_true, true_and, and_self, t175, l175, t220, l220, t223, l223, r60]
  rw [if_neg (by decide +kernel)]
  clear t175 l175 t220 l220 t223 l223 r60
  -- 0 80
  have t175 : mTg w37 175 = 8 := h37.tg 175 (by decide) (by decide)
  have l175 : mLn w37 175 = 0 := h37.ln 175 (by decide) (by decide)
  have t220 : mTg w37 220 = 0 := h37.tg 220 (by decide) (by decide)
  have l220 : mLn w37 220 = 0 := h37.ln 220 (by decide) (by decide)
  have t223 : mTg w37 223 = 53 := h37.tg 223 (by decide) (by decide)
  have l223 : mLn w37 223 = 6 := h37.ln 223 (by decide) (by decide)
  have r60 : mR w37 220 2 = some 223 := h37.rf 60 (by decide)
  rw [b_0_80] <;> try ((try simp only [s_tgN, s_tgR, s_tgI, s_lnN, s_lnR, s_lnI, s_rN, s_rR, s_rI, s_zN, s_zR, s_zI, s_gR, hz37, Option.getD_some, Nat.reduceAdd, Nat.reduceEqDiff, if_false, if_true, and_false, false_and, and_true, true_and, and_self, t175, l175, t220, l220, t223, l223, r60]); first | done | assumption | omega | decide +kernel)
  try simp only [s_tgN, s_tgR, s_tgI, s_lnN, s_lnR, s_lnI, s_rN, s_rR, s_rI, s_zN, s_zR, s_zI, s_gR, hz37, Option.getD_some, Nat.reduceAdd, Nat.reduceEqDiff, if_false, if_true, and_false, false_and, and_true, true_and, and_self, t175, l175, t220, l220, t223, l223, r60]
  clear t175 l175 t220 l220 t223 l223 r60
  first | refine QQ.k1 65 68 1 ?_ ?_ | refine QQ.k2 65 68 1 ?_ ?_ | refine QQ.x0 65 68 1 ?_ ?_ | refine QQ.x1 65 68 1 ?_ ?_ | refine QQ.x2 65 68 1 ?_ ?_ | refine QQ.s1 65 68 1 ?_ ?_ | refine QQ.s2 65 68 1 ?_ ?_
  · repeat (first | exact h37 | refine CW.N (by rfl) (by decide) ?_ | refine CW.Rr (by rfl) (by decide) (by decide) ?_ | refine CW.I (by rfl) (by rfl) (by decide) (by decide) (by decide) ?_)
  intro w38 h38
  clear hz37 h37
  clear w37
  have hz38 : mSz w38 = 231 := h38.1.1
  rw [e_52]
  -- 52 0
  have t230 : mTg w38 230 = 4 := h38.tg 230 (by decide) (by decide)
  have l230 : mLn w38 230 = 0 := h38.ln 230 (by decide) (by decide)
  rw [b_52_0] <;> try ((try simp only [s_tgN, s_tgR, s_tgI, s_lnN, s_lnR, s_lnI, s_rN, s_rR, s_rI, s_zN, s_zR, s_zI, s_gR, hz38, Option.getD_some, Nat.reduceAdd, Nat.reduceEqDiff, if_false, if_true, and_false, false_and, and_true, true_and, and_self, t230, l230]); first | done | assumption | omega | decide +kernel)
  try simp only [s_tgN, s_tgR, s_tgI, s_lnN, s_lnR, s_lnI, s_rN, s_rR, s_rI, s_zN, s_zR, s_zI, s_gR, hz38, Option.getD_some, Nat.reduceAdd, Nat.reduceEqDiff, if_false, if_true, and_false, false_and, and_true, true_and, and_self, t230, l230]
  clear t230 l230
  first | refine QQ.k1 67 70 1 ?_ ?_ | refine QQ.k2 67 70 1 ?_ ?_ | refine QQ.x0 67 70 1 ?_ ?_ | refine QQ.x1 67 70 1 ?_ ?_ | refine QQ.x2 67 70 1 ?_ ?_ | refine QQ.s1 67 70 1 ?_ ?_ | refine QQ.s2 67 70 1 ?_ ?_
  · repeat (first | exact h38 | refine CW.N (by rfl) (by decide) ?_ | refine CW.Rr (by rfl) (by decide) (by decide) ?_ | refine CW.I (by rfl) (by rfl) (by decide) (by decide) (by decide) ?_)
  intro w39 h39
  clear hz38 h38
  clear w38
  have hz39 : mSz w39 = 233 := h39.1.1
  simp only [mThen_ok, Option.toList_some, Option.toList_none, List.cons_append, List.nil_append]
  -- 0 92
  have t175 : mTg w39 175 = 8 := h39.tg 175 (by decide) (by decide)
  have l175 : mLn w39 175 = 0 := h39.ln 175 (by decide) (by decide)
  have t220 : mTg w39 220 = 0 := h39.tg 220 (by decide) (by decide)
  have l220 : mLn w39 220 = 0 := h39.ln 220 (by decide) (by decide)
  have t223 : mTg w39 223 = 53 := h39.tg 223 (by decide) (by decide)
  have l223 : mLn w39 223 = 6 := h39.ln 223 (by decide) (by decide)
  have t230 : mTg w39 230 = 4 := h39.tg 230 (by decide) (by decide)
  have l230 : mLn w39 230 = 0 := h39.ln 230 (by decide) (by decide)
  have r60 : mR w39 220 2 = some 223 := h39.rf 60 (by decide)
  rw [b_0_92] <;> try ((try simp only [s_tgN, s_tgR, s_tgI, s_lnN, s_lnR, s_lnI, s_rN, s_rR, s_rI, s_zN, s_zR, s_zI, s_gR, hz39, Option.getD_some, Nat.reduceAdd, Nat.reduceEqDiff, if_false, if_true, and_false, false_and, and_true, true_and, and_self, t175, l175, t220, l220, t223, l223, t230, l230, r60]); first | done | assumption | omega | decide +kernel)
  try simp only [s_tgN, s_tgR, s_tgI, s_lnN, s_lnR, s_lnI, s_rN, s_rR, s_rI, s_zN, s_zR, s_zI, s_gR, hz39, Option.getD_some, Nat.reduceAdd, Nat.reduceEqDiff, if_false, if_true, and_false, false_and, and_true, true_and, and_self, t175, l175, t220, l220, t223, l223, t230, l230, r60]
  rw [show (nI 0).toNatClampNeg = 0 by decide +kernel, show nI 0 + nI 1 = nI 1 by decide +kernel]
  clear t175 l175 t220 l220 t223 l223 t230 l230 r60
  first | refine QQ.k1 67 71 1 ?_ ?_ | refine QQ.k2 67 71 1 ?_ ?_ | refine QQ.x0 67 71 1 ?_ ?_ | refine QQ.x1 67 71 1 ?_ ?_ | refine QQ.x2 67 71 1 ?_ ?_ | refine QQ.s1 67 71 1 ?_ ?_ | refine QQ.s2 67 71 1 ?_ ?_
  · repeat (first | exact h39 | refine CW.N (by rfl) (by decide) ?_ | refine CW.Rr (by rfl) (by decide) (by decide) ?_ | refine CW.I (by rfl) (by rfl) (by decide) (by decide) (by decide) ?_)
  intro w40 h40
  clear hz39 h39
  clear w39
  have hz40 : mSz w40 = 233 := h40.1.1
  -- 0 71
  have t175 : mTg w40 175 = 8 := h40.tg 175 (by decide) (by decide)
  have l175 : mLn w40 175 = 0 := h40.ln 175 (by decide) (by decide)
  have t220 : mTg w40 220 = 0 := h40.tg 220 (by decide) (by decide)
  have l220 : mLn w40 220 = 0 := h40.ln 220 (by decide) (by decide)
  have t223 : mTg w40 223 = 53 := h40.tg 223 (by decide) (by decide)
  have l223 : mLn w40 223 = 6 := h40.ln 223 (by decide) (by decide)
  have r60 : mR w40 220 2 = some 223 := h40.rf 60 (by decide)
  rw [b_0_71 (by assumption) (by simp only [s_tgN, s_tgR, s_tgI, s_lnN, s_lnR, s_lnI, s_rN, s_rR, s_rI, s_zN, s_zR, s_zI, s_gR, hz40, Option.getD_some, Nat.reduceAdd, Nat.reduceEqDiff, if_false, if_true, and_false, false_and, and_true, true_and, and_self, t175, l175, t220, l220, t223, l223, r60]) (by simp only [s_tgN, s_tgR, s_tgI, s_lnN, s_lnR, s_lnI, s_rN, s_rR, s_rI, s_zN, s_zR, s_zI, s_gR, hz40, Option.getD_some, Nat.reduceAdd, Nat.reduceEqDiff, if_false, if_true, and_false, false_and, and_true, true_and, and_self, t175, l175, t220, l220, t223, l223, r60]; decide)]
  simp only [s_tgN, s_tgR, s_tgI, s_lnN, s_lnR, s_lnI, s_rN, s_rR, s_rI, s_zN, s_zR, s_zI, s_gR, hz40, Option.getD_some, Nat.reduceAdd, Nat.reduceEqDiff, if_false, if_true, and_false, false_and, and_true, true_and, and_self, t175, l175, t220, l220, t223, l223, r60]
  rw [if_neg (by decide +kernel)]
  clear t175 l175 t220 l220 t223 l223 r60
  -- 0 80
  have t175 : mTg w40 175 = 8 := h40.tg 175 (by decide) (by decide)
  have l175 : mLn w40 175 = 0 := h40.ln 175 (by decide) (by decide)
  have t220 : mTg w40 220 = 0 := h40.tg 220 (by decide) (by decide)
  have l220 : mLn w40 220 = 0 := h40.ln 220 (by decide) (by decide)
  have t223 : mTg w40 223 = 53 := h40.tg 223 (by decide) (by decide)
  have l223 : mLn w40 223 = 6 := h40.ln 223 (by decide) (by decide)
  have r60 : mR w40 220 2 = some 223 := h40.rf 60 (by decide)
  rw [b_0_80] <;> try ((try simp only [s_tgN, s_tgR, s_tgI, s_lnN, s_lnR, s_lnI, s_rN, s_rR, s_rI, s_zN, s_zR, s_zI, s_gR, hz40, Option.getD_some, Nat.reduceAdd, Nat.reduceEqDiff, if_false, if_true, and_false, false_and, and_true, true_and, and_self, t175, l175, t220, l220, t223, l223, r60]); first | done | assumption | omega | decide +kernel)
  try simp only [s_tgN, s_tgR, s_tgI, s_lnN, s_lnR, s_lnI, s_rN, s_rR, s_rI, s_zN, s_zR, s_zI, s_gR, hz40, Option.getD_some, Nat.reduceAdd, Nat.reduceEqDiff, if_false, if_true, and_false, false_and, and_true, true_and, and_self, t175, l175, t220, l220, t223, l223, r60]
  clear t175 l175 t220 l220 t223 l223 r60
  first | refine QQ.k1 68 71 1 ?_ ?_ | refine QQ.k2 68 71 1 ?_ ?_ | refine QQ.x0 68 71 1 ?_ ?_ | refine QQ.x1 68 71 1 ?_ ?_ | refine QQ.x2 68 71 1 ?_ ?_ | refine QQ.s1 68 71 1 ?_ ?_ | refine QQ.s2 68 71 1 ?_ ?_
  · repeat (first | exact h40 | refine CW.N (by rfl) (by decide) ?_ | refine CW.Rr (by rfl) (by decide) (by decide) ?_ | refine CW.I (by rfl) (by rfl) (by decide) (by decide) (by decide) ?_)
  intro w41 h41
  clear hz40 h40
  clear w40
  have hz41 : mSz w41 = 234 := h41.1.1
  rw [e_52]
  -- 52 0
  have t233 : mTg w41 233 = 4 := h41.tg 233 (by decide) (by decide)
  have l233 : mLn w41 233 = 0 := h41.ln 233 (by decide) (by decide)
  rw [b_52_0] <;> try ((try simp only [s_tgN, s_tgR, s_tgI, s_lnN, s_lnR, s_lnI, s_rN, s_rR, s_rI, s_zN, s_zR, s_zI, s_gR, hz41, Option.getD_some, Nat.reduceAdd, Nat.reduceEqDiff, if_false, if_true, and_false, false_and, and_true, true_and, and_self, t233, l233]); first | done | assumption | omega | decide +kernel)
  try simp only [s_tgN, s_tgR, s_tgI, s_lnN, s_lnR, s_lnI, s_rN, s_rR, s_rI, s_zN, s_zR, s_zI, s_gR, hz41, Option.getD_some, Nat.reduceAdd, Nat.reduceEqDiff, if_false, if_true, and_false, false_and, and_true, true_and, and_self, t233, l233]
  clear t233 l233
  first | refine QQ.k1 70 73 1 ?_ ?_ | refine QQ.k2 70 73 1 ?_ ?_ | refine QQ.x0 70 73 1 ?_ ?_ | refine QQ.x1 70 73 1 ?_ ?_ | refine QQ.x2 70 73 1 ?_ ?_ | refine QQ.s1 70 73 1 ?_ ?_ | refine QQ.s2 70 73 1 ?_ ?_
  · repeat (first | exact h41 | refine CW.N (by rfl) (by decide) ?_ | refine CW.Rr (by rfl) (by decide) (by decide) ?_ | refine CW.I (by rfl) (by rfl) (by decide) (by decide) (by decide) ?_)
  intro w42 h42
  clear hz41 h41
  clear w41
  have hz42 : mSz w42 = 236 := h42.1.1
  simp only [mThen_ok, Option.toList_some, Option.toList_none, List.cons_append, List.nil_append]
  -- 0 92
  have t175 : mTg w42 175 = 8 := h42.tg 175 (by decide) (by decide)
  have l175 : mLn w42 175 = 0 := h42.ln 175 (by decide) (by decide)
  have t220 : mTg w42 220 = 0 := h42.tg 220 (by decide) (by decide)
  have l220 : mLn w42 220 = 0 := h42.ln 220 (by decide) (by decide)
  have t223 : mTg w42 223 = 53 := h42.tg 223 (by decide) (by decide)
  have l223 : mLn w42 223 = 6 := h42.ln 223 (by decide) (by decide)
  have t233 : mTg w42 233 = 4 := h42.tg 233 (by decide) (by decide)
  have l233 : mLn w42 233 = 0 := h42.ln 233 (by decide) (by decide)
  have r60 : mR w42 220 2 = some 223 := h42.rf 60 (by decide)
  rw [b_0_92] <;> try ((try simp only [s_tgN, s_tgR, s_tgI, s_lnN, s_lnR, s_lnI, s_rN, s_rR, s_rI, s_zN, s_zR, s_zI, s_gR, hz42, Option.getD_some, Nat.reduceAdd, Nat.reduceEqDiff, if_false, if_true, and_false, false_and, and_true, true_and, and_self, t175, l175, t220, l220, t223, l223, t233, l233, r60]); first | done | assumption | omega | decide +kernel)
  try simp only [s_tgN, s_tgR, s_tgI, s_lnN, s_lnR, s_lnI, s_rN, s_rR, s_rI, s_zN, s_zR, s_zI, s_gR, hz42, Option.getD_some, Nat.reduceAdd, Nat.reduceEqDiff, if_false, if_true, and_false, false_and, and_true, true_and, and_self, t175, l175, t220, l220, t223, l223, t233, l233, r60]
  rw [show (nI 1).toNatClampNeg = 1 by decide +kernel, show nI 1 + nI 1 = nI 2 by decide +kernel]
  clear t175 l175 t220 l220 t223 l223 t233 l233 r60
  first | refine QQ.k1 70 74 1 ?_ ?_ | refine QQ.k2 70 74 1 ?_ ?_ | refine QQ.x0 70 74 1 ?_ ?_ | refine QQ.x1 70 74 1 ?_ ?_ | refine QQ.x2 70 74 1 ?_ ?_ | refine QQ.s1 70 74 1 ?_ ?_ | refine QQ.s2 70 74 1 ?_ ?_
  · repeat (first | exact h42 | refine CW.N (by rfl) (by decide) ?_ | refine CW.Rr (by rfl) (by decide) (by decide) ?_ | refine CW.I (by rfl) (by rfl) (by decide) (by decide) (by decide) ?_)
  intro w43 h43
  clear hz42 h42
  clear w42
  have hz43 : mSz w43 = 236 := h43.1.1
  -- 0 71
  have t175 : mTg w43 175 = 8 := h43.tg 175 (by decide) (by decide)
  have l175 : mLn w43 175 = 0 := h43.ln 175 (by decide) (by decide)
  have t220 : mTg w43 220 = 0 := h43.tg 220 (by decide) (by decide)
  have l220 : mLn w43 220 = 0 := h43.ln 220 (by decide) (by decide)
  have t223 : mTg w43 223 = 53 := h43.tg 223 (by decide) (by decide)
  have l223 : mLn w43 223 = 6 := h43.ln 223 (by decide) (by decide)
  have r60 : mR w43 220 2 = some 223 := h43.rf 60 (by decide)
  rw [b_0_71 (by assumption) (by simp only [s_tgN, s_tgR, s_tgI, s_lnN, s_lnR, s_lnI, s_rN, s_rR, s_rI, s_zN, s_zR, s_zI, s_gR, hz43, Option.getD_some, Nat.reduceAdd, Nat.reduceEqDiff, if_false, if_true, and_false, false_and, and_true, true_and, and_self, t175, l175, t220, l220, t223, l223, r60]) (by simp only [s_tgN, s_tgR, s_tgI, s_lnN, s_lnR, s_lnI, s_rN, s_rR, s_rI, s_zN, s_zR, s_zI, s_gR, hz43, Option.getD_some, Nat.reduceAdd, Nat.reduceEqDiff, if_false, if_true, and_false, false_and, and_true, true_and, and_self, t175, l175, t220, l220, t223, l223, r60]; decide)]
  simp only [s_tgN, s_tgR, s_tgI, s_lnN, s_lnR, s_lnI, s_rN, s_rR, s_rI, s_zN, s_zR, s_zI, s_gR, hz43, Option.getD_some, Nat.reduceAdd, Nat.reduceEqDiff, if_false, if_true, and_false, false_and, and_true, true_and, and_self, t175, l175, t220, l220, t223, l223, r60]
  rw [if_neg (by decide +kernel)]
  clear t175 l175 t220 l220 t223 l223 r60
  -- 0 80
  have t175 : mTg w43 175 = 8 := h43.tg 175 (by decide) (by decide)
  have l175 : mLn w43 175 = 0 := h43.ln 175 (by decide) (by decide)
  have t220 : mTg w43 220 = 0 := h43.tg 220 (by decide) (by decide)
  have l220 : mLn w43 220 = 0 := h43.ln 220 (by decide) (by decide)
  have t223 : mTg w43 223 = 53 := h43.tg 223 (by decide) (by decide)
  have l223 : mLn w43 223 = 6 := h43.ln 223 (by decide) (by decide)
  have r60 : mR w43 220 2 = some 223 := h43.rf 60 (by decide)
  rw [b_0_80] <;> try ((try simp only [s_tgN, s_tgR, s_tgI, s_lnN, s_lnR, s_lnI, s_rN, s_rR, s_rI, s_zN, s_zR, s_zI, s_gR, hz43, Option.getD_some, Nat.reduceAdd, Nat.reduceEqDiff, if_false, if_true, and_false, false_and, and_true, true_and, and_self, t175, l175, t220, l220, t223, l223, r60]); first | done | assumption | omega | decide +kernel)
  try simp only [s_tgN, s_tgR, s_tgI, s_lnN, s_lnR, s_lnI, s_rN, s_rR, s_rI, s_zN, s_zR, s_zI, s_gR, hz43, Option.getD_some, Nat.reduceAdd, Nat.reduceEqDiff, if_false, if_true, and_false, false_and, and_true, true_and, and_self, t175, l175, t220, l220, t223, l223, r60]
  clear t175 l175 t220 l220 t223 l223 r60
  first | refine QQ.k1 71 74 1 ?_ ?_ | refine QQ.k2 71 74 1 ?_ ?_ | refine QQ.x0 71 74 1 ?_ ?_ | refine QQ.x1 71 74 1 ?_ ?_ | refine QQ.x2 71 74 1 ?_ ?_ | refine QQ.s1 71 74 1 ?_ ?_ | refine QQ.s2 71 74 1 ?_ ?_
  · repeat (first | exact h43 | refine CW.N (by rfl) (by decide) ?_ | refine CW.Rr (by rfl) (by decide) (by decide) ?_ | refine CW.I (by rfl) (by rfl) (by decide) (by decide) (by decide) ?_)
  intro w44 h44
  clear hz43 h43
  clear w43
  have hz44 : mSz w44 = 237 := h44.1.1
  rw [e_52]
  -- 52 0
  have t236 : mTg w44 236 = 4 := h44.tg 236 (by decide) (by decide)
  have l236 : mLn w44 236 = 0 := h44.ln 236 (by decide) (by decide)
  rw [b_52_0] <;> try ((try simp only [s_tgN, s_tgR, s_tgI, s_lnN, s_lnR, s_lnI, s_rN, s_rR, s_rI, s_zN, s_zR, s_zI, s_gR, hz44, Option.getD_some, Nat.reduceAdd, Nat.reduceEqDiff, if_false, if_true, and_false, false_and, and_true, true_and, and_self, t236, l236]); first | done | assumption | omega | decide +kernel)
  try simp only [s_tgN, s_tgR, s_tgI, s_lnN, s_lnR, s_lnI, s_rN, s_rR, s_rI, s_zN, s_zR, s_zI, s_gR, hz44, Option.getD_some, Nat.reduceAdd, Nat.reduceEqDiff, if_false, if_true, and_false, false_and, and_true, true_and, and_self, t236, l236]
  clear t236 l236
  first | refine QQ.k1 73 76 1 ?_ ?_ | refine QQ.k2 73 76 1 ?_ ?_ | refine QQ.x0 73 76 1 ?_ ?_ | refine QQ.x1 73 76 1 ?_ ?_ | refine QQ.x2 73 76 1 ?_ ?_ | refine QQ.s1 73 76 1 ?_ ?_ | refine QQ.s2 73 76 1 ?_ ?_
  · repeat (first | exact h44 | refine CW.N (by rfl) (by decide) ?_ | refine CW.Rr (by rfl) (by decide) (by decide) ?_ | refine CW.I (by rfl) (by rfl) (by decide) (by decide) (by decide) ?_)
  intro w45 h45
  clear hz44 h44
  clear w44
  have hz45 : mSz w45 = 239 := h45.1.1
  simp only [mThen_ok, Option.toList_some, Option.toList_none, List.cons_append, List.nil_append]
  -- 0 92
  have t175 : mTg w45 175 = 8 := h45.tg 175 (by decide) (by decide)
  have l175 : mLn w45 175 = 0 := h45.ln 175 (by decide) (by decide)
  have t220 : mTg w45 220 = 0 := h45.tg 220 (by decide) (by decide)
  have l220 : mLn w45 220 = 0 := h45.ln 220 (by decide) (by decide)
  have t223 : mTg w45 223 = 53 := h45.tg 223 (by decide) (by decide)
  have l223 : mLn w45 223 = 6 := h45.ln 223 (by decide) (by decide)
  have t236 : mTg w45 236 = 4 := h45.tg 236 (by decide) (by decide)
  have l236 : mLn w45 236 = 0 := h45.ln 236 (by decide) (by decide)
  have r60 : mR w45 220 2 = some 223 := h45.rf 60 (by decide)
  rw [b_0_92] <;> try ((try simp only [s_tgN, s_tgR, s_tgI, s_lnN, s_lnR, s_lnI, s_rN, s_rR, s_rI, s_zN, s_zR, s_zI, s_gR, hz45, Option.getD_some, Nat.reduceAdd, Nat.reduceEqDiff, if_false, if_true, and_false, false_and, and_true, true_and, and_self, t175, l175, t220, l220, t223, l223, t236, l236, r60]); first | done | assumption | omega | decide +kernel)
  try simp only [s_tgN, s_tgR, s_tgI, s_lnN, s_lnR, s_lnI, s_rN, s_rR, s_rI, s_zN, s_zR, s_zI, s_gR, hz45, Option.getD_some, Nat.reduceAdd, Nat.reduceEqDiff, if_false, if_true, and_false, false_and, and_true, true_and, and_self, t175, l175, t220, l220, t223, l223, t236, l236, r60]
  rw [show (nI 2).toNatClampNeg = 2 by decide +kernel, show nI 2 + nI 1 = nI 3 by decide +kernel]
  clear t175 l175 t220 l220 t223 l223 t236 l236 r60
  first | refine QQ.k1 73 77 1 ?_ ?_ | refine QQ.k2 73 77 1 ?_ ?_ | refine QQ.x0 73 77 1 ?_ ?_ | refine QQ.x1 73 77 1 ?_ ?_ | refine QQ.x2 73 77 1 ?_ ?_ | refine QQ.s1 73 77 1 ?_ ?_ | refine QQ.s2 73 77 1 ?_ ?_
  · repeat (first | exact h45 | refine CW.N (by rfl) (by decide) ?_ | refine CW.Rr (by rfl) (by decide) (by decide) ?_ | refine CW.I (by rfl) (by rfl) (by decide) (by decide) (by decide) ?_)
  intro w46 h46
  clear hz45 h45
  clear w45
  have hz46 : mSz w46 = 239 := h46.1.1
  -- 0 71
  have t175 : mTg w46 175 = 8 := h46.tg 175 (by decide) (by decide)
  have l175 : mLn w46 175 = 0 := h46.ln 175 (by decide) (by decide)
  have t220 : mTg w46 220 = 0 := h46.tg 220 (by decide) (by decide)
  have l220 : mLn w46 220 = 0 := h46.ln 220 (by decide) (by decide)
  have t223 : mTg w46 223 = 53 := h46.tg 223 (by decide) (by decide)
  have l223 : mLn w46 223 = 6 := h46.ln 223 (by decide) (by decide)
  have r60 : mR w46 220 2 = some 223 := h46.rf 60 (by decide)
  rw [b_0_71 (by assumption) (by simp only [s_tgN, s_tgR, s_tgI, s_lnN, s_lnR, s_lnI, s_rN, s_rR, s_rI, s_zN, s_zR, s_zI, s_gR, hz46, Option.getD_some, Nat.reduceAdd, Nat.reduceEqDiff, if_false, if_true, and_false, false_and, and_true, true_and, and_self, t175, l175, t220, l220, t223, l223, r60]) (by simp only [s_tgN, s_tgR, s_tgI, s_lnN, s_lnR, s_lnI, s_rN, s_rR, s_rI, s_zN, s_zR, s_zI, s_gR, hz46, Option.getD_some, Nat.reduceAdd, Nat.reduceEqDiff, if_false, if_true, and_false, false_and, and_true, true_and, and_self, t175, l175, t220, l220, t223, l223, r60]; decide)]
  simp only [s_tgN, s_tgR, s_tgI, s_lnN, s_lnR, s_lnI, s_rN, s_rR, s_rI, s_zN, s_zR, s_zI, s_gR, hz46, Option.getD_some, Nat.reduceAdd, Nat.reduceEqDiff, if_false, if_true, and_false, false_and, and_true, true_and, and_self, t175, l175, t220, l220, t223, l223, r60]
  rw [if_neg (by decide +kernel)]
  clear t175 l175 t220 l220 t223 l223 r60
  -- 0 80
  have t175 : mTg w46 175 = 8 := h46.tg 175 (by decide) (by decide)
  have l175 : mLn w46 175 = 0 := h46.ln 175 (by decide) (by decide)
  have t220 : mTg w46 220 = 0 := h46.tg 220 (by decide) (by decide)
  have l220 : mLn w46 220 = 0 := h46.ln 220 (by decide) (by decide)
  have t223 : mTg w46 223 = 53 := h46.tg 223 (by decide) (by decide)
  have l223 : mLn w46 223 = 6 := h46.ln 223 (by decide) (by decide)
  have r60 : mR w46 220 2 = some 223 := h46.rf 60 (by decide)
  rw [b_0_80] <;> try ((try simp only [s_tgN, s_tgR, s_tgI, s_lnN, s_lnR, s_lnI, s_rN, s_rR, s_rI, s_zN, s_zR, s_zI, s_gR, hz46, Option.getD_some, Nat.reduceAdd, Nat.reduceEqDiff, if_false, if_true, and_false, false_and, and_true, true_and, and_self, t175, l175, t220, l220, t223, l223, r60]); first | done | assumption | omega | decide +kernel)
  try simp only [s_tgN, s_tgR, s_tgI, s_lnN, s_lnR, s_lnI, s_rN, s_rR, s_rI, s_zN, s_zR, s_zI, s_gR, hz46, Option.getD_some, Nat.reduceAdd, Nat.reduceEqDiff, if_false, if_true, and_false, false_and, and_true, true_and, and_self, t175, l175, t220, l220, t223, l223, r60]
  clear t175 l175 t220 l220 t223 l223 r60
  first | refine QQ.k1 74 77 1 ?_ ?_ | refine QQ.k2 74 77 1 ?_ ?_ | refine QQ.x0 74 77 1 ?_ ?_ | refine QQ.x1 74 77 1 ?_ ?_ | refine QQ.x2 74 77 1 ?_ ?_ | refine QQ.s1 74 77 1 ?_ ?_ | refine QQ.s2 74 77 1 ?_ ?_
  · repeat (first | exact h46 | refine CW.N (by rfl) (by decide) ?_ | refine CW.Rr (by rfl) (by decide) (by decide) ?_ | refine CW.I (by rfl) (by rfl) (by decide) (by decide) (by decide) ?_)
  intro w47 h47
  clear hz46 h46
  clear w46
  have hz47 : mSz w47 = 240 := h47.1.1
  rw [e_52]
  -- 52 0
  have t239 : mTg w47 239 = 4 := h47.tg 239 (by decide) (by decide)
  have l239 : mLn w47 239 = 0 := h47.ln 239 (by decide) (by decide)
  rw [b_52_0] <;> try ((try simp only [s_tgN, s_tgR, s_tgI, s_lnN, s_lnR, s_lnI, s_rN, s_rR, s_rI, s_zN, s_zR, s_zI, s_gR, hz47, Option.getD_some, Nat.reduceAdd, Nat.reduceEqDiff, if_false, if_true, and_false, false_and, and_true, true_and, and_self, t239, l239]); first | done | assumption | omega | decide +kernel)
  try simp only [s_tgN, s_tgR, s_tgI, s_lnN, s_lnR, s_lnI, s_rN, s_rR, s_rI, s_zN, s_zR, s_zI, s_gR, hz47, Option.getD_some, Nat.reduceAdd, Nat.reduceEqDiff, if_false, if_true, and_false, false_and, and_true, true_and, and_self, t239, l239]
  clear t239 l239
  first | refine QQ.k1 76 79 1 ?_ ?_ | refine QQ.k2 76 79 1 ?_ ?_ | refine QQ.x0 76 79 1 ?_ ?_ | refine QQ.x1 76 79 1 ?_ ?_ | refine QQ.x2 76 79 1 ?_ ?_ | refine QQ.s1 76 79 1 ?_ ?_ | refine QQ.s2 76 79 1 ?_ ?_
  · repeat (first | exact h47 | refine CW.N (by rfl) (by decide) ?_ | refine CW.Rr (by rfl) (by decide) (by decide) ?_ | refine CW.I (by rfl) (by rfl) (by decide) (by decide) (by decide) ?_)
  intro w48 h48
  clear hz47 h47
  clear w47
  have hz48 : mSz w48 = 242 := h48.1.1
  simp only [mThen_ok, Option.toList_some, Option.toList_none, List.cons_append, List.nil_append]
  -- 0 92
  have t175 : mTg w48 175 = 8 := h48.tg 175 (by decide) (by decide)
  have l175 : mLn w48 175 = 0 := h48.ln 175 (by decide) (by decide)
  have t220 : mTg w48 220 = 0 := h48.tg 220 (by decide) (by decide)
  have l220 : mLn w48 220 = 0 := h48.ln 220 (by decide) (by decide)
  have t223 : mTg w48 223 = 53 := h48.tg 223 (by decide) (by decide)
  have l223 : mLn w48 223 = 6 := h48.ln 223 (by decide) (by decide)
  have t239 : mTg w48 239 = 4 := h48.tg 239 (by decide) (by decide)
  have l239 : mLn w48 239 = 0 := h48.ln 239 (by decide) (by decide)
  have r60 : mR w48 220 2 = some 223 := h48.rf 60 (by decide)
  rw [b_0_92] <;> try ((try simp only [s_tgN, s_tgR, s_tgI, s_lnN, s_lnR, s_lnI, s_rN, s_rR, s_rI, s_zN, s_zR, s_zI, s_gR, hz48, Option.getD_some, Nat.reduceAdd, Nat.reduceEqDiff, if_false, if_true, and_false, false_and, and_true, true_and, and_self, t175, l175, t220, l220, t223, l223, t239, l239, r60]); first | done | assumption | omega | decide +kernel)
  try simp only [s_tgN, s_tgR, s_tgI, s_lnN, s_lnR, s_lnI, s_rN, s_rR, s_rI, s_zN, s_zR, s_zI, s_gR, hz48, Option.getD_some, Nat.reduceAdd, Nat.reduceEqDiff, if_false, if_true, and_false, false_and, and_true, true_and, and_self, t175, l175, t220, l220, t223, l223, t239, l239, r60]
  rw [show (nI 3).toNatClampNeg = 3 by decide +kernel, show nI 3 + nI 1 = nI 4 by decide +kernel]
  clear t175 l175 t220 l220 t223 l223 t239 l239 r60
  first | refine QQ.k1 76 80 1 ?_ ?_ | refine QQ.k2 76 80 1 ?_ ?_ | refine QQ.x0 76 80 1 ?_ ?_ | refine QQ.x1 76 80 1 ?_ ?_ | refine QQ.x2 76 80 1 ?_ ?_ | refine QQ.s1 76 80 1 ?_ ?_ | refine QQ.s2 76 80 1 ?_ ?_
  · repeat (first | exact h48 | refine CW.N (by rfl) (by decide) ?_ | refine CW.Rr (by rfl) (by decide) (by decide) ?_ | refine CW.I (by rfl) (by rfl) (by decide) (by decide) (by decide) ?_)
  intro w49 h49
  clear hz48 h48
  clear w48
  have hz49 : mSz w49 = 242 := h49.1.1
  -- 0 71
  have t175 : mTg w49 175 = 8 := h49.tg 175 (by decide) (by decide)
  have l175 : mLn w49 175 = 0 := h49.ln 175 (by decide) (by decide)
  have t220 : mTg w49 220 = 0 := h49.tg 220 (by decide) (by decide)
  have l220 : mLn w49 220 = 0 := h49.ln 220 (by decide) (by decide)
  have t223 : mTg w49 223 = 53 := h49.tg 223 (by decide) (by decide)
  have l223 : mLn w49 223 = 6 := h49.ln 223 (by decide) (by decide)
  have r60 : mR w49 220 2 = some 223 := h49.rf 60 (by decide)
  rw [b_0_71 (by assumption) (by simp only [s_tgN, s_tgR, s_tgI, s_lnN, s_lnR, s_lnI, s_rN, s_rR, s_rI, s_zN, s_zR, s_zI, s_gR, hz49, Option.getD_some, Nat.reduceAdd, Nat.reduceEqDiff, if_false, if_true, and_false, false_and, and_true, true_and, and_self, t175, l175, t220, l220, t223, l223, r60]) (by simp only [s_tgN, s_tgR, s_tgI, s_lnN, s_lnR, s_lnI, s_rN, s_rR, s_rI, s_zN, s_zR, s_zI, s_gR, hz49, Option.getD_some, Nat.reduceAdd, Nat.reduceEqDiff, if_false, if_true, and_false, false_and, and_true, true_and, and_self, t175, l175, t220, l220, t223, l223, r60]; decide)]
  simp only [s_tgN, s_tgR, s_tgI, s_lnN, s_lnR, s_lnI, s_rN, s_rR, s_rI, s_zN, s_zR, s_zI, s_gR, hz49, Option.getD_some, Nat.reduceAdd, Nat.reduceEqDiff, if_false, if_true, and_false, false_and, and_true, true_and, and_self, t175, l175, t220, l220, t223, l223, r60]
  rw [if_neg (by decide +kernel)]
  clear t175 l175 t220 l220 t223 l223 r60
  -- 0 80
  have t175 : mTg w49 175 = 8 := h49.tg 175 (by decide) (by decide)
  have l175 : mLn w49 175 = 0 := h49.ln 175 (by decide) (by decide)
  have t220 : mTg w49 220 = 0 := h49.tg 220 (by decide) (by decide)
  have l220 : mLn w49 220 = 0 := h49.ln 220 (by decide) (by decide)
  have t223 : mTg w49 223 = 53 := h49.tg 223 (by decide) (by decide)
  have l223 : mLn w49 223 = 6 := h49.ln 223 (by decide) (by decide)
  have r60 : mR w49 220 2 = some 223 := h49.rf 60 (by decide)
  rw [b_0_80] <;> try ((try simp only [s_tgN, s_tgR, s_tgI, s_lnN, s_lnR, s_lnI, s_rN, s_rR, s_rI, s_zN, s_zR, s_zI, s_gR, hz49, Option.getD_some, Nat.reduceAdd, Nat.reduceEqDiff, if_false, if_true, and_false, false_and, and_true, true_and, and_self, t175, l175, t220, l220, t223, l223, r60]); first | done | assumption | omega | decide +kernel)
  try simp only [s_tgN, s_tgR, s_tgI, s_lnN, s_lnR, s_lnI, s_rN, s_rR, s_rI, s_zN, s_zR, s_zI, s_gR, hz49, Option.getD_some, Nat.reduceAdd, Nat.reduceEqDiff, if_false, if_true, and_false, false_and, and_true, true_and, and_self, t175, l175, t220, l220, t223, l223, r60]
  clear t175 l175 t220 l220 t223 l223 r60
  first | refine QQ.k1 77 80 1 ?_ ?_ | refine QQ.k2 77 80 1 ?_ ?_ | refine QQ.x0 77 80 1 ?_ ?_ | refine QQ.x1 77 80 1 ?_ ?_ | refine QQ.x2 77 80 1 ?_ ?_ | refine QQ.s1 77 80 1 ?_ ?_ | refine QQ.s2 77 80 1 ?_ ?_
  · repeat (first | exact h49 | refine CW.N (by rfl) (by decide) ?_ | refine CW.Rr (by rfl) (by decide) (by decide) ?_ | refine CW.I (by rfl) (by rfl) (by decide) (by decide) (by decide) ?_)
  intro w50 h50
  clear hz49 h49
  clear w49
  have hz50 : mSz w50 = 243 := h50.1.1
  rw [e_52]
  -- 52 0
  have t242 : mTg w50 242 = 4 := h50.tg 242 (by decide) (by decide)
  have l242 : mLn w50 242 = 0 := h50.ln 242 (by decide) (by decide)
  rw [b_52_0] <;> try ((try simp only [s_tgN, s_tgR, s_tgI, s_lnN, s_lnR, s_lnI, s_rN, s_rR, s_rI, s_zN, s_zR, s_zI, s_gR, hz50, Option.getD_some, Nat.reduceAdd, Nat.reduceEqDiff, if_false, if_true, and_false, false_and, and_true, true_and, and_self, t242, l242]); first | done | assumption | omega | decide +kernel)
  try simp only [s_tgN, s_tgR, s_tgI, s_lnN, s_lnR, s_lnI, s_rN, s_rR, s_rI, s_zN, s_zR, s_zI, s_gR, hz50, Option.getD_some, Nat.reduceAdd, Nat.reduceEqDiff, if_false, if_true, and_false, false_and, and_true, true_and, and_self, t242, l242]
  clear t242 l242
  first | refine QQ.k1 79 82 1 ?_ ?_ | refine QQ.k2 79 82 1 ?_ ?_ | refine QQ.x0 79 82 1 ?_ ?_ | refine QQ.x1 79 82 1 ?_ ?_ | refine QQ.x2 79 82 1 ?_ ?_ | refine QQ.s1 79 82 1 ?_ ?_ | refine QQ.s2 79 82 1 ?_ ?_
  · repeat (first | exact h50 | refine CW.N (by rfl) (by decide) ?_ | refine CW.Rr (by rfl) (by decide) (by decide) ?_ | refine CW.I (by rfl) (by rfl) (by decide) (by decide) (by decide) ?_)
  intro w51 h51
  clear hz50 h50
  clear w50
  have hz51 : mSz w51 = 245 := h51.1.1
  simp only [mThen_ok, Option.toList_some, Option.toList_none, List.cons_append, List.nil_append]
  -- 0 92
  have t175 : mTg w51 175 = 8 := h51.tg 175 (by decide) (by decide)
  have l175 : mLn w51 175 = 0 := h51.ln 175 (by decide) (by decide)
  have t220 : mTg w51 220 = 0 := h51.tg 220 (by decide) (by decide)
  have l220 : mLn w51 220 = 0 := h51.ln 220 (by decide) (by decide)
  have t223 : mTg w51 223 = 53 := h51.tg 223 (by decide) (by decide)
  have l223 : mLn w51 223 = 6 := h51.ln 223 (by decide) (by decide)
  have t242 : mTg w51 242 = 4 := h51.tg 242 (by decide) (by decide)
  have l242 : mLn w51 242 = 0 := h51.ln 242 (by decide) (by decide)
  have r60 : mR w51 220 2 = some 223 := h51.rf 60 (by decide)
  rw [b_0_92] <;> try ((try simp only [s_tgN, s_tgR, s_tgI, s_lnN, s_lnR, s_lnI, s_rN, s_rR, s_rI, s_zN, s_zR, s_zI, s_gR, hz51, Option.getD_some, Nat.reduceAdd, Nat.reduceEqDiff, if_false, if_true, and_false, false_and, and_true, true_and, and_self, t175, l175, t220, l220, t223, l223, t242, l242, r60]); first | done | assumption | omega | decide +kernel)
  try simp only [s_tgN, s_tgR, s_tgI, s_lnN, s_lnR, s_lnI, s_rN, s_rR, s_rI, s_zN, s_zR, s_zI, s_gR, hz51, Option.getD_some, Nat.reduceAdd, Nat.reduceEqDiff, if_false, if_true, and_false, false_and, and_true, true_and, and_self, t175, l175, t220, l220, t223, l223, t242, l242, r60]
  rw [show (nI 4).toNatClampNeg = 4 by decide +kernel, show nI 4 + nI 1 = nI 5 by decide +kernel]
  clear t175 l175 t220 l220 t223 l223 t242 l242 r60
  first | refine QQ.k1 79 83 1 ?_ ?_ | refine QQ.k2 79 83 1 ?_ ?_ | refine QQ.x0 79 83 1 ?_ ?_ | refine QQ.x1 79 83 1 ?_ ?_ | refine QQ.x2 79 83 1 ?_ ?_ | refine QQ.s1 79 83 1 ?_ ?_ | refine QQ.s2 79 83 1 ?_ ?_
  · repeat (first | exact h51 | refine CW.N (by rfl) (by decide) ?_ | refine CW.Rr (by rfl) (by decide) (by decide) ?_ | refine CW.I (by rfl) (by rfl) (by decide) (by decide) (by decide) ?_)
  intro w52 h52
  clear hz51 h51
  clear w51
  have hz52 : mSz w52 = 245 := h52.1.1
  -- 0 71
  have t175 : mTg w52 175 = 8 := h52.tg 175 (by decide) (by decide)
  have l175 : mLn w52 175 = 0 := h52.ln 175 (by decide) (by decide)
  have t220 : mTg w52 220 = 0 := h52.tg 220 (by decide) (by decide)
  have l220 : mLn w52 220 = 0 := h52.ln 220 (by decide) (by decide)
  have t223 : mTg w52 223 = 53 := h52.tg 223 (by decide) (by decide)
  have l223 : mLn w52 223 = 6 := h52.ln 223 (by decide) (by decide)
  have r60 : mR w52 220 2 = some 223 := h52.rf 60 (by decide)
  rw [b_0_71 (by assumption) (by simp only [s_tgN, s_tgR, s_tgI, s_lnN, s_lnR, s_lnI, s_rN, s_rR, s_rI, s_zN, s_zR, s_zI, s_gR, hz52, Option.getD_some, Nat.reduceAdd, Nat.reduceEqDiff, if_false, if_true, and_false, false_and, and_true, true_and, and_self, t175, l175, t220, l220, t223, l223, r60]) (by simp only [s_tgN, s_tgR, s_tgI, s_lnN, s_lnR, s_lnI, s_rN, s_rR, s_rI, s_zN, s_zR, s_zI, s_gR, hz52, Option.getD_some, Nat.reduceAdd, Nat.reduceEqDiff, if_false, if_true, and_false, false_and, and_true, true_and, and_self, t175, l175, t220, l220, t223, l223, r60]; decide)]
  simp only [s_tgN, s_tgR, s_tgI, s_lnN, s_lnR, s_lnI, s_rN, s_rR, s_rI, s_zN, s_zR, s_zI, s_gR, hz52, Option.getD_some, Nat.reduceAdd, Nat.reduceEqDiff, if_false, if_true, and_false, false_and, and_true, true_and, and_self, t175, l175, t220, l220, t223, l223, r60]
  rw [if_neg (by decide +kernel)]
  clear t175 l175 t220 l220 t223 l223 r60
  -- 0 80
  have t175 : mTg w52 175 = 8 := h52.tg 175 (by decide) (by decide)
  have l175 : mLn w52 175 = 0 := h52.ln 175 (by decide) (by decide)
  have t220 : mTg w52 220 = 0 := h52.tg 220 (by decide) (by decide)
  have l220 : mLn w52 220 = 0 := h52.ln 220 (by decide) (by decide)
  have t223 : mTg w52 223 = 53 := h52.tg 223 (by decide) (by decide)
  have l223 : mLn w52 223 = 6 := h52.ln 223 (by decide) (by decide)
  have r60 : mR w52 220 2 = some 223 := h52.rf 60 (by decide)
  rw [b_0_80] <;> try ((try simp only [s_tgN, s_tgR, s_tgI, s_lnN, s_lnR, s_lnI, s_rN, s_rR, s_rI, s_zN, s_zR, s_zI, s_gR, hz52, Option.getD_some, Nat.reduceAdd, Nat.reduceEqDiff, if_false, if_true, and_false, false_and, and_true, true_and, and_self, t175, l175, t220, l220, t223, l223, r60]); first | done | assumption | omega | decide +kernel)
  try simp only [s_tgN, s_tgR, s_tgI, s_lnN, s_lnR, s_lnI, s_rN, s_rR, s_rI, s_zN, s_zR, s_zI, s_gR, hz52, Option.getD_some, Nat.reduceAdd, Nat.reduceEqDiff, if_false, if_true, and_false, false_and, and_true, true_and, and_self, t175, l175, t220, l220, t223, l223, r60]
  clear t175 l175 t220 l220 t223 l223 r60
  first | refine QQ.k1 80 83 1 ?_ ?_ | refine QQ.k2 80 83 1 ?_ ?_ | refine QQ.x0 80 83 1 ?_ ?_ | refine QQ.x1 80 83 1 ?_ ?_ | refine QQ.x2 80 83 1 ?_ ?_ | refine QQ.s1 80 83 1 ?_ ?_ | refine QQ.s2 80 83 1 ?_ ?_
  · repeat (first | exact h52 | refine CW.N (by rfl) (by decide) ?_ | refine CW.Rr (by rfl) (by decide) (by decide) ?_ | refine CW.I (by rfl) (by rfl) (by decide) (by decide) (by decide) ?_)
  intro w53 h53
  clear hz52 h52
  clear w52
  have hz53 : mSz w53 = 246 := h53.1.1
  rw [e_52]
  -- 52 0
  have t245 : mTg w53 245 = 4 := h53.tg 245 (by decide) (by decide)
  have l245 : mLn w53 245 = 0 := h53.ln 245 (by decide) (by decide)
  rw [b_52_0] <;> try ((try simp only [s_tgN, s_tgR, s_tgI, s_lnN, s_lnR, s_lnI, s_rN, s_rR, s_rI, s_zN, s_zR, s_zI, s_gR, hz53, Option.getD_some, Nat.reduceAdd, Nat.reduceEqDiff, if_false, if_true, and_false, false_and, and_true, true_and, and_self, t245, l245]); first | done | assumption | omega | decide +kernel)
  try simp only [s_tgN, s_tgR, s_tgI, s_lnN, s_lnR, s_lnI, s_rN, s_rR, s_rI, s_zN, s_zR, s_zI, s_gR, hz53, Option.getD_some, Nat.reduceAdd, Nat.reduceEqDiff, if_false, if_true, and_false, false_and, and_true, true_and, and_self, t245, l245]
  clear t245 l245
  first | refine QQ.k1 82 85 1 ?_ ?_ | refine QQ.k2 82 85 1 ?_ ?_ | refine QQ.x0 82 85 1 ?_ ?_ | refine QQ.x1 82 85 1 ?_ ?_ | refine QQ.x2 82 85 1 ?_ ?_ | refine QQ.s1 82 85 1 ?_ ?_ | refine QQ.s2 82 85 1 ?_ ?_
  · repeat (first | exact h53 | refine CW.N (by rfl) (by decide) ?_ | refine CW.Rr (by rfl) (by decide) (by decide) ?_ | refine CW.I (by rfl) (by rfl) (by decide) (by decide) (by decide) ?_)
  intro w54 h54
  clear hz53 h53
  clear w53
  have hz54 : mSz w54 = 248 := h54.1.1
  simp only [mThen_ok, Option.toList_some, Option.toList_none, List.cons_append, List.nil_append]
  -- 0 92
  have t175 : mTg w54 175 = 8 := h54.tg 175 (by decide) (by decide)
  have l175 : mLn w54 175 = 0 := h54.ln 175 (by decide) (by decide)
  have t220 : mTg w54 220 = 0 := h54.tg 220 (by decide) (by decide)
  have l220 : mLn w54 220 = 0 := h54.ln 220 (by decide) (by decide)
  have t223 : mTg w54 223 = 53 := h54.tg 223 (by decide) (by decide)
  have l223 : mLn w54 223 = 6 := h54.ln 223 (by decide) (by decide)
  have t245 : mTg w54 245 = 4 := h54.tg 245 (by decide) (by decide)
  have l245 : mLn w54 245 = 0 := h54.ln 245 (by decide) (by decide)
  have r60 : mR w54 220 2 = some 223 := h54.rf 60 (by decide)
  rw [b_0_92] <;> try ((try simp only [s_tgN, s_tgR, s_tgI, s_lnN, s_lnR, s_lnI, s_rN, s_rR, s_rI, s_zN, s_zR, s_zI, s_gR, hz54, Option.getD_some, Nat.reduceAdd, Nat.reduceEqDiff, if_false, if_true, and_false, false_and, and_true, true_and, and_self, t175, l175, t220, l220, t223, l223, t245, l245, r60]); first | done | assumption | omega | decide +kernel)
  try simp only [s_tgN, s_tgR, s_tgI, s_lnN, s_lnR, s_lnI, s_rN, s_rR, s_rI, s_zN, s_zR, s_zI, s_gR, hz54, Option.getD_some, Nat.reduceAdd, Nat.reduceEqDiff, if_false, if_true, and_false, false_and, and_true, true_and, and_self, t175, l175, t220, l220, t223, l223, t245, l245, r60]
  rw [show (nI 5).toNatClampNeg = 5 by decide +kernel, show nI 5 + nI 1 = nI 6 by decide +kernel]
  clear t175 l175 t220 l220 t223 l223 t245 l245 r60
  first | refine QQ.k1 82 86 1 ?_ ?_ | refine QQ.k2 82 86 1 ?_ ?_ | refine QQ.x0 82 86 1 ?_ ?_ | refine QQ.x1 82 86 1 ?_ ?_ | refine QQ.x2 82 86 1 ?_ ?_ | refine QQ.s1 82 86 1 ?_ ?_ | refine QQ.s2 82 86 1 ?_ ?_
  · repeat (first | exact h54 | refine CW.N (by rfl) (by decide) ?_ | refine CW.Rr (by rfl) (by decide) (by decide) ?_ | refine CW.I (by rfl) (by rfl) (by decide) (by decide) (by decide) ?_)
  intro w55 h55
  clear hz54 h54
  clear w54
  have hz55 : mSz w55 = 248 := h55.1.1
  -- 0 71
  have t175 : mTg w55 175 = 8 := h55.tg 175 (by decide) (by decide)
  have l175 : mLn w55 175 = 0 := h55.ln 175 (by decide) (by decide)
  have t220 : mTg w55 220 = 0 := h55.tg 220 (by decide) (by decide)
  have l220 : mLn w55 220 = 0 := h55.ln 220 (by decide) (by decide)
  have t223 : mTg w55 223 = 53 := h55.tg 223 (by decide) (by decide)
  have l223 : mLn w55 223 = 6 := h55.ln 223 (by decide) (by decide)
  have r60 : mR w55 220 2 = some 223 := h55.rf 60 (by decide)
  rw [b_0_71 (by assumption) (by simp only [s_tgN, s_tgR, s_tgI, s_lnN, s_lnR, s_lnI, s_rN, s_rR, s_rI, s_zN, s_zR, s_zI, s_gR, hz55, Option.getD_some, Nat.reduceAdd, Nat.reduceEqDiff, if_false, if_true, and_false, false_and, and_true, true_and, and_self, t175, l175, t220, l220, t223, l223, r60]) (by simp only [s_tgN, s_tgR, s_tgI, s_lnN, s_lnR, s_lnI, s_rN, s_rR, s_rI, s_zN, s_zR, s_zI, s_gR, hz55, Option.getD_some, Nat.reduceAdd, Nat.reduceEqDiff, if_false, if_true, and_false, false_and, and_true, true_and, and_self, t175, l175, t220, l220, t223, l223, r60]; decide)]
  simp only [s_tgN, s_tgR, s_tgI, s_lnN, s_lnR, s_lnI, s_rN, s_rR, s_rI, s_zN, s_zR, s_zI, s_gR, hz55, Option.getD_some, Nat.reduceAdd, Nat.reduceEqDiff, if_false, if_true, and_false, false_and, and_true, true_and, and_self, t175, l175, t220, l220, t223, l223, r60]
  rw [if_pos (by decide +kernel)]
  clear t175 l175 t220 l220 t223 l223 r60
  -- 0 99
  have t175 : mTg w55 175 = 8 := h55.tg 175 (by decide) (by decide)
  have l175 : mLn w55 175 = 0 := h55.ln 175 (by decide) (by decide)
  have t220 : mTg w55 220 = 0 := h55.tg 220 (by decide) (by decide)
  have l220 : mLn w55 220 = 0 := h55.ln 220 (by decide) (by decide)
  have t223 : mTg w55 223 = 53 := h55.tg 223 (by decide) (by decide)
  have l223 : mLn w55 223 = 6 := h55.ln 223 (by decide) (by decide)
  have r60 : mR w55 220 2 = some 223 := h55.rf 60 (by decide)
  rw [b_0_99] <;> try ((try simp only [s_tgN, s_tgR, s_tgI, s_lnN, s_lnR, s_lnI, s_rN, s_rR, s_rI, s_zN, s_zR, s_zI, s_gR, hz55, Option.getD_some, Nat.reduceAdd, Nat.reduceEqDiff, if_false, if_true, and_false, false_and, and_true, true_and, and_self, t175, l175, t220, l220, t223, l223, r60]); first | done | assumption | omega | decide +kernel)
  try simp only [s_tgN, s_tgR, s_tgI, s_lnN, s_lnR, s_lnI, s_rN, s_rR, s_rI, s_zN, s_zR, s_zI, s_gR, hz55, Option.getD_some, Nat.reduceAdd, Nat.reduceEqDiff, if_false, if_true, and_false, false_and, and_true, true_and, and_self, t175, l175, t220, l220, t223, l223, r60]
  clear t175 l175 t220 l220 t223 l223 r60
  simp only [mThen_ok, Option.toList_some, Option.toList_none, List.cons_append, List.nil_append]
  -- 95 105
  have t166 : mTg w55 166 = 9 := h55.tg 166 (by decide) (by decide)
  have l166 : mLn w55 166 = 0 := h55.ln 166 (by decide) (by decide)
  have t196 : mTg w55 196 = 8 := h55.tg 196 (by decide) (by decide)
  have l196 : mLn w55 196 = 0 := h55.ln 196 (by decide) (by decide)
  have t220 : mTg w55 220 = 0 := h55.tg 220 (by decide) (by decide)
  have l220 : mLn w55 220 = 0 := h55.ln 220 (by decide) (by decide)
  have t223 : mTg w55 223 = 53 := h55.tg 223 (by decide) (by decide)
  have l223 : mLn w55 223 = 6 := h55.ln 223 (by decide) (by decide)
  have r1 : mR w55 166 0 = some 167 := h55.rf 1 (by decide)
  have r8 : mR w55 166 1 = some 169 := h55.rf 8 (by decide)
  have r29 : mR w55 166 2 = some 175 := h55.rf 29 (by decide)
  have r49 : mR w55 196 17 = some 214 := h55.rf 49 (by decide)
  have r50 : mR w55 166 3 = some 196 := h55.rf 50 (by decide)
  have r53 : mR w55 166 4 = some 217 := h55.rf 53 (by decide)
  have r57 : mR w55 166 5 = some 218 := h55.rf 57 (by decide)
  have r60 : mR w55 220 2 = some 223 := h55.rf 60 (by decide)
  rw [b_95_105] <;> try ((try simp only [s_tgN, s_tgR, s_tgI, s_lnN, s_lnR, s_lnI, s_rN, s_rR, s_rI, s_zN, s_zR, s_zI, s_gR, hz55, Option.getD_some, Nat.reduceAdd, Nat.reduceEqDiff, if_false, if_true, and_false, false_and, and_true, true_and, and_self, t166, l166, t196, l196, t220, l220, t223, l223, r1, r8, r29, r49, r50, r53, r57, r60]); first | done | assumption | omega | decide +kernel)
  try simp only [s_tgN, s_tgR, s_tgI, s_lnN, s_lnR, s_lnI, s_rN, s_rR, s_rI, s_zN, s_zR, s_zI, s_gR, hz55, Option.getD_some, Nat.reduceAdd, Nat.reduceEqDiff, if_false, if_true, and_false, false_and, and_true, true_and, and_self, t166, l166, t196, l196, t220, l220, t223, l223, r1, r8, r29, r49, r50, r53, r57, r60]
  clear t166 l166 t196 l196 t220 l220 t223 l223 r1 r8 r29 r49 r50 r53 r57 r60
  first | refine QQ.k1 83 87 1 ?_ ?_ | refine QQ.k2 83 87 1 ?_ ?_ | refine QQ.x0 83 87 1 ?_ ?_ | refine QQ.x1 83 87 1 ?_ ?_ | refine QQ.x2 83 87 1 ?_ ?_ | refine QQ.s1 83 87 1 ?_ ?_ | refine QQ.s2 83 87 1 ?_ ?_
  · repeat (first | exact h55 | refine CW.N (by rfl) (by decide) ?_ | refine CW.Rr (by rfl) (by decide) (by decide) ?_ | refine CW.I (by rfl) (by rfl) (by decide) (by decide) (by decide) ?_)
  intro w56 h56
  clear hz55 h55
  clear w55
  have hz56 : mSz w56 = 249 := h56.1.1
  rw [e_0]
  -- 0 0
  have t175 : mTg w56 175 = 8 := h56.tg 175 (by decide) (by decide)
  have l175 : mLn w56 175 = 0 := h56.ln 175 (by decide) (by decide)
  have t248 : mTg w56 248 = 0 := h56.tg 248 (by decide) (by decide)
  have l248 : mLn w56 248 = 0 := h56.ln 248 (by decide) (by decide)
  rw [b_0_0] <;> try ((try simp only [s_tgN, s_tgR, s_tgI, s_lnN, s_lnR, s_lnI, s_rN, s_rR, s_rI, s_zN, s_zR, s_zI, s_gR, hz56, Option.getD_some, Nat.reduceAdd, Nat.reduceEqDiff, if_false, if_true, and_false, false_and, and_true, true_and, and_self, t175, l175, t248, l248]); first | done | assumption | omega | decide +kernel)
  try simp only [s_tgN, s_tgR, s_tgI, s_lnN, s_lnR, s_lnI, s_rN, s_rR, s_rI, s_zN, s_zR, s_zI, s_gR, hz56, Option.getD_some, Nat.reduceAdd, Nat.reduceEqDiff, if_false, if_true, and_false, false_and, and_true, true_and, and_self, t175, l175, t248, l248]
  clear t175 l175 t248 l248
  first | refine QQ.k1 84 87 1 ?_ ?_ | refine QQ.k2 84 87 1 ?_ ?_ | refine QQ.x0 84 87 1 ?_ ?_ | refine QQ.x1 84 87 1 ?_ ?_ | refine QQ.x2 84 87 1 ?_ ?_ | refine QQ.s1 84 87 1 ?_ ?_ | refine QQ.s2 84 87 1 ?_ ?_
  · repeat (first | exact h56 | refine CW.N (by rfl) (by decide) ?_ | refine CW.Rr (by rfl) (by decide) (by decide) ?_ | refine CW.I (by rfl) (by rfl) (by decide) (by decide) (by decide) ?_)
  intro w57 h57
  clear hz56 h56
  clear w56
  have hz57 : mSz w57 = 250 := h57.1.1
  rw [e_47]
  -- 47 0
  have t249 : mTg w57 249 = 3 := h57.tg 249 (by decide) (by decide)
  have l249 : mLn w57 249 = 0 := h57.ln 249 (by decide) (by decide)
  rw [b_47_0] <;> try ((try simp only [s_tgN, s_tgR, s_tgI, s_lnN, s_lnR, s_lnI, s_rN, s_rR, s_rI, s_zN, s_zR, s_zI, s_gR, hz57, Option.getD_some, Nat.reduceAdd, Nat.reduceEqDiff, if_false, if_true, and_false, false_and, and_true, true_and, and_self, t249, l249]); first | done | assumption | omega | decide +kernel)
  try simp only [s_tgN, s_tgR, s_tgI, s_lnN, s_lnR, s_lnI, s_rN, s_rR, s_rI, s_zN, s_zR, s_zI, s_gR, hz57, Option.getD_some, Nat.reduceAdd, Nat.reduceEqDiff, if_false, if_true, and_false, false_and, and_true, true_and, and_self, t249, l249]
  clear t249 l249
  first | refine QQ.k1 85 88 1 ?_ ?_ | refine QQ.k2 85 88 1 ?_ ?_ | refine QQ.x0 85 88 1 ?_ ?_ | refine QQ.x1 85 88 1 ?_ ?_ | refine QQ.x2 85 88 1 ?_ ?_ | refine QQ.s1 85 88 1 ?_ ?_ | refine QQ.s2 85 88 1 ?_ ?_
  · repeat (first | exact h57 | refine CW.N (by rfl) (by decide) ?_ | refine CW.Rr (by rfl) (by decide) (by decide) ?_ | refine CW.I (by rfl) (by rfl) (by decide) (by decide) (by decide) ?_)
  intro w58 h58
  clear hz57 h57
  clear w57
  have hz58 : mSz w58 = 251 := h58.1.1
  simp only [mThen_ok, Option.toList_some, Option.toList_none, List.cons_append, List.nil_append]
  -- 0 12
  have t175 : mTg w58 175 = 8 := h58.tg 175 (by decide) (by decide)
  have l175 : mLn w58 175 = 0 := h58.ln 175 (by decide) (by decide)
  have t248 : mTg w58 248 = 0 := h58.tg 248 (by decide) (by decide)
  have l248 : mLn w58 248 = 0 := h58.ln 248 (by decide) (by decide)
  have t249 : mTg w58 249 = 3 := h58.tg 249 (by decide) (by decide)
  have l249 : mLn w58 249 = 0 := h58.ln 249 (by decide) (by decide)
  rw [b_0_12] <;> try ((try simp only [s_tgN, s_tgR, s_tgI, s_lnN, s_lnR, s_lnI, s_rN, s_rR, s_rI, s_zN, s_zR, s_zI, s_gR, hz58, Option.getD_some, Nat.reduceAdd, Nat.reduceEqDiff, if_false, if_true, and_false, false_and, and_true, true_and, and_self, t175, l175, t248, l248, t249, l249]); first | done | assumption | omega | decide +kernel)
  try simp only [s_tgN, s_tgR, s_tgI, s_lnN, s_lnR, s_lnI, s_rN, s_rR, s_rI, s_zN, s_zR, s_zI, s_gR, hz58, Option.getD_some, Nat.reduceAdd, Nat.reduceEqDiff, if_false, if_true, and_false, false_and, and_true, true_and, and_self, t175, l175, t248, l248, t249, l249]
  clear t175 l175 t248 l248 t249 l249
  first | refine QQ.k1 87 90 1 ?_ ?_ | refine QQ.k2 87 90 1 ?_ ?_ | refine QQ.x0 87 90 1 ?_ ?_ | refine QQ.x1 87 90 1 ?_ ?_ | refine QQ.x2 87 90 1 ?_ ?_ | refine QQ.s1 87 90 1 ?_ ?_ | refine QQ.s2 87 90 1 ?_ ?_
  · repeat (first | exact h58 | refine CW.N (by rfl) (by decide) ?_ | refine CW.Rr (by rfl) (by decide) (by decide) ?_ | refine CW.I (by rfl) (by rfl) (by decide) (by decide) (by decide) ?_)
  intro w59 h59
  clear hz58 h58
  clear w58
  have hz59 : mSz w59 = 253 := h59.1.1
  rw [e_52]
  -- 52 0
  have t252 : mTg w59 252 = 4 := h59.tg 252 (by decide) (by decide)
  have l252 : mLn w59 252 = 0 := h59.ln 252 (by decide) (by decide)
  rw [b_52_0] <;> try ((try simp only [s_tgN, s_tgR, s_tgI, s_lnN, s_lnR, s_lnI, s_rN, s_rR, s_rI, s_zN, s_zR, s_zI, s_gR, hz59, Option.getD_some, Nat.reduceAdd, Nat.reduceEqDiff, if_false, if_true, and_false, false_and, and_true, true_and, and_self, t252, l252]); first | done | assumption | omega | decide +kernel)
  try simp only [s_tgN, s_tgR, s_tgI, s_lnN, s_lnR, s_lnI, s_rN, s_rR, s_rI, s_zN, s_zR, s_zI, s_gR, hz59, Option.getD_some, Nat.reduceAdd, Nat.reduceEqDiff, if_false, if_true, and_false, false_and, and_true, true_and, and_self, t252, l252]
  clear t252 l252
  first | refine QQ.k1 89 92 1 ?_ ?_ | refine QQ.k2 89 92 1 ?_ ?_ | refine QQ.x0 89 92 1 ?_ ?_ | refine QQ.x1 89 92 1 ?_ ?_ | refine QQ.x2 89 92 1 ?_ ?_ | refine QQ.s1 89 92 1 ?_ ?_ | refine QQ.s2 89 92 1 ?_ ?_
  · repeat (first | exact h59 | refine CW.N (by rfl) (by decide) ?_ | refine CW.Rr (by rfl) (by decide) (by decide) ?_ | refine CW.I (by rfl) (by rfl) (by decide) (by decide) (by decide) ?_)
  intro w60 h60
  clear hz59 h59
  clear w59
  have hz60 : mSz w60 = 255 := h60.1.1
  simp only [mThen_ok, Option.toList_some, Option.toList_none, List.cons_append, List.nil_append]
  -- 0 32
  have t175 : mTg w60 175 = 8 := h60.tg 175 (by decide) (by decide)
  have l175 : mLn w60 175 = 0 := h60.ln 175 (by decide) (by decide)
  have t248 : mTg w60 248 = 0 := h60.tg 248 (by decide) (by decide)
  have l248 : mLn w60 248 = 0 := h60.ln 248 (by decide) (by decide)
  have t251 : mTg w60 251 = 53 := h60.tg 251 (by decide) (by decide)
  have l251 : mLn w60 251 = 6 := h60.ln 251 (by decide) (by decide)
  have t252 : mTg w60 252 = 4 := h60.tg 252 (by decide) (by decide)
  have l252 : mLn w60 252 = 0 := h60.ln 252 (by decide) (by decide)
  have r89 : mR w60 248 2 = some 251 := h60.rf 89 (by decide)
  rw [b_0_32] <;> try ((try simp only [s_tgN, s_tgR, s_tgI, s_lnN, s_lnR, s_lnI, s_rN, s_rR, s_rI, s_zN, s_zR, s_zI, s_gR, hz60, Option.getD_some, Nat.reduceAdd, Nat.reduceEqDiff, if_false, if_true, and_false, false_and, and_true, true_and, and_self, t175, l175, t248, l248, t251, l251, t252, l252, r89]); first | done | assumption | omega | decide +kernel)
  try simp only [s_tgN, s_tgR, s_tgI, s_lnN, s_lnR, s_lnI, s_rN, s_rR, s_rI, s_zN, s_zR, s_zI, s_gR, hz60, Option.getD_some, Nat.reduceAdd, Nat.reduceEqDiff, if_false, if_true, and_false, false_and, and_true, true_and, and_self, t175, l175, t248, l248, t251, l251, t252, l252, r89]
  clear t175 l175 t248 l248 t251 l251 t252 l252 r89
  first | refine QQ.k1 91 95 1 ?_ ?_ | refine QQ.k2 91 95 1 ?_ ?_ | refine QQ.x0 91 95 1 ?_ ?_ | refine QQ.x1 91 95 1 ?_ ?_ | refine QQ.x2 91 95 1 ?_ ?_ | refine QQ.s1 91 95 1 ?_ ?_ | refine QQ.s2 91 95 1 ?_ ?_
  · repeat (first | exact h60 | refine CW.N (by rfl) (by decide) ?_ | refine CW.Rr (by rfl) (by decide) (by decide) ?_ | refine CW.I (by rfl) (by rfl) (by decide) (by decide) (by decide) ?_)
  intro w61 h61
  clear hz60 h60
  clear w60
  have hz61 : mSz w61 = 257 := h61.1.1
  -- 0 51
  have t175 : mTg w61 175 = 8 := h61.tg 175 (by decide) (by decide)
  have l175 : mLn w61 175 = 0 := h61.ln 175 (by decide) (by decide)
  have t248 : mTg w61 248 = 0 := h61.tg 248 (by decide) (by decide)
  have l248 : mLn w61 248 = 0 := h61.ln 248 (by decide) (by decide)
  have t251 : mTg w61 251 = 53 := h61.tg 251 (by decide) (by decide)
  have l251 : mLn w61 251 = 6 := h61.ln 251 (by decide) (by decide)
  have r89 : mR w61 248 2 = some 251 := h61.rf 89 (by decide)
  rw [b_0_51] <;> try ((try simp only [s_tgN, s_tgR, s_tgI, s_lnN, s_lnR, s_lnI, s_rN, s_rR, s_rI, s_zN, s_zR, s_zI, s_gR, hz61, Option.getD_some, Nat.reduceAdd, Nat.reduceEqDiff, if_false, if_true, and_false, false_and, and_true, true_and, and_self, t175, l175, t248, l248, t251, l251, r89]); first | done | assumption | omega | decide +kernel)
  try simp only [s_tgN, s_tgR, s_tgI, s_lnN, s_lnR, s_lnI, s_rN, s_rR, s_rI, s_zN, s_zR, s_zI, s_gR, hz61, Option.getD_some, Nat.reduceAdd, Nat.reduceEqDiff, if_false, if_true, and_false, false_and, and_true, true_and, and_self, t175, l175, t248, l248, t251, l251, r89]
  clear t175 l175 t248 l248 t251 l251 r89
  first | refine QQ.k1 92 97 2 ?_ ?_ | refine QQ.k2 92 97 2 ?_ ?_ | refine QQ.x0 92 97 2 ?_ ?_ | refine QQ.x1 92 97 2 ?_ ?_ | refine QQ.x2 92 97 2 ?_ ?_ | refine QQ.s1 92 97 2 ?_ ?_ | refine QQ.s2 92 97 2 ?_ ?_
  · repeat (first | exact h61 | refine CW.N (by rfl) (by decide) ?_ | refine CW.Rr (by rfl) (by decide) (by decide) ?_ | refine CW.I (by rfl) (by rfl) (by decide) (by decide) (by decide) ?_)
  intro w62 h62
  clear hz61 h61
  clear w61
  have hz62 : mSz w62 = 258 := h62.1.1
  -- 0 71
  have t175 : mTg w62 175 = 8 := h62.tg 175 (by decide) (by decide)
  have l175 : mLn w62 175 = 0 := h62.ln 175 (by decide) (by decide)
  have t248 : mTg w62 248 = 0 := h62.tg 248 (by decide) (by decide)
  have l248 : mLn w62 248 = 0 := h62.ln 248 (by decide) (by decide)
  have t251 : mTg w62 251 = 53 := h62.tg 251 (by decide) (by decide)
  have l251 : mLn w62 251 = 6 := h62.ln 251 (by decide) (by decide)
  have r89 : mR w62 248 2 = some 251 := h62.rf 89 (by decide)
  rw [b_0_71 (by assumption) (by simp only [s_tgN, s_tgR, s_tgI, s_lnN, s_lnR, s_lnI, s_rN, s_rR, s_rI, s_zN, s_zR, s_zI, s_gR, hz62, Option.getD_some, Nat.reduceAdd, Nat.reduceEqDiff, if_false, if_true, and_false, false_and, and_true, true_and, and_self, t175, l175, t248, l248, t251, l251, r89]) (by simp only [s_tgN, s_tgR, s_tgI, s_lnN, s_lnR, s_lnI, s_rN, s_rR, s_rI, s_zN, s_zR, s_zI, s_gR, hz62, Option.getD_some, Nat.reduceAdd, Nat.reduceEqDiff, if_false, if_true, and_false, false_and, and_true, true_and, and_self, t175, l175, t248, l248, t251, l251, r89]; decide)]
  simp only [s_tgN, s_tgR, s_tgI, s_lnN, s_lnR, s_lnI, s_rN, s_rR, s_rI, s_zN, s_zR, s_zI, s_gR, hz62, Option.getD_some, Nat.reduceAdd, Nat.reduceEqDiff, if_false, if_true, and_false, false_and, and_true, true_and, and_self, t175, l175, t248, l248, t251, l251, r89]
  rw [if_neg (by decide +kernel)]
  clear t175 l175 t248 l248 t251 l251 r89
  -- 0 80
  have t175 : mTg w62 175 = 8 := h62.tg 175 (by decide) (by decide)
  have l175 : mLn w62 175 = 0 := h62.ln 175 (by decide) (by decide)
  have t248 : mTg w62 248 = 0 := h62.tg 248 (by decide) (by decide)
  have l248 : mLn w62 248 = 0 := h62.ln 248 (by decide) (by decide)
  have t251 : mTg w62 251 = 53 := h62.tg 251 (by decide) (by decide)
  have l251 : mLn w62 251 = 6 := h62.ln 251 (by decide) (by decide)
  have r89 : mR w62 248 2 = some 251 := h62.rf 89 (by decide)
  rw [b_0_80] <;> try ((try simp only [s_tgN, s_tgR, s_tgI, s_lnN, s_lnR, s_lnI, s_rN, s_rR, s_rI, s_zN, s_zR, s_zI, s_gR, hz62, Option.getD_some, Nat.reduceAdd, Nat.reduceEqDiff, if_false, if_true, and_false, false_and, and_true, true_and, and_self, t175, l175, t248, l248, t251, l251, r89]); first | done | assumption | omega | decide +kernel)
  try simp only [s_tgN, s_tgR, s_tgI, s_lnN, s_lnR, s_lnI, s_rN, s_rR, s_rI, s_zN, s_zR, s_zI, s_gR, hz62, Option.getD_some, Nat.reduceAdd, Nat.reduceEqDiff, if_false, if_true, and_false, false_and, and_true, true_and, and_self, t175, l175, t248, l248, t251, l251, r89]
  clear t175 l175 t248 l248 t251 l251 r89
  first | refine QQ.k1 93 97 2 ?_ ?_ | refine QQ.k2 93 97 2 ?_ ?_ | refine QQ.x0 93 97 2 ?_ ?_ | refine QQ.x1 93 97 2 ?_ ?_ | refine QQ.x2 93 97 2 ?_ ?_ | refine QQ.s1 93 97 2 ?_ ?_ | refine QQ.s2 93 97 2 ?_ ?_
  · repeat (first | exact h62 | refine CW.N (by rfl) (by decide) ?_ | refine CW.Rr (by rfl) (by decide) (by decide) ?_ | refine CW.I (by rfl) (by rfl) (by decide) (by decide) (by decide) ?_)
  intro w63 h63
  clear hz62 h62
  clear w62
  have hz63 : mSz w63 = 259 := h63.1.1
  rw [e_52]
  -- 52 0
  have t258 : mTg w63 258 = 4 := h63.tg 258 (by decide) (by decide)
  have l258 : mLn w63 258 = 0 := h63.ln 258 (by decide) (by decide)
  rw [b_52_0] <;> try ((try simp only [s_tgN, s_tgR, s_tgI, s_lnN, s_lnR, s_lnI, s_rN, s_rR, s_rI, s_zN, s_zR, s_zI, s_gR, hz63, Option.getD_some, Nat.reduceAdd, Nat.reduceEqDiff, if_false, if_true, and_false, false_and, and_true, true_and, and_self, t258, l258]); first | done | assumption | omega | decide +kernel)
  try simp only [s_tgN, s_tgR, s_tgI, s_lnN, s_lnR, s_lnI, s_rN, s_rR, s_rI, s_zN, s_zR, s_zI, s_gR, hz63, Option.getD_some, Nat.reduceAdd, Nat.reduceEqDiff, if_false, if_true, and_false, false_and, and_true, true_and, and_self, t258, l258]
  clear t258 l258
  first | refine QQ.k1 95 99 2 ?_ ?_ | refine QQ.k2 95 99 2 ?_ ?_ | refine QQ.x0 95 99 2 ?_ ?_ | refine QQ.x1 95 99 2 ?_ ?_ | refine QQ.x2 95 99 2 ?_ ?_ | refine QQ.s1 95 99 2 ?_ ?_ | refine QQ.s2 95 99 2 ?_ ?_
  · repeat (first | exact h63 | refine CW.N (by rfl) (by decide) ?_ | refine CW.Rr (by rfl) (by decide) (by decide) ?_ | refine CW.I (by rfl) (by rfl) (by decide) (by decide) (by decide) ?_)
  intro w64 h64
  clear hz63 h63
  clear w63
  have hz64 : mSz w64 = 261 := h64.1.1
  simp only [mThen_ok, Option.toList_some, Option.toList_none, List.cons_append, List.nil_append]
  -- 0 92
  have t175 : mTg w64 175 = 8 := h64.tg 175 (by decide) (by decide)
  have l175 : mLn w64 175 = 0 := h64.ln 175 (by decide) (by decide)
  have t248 : mTg w64 248 = 0 := h64.tg 248 (by decide) (by decide)
  have l248 : mLn w64 248 = 0 := h64.ln 248 (by decide) (by decide)
  have t251 : mTg w64 251 = 53 := h64.tg 251 (by decide) (by decide)
  have l251 : mLn w64 251 = 6 := h64.ln 251 (by decide) (by decide)
  have t258 : mTg w64 258 = 4 := h64.tg 258 (by decide) (by decide)
  have l258 : mLn w64 258 = 0 := h64.ln 258 (by decide) (by decide)
  have r89 : mR w64 248 2 = some 251 := h64.rf 89 (by decide)
  rw [b_0_92] <;> try ((try simp only [s_tgN, s_tgR, s_tgI, s_lnN, s_lnR, s_lnI, s_rN, s_rR, s_rI, s_zN, s_zR, s_zI, s_gR, hz64, Option.getD_some, Nat.reduceAdd, Nat.reduceEqDiff, if_false, if_true, and_false, false_and, and_true, true_and, and_self, t175, l175, t248, l248, t251, l251, t258, l258, r89]); first | done | assumption | omega | decide +kernel)
  try simp only [s_tgN, s_tgR, s_tgI, s_lnN, s_lnR, s_lnI, s_rN, s_rR, s_rI, s_zN, s_zR, s_zI, s_gR, hz64, Option.getD_some, Nat.reduceAdd, Nat.reduceEqDiff, if_false, if_true, and_false, false_and, and_true, true_and, and_self, t175, l175, t248, l248, t251, l251, t258, l258, r89]
  rw [show (nI 0).toNatClampNeg = 0 by decide +kernel, show nI 0 + nI 1 = nI 1 by decide +kernel]
  clear t175 l175 t248 l248 t251 l251 t258 l258 r89
  first | refine QQ.k1 95 100 2 ?_ ?_ | refine QQ.k2 95 100 2 ?_ ?_ | refine QQ.x0 95 100 2 ?_ ?_ | refine QQ.x1 95 100 2 ?_ ?_ | refine QQ.x2 95 100 2 ?_ ?_ | refine QQ.s1 95 100 2 ?_ ?_ | refine QQ.s2 95 100 2 ?_ ?_
  · repeat (first | exact h64 | refine CW.N (by rfl) (by decide) ?_ | refine CW.Rr (by rfl) (by decide) (by decide) ?_ | refine CW.I (by rfl) (by rfl) (by decide) (by decide) (by decide) ?_)
  intro w65 h65
  clear hz64 h64
  clear w64
  have hz65 : mSz w65 = 261 := h65.1.1
  -- 0 71
  have t175 : mTg w65 175 = 8 := h65.tg 175 (by decide) (by decide)
  have l175 : mLn w65 175 = 0 := h65.ln 175 (by decide) (by decide)
  have t248 : mTg w65 248 = 0 := h65.tg 248 (by decide) (by decide)
  have l248 : mLn w65 248 = 0 := h65.ln 248 (by decide) (by decide)
  have t251 : mTg w65 251 = 53 := h65.tg 251 (by decide) (by decide)
  have l251 : mLn w65 251 = 6 := h65.ln 251 (by decide) (by decide)
  have r89 : mR w65 248 2 = some 251 := h65.rf 89 (by decide)
  rw [b_0_71 (by assumption) (by simp only [s_tgN, s_tgR, s_tgI, s_lnN, s_lnR, s_lnI, s_rN, s_rR, s_rI, s_zN, s_zR, s_zI, s_gR, hz65, Option.getD_some, Nat.reduceAdd, Nat.reduceEqDiff, if_false, if_true, and_false, false_and, and_true, true_and, and_self, t175, l175, t248, l248, t251, l251, r89]) (by simp only [s_tgN, s_tgR, s_tgI, s_lnN, s_lnR, s_lnI, s_rN, s_rR, s_rI, s_zN, s_zR, s_zI, s_gR, hz65, Option.getD_some, Nat.reduceAdd, Nat.reduceEqDiff, if_false, if_true, and_false, false_and, and_true, true_and, and_self, t175, l175, t248, l248, t251, l251, r89]; decide)]
  simp only [s_tgN, s_tgR, s_tgI, s_lnN, s_lnR, s_lnI, s_rN, s_rR, s_rI, s_zN, s_zR, s_zI, s_gR, hz65, Option.getD_some, Nat.reduceAdd, Nat.reduceEqDiff, if_false, if_true, and_false, false_and, and_true, true_and, and_self, t175, l175, t248, l248, t251, l251, r89]
  rw [if_neg (by decide +kernel)]
  clear t175 l175 t248 l248 t251 l251 r89
  -- 0 80
  have t175 : mTg w65 175 = 8 := h65.tg 175 (by decide) (by decide)
  have l175 : mLn w65 175 = 0 := h65.ln 175 (by decide) (by decide)
  have t248 : mTg w65 248 = 0 := h65.tg 248 (by decide) (by decide)
  have l248 : mLn w65 248 = 0 := h65.ln 248 (by decide) (by decide)
  have t251 : mTg w65 251 = 53 := h65.tg 251 (by decide) (by decide)
  have l251 : mLn w65 251 = 6 := h65.ln 251 (by decide) (by decide)
  have r89 : mR w65 248 2 = some 251 := h65.rf 89 (by decide)
  rw [b_0_80] <;> try ((try simp only [s_tgN, s_tgR, s_tgI, s_lnN, s_lnR, s_lnI, s_rN, s_rR, s_rI, s_zN, s_zR, s_zI, s_gR, hz65, Option.getD_some, Nat.reduceAdd, Nat.reduceEqDiff, if_false, if_true, and_false, false_and, and_true, true_and, and_self, t175, l175, t248, l248, t251, l251, r89]); first | done | assumption | omega | decide +kernel)
  try simp only [s_tgN, s_tgR, s_tgI, s_lnN, s_lnR, s_lnI, s_rN, s_rR, s_rI, s_zN, s_zR, s_zI, s_gR, hz65, Option.getD_some, Nat.reduceAdd, Nat.reduceEqDiff, if_false, if_true, and_false, false_and, and_true, true_and, and_self, t175, l175, t248, l248, t251, l251, r89]
  clear t175 l175 t248 l248 t251 l251 r89
  first | refine QQ.k1 96 100 2 ?_ ?_ | refine QQ.k2 96 100 2 ?_ ?_ | refine QQ.x0 96 100 2 ?_ ?_ | refine QQ.x1 96 100 2 ?_ ?_ | refine QQ.x2 96 100 2 ?_ ?_ | refine QQ.s1 96 100 2 ?_ ?_ | refine QQ.s2 96 100 2 ?_ ?_
  · repeat (first | exact h65 | refine CW.N (by rfl) (by decide) ?_ | refine CW.Rr (by rfl) (by decide) (by decide) ?_ | refine CW.I (by rfl) (by rfl) (by decide) (by decide) (by decide) ?_)
  intro w66 h66
  clear hz65 h65
  clear w65
  have hz66 : mSz w66 = 262 := h66.1.1
  rw [e_52]
  -- 52 0
  have t261 : mTg w66 261 = 4 := h66.tg 261 (by decide) (by decide)
  have l261 : mLn w66 261 = 0 := h66.ln 261 (by decide) (by decide)
  rw [b_52_0] <;> try ((try simp only [s_tgN, s_tgR, s_tgI, s_lnN, s_lnR, s_lnI, s_rN, s_rR, s_rI, s_zN, s_zR, s_zI, s_gR, hz66, Option.getD_some, Nat.reduceAdd, Nat.reduceEqDiff, if_false, if_true, and_false, false_and, and_true, true_and, and_self, t261, l261]); first | done | assumption | omega | decide +kernel)
  try simp only [s_tgN, s_tgR, s_tgI, s_lnN, s_lnR, s_lnI, s_rN, s_rR, s_rI, s_zN, s_zR, s_zI, s_gR, hz66, Option.getD_some, Nat.reduceAdd, Nat.reduceEqDiff, if_false, if_true, and_false, false_and, and_true, true_and, and_self, t261, l261]
  clear t261 l261
  first | refine QQ.k1 98 102 2 ?_ ?_ | refine QQ.k2 98 102 2 ?_ ?_ | refine QQ.x0 98 102 2 ?_ ?_ | refine QQ.x1 98 102 2 ?_ ?_ | refine QQ.x2 98 102 2 ?_ ?_ | refine QQ.s1 98 102 2 ?_ ?_ | refine QQ.s2 98 102 2 ?_ ?_
  · repeat (first | exact h66 | refine CW.N (by rfl) (by decide) ?_ | refine CW.Rr (by rfl) (by decide) (by decide) ?_ | refine CW.I (by rfl) (by rfl) (by decide) (by decide) (by decide) ?_)
  intro w67 h67
  clear hz66 h66
  clear w66
  have hz67 : mSz w67 = 264 := h67.1.1
  simp only [mThen_ok, Option.toList_some, Option.toList_none, List.cons_append, List.nil_append]
  -- 0 92
  have t175 : mTg w67 175 = 8 := h67.tg 175 (by decide) (by decide)
  have l175 : mLn w67 175 = 0 := h67.ln 175 (by decide) (by decide)
  have t248 : mTg w67 248 = 0 := h67.tg 248 (by decide) (by decide)
  have l248 : mLn w67 248 = 0 := h67.ln 248 (by decide) (by decide)
  have t251 : mTg w67 251 = 53 := h67.tg 251 (by decide) (by decide)
  have l251 : mLn w67 251 = 6 := h67.ln 251 (by decide) (by decide)
  have t261 : mTg w67 261 = 4 := h67.tg 261 (by decide) (by decide)
  have l261 : mLn w67 261 = 0 := h67.ln 261 (by decide) (by decide)
  have r89 : mR w67 248 2 = some 251 := h67.rf 89 (by decide)
  rw [b_0_92] <;> try ((try simp only [s_tgN, s_tgR, s_tgI, s_lnN, s_lnR, s_lnI, s_rN, s_rR, s_rI, s_zN, s_zR, s_zI, s_gR, hz67, Option.getD_some, Nat.reduceAdd, Nat.reduceEqDiff, if_false, if_true, and_false, false_and, and_true, true_and, and_self, t175, l175, t248, l248, t251, l251, t261, l261, r89]); first | done | assumption | omega | decide +kernel)
  try simp only [s_tgN, s_tgR, s_tgI, s_lnN, s_lnR, s_lnI, s_rN, s_rR, s_rI, s_zN, s_zR, s_zI, s_gR, hz67, Option.getD_some, Nat.reduceAdd, Nat.reduceEqDiff, if_false, if_true, and_false, false_and, and_true, true_and, and_self, t175, l175, t248, l248, t251, l251, t261, l261, r89]
  rw [show (nI 1).toNatClampNeg = 1 by decide +kernel, show nI 1 + nI 1 = nI 2 by decide +kernel]
  clear t175 l175 t248 l248 t251 l251 t261 l261 r89
  first | refine QQ.k1 98 103 2 ?_ ?_ | refine QQ.k2 98 103 2 ?_ ?_ | refine QQ.x0 98 103 2 ?_ ?_ | refine QQ.x1 98 103 2 ?_ ?_ | refine QQ.x2 98 103 2 ?_ ?_ | refine QQ.s1 98 103 2 ?_ ?_ | refine QQ.s2 98 103 2 ?_ ?_
  · repeat (first | exact h67 | refine CW.N (by rfl) (by decide) ?_ | refine CW.Rr (by rfl) (by decide) (by decide) ?_ | refine CW.I (by rfl) (by rfl) (by decide) (by decide) (by decide) ?_)
  intro w68 h68
  clear hz67 h67
  clear w67
  have hz68 : mSz w68 = 264 := h68.1.1
  -- 0 71
  have t175 : mTg w68 175 = 8 := h68.tg 175 (by decide) (by decide)
  have l175 : mLn w68 175 = 0 := h68.ln 175 (by decide) (by decide)
  have t248 : mTg w68 248 = 0 := h68.tg 248 (by decide) (by decide)
  have l248 : mLn w68 248 = 0 := h68.ln 248 (by decide) (by decide)
  have t251 : mTg w68 251 = 53 := h68.tg 251 (by decide) (by decide)
  have l251 : mLn w68 251 = 6 := h68.ln 251 (by decide) (by decide)
  have r89 : mR w68 248 2 = some 251 := h68.rf 89 (by decide)
  rw [b_0_71 (by assumption) (by simp only [s_tgN, s_tgR, s_tgI, s_lnN, s_lnR, s_lnI, s_rN, s_rR, s_rI, s_zN, s_zR, s_zI, s_gR, hz68, Option.getD_some, Nat.reduceAdd, Nat.reduceEqDiff, if_false, if_true, and_false, false_and, and_true, true_and, and_self, t175, l175, t248, l248, t251, l251, r89]) (by simp only [s_tgN, s_tgR, s_tgI, s_lnN, s_lnR, s_lnI, s_rN, s_rR, s_rI, s_zN, s_zR, s_zI, s_gR, hz68, Option.getD_some, Nat.reduceAdd, Nat.reduceEqDiff, if_false, if_true, and_false, false_and, and_true, true_and, and_self, t175, l175, t248, l248, t251, l251, r89]; decide)]
  simp only [s_tgN, s_tgR, s_tgI, s_lnN, s_lnR, s_lnI, s_rN, s_rR, s_rI, s_zN, s_zR, s_zI, s_gR, hz68, Option.getD_some, Nat.reduceAdd, Nat.reduceEqDiff, if_false, if_true, and_false, false_and, and_true, true_and, and_self, t175, l175, t248, l248, t251, l251, r89]
  rw [if_neg (by decide +kernel)]
  clear t175 l175 t248 l248 t251 l251 r89
  -- 0 80
  have t175 : mTg w68 175 = 8 := h68.tg 175 (by decide) (by decide)
  have l175 : mLn w68 175 = 0 := h68.ln 175 (by decide) (by decide)
  have t248 : mTg w68 248 = 0 := h68.tg 248 (by decide) (by decide)
  have l248 : mLn w68 248 = 0 := h68.ln 248 (by decide) (by decide)
  have t251 : mTg w68 251 = 53 := h68.tg 251 (by decide) (by decide)
  have l251 : mLn w68 251 = 6 := h68.ln 251 (by decide) (by decide)
  have r89 : mR w68 248 2 = some 251 := h68.rf 89 (by decide)
  rw [b_0_80] <;> try ((try simp only [s_tgN, s_tgR, s_tgI, s_lnN, s_lnR, s_lnI, s_rN, s_rR, s_rI, s_zN, s_zR, s_zI, s_gR, hz68, Option.getD_some, Nat.reduceAdd, Nat.reduceEqDiff, if_false, if_true, and_false, false_and, and_true, true_and, and_self, t175, l175, t248, l248, t251, l251, r89]); first | done | assumption | omega | decide +kernel)
  try simp only [s_tgN, s_tgR, s_tgI, s_lnN, s_lnR, s_lnI, s_rN, s_rR, s_rI, s_zN, s_zR, s_zI, s_gR, hz68, Option.getD_some, Nat.reduceAdd, Nat.reduceEqDiff, if_false, if_true, and_false, false_and, and_true, true_and, and_self, t175, l175, t248, l248, t251, l251, r89]
  clear t175 l175 t248 l248 t251 l251 r89
  first | refine QQ.k1 99 103 2 ?_ ?_ | refine QQ.k2 99 103 2 ?_ ?_ | refine QQ.x0 99 103 2 ?_ ?_ | refine QQ.x1 99 103 2 ?_ ?_ | refine QQ.x2 99 103 2 ?_ ?_ | refine QQ.s1 99 103 2 ?_ ?_ | refine QQ.s2 99 103 2 ?_ ?_
  · repeat (first | exact h68 | refine CW.N (by rfl) (by decide) ?_ | refine CW.Rr (by rfl) (by decide) (by decide) ?_ | refine CW.I (by rfl) (by rfl) (by decide) (by decide) (by decide) ?_)
  intro w69 h69
  clear hz68 h68
  clear w68
  have hz69 : mSz w69 = 265 := h69.1.1
  rw [e_52]
  -- 52 0
  have t264 : mTg w69 264 = 4 := h69.tg 264 (by decide) (by decide)
  have l264 : mLn w69 264 = 0 := h69.ln 264 (by decide) (by decide)
  rw [b_52_0] <;> try ((try simp only [s_tgN, s_tgR, s_tgI, s_lnN, s_lnR, s_lnI, s_rN, s_rR, s_rI, s_zN, s_zR, s_zI, s_gR, hz69, Option.getD_some, Nat.reduceAdd, Nat.reduceEqDiff, if_false, if_true, and_false, false_and, and_true, true_and, and_self, t264, l264]); first | done | assumption | omega | decide +kernel)
  try simp only [s_tgN, s_tgR, s_tgI, s_lnN, s_lnR, s_lnI, s_rN, s_rR, s_rI, s_zN, s_zR, s_zI, s_gR, hz69, Option.getD_some, Nat.reduceAdd, Nat.reduceEqDiff, if_false, if_true, and_false, false_and, and_true, true_and, and_self, t264, l264]
  clear t264 l264
  first | refine QQ.k1 101 105 2 ?_ ?_ | refine QQ.k2 101 105 2 ?_ ?_ | refine QQ.x0 101 105 2 ?_ ?_ | refine QQ.x1 101 105 2 ?_ ?_ | refine QQ.x2 101 105 2 ?_ ?_ | refine QQ.s1 101 105 2 ?_ ?_ | refine QQ.s2 101 105 2 ?_ ?_
  · repeat (first | exact h69 | refine CW.N (by rfl) (by decide) ?_ | refine CW.Rr (by rfl) (by decide) (by decide) ?_ | refine CW.I (by rfl) (by rfl) (by decide) (by decide) (by decide) ?_)
  intro w70 h70
  clear hz69 h69
  clear w69
  have hz70 : mSz w70 = 267 := h70.1.1
  simp only [mThen_ok, Option.toList_some, Option.toList_none, List.cons_append, List.nil_append]
  -- 0 92
  have t175 : mTg w70 175 = 8 := h70.tg 175 (by decide) (by decide)
  have l175 : mLn w70 175 = 0 := h70.ln 175 (by decide) (by decide)
  have t248 : mTg w70 248 = 0 := h70.tg 248 (by decide) (by decide)
  have l248 : mLn w70 248 = 0 := h70.ln 248 (by decide) (by decide)
  have t251 : mTg w70 251 = 53 := h70.tg 251 (by decide) (by decide)
  have l251 : mLn w70 251 = 6 := h70.ln 251 (by decide) (by decide)
  have t264 : mTg w70 264 = 4 := h70.tg 264 (by decide) (by decide)
  have l264 : mLn w70 264 = 0 := h70.ln 264 (by decide) (by decide)
  have r89 : mR w70 248 2 = some 251 := h70.rf 89 (by decide)
  rw [b_0_92] <;> try ((try simp only [s_tgN, s_tgR, s_tgI, s_lnN, s_lnR, s_lnI, s_rN, s_rR, s_rI, s_zN, s_zR, s_zI, s_gR, hz70, Option.getD_some, Nat.reduceAdd, Nat.reduceEqDiff, if_false, if_true, and_false, false_and, and_true, true_and, and_self, t175, l175, t248, l248, t251, l251, t264, l264, r89]); first | done | assumption | omega | decide +kernel)
  try simp only [s_tgN, s_tgR, s_tgI, s_lnN, s_lnR, s_lnI, s_rN, s_rR, s_rI, s_zN, s_zR, s_zI, s_gR, hz70, Option.getD_some, Nat.reduceAdd, Nat.reduceEqDiff, if_false, if_true, and_false, false_and, and_true, true_and, and_self, t175, l175, t248, l248, t251, l251, t264, l264, r89]
  rw [show (nI 2).toNatClampNeg = 2 by decide +kernel, show nI 2 + nI 1 = nI 3 by decide +kernel]
  clear t175 l175 t248 l248 t251 l251 t264 l264 r89
  first | refine QQ.k1 101 106 2 ?_ ?_ | refine QQ.k2 101 106 2 ?_ ?_ | refine QQ.x0 101 106 2 ?_ ?_ | refine QQ.x1 101 106 2 ?_ ?_ | refine QQ.x2 101 106 2 ?_ ?_ | refine QQ.s1 101 106 2 ?_ ?_ | refine QQ.s2 101 106 2 ?_ ?_
  · repeat (first | exact h70 | refine CW.N (by rfl) (by decide) ?_ | refine CW.Rr (by rfl) (by decide) (by decide) ?_ | refine CW.I (by rfl) (by rfl) (by decide) (by decide) (by decide) ?_)
  intro w71 h71
  clear hz70 h70
  clear w70
  have hz71 : mSz w71 = 267 := h71.1.1
  -- 0 71
  have t175 : mTg w71 175 = 8 := h71.tg 175 (by decide) (by decide)
  have l175 : mLn w71 175 = 0 := h71.ln 175 (by decide) (by decide)
  have t248 : mTg w71 248 = 0 := h71.tg 248 (by decide) (by decide)
  have l248 : mLn w71 248 = 0 := h71.ln 248 (by decide) (by decide)
  have t251 : mTg w71 251 = 53 := h71.tg 251 (by decide) (by decide)
  have l251 : mLn w71 251 = 6 := h71.ln 251 (by decide) (by decide)
  have r89 : mR w71 248 2 = some 251 := h71.rf 89 (by decide)
  rw [b_0_71 (by assumption) (by simp only [s_tgN, s_tgR, s_tgI, s_lnN, s_lnR, s_lnI, s_rN, s_rR, s_rI, s_zN, s_zR, s_zI, s_gR, hz71, Option.getD_some, Nat.reduceAdd, Nat.reduceEqDiff, if_false, if_true, and_false, false_and, and_true, true_and, and_self, t175, l175, t248, l248, t251, l251, r89]) (by simp only [s_tgN, s_tgR, s_tgI, s_lnN, s_lnR, s_lnI, s_rN, s_rR, s_rI, s_zN, s_zR, s_zI, s_gR, hz71, Option.getD_some, Nat.reduceAdd, Nat.reduceEqDiff, if_false, if_true, and_false, false_and, and_true, true_and, and_self, t175, l175, t248, l248, t251, l251, r89]; decide)]
  simp only [s_tgN, s_tgR, s_tgI, s_lnN, s_lnR, s_lnI, s_rN, s_rR, s_rI, s_zN, s_zR, s_zI, s_gR, hz71, Option.getD_some, Nat.reduceAdd, Nat.reduceEqDiff, if_false, if_true, and_false, false_and, and_true, true_and, and_self, t175, l175, t248, l248, t251, l251, r89]
  rw [if_neg (by decide +kernel)]
  clear t175 l175 t248 l248 t251 l251 r89
  -- 0 80
  have t175 : mTg w71 175 = 8 := h71.tg 175 (by decide) (by decide)
  have l175 : mLn w71 175 = 0 := h71.ln 175 (by decide) (by decide)
  have t248 : mTg w71 248 = 0 := h71.tg 248 (by decide) (by decide)
  have l248 : mLn w71 248 = 0 := h71.ln 248 (by decide) (by decide)
  have t251 : mTg w71 251 = 53 := h71.tg 251 (by decide) (by decide)
  have l251 : mLn w71 251 = 6 := h71.ln 251 (by decide) (by decide)
  have r89 : mR w71 248 2 = some 251 := h71.rf 89 (by decide)
  rw [b_0_80] <;> try ((try simp only [s_tgN, s_tgR, s_tgI, s_lnN, s_lnR, s_lnI, s_rN, s_rR, s_rI, s_zN, s_zR, s_zI, s_gR, hz71, Option.getD_some, Nat.reduceAdd, Nat.reduceEqDiff, if_false, if_true, and_false, false_and, and_true, true_and, and_self, t175, l175, t248, l248, t251, l251, r89]); first | done | assumption | omega | decide +kernel)
  try simp only [s_tgN, s_tgR, s_tgI, s_lnN, s_lnR, s_lnI, s_rN, s_rR, s_rI, s_zN, s_zR, s_zI, s_gR, hz71, Option.getD_some, Nat.reduceAdd, Nat.reduceEqDiff, if_false, if_true, and_false, false_and, and_true, true_and, and_self, t175, l175, t248, l248, t251, l251, r89]
  clear t175 l175 t248 l248 t251 l251 r89
  first | refine QQ.k1 102 106 2 ?_ ?_ | refine QQ.k2 102 106 2 ?_ ?_ | refine QQ.x0 102 106 2 ?_ ?_ | refine QQ.x1 102 106 2 ?_ ?_ | refine QQ.x2 102 106 2 ?_ ?_ | refine QQ.s1 102 106 2 ?_ ?_ | refine QQ.s2 102 106 2 ?_ ?_
  · repeat (first | exact h71 | refine CW.N (by rfl) (by decide) ?_ | refine CW.Rr (by rfl) (by decide) (by decide) ?_ | refine CW.I (by rfl) (by rfl) (by decide) (by decide) (by decide) ?_)
  intro w72 h72
  clear hz71 h71
  clear w71
  have hz72 : mSz w72 = 268 := h72.1.1
  rw [e_52]
  -- 52 0
  have t267 : mTg w72 267 = 4 := h72.tg 267 (by decide) (by decide)
  have l267 : mLn w72 267 = 0 := h72.ln 267 (by decide) (by decide)
  rw [b_52_0] <;> try ((try simp only [s_tgN, s_tgR, s_tgI, s_lnN, s_lnR, s_lnI, s_rN, s_rR, s_rI, s_zN, s_zR, s_zI, s_gR, hz72, Option.getD_some, Nat.reduceAdd, Nat.reduceEqDiff, if_false, if_true, and_false, false_and, and_true, true_and, and_self, t267, l267]); first | done | assumption | omega | decide +kernel)
  try simp only [s_tgN, s_tgR, s_tgI, s_lnN, s_lnR, s_lnI, s_rN, s_rR, s_rI, s_zN, s_zR, s_zI, s_gR, hz72, Option.getD_some, Nat.reduceAdd, Nat.reduceEqDiff, if_false, if_true, and_false, false_and, and_true, true_and, and_self, t267, l267]
  clear t267 l267
  first | refine QQ.k1 104 108 2 ?_ ?_ | refine QQ.k2 104 108 2 ?_ ?_ | refine QQ.x0 104 108 2 ?_ ?_ | refine QQ.x1 104 108 2 ?_ ?_ | refine QQ.x2 104 108 2 ?_ ?_ | refine QQ.s1 104 108 2 ?_ ?_ | refine QQ.s2 104 108 2 ?_ ?_
  · repeat (first | exact h72 | refine CW.N (by rfl) (by decide) ?_ | refine CW.Rr (by rfl) (by decide) (by decide) ?_ | refine CW.I (by rfl) (by rfl) (by decide) (by decide) (by decide) ?_)
  intro w73 h73
  clear hz72 h72
  clear w72
  have hz73 : mSz w73 = 270 := h73.1.1
  simp only [mThen_ok, Option.toList_some, Option.toList_none, List.cons_append, List.nil_append]
  -- 0 92
  have t175 : mTg w73 175 = 8 := h73.tg 175 (by decide) (by decide)
  have l175 : mLn w73 175 = 0 := h73.ln 175 (by decide) (by decide)
  have t248 : mTg w73 248 = 0 := h73.tg 248 (by decide) (by decide)
  have l248 : mLn w73 248 = 0 := h73.ln 248 (by decide) (by decide)
  have t251 : mTg w73 251 = 53 := h73.tg 251 (by decide) (by decide)
  have l251 : mLn w73 251 = 6 := h73.ln 251 (by decide) (by decide)
  have t267 : mTg w73 267 = 4 := h73.tg 267 (by decide) (by decide)
  have l267 : mLn w73 267 = 0 := h73.ln 267 (by decide) (by decide)
  have r89 : mR w73 248 2 = some 251 := h73.rf 89 (by decide)
  rw [b_0_92] <;> try ((try simp only [s_tgN, s_tgR, s_tgI, s_lnN, s_lnR, s_lnI, s_rN, s_rR, s_rI, s_zN, s_zR, s_zI, s_gR, hz73, Option.getD_some, Nat.reduceAdd, Nat.reduceEqDiff, if_false, if_true, and_false, false_and, and_true, true_and, and_self, t175, l175, t248, l248, t251, l251, t267, l267, r89]); first | done | assumption | omega | decide +kernel)
  try simp only [s_tgN, s_tgR, s_tgI, s_lnN, s_lnR, s_lnI, s_rN, s_rR, s_rI, s_zN, s_zR, s_zI, s_gR, hz73, Option.getD_some, Nat.reduceAdd, Nat.reduceEqDiff, if_false, if_true, and_false, false_and, and_true, true_and, and_self, t175, l175, t248, l248, t251, l251, t267, l267, r89]
  rw [show (nI 3).toNatClampNeg = 3 by decide +kernel, show nI 3 + nI 1 = nI 4 by decide +kernel]
  clear t175 l175 t248 l248 t251 l251 t267 l267 r89
  first | refine QQ.k1 104 109 2 ?_ ?_ | refine QQ.k2 104 109 2 ?_ ?_ | refine QQ.x0 104 109 2 ?_ ?_ | refine QQ.x1 104 109 2 ?_ ?_ | refine QQ.x2 104 109 2 ?_ ?_ | refine QQ.s1 104 109 2 ?_ ?_ | refine QQ.s2 104 109 2 ?_ ?_
  · repeat (first | exact h73 | refine CW.N (by rfl) (by decide) ?_ | refine CW.Rr (by rfl) (by decide) (by decide) ?_ | refine CW.I (by rfl) (by rfl) (by decide) (by decide) (by decide) ?_)
  intro w74 h74
  clear hz73 h73
  clear w73
  have hz74 : mSz w74 = 270 := h74.1.1
  -- 0 71
  have t175 : mTg w74 175 = 8 := h74.tg 175 (by decide) (by decide)
  have l175 : mLn w74 175 = 0 := h74.ln 175 (by decide) (by decide)
  have t248 : mTg w74 248 = 0 := h74.tg 248 (by decide) (by decide)
  have l248 : mLn w74 248 = 0 := h74.ln 248 (by decide) (by decide)
  have t251 : mTg w74 251 = 53 := h74.tg 251 (by decide) (by decide)
  have l251 : mLn w74 251 = 6 := h74.ln 251 (by decide) (by decide)
  have r89 : mR w74 248 2 = some 251 := h74.rf 89 (by decide)
  rw [b_0_71 (by assumption) (by simp only [s_tgN, s_tgR, s_tgI, s_lnN, s_lnR, s_lnI, s_rN, s_rR, s_rI, s_zN, s_zR, s_zI, s_gR, hz74, Option.getD_some, Nat.reduceAdd, Nat.reduceEqDiff, if_false, if_true, and_false, false_and, and_true, true_and, and_self, t175, l175, t248, l248, t251, l251, r89]) (by simp only [s_tgN, s_tgR, s_tgI, s_lnN, s_lnR, s_lnI, s_rN, s_rR, s_rI, s_zN, s_zR, s_zI, s_gR, hz74, Option.getD_some, Nat.reduceAdd, Nat.reduceEqDiff, if_false, if_true, and_false, false_and, and_true, true_and, and_self, t175, l175, t248, l248, t251, l251, r89]; decide)]
  simp only [s_tgN, s_tgR, s_tgI, s_lnN, s_lnR, s_lnI, s_rN, s_rR, s_rI, s_zN, s_zR, s_zI, s_gR, hz74, Option.getD_some, Nat.reduceAdd, Nat.reduceEqDiff, if_false, if_true, and_false, false_and, and_true, true_and, and_self, t175, l175, t248, l248, t251, l251, r89]
  rw [if_neg (by decide +kernel)]
  clear t175 l175 t248 l248 t251 l251 r89
  -- 0 80
  have t175 : mTg w74 175 = 8 := h74.tg 175 (by decide) (by decide)
  have l175 : mLn w74 175 = 0 := h74.ln 175 (by decide) (by decide)
  have t248 : mTg w74 248 = 0 := h74.tg 248 (by decide) (by decide)
  have l248 : mLn w74 248 = 0 := h74.ln 248 (by decide) (by decide)
  have t251 : mTg w74 251 = 53 := h74.tg 251 (by decide) (by decide)
  have l251 : mLn w74 251 = 6 := h74.ln 251 (by decide) (by decide)
  have r89 : mR w74 248 2 = some 251 := h74.rf 89 (by decide)
  rw [b_0_80] <;> try ((try simp only [s_tgN, s_tgR, s_tgI, s_lnN, s_lnR, s_lnI, s_rN, s_rR, s_rI, s_zN, s_zR, s_zI, s_gR, hz74, Option.getD_some, Nat.reduceAdd, Nat.reduceEqDiff, if_false, if_true, and_false, false_and, and_true, true_and, and_self, t175, l175, t248, l248, t251, l251, r89]); first | done | assumption | omega | decide +kernel)
  try simp only [s_tgN, s_tgR, s_tgI, s_lnN, s_lnR, s_lnI, s_rN, s_rR, s_rI, s_zN, s_zR, s_zI, s_gR, hz74, Option.getD_some, Nat.reduceAdd, Nat.reduceEqDiff, if_false, if_true, and_false, false_and, and_true, true_and, and_self, t175, l175, t248, l248, t251, l251, r89]
  clear t175 l175 t248 l248 t251 l251 r89
  first | refine QQ.k1 105 109 2 ?_ ?_ | refine QQ.k2 105 109 2 ?_ ?_ | refine QQ.x0 105 109 2 ?_ ?_ | refine QQ.x1 105 109 2 ?_ ?_ | refine QQ.x2 105 109 2 ?_ ?_ | refine QQ.s1 105 109 2 ?_ ?_ | refine QQ.s2 105 109 2 ?_ ?_
  · repeat (first | exact h74 | refine CW.N (by rfl) (by decide) ?_ | refine CW.Rr (by rfl) (by decide) (by decide) ?_ | refine CW.I (by rfl) (by rfl) (by decide) (by decide) (by decide) ?_)
  intro w75 h75
  clear hz74 h74
  clear w74
  have hz75 : mSz w75 = 271 := h75.1.1
  rw [e_52]
  -- 52 0
  have t270 : mTg w75 270 = 4 := h75.tg 270 (by decide) (by decide)
  have l270 : mLn w75 270 = 0 := h75.ln 270 (by decide) (by decide)
  rw [b_52_0] <;> try ((try simp only [s_tgN, s_tgR, s_tgI, s_lnN, s_lnR, s_lnI, s_rN, s_rR, s_rI, s_zN, s_zR, s_zI, s_gR, hz75, Option.getD_some, Nat.reduceAdd, Nat.reduceEqDiff, if_false, if_true, and_false, false_and, and_true, true_and, and_self, t270, l270]); first | done | assumption | omega | decide +kernel)
  try simp only [s_tgN, s_tgR, s_tgI, s_lnN, s_lnR, s_lnI, s_rN, s_rR, s_rI, s_zN, s_zR, s_zI, s_gR, hz75, Option.getD_some, Nat.reduceAdd, Nat.reduceEqDiff, if_false, if_true, and_false, false_and, and_true, true_and, and_self, t270, l270]
  clear t270 l270
  first | refine QQ.k1 107 111 2 ?_ ?_ | refine QQ.k2 107 111 2 ?_ ?_ | refine QQ.x0 107 111 2 ?_ ?_ | refine QQ.x1 107 111 2 ?_ ?_ | refine QQ.x2 107 111 2 ?_ ?_ | refine QQ.s1 107 111 2 ?_ ?_ | refine QQ.s2 107 111 2 ?_ ?_
  · repeat (first | exact h75 | refine CW.N (by rfl) (by decide) ?_ | refine CW.Rr (by rfl) (by decide) (by decide) ?_ | refine CW.I (by rfl) (by rfl) (by decide) (by decide) (by decide) ?_)
  intro w76 h76
  clear hz75 h75
  clear w75
  have hz76 : mSz w76 = 273 := h76.1.1
  simp only [mThen_ok, Option.toList_some, Option.toList_none, List.cons_append, List.nil_append]
  -- 0 92
  have t175 : mTg w76 175 = 8 := h76.tg 175 (by decide) (by decide)
  have l175 : mLn w76 175 = 0 := h76.ln 175 (by decide) (by decide)
  have t248 : mTg w76 248 = 0 := h76.tg 248 (by decide) (by decide)
  have l248 : mLn w76 248 = 0 := h76.ln 248 (by decide) (by decide)
  have t251 : mTg w76 251 = 53 := h76.tg 251 (by decide) (by decide)
  have l251 : mLn w76 251 = 6 := h76.ln 251 (by decide) (by decide)
  have t270 : mTg w76 270 = 4 := h76.tg 270 (by decide) (by decide)
  have l270 : mLn w76 270 = 0 := h76.ln 270 (by decide) (by decide)
  have r89 : mR w76 248 2 = some 251 := h76.rf 89 (by decide)
  rw [b_0_92] <;> try ((try simp only [s_tgN, s_tgR, s_tgI, s_lnN, s_lnR, s_lnI, s_rN, s_rR, s_rI, s_zN, s_zR, s_zI, s_gR, hz76, Option.getD_some, Nat.reduceAdd, Nat.reduceEqDiff, if_false, if_true, and_false, false_and, and_true, true_and, and_self, t175, l175, t248, l248, t251, l251, t270, l270, r89]); first | done | assumption | omega | decide +kernel)
  try simp only [s_tgN, s_tgR, s_tgI, s_lnN, s_lnR, s_lnI, s_rN, s_rR, s_rI, s_zN, s_zR, s_zI, s_gR, hz76, Option.getD_some, Nat.reduceAdd, Nat.reduceEqDiff, if_false, if_true, and_false, false_and, and_true, true_and, and_self, t175, l175, t248, l248, t251, l251, t270, l270, r89]
  rw [show (nI 4).toNatClampNeg = 4 by decide +kernel, show nI 4 + nI 1 = nI 5 by decide +kernel]
  clear t175 l175 t248 l248 t251 l251 t270 l270 r89
  first | refine QQ.k1 107 112 2 ?_ ?_ | refine QQ.k2 107 112 2 ?_ ?_ | refine QQ.x0 107 112 2 ?_ ?_ | refine QQ.x1 107 112 2 ?_ ?_ | refine QQ.x2 107 112 2 ?_ ?_ | refine QQ.s1 107 112 2 ?_ ?_ | refine QQ.s2 107 112 2 ?_ ?_
  · repeat (first | exact h76 | refine CW.N (by rfl) (by decide) ?_ | refine CW.Rr (by rfl) (by decide) (by decide) ?_ | refine CW.I (by rfl) (by rfl) (by decide) (by decide) (by decide) ?_)
  intro w77 h77
  clear hz76 h76
  clear w76
  have hz77 : mSz w77 = 273 := h77.1.1
  -- 0 71
  have t175 : mTg w77 175 = 8 := h77.tg 175 (by decide) (by decide)
  have l175 : mLn w77 175 = 0 := h77.ln 175 (by decide) (by decide)
  have t248 : mTg w77 248 = 0 := h77.tg 248 (by decide) (by decide)
  have l248 : mLn w77 248 = 0 := h77.ln 248 (by decide) (by decide)
  have t251 : mTg w77 251 = 53 := h77.tg 251 (by decide) (by decide)
  have l251 : mLn w77 251 = 6 := h77.ln 251 (by decide) (by decide)
  have r89 : mR w77 248 2 = some 251 := h77.rf 89 (by decide)
  rw [b_0_71 (by assumption) (by simp only [s_tgN, s_tgR, s_tgI, s_lnN, s_lnR, s_lnI, s_rN, s_rR, s_rI, s_zN, s_zR, s_zI, s_gR, hz77, Option.getD_some, Nat.reduceAdd, Nat.reduceEqDiff, if_false, if_true, and_false, false_and, and_true, true_and, and_self, t175, l175, t248, l248, t251, l251, r89]) (by simp only [s_tgN, s_tgR, s_tgI, s_lnN, s_lnR, s_lnI, s_rN, s_rR, s_rI, s_zN, s_zR, s_zI, s_gR, hz77, Option.getD_some, Nat.reduceAdd, Nat.reduceEqDiff, if_false, if_true, and_false, false_and, and_true, true_and, and_self, t175, l175, t248, l248, t251, l251, r89]; decide)]
  simp only [s_tgN, s_tgR, s_tgI, s_lnN, s_lnR, s_lnI, s_rN, s_rR, s_rI, s_zN, s_zR, s_zI, s_gR, hz77, Option.getD_some, Nat.reduceAdd, Nat.reduceEqDiff, if_false, if_true, and_false, false_and, and_true, true_and, and_self, t175, l175, t248, l248, t251, l251, r89]
  rw [if_neg (by decide +kernel)]
  clear t175 l175 t248 l248 t251 l251 r89
  -- 0 80
  have t175 : mTg w77 175 = 8 := h77.tg 175 (by decide) (by decide)
  have l175 : mLn w77 175 = 0 := h77.ln 175 (by decide) (by decide)
  have t248 : mTg w77 248 = 0 := h77.tg 248 (by decide) (by decide)
  have l248 : mLn w77 248 = 0 := h77.ln 248 (by decide) (by decide)
  have t251 : mTg w77 251 = 53 := h77.tg 251 (by decide) (by decide)
  have l251 : mLn w77 251 = 6 := h77.ln 251 (by decide) (by decide)
  have r89 : mR w77 248 2 = some 251 := h77.rf 89 (by decide)
  rw [b_0_80] <;> try ((try simp only [s_tgN, s_tgR, s_tgI, s_lnN, s_lnR, s_lnI, s_rN, s_rR, s_rI, s_zN, s_zR, s_zI, s_gR, hz77, Option.getD_some, Nat.reduceAdd, Nat.reduceEqDiff, if_false, if_true, and_false, false_and, and_true, true_and, and_self, t175, l175, t248, l248, t251, l251, r89]); first | done | assumption | omega | decide +kernel)
  try simp only [s_tgN, s_tgR, s_tgI, s_lnN, s_lnR, s_lnI, s_rN, s_rR, s_rI, s_zN, s_zR, s_zI, s_gR, hz77, Option.getD_some, Nat.reduceAdd, Nat.reduceEqDiff, if_false, if_true, and_false, false_and, and_true, true_and, and_self, t175, l175, t248, l248, t251, l251, r89]
  clear t175 l175 t248 l248 t251 l251 r89
  first | refine QQ.k1 108 112 2 ?_ ?_ | refine QQ.k2 108 112 2 ?_ ?_ | refine QQ.x0 108 112 2 ?_ ?_ | refine QQ.x1 108 112 2 ?_ ?_ | refine QQ.x2 108 112 2 ?_ ?_ | refine QQ.s1 108 112 2 ?_ ?_ | refine QQ.s2 108 112 2 ?_ ?_
  · repeat (first | exact h77 | refine CW.N (by rfl) (by decide) ?_ | refine CW.Rr (by rfl) (by decide) (by decide) ?_ | refine CW.I (by rfl) (by rfl) (by decide) (by decide) (by decide) ?_)
  intro w78 h78
  clear hz77 h77
  clear w77
  have hz78 : mSz w78 = 274 := h78.1.1
  rw [e_52]
  -- 52 0
  have t273 : mTg w78 273 = 4 := h78.tg 273 (by decide) (by decide)
  have l273 : mLn w78 273 = 0 := h78.ln 273 (by decide) (by decide)
  rw [b_52_0] <;> try ((try simp only [s_tgN, s_tgR, s_tgI, s_lnN, s_lnR, s_lnI, s_rN, s_rR, s_rI, s_zN, s_zR, s_zI, s_gR, hz78, Option.getD_some, Nat.reduceAdd, Nat.reduceEqDiff, if_false, if_true, and_false, false_and, and_true, true_and, and_self, t273, l273]); first | done | assumption | omega | decide +kernel)
  try simp only [s_tgN, s_tgR, s_tgI, s_lnN, s_lnR, s_lnI, s_rN, s_rR, s_rI, s_zN, s_zR, s_zI, s_gR, hz78, Option.getD_some, Nat.reduceAdd, Nat.reduceEqDiff, if_false, if_true, and_false, false_and, and_true, true_and, and_self, t273, l273]
  clear t273 l273
  first | refine QQ.k1 110 114 2 ?_ ?_ | refine QQ.k2 110 114 2 ?_ ?_ | refine QQ.x0 110 114 2 ?_ ?_ | refine QQ.x1 110 114 2 ?_ ?_ | refine QQ.x2 110 114 2 ?_ ?_ | refine QQ.s1 110 114 2 ?_ ?_ | refine QQ.s2 110 114 2 ?_ ?_
  · repeat (first | exact h78 | refine CW.N (by rfl) (by decide) ?_ | refine CW.Rr (by rfl) (by decide) (by decide) ?_ | refine CW.I (by rfl) (by rfl) (by decide) (by decide) (by decide) ?_)
  intro w79 h79
  clear hz78 h78
  clear w78
  have hz79 : mSz w79 = 276 := h79.1.1
  simp only [mThen_ok, Option.toList_some, Option.toList_none, List.cons_append, List.nil_append]
  -- 0 92
  have t175 : mTg w79 175 = 8 := h79.tg 175 (by decide) (by decide)
  have l175 : mLn w79 175 = 0 := h79.ln 175 (by decide) (by decide)
  have t248 : mTg w79 248 = 0 := h79.tg 248 (by decide) (by decide)
  have l248 : mLn w79 248 = 0 := h79.ln 248 (by decide) (by decide)
  have t251 : mTg w79 251 = 53 := h79.tg 251 (by decide) (by decide)
  have l251 : mLn w79 251 = 6 := h79.ln 251 (by decide) (by decide)
  have t273 : mTg w79 273 = 4 := h79.tg 273 (by decide) (by decide)
  have l273 : mLn w79 273 = 0 := h79.ln 273 (by decide) (by decide)
  have r89 : mR w79 248 2 = some 251 := h79.rf 89 (by decide)
  rw [b_0_92] <;> try ((try simp only [s_tgN, s_tgR, s_tgI, s_lnN, s_lnR, s_lnI, s_rN, s_rR, s_rI, s_zN, s_zR, s_zI, s_gR, hz79, Option.getD_some, Nat.reduceAdd, Nat.reduceEqDiff, if_false, if_true, and_false, false_and, and_true, true_and, and_self, t175, l175, t248, l248, t251, l251, t273, l273, r89]); first | done | assumption | omega | decide +kernel)
  try simp only [s_tgN, s_tgR, s_tgI, s_lnN, s_lnR, s_lnI, s_rN, s_rR, s_rI, s_zN, s_zR, s_zI, s_gR, hz79, Option.getD_some, Nat.reduceAdd, Nat.reduceEqDiff, if_false, if_true, and_false, false_and, and_true, true_and, and_self, t175, l175, t248, l248, t251, l251, t273, l273, r89]
  rw [show (nI 5).toNatClampNeg = 5 by decide +kernel, show nI 5 + nI 1 = nI 6 by decide +kernel]
  clear t175 l175 t248 l248 t251 l251 t273 l273 r89
  first | refine QQ.k1 110 115 2 ?_ ?_ | refine QQ.k2 110 115 2 ?_ ?_ | refine QQ.x0 110 115 2 ?_ ?_ | refine QQ.x1 110 115 2 ?_ ?_ | refine QQ.x2 110 115 2 ?_ ?_ | refine QQ.s1 110 115 2 ?_ ?_ | refine QQ.s2 110 115 2 ?_ ?_
  · repeat (first | exact h79 | refine CW.N (by rfl) (by decide) ?_ | refine CW.Rr (by rfl) (by decide) (by decide) ?_ | refine CW.I (by rfl) (by rfl) (by decide) (by decide) (by decide) ?_)
  intro w80 h80
  clear hz79 h79
  clear w79
  have hz80 : mSz w80 = 276 := h80.1.1
  -- 0 71
  have t175 : mTg w80 175 = 8 := h80.tg 175 (by decide) (by decide)
  have l175 : mLn w80 175 = 0 := h80.ln 175 (by decide) (by decide)
  have t248 : mTg w80 248 = 0 := h80.tg 248 (by decide) (by decide)
  have l248 : mLn w80 248 = 0 := h80.ln 248 (by decide) (by decide)
  have t251 : mTg w80 251 = 53 := h80.tg 251 (by decide) (by decide)
  have l251 : mLn w80 251 = 6 := h80.ln 251 (by decide) (by decide)
  have r89 : mR w80 248 2 = some 251 := h80.rf 89 (by decide)
  rw [b_0_71 (by assumption) (by simp only [s_tgN, s_tgR, s_tgI, s_lnN, s_lnR, s_lnI, s_rN, s_rR, s_rI, s_zN, s_zR, s_zI, s_gR, hz80, Option.getD_some, Nat.reduceAdd, Nat.reduceEqDiff, if_false, if_true, and_false, false_and, and_true, true_and, and_self, t175, l175, t248, l248, t251, l251, r89]) (by simp only [s_tgN, s_tgR, s_tgI, s_lnN, s_lnR, s_lnI, s_rN, s_rR, s_rI, s_zN, s_zR, s_zI, s_gR, hz80, Option.getD_some, Nat.reduceAdd, Nat.reduceEqDiff, if_false, if_true, and_false, false_and, and_true, true_and, and_self, t175, l175, t248, l248, t251, l251, r89]; decide)]
  simp only [s_tgN, s_tgR, s_tgI, s_lnN, s_lnR, s_lnI, s_rN, s_rR, s_rI, s_zN, s_zR, s_zI, s_gR, hz80, Option.getD_some, Nat.reduceAdd, Nat.reduceEqDiff, if_false, if_true, and_false, false_and, and_true, true_and, and_self, t175, l175, t248, l248, t251, l251, r89]
  rw [if_pos (by decide +kernel)]
  clear t175 l175 t248 l248 t251 l251 r89
  -- 0 99
  have t175 : mTg w80 175 = 8 := h80.tg 175 (by decide) (by decide)
  have l175 : mLn w80 175 = 0 := h80.ln 175 (by decide) (by decide)
  have t248 : mTg w80 248 = 0 := h80.tg 248 (by decide) (by decide)
  have l248 : mLn w80 248 = 0 := h80.ln 248 (by decide) (by decide)
  have t251 : mTg w80 251 = 53 := h80.tg 251 (by decide) (by decide)
  have l251 : mLn w80 251 = 6 := h80.ln 251 (by decide) (by decide)
  have r89 : mR w80 248 2 = some 251 := h80.rf 89 (by decide)
  rw [b_0_99] <;> try ((try simp only [s_tgN, s_tgR, s_tgI, s_lnN, s_lnR, s_lnI, s_rN, s_rR, s_rI, s_zN, s_zR, s_zI, s_gR, hz80, Option.getD_some, Nat.reduceAdd, Nat.reduceEqDiff, if_false, if_true, and_false, false_and, and_true, true_and, and_self, t175, l175, t248, l248, t251, l251, r89]); first | done | assumption | omega | decide +kernel)
  try simp only [s_tgN, s_tgR, s_tgI, s_lnN, s_lnR, s_lnI, s_rN, s_rR, s_rI, s_zN, s_zR, s_zI, s_gR, hz80, Option.getD_some, Nat.reduceAdd, Nat.reduceEqDiff, if_false, if_true, and_false, false_and, and_true, true_and, and_self, t175, l175, t248, l248, t251, l251, r89]
  clear t175 l175 t248 l248 t251 l251 r89
  simp only [mThen_ok, Option.toList_some, Option.toList_none, List.cons_append, List.nil_append]
  -- 95 120
  have t166 : mTg w80 166 = 9 := h80.tg 166 (by decide) (by decide)
  have l166 : mLn w80 166 = 0 := h80.ln 166 (by decide) (by decide)
  have t196 : mTg w80 196 = 8 := h80.tg 196 (by decide) (by decide)
  have l196 : mLn w80 196 = 0 := h80.ln 196 (by decide) (by decide)
  have t248 : mTg w80 248 = 0 := h80.tg 248 (by decide) (by decide)
  have l248 : mLn w80 248 = 0 := h80.ln 248 (by decide) (by decide)
  have t251 : mTg w80 251 = 53 := h80.tg 251 (by decide) (by decide)
  have l251 : mLn w80 251 = 6 := h80.ln 251 (by decide) (by decide)
  have r1 : mR w80 166 0 = some 167 := h80.rf 1 (by decide)
  have r8 : mR w80 166 1 = some 169 := h80.rf 8 (by decide)
  have r29 : mR w80 166 2 = some 175 := h80.rf 29 (by decide)
  have r49 : mR w80 196 17 = some 214 := h80.rf 49 (by decide)
  have r50 : mR w80 166 3 = some 196 := h80.rf 50 (by decide)
  have r53 : mR w80 166 4 = some 217 := h80.rf 53 (by decide)
  have r57 : mR w80 166 5 = some 218 := h80.rf 57 (by decide)
  have r86 : mR w80 166 6 = some 220 := h80.rf 86 (by decide)
  have r89 : mR w80 248 2 = some 251 := h80.rf 89 (by decide)
  rw [b_95_120] <;> try ((try simp only [s_tgN, s_tgR, s_tgI, s_lnN, s_lnR, s_lnI, s_rN, s_rR, s_rI, s_zN, s_zR, s_zI, s_gR, hz80, Option.getD_some, Nat.reduceAdd, Nat.reduceEqDiff, if_false, if_true, and_false, false_and, and_true, true_and, and_self, t166, l166, t196, l196, t248, l248, t251, l251, r1, r8, r29, r49, r50, r53, r57, r86, r89]); first | done | assumption | omega | decide +kernel)
  try simp only [s_tgN, s_tgR, s_tgI, s_lnN, s_lnR, s_lnI, s_rN, s_rR, s_rI, s_zN, s_zR, s_zI, s_gR, hz80, Option.getD_some, Nat.reduceAdd, Nat.reduceEqDiff, if_false, if_true, and_false, false_and, and_true, true_and, and_self, t166, l166, t196, l196, t248, l248, t251, l251, r1, r8, r29, r49, r50, r53, r57, r86, r89]
  clear t166 l166 t196 l196 t248 l248 t251 l251 r1 r8 r29 r49 r50 r53 r57 r86 r89
  refine ⟨_, rfl, ?_⟩
  repeat (first | exact h80 | refine CW.N (by rfl) (by decide) ?_ | refine CW.Rr (by rfl) (by decide) (by decide) ?_ | refine CW.I (by rfl) (by rfl) (by decide) (by decide) (by decide) ?_)
