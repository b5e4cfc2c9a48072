/-! ===== the class's own methods: facts asked ===== -/
def qT (w : MW) : Prop := mTg w 166 = 9 ∧ mR w 166 0 = some 167 ∧ mR w 166 2 = some 175 ∧ mR w 166 6 = some 220 ∧ mR w 166 7 = some 248 ∧ mTg w 167 = 5
/-- the class's object, with a bee that stands as M -/
def GW (w : MW) (C : CD) (M : MD) : Prop := qT w ∧ mI w 167 1 = nI 0 ∧ BW w 220 175 C M ∧ bT w 248 175
/-- numbers changed in the cells from lo to below hi alone -/
def frB (lo hi : Nat) (w w' : MW) : Prop := ∃ J, w' = wJ w J ∧ ∀ c k, c < lo ∨ hi ≤ c → J c k = mI w c k
theorem frB.refl (lo hi : Nat) (w : MW) : frB lo hi w w := ⟨mI w, (wJ_self w).symm, fun _ _ _ => rfl⟩
theorem frB.trans {lo hi : Nat} {w w1 w2 : MW} (h : frB lo hi w w1) (g : frB lo hi w1 w2) : frB lo hi w w2 := by
  obtain ⟨J, rfl, a2⟩ := h
  obtain ⟨J', rfl, b2⟩ := g
  exact ⟨J', rfl, fun c k hc => (b2 c k hc).trans (a2 c k hc)⟩
theorem frB.mono {lo hi lo' hi' : Nat} {w w' : MW} (h : frB lo hi w w') (h1 : lo' ≤ lo) (h2 : hi ≤ hi') : frB lo' hi' w w' := by
  obtain ⟨J, a1, a2⟩ := h
  exact ⟨J, a1, fun c k hc => a2 c k (by omega)⟩
theorem frB.out {lo hi : Nat} {w w' : MW} (h : frB lo hi w w') {c : Nat} (hc : c < lo ∨ hi ≤ c) : mI w' c = mI w c := by
  obtain ⟨J, rfl, a2⟩ := h
  funext k
  exact a2 c k hc
theorem upB.fr {b : Nat} {w w' : MW} {M : MD} (h : upB b w w' M) : frB b (b + 28) w w' := by
  obtain ⟨J, a1, a2, -⟩ := h
  exact ⟨J, a1, a2⟩
section
variable {d B : Nat} {w w' : MW} {C : CD} {M M' : MD}
theorem GW.q (h : GW w C M) : mTg w 166 = 9 := h.1.1
theorem GW.g0 (h : GW w C M) : gR w 166 0 = 167 := gR_of h.1.2.1
theorem GW.s0 (h : GW w C M) : mR w 166 0 = some (gR w 166 0) := by rw [h.g0, h.1.2.1]
theorem GW.g2 (h : GW w C M) : gR w 166 2 = 175 := gR_of h.1.2.2.1
theorem GW.s2 (h : GW w C M) : mR w 166 2 = some (gR w 166 2) := by rw [h.g2, h.1.2.2.1]
theorem GW.g6 (h : GW w C M) : gR w 166 6 = 220 := gR_of h.1.2.2.2.1
theorem GW.s6 (h : GW w C M) : mR w 166 6 = some (gR w 166 6) := by rw [h.g6, h.1.2.2.2.1]
theorem GW.g7 (h : GW w C M) : gR w 166 7 = 248 := gR_of h.1.2.2.2.2.1
theorem GW.s7 (h : GW w C M) : mR w 166 7 = some (gR w 166 7) := by rw [h.g7, h.1.2.2.2.2.1]
theorem GW.bw (h : GW w C M) : BW w 220 175 C M := h.2.2.1
theorem GW.gh (h : GW w C M) : bT w 248 175 := h.2.2.2
theorem GW.t8 (h : GW w C M) : mTg w (gR w 166 2) = 8 := by rw [h.g2]; exact tT.t0 h.bw.t
theorem GW.b0 (h : GW w C M) : mTg w (gR w 166 6) = 0 := by rw [h.g6]; exact bT.t0 h.bw.b
theorem GW.h0 (h : GW w C M) : mTg w (gR w 166 7) = 0 := by rw [h.g7]; exact bT.t0 h.gh
/-- the bee itself moves on -/
theorem GW.up (h : GW w C M) (u : upB 220 w w' M') : GW w' C M' := by
  have e := u.out (c := 167) (by omega)
  have hb := h.bw.up u
  obtain ⟨J, rfl, -, -⟩ := u
  exact ⟨h.1, by rw [e]; exact h.2.1, hb, h.gh⟩
/-- the ghost alone is touched -/
theorem GW.gs (h : GW w C M) (u : frB 248 276 w w') : GW w' C M := by
  have e : ∀ c, c < 248 → mI w' c = mI w c := fun c hc => u.out (Or.inl hc)
  have hc := h.bw.c.same fun c _ q => e c (by omega)
  have hh := h.bw.h.same (e _ (by omega))
  have hm : lnOk (BL 220) w' M := fun a i j hv => by
    have := bloc_in (b := 220) hv
    have hx := h.bw.m a i j hv
    show mI w' (bloc 220 a i j).1 (bloc 220 a i j).2 = _
    rw [e _ (by omega)]
    exact hx
  have e1 := e 167 (by omega)
  obtain ⟨J, rfl, -⟩ := u
  exact ⟨h.1, by rw [e1]; exact h.2.1, ⟨h.bw.b, h.bw.t, hc, hh, h.bw.k, hm⟩, h.gh⟩
/-- what count tells -/
def countM (C : CD) (M : MD) (x : Nat) : Nat := if x = 0 then M 0 0 0 else if x ≤ 6 then C 0 0 (x - 1) else if x = 7 then (if M 0 0 4 = NEG then NEG else M 0 0 1) else if x = 8 then M 0 0 4 else if x = 9 then wordN C M else if x < 17 then tallyM C M x else 0
theorem c_countOf (h : GW w C M) (hm : MOk C B M) (hB : B ≤ 1073741824) {x : Nat} (hx : x < 18) : mK (d + 4) 119 [.ref 166, .int (nI x)] w = some (.inl (some (.int (nI (countM C M x)))), w) := by
  have hk := h.bw.k.1
  rw [e_119]
  unfold countM
  by_cases e0 : x = 0
  · subst e0
    rw [s_119_0_0 rfl, b_119_52 h.q h.s6 h.b0, h.g6, h.bw.z0, if_pos rfl]
  by_cases e7 : x = 7
  · subst e7
    rw [s_119_0_7 rfl, b_119_60 h.q h.s6 h.b0, h.g6, c_isOver h.bw hm hB, if_neg (by decide), if_neg (by decide), if_pos rfl]
    simp only [mThen_ok, Option.toList_some, Option.toList_none, List.cons_append, List.nil_append]
    rw [b_119_67]
    by_cases e : M 0 0 4 = NEG
    · rw [decide_eq_true e, if_neg nbt, b_119_70, b_119_81, if_pos e, jm1]
    · rw [decide_eq_false e, if_pos nbf, b_119_74 h.q h.s6 h.b0, h.g6, b_119_81, h.bw.z1, if_neg e]
  by_cases e8 : x = 8
  · subst e8
    rw [s_119_0_8 rfl, b_119_82 h.q h.s6 h.b0, h.g6, h.bw.z4]
    rfl
  by_cases e9 : x = 9
  · subst e9
    rw [s_119_0_9 rfl, b_119_90 h.q h.s6 h.b0, h.g6, c_word h.bw hm hB]
    simp only [mThen_ok, Option.toList_some, Option.toList_none, List.cons_append, List.nil_append]
    rw [b_119_97]
    rfl
  by_cases e17 : x = 17
  · subst e17
    rw [s_119_0_17 rfl, b_119_98 h.q h.s0 (by rw [h.g0]; exact h.1.2.2.2.2.2), h.g0, h.2.1]
    rfl
  rw [s_119_0_d (by rw [jti (by omega)]; omega), b_119_106, ijlt (by decide) (by omega), if_neg e0]
  by_cases e6 : x ≤ 6
  · rw [if_neg (by omega), if_pos e6, b_119_112 h.q h.s2 h.t8, h.g2, jsub (by omega), c_cnt h.bw.t h.bw.c (by omega)]
    simp only [mThen_ok, Option.toList_some, Option.toList_none, List.cons_append, List.nil_append]
    rw [b_119_122, b_119_133]
  · rw [if_pos (by omega), if_neg e6, if_neg e7, if_neg e8, if_neg e9, if_pos (by omega), b_119_125 h.q h.s6 h.b0, h.g6, c_tally h.bw hm.i (by omega)]
    simp only [mThen_ok, Option.toList_some, Option.toList_none, List.cons_append, List.nil_append]
    rw [b_119_133]
theorem c_count (h : GW w C M) (hm : MOk C B M) (hB : B ≤ 1073741824) {x : Nat} (hx : x < 18) : mK (d + 5) 99 [.ref 166, .int (nI x)] w = some (.inl (some (.int (nI (countM C M x)))), w) := by
  rw [e_99, b_99_0, ijlt (by omega) (by decide), if_neg (by omega), b_99_4, ijle (by omega) (by decide), if_pos (by omega), b_99_20 h.q, c_countOf h hm hB hx]
  simp only [mThen_ok, Option.toList_some, Option.toList_none, List.cons_append, List.nil_append]
  rw [b_99_25]
/-- what root tells -/
def rootM (C : CD) (r x : Nat) : Nat := if x < 3 then C 2 r x else if x = 3 then C 1 (C 2 r 0) 0 else su (C 0 0 2) (fun v => if comesM C r v (C 3 v 0) = true then 1 else 0)
theorem c_rootFact (h : GW w C M) {r x : Nat} (hr : r < C 0 0 1) (hx : x < 5) : mK (d + 4) 120 [.ref 166, .int (nI r), .int (nI x)] w = some (.inl (some (.int (nI (rootM C r x)))), w) := by
  have hk := h.bw.k
  have hk1 := hk.1
  have ht := h.bw.t
  rw [e_120]
  unfold rootM
  rcases (show x = 0 ∨ x = 1 ∨ x = 2 ∨ x = 3 ∨ x = 4 by omega) with e | e | e | e | e <;> subst e
  · rw [s_120_0_0 rfl, b_120_32 h.q h.s2 h.t8 (by rw [h.g2]; exact tT.s0_2 ht), h.g2, tT.g0_2 ht, c_rton ht h.bw.c hk hr]
    simp only [mThen_ok, Option.toList_some, Option.toList_none, List.cons_append, List.nil_append]
    rw [b_120_43]; rfl
  · rw [s_120_0_1 rfl, b_120_44 h.q h.s2 h.t8 (by rw [h.g2]; exact tT.s0_3 ht), h.g2, tT.g0_3 ht, c_rlet ht h.bw.c hk hr]
    simp only [mThen_ok, Option.toList_some, Option.toList_none, List.cons_append, List.nil_append]
    rw [b_120_55]; rfl
  · rw [s_120_0_2 rfl, b_120_56 h.q h.s2 h.t8 (by rw [h.g2]; exact tT.s0_4 ht), h.g2, tT.g0_4 ht, c_rhar ht h.bw.c hk hr]
    simp only [mThen_ok, Option.toList_some, Option.toList_none, List.cons_append, List.nil_append]
    rw [b_120_67]; rfl
  · rw [s_120_0_3 rfl, b_120_68 h.q h.s2 h.t8 (by rw [h.g2]; exact tT.s0_1 ht) (by rw [h.g2]; exact tT.s0_2 ht), h.g2, tT.g0_2 ht, tT.g0_1 ht, c_rton ht h.bw.c hk hr]
    simp only [mThen_ok, Option.toList_some, Option.toList_none, List.cons_append, List.nil_append]
    rw [b_120_86, c_ease ht h.bw.c hk (hk.2.2.1 r hr).1]
    simp only [mThen_ok, Option.toList_some, Option.toList_none, List.cons_append, List.nil_append]
    rw [b_120_89]; rfl
  · rw [s_120_0_d (by decide +kernel), b_120_90 h.q h.s2 h.t8, h.g2, c_wordsWith ht h.bw.c hk (by omega)]
    simp only [mThen_ok, Option.toList_some, Option.toList_none, List.cons_append, List.nil_append]
    rw [b_120_98]; rfl
theorem c_root (h : GW w C M) {r x : Nat} (hr : r < C 0 0 1) (hx : x < 5) : mK (d + 5) 100 [.ref 166, .int (nI r), .int (nI x)] w = some (.inl (some (.int (nI (rootM C r x)))), w) := by
  have hk1 := h.bw.k.1
  rw [e_100, b_100_0 h.q h.s2 h.t8, h.g2, c_has h.bw.t h.bw.c (by decide) (by omega) (by omega), decide_eq_true hr]
  simp only [mThen_ok, Option.toList_some, Option.toList_none, List.cons_append, List.nil_append]
  rw [b_100_9, if_neg nbt, b_100_12, ijlt (by omega) (by decide), if_neg (by omega), b_100_16, ijle (by omega) (by decide), if_pos (by omega), b_100_31 h.q, c_rootFact h hr hx]
  simp only [mThen_ok, Option.toList_some, Option.toList_none, List.cons_append, List.nil_append]
  rw [b_100_37]
/-- what word tells -/
def wordFM (C : CD) (M : MD) (v x : Nat) : Nat := if x = 0 then C 3 v 0 else if x = 1 then lettersM C v else if x = 2 then hardM C v else M 2 v (x - 3)
theorem c_wordFact (h : GW w C M) {v x : Nat} (hv : v < C 0 0 2) (hx : x < 5) : mK (d + 3) 121 [.ref 166, .int (nI v), .int (nI x)] w = some (.inl (some (.int (nI (wordFM C M v x)))), w) := by
  have hk := h.bw.k
  have hk1 := hk.1
  have ht := h.bw.t
  have hb := h.bw.b
  rw [e_121]
  unfold wordFM
  rcases (show x = 0 ∨ x = 1 ∨ x = 2 ∨ x = 3 ∨ x = 4 by omega) with e | e | e | e | e <;> subst e
  · rw [s_121_0_0 rfl, b_121_32 h.q h.s2 h.t8 (by rw [h.g2]; exact tT.s0_5 ht), h.g2, tT.g0_5 ht, c_size ht h.bw.c hk hv]
    simp only [mThen_ok, Option.toList_some, Option.toList_none, List.cons_append, List.nil_append]
    rw [b_121_43]; rfl
  · rw [s_121_0_1 rfl, b_121_44 h.q h.s2 h.t8, h.g2, c_letters ht h.bw.c hk hv]
    simp only [mThen_ok, Option.toList_some, Option.toList_none, List.cons_append, List.nil_append]
    rw [b_121_52]; rfl
  · rw [s_121_0_2 rfl, b_121_53 h.q h.s2 h.t8, h.g2, c_hard ht hk h.bw.h hv]
    simp only [mThen_ok, Option.toList_some, Option.toList_none, List.cons_append, List.nil_append]
    rw [b_121_61]; rfl
  · rw [s_121_0_3 rfl, b_121_62 h.q h.s6 h.b0 (by rw [h.g6]; exact bT.s0_5 hb), h.g6, bT.g0_5 hb, c_getN (bT.t8 hb) (by rw [bT.l8 hb]; omega) (by rw [bT.l8 hb]; decide)]
    simp only [mThen_ok, Option.toList_some, Option.toList_none, List.cons_append, List.nil_append]
    rw [b_121_73, h.bw.ws (by omega)]; rfl
  · rw [s_121_0_d (by decide +kernel), b_121_74 h.q h.s6 h.b0 (by rw [h.g6]; exact bT.s0_6 hb), h.g6, bT.g0_6 hb, c_getN (bT.t9 hb) (by rw [bT.l9 hb]; omega) (by rw [bT.l9 hb]; decide)]
    simp only [mThen_ok, Option.toList_some, Option.toList_none, List.cons_append, List.nil_append]
    rw [b_121_85, h.bw.wr (by omega)]; rfl
theorem c_wordQ (h : GW w C M) {v x : Nat} (hv : v < C 0 0 2) (hx : x < 5) : mK (d + 4) 101 [.ref 166, .int (nI v), .int (nI x)] w = some (.inl (some (.int (nI (wordFM C M v x)))), w) := by
  have hk1 := h.bw.k.1
  rw [e_101, b_101_0 h.q h.s2 h.t8, h.g2, c_has h.bw.t h.bw.c (by decide) (by omega) (by omega), decide_eq_true hv]
  simp only [mThen_ok, Option.toList_some, Option.toList_none, List.cons_append, List.nil_append]
  rw [b_101_9, if_neg nbt, b_101_12, ijlt (by omega) (by decide), if_neg (by omega), b_101_16, ijle (by omega) (by decide), if_pos (by omega), b_101_31 h.q, c_wordFact h hv hx]
  simp only [mThen_ok, Option.toList_some, Option.toList_none, List.cons_append, List.nil_append]
  rw [b_101_37]
theorem c_partQ (h : GW w C M) {v p : Nat} (hv : v < C 0 0 2) (hp : p < C 3 v 0) : mK (d + 3) 102 [.ref 166, .int (nI v), .int (nI p)] w = some (.inl (some (.int (nI (C 4 v p)))), w) := by
  have hk1 := h.bw.k.1
  have h2 := h.bw.k.2.2.2.1 v hv
  rw [e_102, b_102_0 h.q h.s2 h.t8, h.g2, c_has h.bw.t h.bw.c (by decide) (by omega) (by omega), decide_eq_true hv]
  simp only [mThen_ok, Option.toList_some, Option.toList_none, List.cons_append, List.nil_append]
  rw [b_102_9, if_neg nbt, b_102_12, ijlt (by omega) (by decide), if_neg (by omega), b_102_16 h.q h.s2 h.t8 (by rw [h.g2]; exact tT.s0_5 h.bw.t), h.g2, tT.g0_5 h.bw.t, c_size h.bw.t h.bw.c h.bw.k hv]
  simp only [mThen_ok, Option.toList_some, Option.toList_none, List.cons_append, List.nil_append]
  rw [b_102_28, ijlt (by omega) (by omega), if_pos hp, b_102_41 h.q h.s2 h.t8, h.g2, c_part h.bw.t h.bw.c h.bw.k hv hp]
  simp only [mThen_ok, Option.toList_some, Option.toList_none, List.cons_append, List.nil_append]
  rw [b_102_50]
/-- what speller tells -/
def spFM (C : CD) (M : MD) (s x : Nat) : Nat := if x < 8 then M 3 s x else rankM C M s
theorem c_spFact (h : GW w C M) (hm : MOk C B M) (hB : B ≤ 1073741824) {s x : Nat} (hs : s < C 0 0 3) (hx : x < 9) : mK (d + 3) 122 [.ref 166, .int (nI s), .int (nI x)] w = some (.inl (some (.int (nI (spFM C M s x)))), w) := by
  have hk1 := h.bw.k.1
  have hb := h.bw.b
  have hs6 : s < 6 := by omega
  have a6 := hm.2.2.2.2.2.1 s
  rw [e_122, b_122_0 h.q h.s6 h.b0, h.g6, c_spAt hb hs6]
  simp only [mThen_ok, Option.toList_some, Option.toList_none, List.cons_append, List.nil_append]
  unfold spFM
  rcases (show x = 0 ∨ x = 1 ∨ x = 2 ∨ x = 3 ∨ x = 4 ∨ x = 5 ∨ x = 6 ∨ x = 7 ∨ x = 8 by omega) with e | e | e | e | e | e | e | e | e <;> subst e
  · rw [s_122_8_0 rfl, b_122_56 (bT.st hb hs6), h.bw.f0 hs6]
    rcases (show M 3 s 0 = 0 ∨ M 3 s 0 = 1 by omega) with q | q <;> rw [q]
    · rw [if_pos rfl, b_122_67, b_122_68]; rfl
    · rw [if_neg n10, b_122_63, b_122_68]; rfl
  · rw [s_122_8_1 rfl, b_122_69 (bT.st hb hs6), h.bw.f1 hs6]; rfl
  · rw [s_122_8_2 rfl, b_122_74 (bT.st hb hs6), h.bw.f2 hs6]; rfl
  · rw [s_122_8_3 rfl, b_122_79 (bT.st hb hs6), h.bw.f3 hs6]; rfl
  · rw [s_122_8_4 rfl, b_122_84 (bT.st hb hs6), h.bw.f4 hs6]
    rcases (show M 3 s 4 = 0 ∨ M 3 s 4 = 1 by omega) with q | q <;> rw [q]
    · rw [if_pos rfl, b_122_95, b_122_96]; rfl
    · rw [if_neg n10, b_122_91, b_122_96]; rfl
  · rw [s_122_8_5 rfl, b_122_97 (bT.st hb hs6), h.bw.f5 hs6]; rfl
  · rw [s_122_8_6 rfl, b_122_102 (bT.st hb hs6), h.bw.f6 hs6]; rfl
  · rw [s_122_8_7 rfl, b_122_107 (bT.st hb hs6), h.bw.f7 hs6]; rfl
  · rw [s_122_8_d (by decide +kernel), b_122_112 h.q h.s6 h.b0, h.g6, c_rank h.bw hm hB hs6]
    simp only [mThen_ok, Option.toList_some, Option.toList_none, List.cons_append, List.nil_append]
    rw [b_122_120]; rfl
theorem c_speller (h : GW w C M) (hm : MOk C B M) (hB : B ≤ 1073741824) {s x : Nat} (hs : s < C 0 0 3) (hx : x < 9) : mK (d + 4) 103 [.ref 166, .int (nI s), .int (nI x)] w = some (.inl (some (.int (nI (spFM C M s x)))), w) := by
  have hk1 := h.bw.k.1
  rw [e_103, b_103_0 h.q h.s2 h.t8, h.g2, c_has h.bw.t h.bw.c (by decide) (by omega) (by omega), decide_eq_true hs]
  simp only [mThen_ok, Option.toList_some, Option.toList_none, List.cons_append, List.nil_append]
  rw [b_103_9, if_neg nbt, b_103_12, ijlt (by omega) (by decide), if_neg (by omega), b_103_16, ijle (by omega) (by decide), if_pos (by omega), b_103_32 h.q, c_spFact h hm hB hs hx]
  simp only [mThen_ok, Option.toList_some, Option.toList_none, List.cons_append, List.nil_append]
  rw [b_103_38]
theorem c_knows (h : GW w C M) {s k : Nat} (hs : s < C 0 0 3) (hk : k < C 0 0 0) : mK (d + 2) 104 [.ref 166, .int (nI s), .int (nI k)] w = some (.inl (some (.int (nI (M 4 s k)))), w) := by
  have hk1 := h.bw.k.1
  have hb := h.bw.b
  have hs6 : s < 6 := by omega
  rw [e_104, b_104_0 h.q h.s2 h.t8, h.g2, c_has h.bw.t h.bw.c (by decide) (by omega) (by omega), decide_eq_true hs]
  simp only [mThen_ok, Option.toList_some, Option.toList_none, List.cons_append, List.nil_append]
  rw [b_104_9, if_neg nbt, b_104_12 h.q h.s2 h.t8, h.g2, c_has h.bw.t h.bw.c (by decide) (by omega) (by omega), decide_eq_true hk]
  simp only [mThen_ok, Option.toList_some, Option.toList_none, List.cons_append, List.nil_append]
  rw [b_104_21, if_pos nbt, b_104_34 h.q h.s6 h.b0, h.g6, c_spAt hb hs6]
  simp only [mThen_ok, Option.toList_some, Option.toList_none, List.cons_append, List.nil_append]
  rw [b_104_42 (bT.st hb hs6) (bT.ks hb hs6), bT.kg hb hs6, c_getN (bT.kt hb hs6) (by rw [bT.kl hb hs6]; omega) (by rw [bT.kl hb hs6]; decide), h.bw.kn hs6 (by omega)]
  simp only [mThen_ok, Option.toList_some, Option.toList_none, List.cons_append, List.nil_append]
  rw [b_104_49]
theorem c_heard (h : GW w C M) {s r : Nat} (hs : s < C 0 0 3) (hr : r < C 0 0 1) : mK (d + 2) 105 [.ref 166, .int (nI s), .int (nI r)] w = some (.inl (some (.int (nI (M 5 s r)))), w) := by
  have hk1 := h.bw.k.1
  have hb := h.bw.b
  have hs6 : s < 6 := by omega
  rw [e_105, b_105_0 h.q h.s2 h.t8, h.g2, c_has h.bw.t h.bw.c (by decide) (by omega) (by omega), decide_eq_true hs]
  simp only [mThen_ok, Option.toList_some, Option.toList_none, List.cons_append, List.nil_append]
  rw [b_105_9, if_neg nbt, b_105_12 h.q h.s2 h.t8, h.g2, c_has h.bw.t h.bw.c (by decide) (by omega) (by omega), decide_eq_true hr]
  simp only [mThen_ok, Option.toList_some, Option.toList_none, List.cons_append, List.nil_append]
  rw [b_105_21, if_pos nbt, b_105_34 h.q h.s6 h.b0, h.g6, c_spAt hb hs6]
  simp only [mThen_ok, Option.toList_some, Option.toList_none, List.cons_append, List.nil_append]
  rw [b_105_42 (bT.st hb hs6) (bT.hs hb hs6), bT.hg hb hs6, c_getN (bT.ht hb hs6) (by rw [bT.hl hb hs6]; omega) (by rw [bT.hl hb hs6]; decide), h.bw.he hs6 (by omega)]
  simp only [mThen_ok, Option.toList_some, Option.toList_none, List.cons_append, List.nil_append]
  rw [b_105_49]
theorem c_strongQ (h : GW w C M) (hm : MOk C B M) (hB : B ≤ 1073741824) {s v : Nat} (hs : s < C 0 0 3) (hv : v < C 0 0 2) : mK (d + 3) 106 [.ref 166, .int (nI s), .int (nI v)] w = some (.inl (some (.int (nI (strongM C M s v)))), w) := by
  have hk1 := h.bw.k.1
  rw [e_106, b_106_0 h.q h.s2 h.t8, h.g2, c_has h.bw.t h.bw.c (by decide) (by omega) (by omega), decide_eq_true hs]
  simp only [mThen_ok, Option.toList_some, Option.toList_none, List.cons_append, List.nil_append]
  rw [b_106_9, if_neg nbt, b_106_12 h.q h.s2 h.t8, h.g2, c_has h.bw.t h.bw.c (by decide) (by omega) (by omega), decide_eq_true hv]
  simp only [mThen_ok, Option.toList_some, Option.toList_none, List.cons_append, List.nil_append]
  rw [b_106_21, if_pos nbt, b_106_34 h.q h.s6 h.b0, h.g6, c_strong h.bw hm hB (by omega) hv]
  simp only [mThen_ok, Option.toList_some, Option.toList_none, List.cons_append, List.nil_append]
  rw [b_106_43]
end
