/-! ===== the law's loop: what it writes down ===== -/

theorem loopW {α : Type} {n : Nat} {F : Nat → MW → α} {P : Nat → MW → Prop} (hs : ∀ i w, i < n → P i w → ∃ w', F i w = F (i + 1) w' ∧ P (i + 1) w') : ∀ w, P 0 w → ∃ w', F 0 w = F n w' ∧ P n w' := by
  have key : ∀ m i w, i + m = n → P i w → ∃ w', F i w = F n w' ∧ P n w' := by
    intro m
    induction m with
    | zero => intro i w hi hp; have hi : i = n := hi; subst hi; exact ⟨w, rfl, hp⟩
    | succ m ih =>
      intro i w hi hp
      obtain ⟨w1, e1, p1⟩ := hs i w (by omega) hp
      obtain ⟨w2, e2, p2⟩ := ih (i + 1) w1 (by omega) p1
      exact ⟨w2, e1.trans e2, p2⟩
  intro w hp
  exact key n 0 w (Nat.zero_add _) hp
def rowN (w : MW) (c n : Nat) (F : Nat → Nat) : Prop := mTg w c = 50 ∧ mLn w c = n ∧ ∀ j, j < n → mI w c j = nI (F j)
def rowS (w : MW) (c n m : Nat) (G : Nat → Nat → Nat) : Prop := mTg w c = 52 ∧ mLn w c = n ∧ ∀ k, k < n → mR w c k = some (c + 1 + k) ∧ rowN w (c + 1 + k) m (G k)
section
variable {d B σ hi hc z y n m c : Nat} {w w' w1 : MW} {C : CD} {M M' : MD} {F F' : Nat → Nat} {G G' : Nat → Nat → Nat}
theorem rowN.set {k x : Nat} (h : rowN w c n F) : rowN (wI w c k (nI x)) c n (fun j => if j = k then x else F j) := by
  obtain ⟨h1, h2, h3⟩ := h
  refine ⟨h1, h2, fun j hj => ?_⟩
  rw [mI_wI]
  try dsimp only
  by_cases e : j = k
  · subst e; rw [if_pos ⟨rfl, rfl⟩, if_pos rfl]
  · rw [if_neg (by omega), if_neg e, h3 j hj]
theorem rowN.oth {c' k : Nat} {x : Int32} (h : rowN w c n F) (hc : ¬ c' = c) : rowN (wI w c' k x) c n F := by
  obtain ⟨h1, h2, h3⟩ := h
  refine ⟨h1, h2, fun j hj => ?_⟩
  rw [mI_wI, if_neg (by omega), h3 j hj]
theorem rowN.congr (h : rowN w c n F) (e : ∀ j, j < n → F j = F' j) : rowN w c n F' := ⟨h.1, h.2.1, fun j hj => by rw [h.2.2 j hj, e j hj]⟩
theorem rowN.ag {lo hi : Nat} (h : rowN w c n F) (a : agr w w' lo hi) (h1 : lo ≤ c) (h2 : c < hi) : rowN w' c n F := by
  obtain ⟨a1, a2, a3, a4⟩ := a c h1 h2
  obtain ⟨b1, b2, b3⟩ := h
  exact ⟨a1.trans b1, a2.trans b2, fun j hj => by rw [a3]; exact b3 j hj⟩
theorem rowS.ag {lo hi : Nat} (h : rowS w c n m G) (a : agr w w' lo hi) (h1 : lo ≤ c) (h2 : c + n < hi) : rowS w' c n m G := by
  obtain ⟨a1, a2, a3, a4⟩ := a c h1 (by omega)
  obtain ⟨b1, b2, b3⟩ := h
  exact ⟨a1.trans b1, a2.trans b2, fun k hk => ⟨by rw [a4]; exact (b3 k hk).1, (b3 k hk).2.ag a (by omega) (by omega)⟩⟩
theorem rowS.g {k : Nat} (h : rowS w c n m G) (hk : k < n) : gR w c k = c + 1 + k := gR_of (h.2.2 k hk).1
theorem rowS.s {k : Nat} (h : rowS w c n m G) (hk : k < n) : mR w c k = some (gR w c k) := by rw [h.g hk, (h.2.2 k hk).1]
theorem rowS.oth {c' k : Nat} {x : Int32} (h : rowS w c n m G) (hc : c' < c) : rowS (wI w c' k x) c n m G :=
  ⟨h.1, h.2.1, fun k hk => ⟨(h.2.2 k hk).1, (h.2.2 k hk).2.oth (by omega)⟩⟩
theorem rowS.set {k v x : Nat} (h : rowS w c n m G) : rowS (wI w (c + 1 + k) v (nI x)) c n m (fun i j => if i = k ∧ j = v then x else G i j) := by
  refine ⟨h.1, h.2.1, fun i hi => ⟨(h.2.2 i hi).1, ?_⟩⟩
  by_cases e : i = k
  · subst e
    refine ((h.2.2 i hi).2.set (k := v) (x := x)).congr fun j hj => ?_
    try dsimp only
    by_cases q : j = v
    · rw [if_pos q, if_pos ⟨rfl, q⟩]
    · rw [if_neg q, if_neg (fun r => q r.2)]
  · refine ((h.2.2 i hi).2.oth (by omega)).congr fun j hj => ?_
    try dsimp only
    rw [if_neg (fun r => e r.1)]
theorem rowS.congr (h : rowS w c n m G) (e : ∀ i, i < n → ∀ j, j < m → G i j = G' i j) : rowS w c n m G' := ⟨h.1, h.2.1, fun i hi => ⟨(h.2.2 i hi).1, (h.2.2 i hi).2.congr (e i hi)⟩⟩
theorem agr.wM {lo : Nat} (h : hi ≤ mSz w) : agr w (wM w n m) lo hi := fun c h1 h2 => by
  have q : mSz w = w.1 := rfl
  refine ⟨?_, ?_, ?_, ?_⟩
  · show (if c = w.1 then _ else if w.1 < c ∧ c < w.1 + 1 + n then _ else mTg w c) = mTg w c
    rw [if_neg (by omega), if_neg (by omega)]
  · show (if c = w.1 then _ else if w.1 < c ∧ c < w.1 + 1 + n then _ else mLn w c) = mLn w c
    rw [if_neg (by omega), if_neg (by omega)]
  · funext b
    show (if w.1 ≤ c ∧ c < w.1 + 1 + n then _ else mI w c b) = mI w c b
    rw [if_neg (by omega)]
  · funext b
    show (if c = w.1 then _ else if w.1 < c ∧ c < w.1 + 1 + n then _ else mR w c b) = mR w c b
    rw [if_neg (by omega), if_neg (by omega)]
theorem rowS.wM (w : MW) (n m : Nat) : rowS (wM w n m) (mSz w) n m (fun _ _ => 0) := by
  have q : mSz w = w.1 := rfl
  refine ⟨if_pos rfl, if_pos rfl, fun k hk => ⟨?_, ?_, ?_, fun j hj => ?_⟩⟩
  · show (if w.1 = w.1 then (if k < n then some (w.1 + 1 + k) else none) else _) = _
    rw [if_pos rfl, if_pos hk, q]
  · show (if mSz w + 1 + k = w.1 then _ else if w.1 < mSz w + 1 + k ∧ mSz w + 1 + k < w.1 + 1 + n then 50 else _) = _
    rw [if_neg (by omega), if_pos (by omega)]
  · show (if mSz w + 1 + k = w.1 then _ else if w.1 < mSz w + 1 + k ∧ mSz w + 1 + k < w.1 + 1 + n then m else _) = _
    rw [if_neg (by omega), if_pos (by omega)]
  · show (if w.1 ≤ mSz w + 1 + k ∧ mSz w + 1 + k < w.1 + 1 + n then 0 else _) = nI 0
    rw [if_pos (by omega)]
    decide +kernel
theorem rowN.wN (w : MW) (n : Nat) : rowN (wN w 50 n n) (mSz w) n (fun _ => 0) := ⟨if_pos rfl, if_pos rfl, fun j _ => by
  show (if mSz w = w.1 then 0 else _) = nI 0
  rw [if_pos (show mSz w = w.1 from rfl)]
  decide +kernel⟩
/-- what stands while a time is looked at: the law's world, what each has heard, how strong each is -/
def it3 (σ hi : Nat) (C : CD) (M : MD) (hc z y : Nat) (F : Nat → Nat) (G : Nat → Nat → Nat) (w : MW) : Prop := LW w σ hi C M ∧ rowN w hc (C 0 0 3) F ∧ rowS w (hc + 1) (C 0 0 3) (C 0 0 2) G ∧ hi ≤ hc ∧ mSz w = z ∧ mSl w = y
theorem it3.setF {k x : Nat} (h : it3 σ hi C M hc z y F G w) : it3 σ hi C M hc z y (fun j => if j = k then x else F j) G (wI w hc k (nI x)) := ⟨h.1.wI h.2.2.2.1, h.2.1.set, h.2.2.1.oth (by omega), h.2.2.2.1, h.2.2.2.2.1, h.2.2.2.2.2⟩
theorem it3.setG {k v x : Nat} (h : it3 σ hi C M hc z y F G w) : it3 σ hi C M hc z y F (fun i j => if i = k ∧ j = v then x else G i j) (wI w (hc + 1 + 1 + k) v (nI x)) := ⟨h.1.wI (by have := h.2.2.2.1; omega), h.2.1.oth (by omega), h.2.2.1.set, h.2.2.2.1, h.2.2.2.2.1, h.2.2.2.2.2⟩
theorem it3.congr (h : it3 σ hi C M hc z y F G w) (e : ∀ j, j < C 0 0 3 → F j = F' j) (e2 : ∀ i, i < C 0 0 3 → ∀ j, j < C 0 0 2 → G i j = G' i j) : it3 σ hi C M hc z y F' G' w := ⟨h.1, h.2.1.congr e, h.2.2.1.congr e2, h.2.2.2⟩
theorem c_spl (h : GW w C M) (hm : MOk C B M) (hB : B ≤ 1073741824) {s x : Nat} (hs : s < C 0 0 3) (hx : x < 8) : mK (d + 4) 103 [.ref 166, .int (nI s), .int (nI x)] w = some (.inl (some (.int (nI (M 3 s x)))), w) := by
  rw [c_speller h hm hB hs (by omega), show spFM C M s x = M 3 s x from if_pos hx]
theorem c_spr (h : GW w C M) (hm : MOk C B M) (hB : B ≤ 1073741824) {s : Nat} (hs : s < C 0 0 3) : mK (d + 4) 103 [.ref 166, .int (nI s), .int (nI 8)] w = some (.inl (some (.int (nI (rankM C M s)))), w) := by
  rw [c_speller h hm hB hs (by omega)]
  rfl
theorem lk_a {t k : Nat} {D : Int64} {c7 c8 c9 x14 x15 x16 x17 x18 : Int32} (h : LW w σ hi C M) (hm : MOk C B M) (hv : iv C M) (hB : B ≤ 400000000) (hk : k < C 0 0 3) :
    mX (d + 10) 169 165 [.ref 1, .ref 166, mJ, .ref σ, .int (nI (C 0 0 3)), .int (nI (C 0 0 2)), .int (nI (C 0 0 1)), .int (nI t), mJ, .long D, mJ, .int c7, .int c8, .int c9, .int x14, .int x15, .int x16, .int x17, .int x18, .ref hc, .ref (hc + 1), .int (nI k), mJ, mJ, mJ, mJ, mJ, mJ, mJ, mJ, mJ, mJ] [] w = mX (d + 10) 169 321 [.ref 1, .ref 166, mJ, .ref σ, .int (nI (C 0 0 3)), .int (nI (C 0 0 2)), .int (nI (C 0 0 1)), .int (nI t), mJ, .long D, mJ, .int c7, .int c8, .int c9, .int (x14 + nI (M 3 k 0)), .int (x15 + nI (M 3 k 6)), .int (x16 + nI (M 3 k 7)), .int (x17 + nI (M 3 k 5)), .int (x18 ||| (nI 1 <<< (nI (rankM C M k) &&& 31))), .ref hc, .ref (hc + 1), .int (nI k), .int (nI (M 3 k 0)), mJ, mJ, mJ, mJ, mJ, mJ, mJ, mJ, mJ] [] w := by
  have q := h.g.q
  have hB2 : B ≤ 1073741824 := by omega
  have i01 := hm.i k
  obtain ⟨p2, p0, p3⟩ := hv.2.1 k
  have p1 := hm.1 3 k 1 (by decide) (by decide)
  have pre : mX (d + 10) 169 172 [.ref 1, .ref 166, mJ, .ref σ, .int (nI (C 0 0 3)), .int (nI (C 0 0 2)), .int (nI (C 0 0 1)), .int (nI t), mJ, .long D, mJ, .int c7, .int c8, .int c9, .int x14, .int x15, .int x16, .int x17, .int x18, .ref hc, .ref (hc + 1), .int (nI k), mJ, mJ, mJ, mJ, mJ, mJ, mJ, mJ, mJ, mJ] [.int (nI (M 3 k 0))] w = mX (d + 10) 169 195 [.ref 1, .ref 166, mJ, .ref σ, .int (nI (C 0 0 3)), .int (nI (C 0 0 2)), .int (nI (C 0 0 1)), .int (nI t), mJ, .long D, mJ, .int c7, .int c8, .int c9, mJ, .int x15, .int x16, .int x17, .int x18, .ref hc, .ref (hc + 1), .int (nI k), .int (nI (M 3 k 0)), mJ, mJ, mJ, mJ, mJ, mJ, mJ, mJ, mJ] [.int (nI (M 3 k 0)), .int x14] w := by
    rcases (show M 3 k 0 = 0 ∨ M 3 k 0 = 1 by omega) with e | e <;> rw [e, b_169_172]
    · rw [if_pos (by decide +kernel : ¬ nI 0 = nI 1), b_169_180, b_169_181, if_pos rfl, b_169_194]
    · rw [if_neg (fun q => q rfl), b_169_176, b_169_181, if_neg n10, b_169_190]
  have post : ∀ x14 x15 x16 x17 x18 : Int32, mX (d + 10) 169 282 [.ref 1, .ref 166, mJ, .ref σ, .int (nI (C 0 0 3)), .int (nI (C 0 0 2)), .int (nI (C 0 0 1)), .int (nI t), mJ, .long D, mJ, .int c7, .int c8, .int c9, .int x14, .int x15, .int x16, .int x17, .int x18, .ref hc, .ref (hc + 1), .int (nI k), .int (nI (M 3 k 0)), mJ, mJ, mJ, mJ, mJ, mJ, mJ, mJ, mJ] [] w = mX (d + 10) 169 298 [.ref 1, .ref 166, mJ, .ref σ, .int (nI (C 0 0 3)), .int (nI (C 0 0 2)), .int (nI (C 0 0 1)), .int (nI t), mJ, .long D, mJ, .int c7, .int c8, .int c9, .int x14, .int x15, .int x16, .int x17, .int x18, .ref hc, .ref (hc + 1), .int (nI k), .int (nI (M 3 k 0)), mJ, mJ, mJ, mJ, mJ, mJ, mJ, mJ, mJ] [] w := fun x14 x15 x16 x17 x18 => by
    rw [b_169_282, ijeq (by omega) (by decide)]
    by_cases e : M 3 k 0 = 0
    · rw [if_pos e]
    · rw [if_neg e, b_169_287 q, c_spl (d := d + 5) h.g hm hB2 hk (by decide)]
      simp only [mThen_ok, Option.toList_some, Option.toList_none, List.cons_append, List.nil_append]
      rw [b_169_294, ijlt (by decide) (by omega), if_neg (by have := p0 (by omega); omega)]
  rw [b_169_165 q, c_spl (d := d + 5) h.g hm hB2 hk (by decide)]
  simp only [mThen_ok, Option.toList_some, Option.toList_none, List.cons_append, List.nil_append]
  rw [pre, b_169_195 q, c_spl (d := d + 5) h.g hm hB2 hk (by decide)]
  simp only [mThen_ok, Option.toList_some, Option.toList_none, List.cons_append, List.nil_append]
  rw [b_169_208 q, c_spl (d := d + 5) h.g hm hB2 hk (by decide)]
  simp only [mThen_ok, Option.toList_some, Option.toList_none, List.cons_append, List.nil_append]
  rw [b_169_221 q, c_spl (d := d + 5) h.g hm hB2 hk (by decide)]
  simp only [mThen_ok, Option.toList_some, Option.toList_none, List.cons_append, List.nil_append]
  rw [b_169_233 q, c_spr (d := d + 5) h.g hm hB2 hk]
  simp only [mThen_ok, Option.toList_some, Option.toList_none, List.cons_append, List.nil_append]
  rw [b_169_247 q, c_spl (d := d + 5) h.g hm hB2 hk (by decide)]
  simp only [mThen_ok, Option.toList_some, Option.toList_none, List.cons_append, List.nil_append]
  generalize x14 + nI (M 3 k 0) = x14
  generalize x15 + nI (M 3 k 6) = x15
  generalize x16 + nI (M 3 k 7) = x16
  generalize x17 + nI (M 3 k 5) = x17
  generalize x18 ||| (nI 1 <<< (nI (rankM C M k) &&& 31)) = x18
  rw [b_169_258, ijlt (by omega) (by decide), if_neg (by omega), b_169_261 q, c_spl (d := d + 5) h.g hm hB2 hk (by decide)]
  simp only [mThen_ok, Option.toList_some, Option.toList_none, List.cons_append, List.nil_append]
  rw [b_169_268, ijlt (by omega) (by decide), if_neg (by omega), b_169_271 q, c_spl (d := d + 5) h.g hm hB2 hk (by decide)]
  simp only [mThen_ok, Option.toList_some, Option.toList_none, List.cons_append, List.nil_append]
  rw [b_169_278, ijlt (by decide) (by omega), if_neg (by omega), post, b_169_298 q, c_spl (d := d + 5) h.g hm hB2 hk (by decide)]
  simp only [mThen_ok, Option.toList_some, Option.toList_none, List.cons_append, List.nil_append]
  rw [b_169_305, ijlt (by omega) (by decide), if_neg (by omega), b_169_308 q, c_spl (d := d + 5) h.g hm hB2 hk (by decide)]
  simp only [mThen_ok, Option.toList_some, Option.toList_none, List.cons_append, List.nil_append]
  rw [b_169_315, ijle (by omega) (by decide), if_pos (by omega)]
theorem lk_b {t k : Nat} {D : Int64} {c7 c8 c9 x14 x15 x16 x17 x18 : Int32} (h : LW w σ hi C M) (hm : MOk C B M) (hB : B ≤ 400000000) (hk : k < C 0 0 3) :
    mX (d + 10) 169 321 [.ref 1, .ref 166, mJ, .ref σ, .int (nI (C 0 0 3)), .int (nI (C 0 0 2)), .int (nI (C 0 0 1)), .int (nI t), mJ, .long D, mJ, .int c7, .int c8, .int c9, .int x14, .int x15, .int x16, .int x17, .int x18, .ref hc, .ref (hc + 1), .int (nI k), .int (nI (M 3 k 0)), mJ, mJ, mJ, mJ, mJ, mJ, mJ, mJ, mJ] [] w = mX (d + 10) 169 437 [.ref 1, .ref 166, mJ, .ref σ, .int (nI (C 0 0 3)), .int (nI (C 0 0 2)), .int (nI (C 0 0 1)), .int (nI t), mJ, .long D, mJ, .int c7, .int c8, .int c9, .int x14, .int x15, .int x16, .int x17, .int x18, .ref hc, .ref (hc + 1), .int (nI k), mJ, mJ, mJ, mJ, mJ, mJ, mJ, mJ, mJ, mJ] [] w := by
  have q := h.g.q
  have hk1 := h.k.1
  have hB2 : B ≤ 1073741824 := by omega
  have key := loop0 (fun o => mX (d + 10) 169 324 [.ref 1, .ref 166, mJ, .ref σ, .int (nI (C 0 0 3)), .int (nI (C 0 0 2)), .int (nI (C 0 0 1)), .int (nI t), mJ, .long D, mJ, .int c7, .int c8, .int c9, .int x14, .int x15, .int x16, .int x17, .int x18, .ref hc, .ref (hc + 1), .int (nI k), .int (nI (M 3 k 0)), .int (nI o), mJ, mJ, mJ, mJ, mJ, mJ, mJ, mJ] [] w) (C 0 0 3) (fun o ho => by
    have ik := hm.i k
    have io := hm.i o
    have bk := rank_b (M := M) hk
    have bo := rank_b (M := M) ho
    have pk := hm.1 3 k 1 (by decide) (by decide)
    have po := hm.1 3 o 1 (by decide) (by decide)
    rw [b_169_324, ijle (by omega) (by omega), if_neg (by omega), b_169_331 q, c_spr (d := d + 5) h.g hm hB2 hk]
    simp only [mThen_ok, Option.toList_some, Option.toList_none, List.cons_append, List.nil_append]
    rw [b_169_339 q, c_spr (d := d + 5) h.g hm hB2 ho]
    simp only [mThen_ok, Option.toList_some, Option.toList_none, List.cons_append, List.nil_append]
    rw [b_169_347, ijlt (by omega) (by omega)]
    by_cases g : rankM C M k < rankM C M o
    · have H := (ahead_iff hm.i _ _).mp (rank_ah hm.i hk ho g)
      rw [if_pos g, b_169_353 q, c_spl (d := d + 5) h.g hm hB2 ho (by decide)]
      simp only [mThen_ok, Option.toList_some, Option.toList_none, List.cons_append, List.nil_append]
      have pre : mX (d + 10) 169 360 [.ref 1, .ref 166, mJ, .ref σ, .int (nI (C 0 0 3)), .int (nI (C 0 0 2)), .int (nI (C 0 0 1)), .int (nI t), mJ, .long D, mJ, .int c7, .int c8, .int c9, .int x14, .int x15, .int x16, .int x17, .int x18, .ref hc, .ref (hc + 1), .int (nI k), .int (nI (M 3 k 0)), .int (nI o), mJ, mJ, mJ, mJ, mJ, mJ, mJ, mJ] [.int (nI (M 3 o 0))] w = mX (d + 10) 169 381 [.ref 1, .ref 166, mJ, .ref σ, .int (nI (C 0 0 3)), .int (nI (C 0 0 2)), .int (nI (C 0 0 1)), .int (nI t), mJ, .long D, mJ, .int c7, .int c8, .int c9, .int x14, .int x15, .int x16, .int x17, .int x18, .ref hc, .ref (hc + 1), .int (nI k), .int (nI (M 3 k 0)), .int (nI o), .int (nI (M 3 o 0)), mJ, mJ, mJ, mJ, mJ, mJ, mJ] [] w := by
        rcases (show M 3 o 0 = 0 ∨ M 3 o 0 = 1 by omega) with e | e <;> rw [e, b_169_360]
        · rw [if_pos (by decide +kernel : ¬ nI 0 = nI 1), b_169_368, b_169_369, if_pos rfl]
        · rw [if_neg (fun q => q rfl), b_169_364, b_169_369, if_neg n10, b_169_376, ijeq (by omega) (by decide), if_neg (by omega)]
      rw [pre, b_169_381, ijne (by omega) (by omega)]
      by_cases e : M 3 k 0 = M 3 o 0
      · rw [if_neg (fun q => q e), b_169_388 q, c_spl (d := d + 5) h.g hm hB2 hk (by decide)]
        simp only [mThen_ok, Option.toList_some, Option.toList_none, List.cons_append, List.nil_append]
        rw [b_169_395 q, c_spl (d := d + 5) h.g hm hB2 ho (by decide)]
        simp only [mThen_ok, Option.toList_some, Option.toList_none, List.cons_append, List.nil_append]
        rw [b_169_402, ijlt (by omega) (by omega), if_neg (by omega), b_169_405 q, c_spl (d := d + 5) h.g hm hB2 hk (by decide)]
        simp only [mThen_ok, Option.toList_some, Option.toList_none, List.cons_append, List.nil_append]
        rw [b_169_412 q, c_spl (d := d + 5) h.g hm hB2 ho (by decide)]
        simp only [mThen_ok, Option.toList_some, Option.toList_none, List.cons_append, List.nil_append]
        rw [b_169_419, ijne (by omega) (by omega)]
        by_cases e2 : M 3 k 1 = M 3 o 1
        · rw [if_neg (fun q => q e2), b_169_422, ijle (by omega) (by omega), if_pos (by omega), b_169_431, jadd]
        · rw [if_pos e2, b_169_431, jadd]
      · rw [if_pos e, b_169_431, jadd]
    · rw [if_neg g, b_169_350, b_169_431, jadd])
  rw [b_169_321]
  refine Eq.trans key ?_
  try dsimp only
  rw [b_169_324, if_pos (Int32.le_refl _)]
theorem lk_c {t k : Nat} {D : Int64} {c7 c8 c9 x14 x15 x16 x17 x18 : Int32} (hm : MOk C B M) (hB : B ≤ 400000000) (hk : k < C 0 0 3) (h : it3 σ hi C M hc z y (fun j => if j < k then hsM C M j else 0) (fun i j => if i < k then strongM C M i j else 0) w) :
    ∃ w', mX (d + 10) 169 437 [.ref 1, .ref 166, mJ, .ref σ, .int (nI (C 0 0 3)), .int (nI (C 0 0 2)), .int (nI (C 0 0 1)), .int (nI t), mJ, .long D, mJ, .int c7, .int c8, .int c9, .int x14, .int x15, .int x16, .int x17, .int x18, .ref hc, .ref (hc + 1), .int (nI k), mJ, mJ, mJ, mJ, mJ, mJ, mJ, mJ, mJ, mJ] [] w = mX (d + 10) 169 158 [.ref 1, .ref 166, mJ, .ref σ, .int (nI (C 0 0 3)), .int (nI (C 0 0 2)), .int (nI (C 0 0 1)), .int (nI t), mJ, .long D, mJ, .int c7, .int c8, .int c9, .int x14, .int x15, .int x16, .int x17, .int x18, .ref hc, .ref (hc + 1), .int (nI (k + 1)), mJ, mJ, mJ, mJ, mJ, mJ, mJ, mJ, mJ, mJ] [] w' ∧ it3 σ hi C M hc z y (fun j => if j < k + 1 then hsM C M j else 0) (fun i j => if i < k + 1 then strongM C M i j else 0) w' := by
  have hB2 : B ≤ 1073741824 := by omega
  have k0 := h.1.k
  have hk1 := k0.1
  have eE : mE = 166 := rfl
  have l1 := loopW (n := C 0 0 1) (F := fun r w => mX (d + 10) 169 440 [.ref 1, .ref 166, mJ, .ref σ, .int (nI (C 0 0 3)), .int (nI (C 0 0 2)), .int (nI (C 0 0 1)), .int (nI t), mJ, .long D, mJ, .int c7, .int c8, .int c9, .int x14, .int x15, .int x16, .int x17, .int x18, .ref hc, .ref (hc + 1), .int (nI k), mJ, .int (nI r), mJ, mJ, mJ, mJ, mJ, mJ, mJ, mJ] [] w) (P := fun r w => it3 σ hi C M hc z y (fun j => if j < k then hsM C M j else if j = k then su r (fun r => M 5 k r) else 0) (fun i j => if i < k then strongM C M i j else 0) w) (fun r w hr hp => by
    have L := hp.1
    obtain ⟨t50, l50, rd⟩ := hp.2.1
    have lo := L.lo
    have hh := hp.2.2.2.1
    have rk := rd k hk
    dsimp only at rk
    rw [if_neg (by omega), if_pos rfl] at rk
    refine ⟨wI w hc k (nI (su (r + 1) (fun r => M 5 k r))), ?_, (hp.setF (k := k) (x := su (r + 1) (fun r => M 5 k r))).congr (fun j hj => ?_) (fun _ _ _ _ => rfl)⟩
    · try dsimp only
      rw [b_169_440, ijle (by omega) (by omega), if_neg (by omega), b_169_447 t50 (by omega) (by omega) L.g.q, c_heard (d := d + 7) L.g hk hr]
      simp only [mThen_ok, Option.toList_some, Option.toList_none, List.cons_append, List.nil_append]
      refine Eq.trans (b_169_461 t50 (by omega) (by omega) (by omega)) ?_
      rw [rk, jadd, b_169_463, jadd]
      rfl
    · by_cases e : j = k
      · subst e; rw [if_pos rfl, if_neg (by omega), if_pos rfl]
      · rw [if_neg e, if_neg e]
        by_cases g : j < k
        · rw [if_pos g, if_pos g]
        · rw [if_neg g, if_neg g, if_neg e]) w (h.congr (fun j hj => by
      by_cases g : j < k
      · rw [if_pos g, if_pos g]
      · rw [if_neg g, if_neg g]; split <;> rfl) (fun _ _ _ _ => rfl))
  obtain ⟨w1, e1, p1⟩ := l1
  have l2 := loopW (n := C 0 0 2) (F := fun v w => mX (d + 10) 169 472 [.ref 1, .ref 166, mJ, .ref σ, .int (nI (C 0 0 3)), .int (nI (C 0 0 2)), .int (nI (C 0 0 1)), .int (nI t), mJ, .long D, mJ, .int c7, .int c8, .int c9, .int x14, .int x15, .int x16, .int x17, .int x18, .ref hc, .ref (hc + 1), .int (nI k), mJ, .int (nI v), mJ, mJ, mJ, mJ, mJ, mJ, mJ, mJ] [] w) (P := fun v w => it3 σ hi C M hc z y (fun j => if j < k + 1 then hsM C M j else 0) (fun i j => if i < k then strongM C M i j else if i = k ∧ j < v then strongM C M i j else 0) w) (fun v w hr hp => by
    have L := hp.1
    have rs := hp.2.2.1
    have lo := L.lo
    have hh := hp.2.2.2.1
    obtain ⟨t50, l50, rd⟩ := (rs.2.2 k hk).2
    have gk := rs.g hk
    have sk := rs.s hk
    have t52 := rs.1
    have l52 := rs.2.1
    refine ⟨wI w (hc + 1 + 1 + k) v (nI (strongM C M k v)), ?_, hp.setG.congr (fun _ _ => rfl) (fun i hi2 j hj => ?_)⟩
    · try dsimp only
      rw [b_169_472, ijle (by omega) (by omega), if_neg (by omega)]
      refine Eq.trans (b_169_479 (by omega) (by omega) (by omega) sk L.g.q) ?_
      rw [c_strongQ (d := d + 6) L.g hm hB2 hk hr, gk]
      simp only [mThen_ok, Option.toList_some, Option.toList_none, List.cons_append, List.nil_append]
      refine Eq.trans (b_169_494 t50 (by omega) (by omega) (by omega)) ?_
      rw [b_169_495, jadd]
    · by_cases e : i = k ∧ j = v
      · rw [if_pos e, e.1, e.2, if_neg (by omega), if_pos (by omega)]
      · rw [if_neg e]
        by_cases g : i < k
        · rw [if_pos g, if_pos g]
        · rw [if_neg g, if_neg g]
          by_cases g2 : i = k ∧ j < v
          · rw [if_pos g2, if_pos (by omega)]
          · rw [if_neg g2, if_neg (by omega)]) w1 (p1.congr (fun j hj => by
      by_cases g : j < k
      · rw [if_pos g, if_pos (by omega)]
      · rw [if_neg g]
        by_cases e : j = k
        · rw [if_pos e, if_pos (by omega), e]; rfl
        · rw [if_neg e, if_neg (by omega)]) (fun i hi2 j hj => by
      by_cases g : i < k
      · rw [if_pos g, if_pos g]
      · rw [if_neg g, if_neg g, if_neg (by omega)]))
  obtain ⟨w2, e2, p2⟩ := l2
  refine ⟨w2, ?_, p2.congr (fun _ _ => rfl) (fun i hi2 j hj => ?_)⟩
  · try dsimp only at e1 e2
    rw [b_169_437, e1, b_169_440, if_pos (Int32.le_refl _), b_169_469, e2, b_169_472, if_pos (Int32.le_refl _), b_169_501, jadd]
  · by_cases g : i < k
    · rw [if_pos g, if_pos (by omega)]
    · rw [if_neg g]
      by_cases g2 : i = k
      · rw [if_pos ⟨g2, hj⟩, if_pos (by omega)]
      · rw [if_neg (by omega), if_neg (by omega)]
/-- all spellers -/
theorem lk_all {t : Nat} {D : Int64} {c7 c8 c9 : Int32} (hm : MOk C B M) (hv : iv C M) (hB : B ≤ 400000000) (h : it3 σ hi C M hc z y (fun _ => 0) (fun _ _ => 0) w) :
    ∃ w', mX (d + 10) 169 158 [.ref 1, .ref 166, mJ, .ref σ, .int (nI (C 0 0 3)), .int (nI (C 0 0 2)), .int (nI (C 0 0 1)), .int (nI t), mJ, .long D, mJ, .int c7, .int c8, .int c9, .int (nI 0), .int (nI 0), .int (nI 0), .int (nI 0), .int (nI 0), .ref hc, .ref (hc + 1), .int (nI 0), mJ, mJ, mJ, mJ, mJ, mJ, mJ, mJ, mJ, mJ] [] w = mX (d + 10) 169 507 [.ref 1, .ref 166, mJ, .ref σ, .int (nI (C 0 0 3)), .int (nI (C 0 0 2)), .int (nI (C 0 0 1)), .int (nI t), mJ, .long D, mJ, .int c7, .int c8, .int c9, .int (nI (leftM C M)), .int (nI (s3 C M 6)), .int (nI (s3 C M 7)), .int (nI (s3 C M 5)), .int (rkB C M (C 0 0 3)), .ref hc, .ref (hc + 1), mJ, mJ, mJ, mJ, mJ, mJ, mJ, mJ, mJ, mJ, mJ] [] w' ∧ it3 σ hi C M hc z y (hsM C M) (strongM C M) w' := by
  have hk1 := h.1.k.1
  have l1 := loopW (n := C 0 0 3) (F := fun k w => mX (d + 10) 169 158 [.ref 1, .ref 166, mJ, .ref σ, .int (nI (C 0 0 3)), .int (nI (C 0 0 2)), .int (nI (C 0 0 1)), .int (nI t), mJ, .long D, mJ, .int c7, .int c8, .int c9, .int (nI (su k (fun s => M 3 s 0))), .int (nI (su k (fun s => M 3 s 6))), .int (nI (su k (fun s => M 3 s 7))), .int (nI (su k (fun s => M 3 s 5))), .int (rkB C M k), .ref hc, .ref (hc + 1), .int (nI k), mJ, mJ, mJ, mJ, mJ, mJ, mJ, mJ, mJ, mJ] [] w) (P := fun k w => it3 σ hi C M hc z y (fun j => if j < k then hsM C M j else 0) (fun i j => if i < k then strongM C M i j else 0) w) (fun k w hk hp => by
    obtain ⟨w', e, p⟩ := lk_c (d := d) (t := t) (D := D) (c7 := c7) (c8 := c8) (c9 := c9) (x14 := nI (su k (fun s => M 3 s 0)) + nI (M 3 k 0)) (x15 := nI (su k (fun s => M 3 s 6)) + nI (M 3 k 6)) (x16 := nI (su k (fun s => M 3 s 7)) + nI (M 3 k 7)) (x17 := nI (su k (fun s => M 3 s 5)) + nI (M 3 k 5)) (x18 := rkB C M k ||| (nI 1 <<< (nI (rankM C M k) &&& 31))) hm hB hk hp
    refine ⟨w', ?_, p⟩
    try dsimp only
    rw [b_169_158, ijle (by omega) (by omega), if_neg (by omega), lk_a hp.1 hm hv hB hk, lk_b hp.1 hm hB hk, e, jadd, jadd, jadd, jadd]
    rfl) w (h.congr (fun j hj => by rw [if_neg (by omega)]) (fun i hi2 j hj => by rw [if_neg (by omega)]))
  obtain ⟨w1, e1, p1⟩ := l1
  refine ⟨w1, ?_, p1.congr (fun j hj => if_pos hj) (fun i hi2 j hj => if_pos hi2)⟩
  refine Eq.trans e1 ?_
  try dsimp only
  rw [b_169_158, if_pos (Int32.le_refl _)]
  rfl
end
