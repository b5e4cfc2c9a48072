/-! ===== the law's own list: the rows that are made beside the text ===== -/
/-- cells from 276 on that are no StringBuilder, String or bytes, and not of X, stay as they are -/
def kpX (X : Nat → Prop) (w w' : MW) : Prop := mSz w ≤ mSz w' ∧ ∀ c, 276 ≤ c → c < mSz w → ¬ X c → ¬ mTg w c = 12 → ¬ mTg w c = 51 → ¬ mTg w c = 11 → mTg w' c = mTg w c ∧ mLn w' c = mLn w c ∧ mI w' c = mI w c ∧ mR w' c = mR w c
/-- field f of the law's bee is an array of n rows -/
def AR (w : MW) (f n : Nat) : Prop := mTg w 278 = 10 ∧ mR w 278 f = some (gR w 278 f) ∧ mTg w (gR w 278 f) = 52 ∧ mLn w (gR w 278 f) = n ∧ (279 ≤ gR w 278 f ∧ gR w 278 f < mSz w)
/-- its row r: L long, its first q numbers are v's; its cell is not below lo -/
def RX (w : MW) (f n r L q : Nat) (v : Nat → Nat) (lo : Nat) : Prop := AR w f n ∧ mR w (gR w 278 f) r = some (gR w (gR w 278 f) r) ∧ mTg w (gR w (gR w 278 f) r) = 50 ∧ mLn w (gR w (gR w 278 f) r) = L ∧ (279 ≤ lo ∧ lo ≤ gR w (gR w 278 f) r ∧ gR w (gR w 278 f) r < mSz w) ∧ ∀ j, j < q → mI w (gR w (gR w 278 f) r) j = nI (v j)
/-- its first m rows, all between lo and hi -/
def RO (w : MW) (f n m lo hi : Nat) (ln : Nat → Nat) (v : Nat → Nat → Nat) : Prop := AR w f n ∧ (279 ≤ lo ∧ lo ≤ hi ∧ hi ≤ mSz w) ∧ (∀ i, i < m → mR w (gR w 278 f) i = some (gR w (gR w 278 f) i) ∧ mTg w (gR w (gR w 278 f) i) = 50 ∧ mLn w (gR w (gR w 278 f) i) = ln i ∧ (lo ≤ gR w (gR w 278 f) i ∧ gR w (gR w 278 f) i < hi) ∧ ∀ j, j < ln i → mI w (gR w (gR w 278 f) i) j = nI (v i j)) ∧ ∀ i j, i < j → j < m → gR w (gR w 278 f) i < gR w (gR w 278 f) j
/-- one new cell: a row of L numbers, q of them written -/
def FL (w w1 : MW) (L q : Nat) (v : Nat → Nat) : Prop := sm w w1 (fun _ => False) ∧ gz 1 w w1 ∧ mSz w1 = mSz w + 1 ∧ mTg w1 (mSz w) = 50 ∧ mLn w1 (mSz w) = L ∧ ∀ j, j < q → mI w1 (mSz w) j = nI (v j)
section
variable {f n m r L q lo hi k i j c : Nat} {u w w' w1 : MW} {X Y : Nat → Prop} {ln : Nat → Nat} {v : Nat → Nat → Nat} {g : Nat → Nat} {tx : List Nat} {x : Int32}
theorem kpX.refl : kpX X w w := ⟨Nat.le_refl _, fun _ _ _ _ _ _ _ => ⟨rfl, rfl, rfl, rfl⟩⟩
theorem kpX.trans (h : kpX X w w1) (g : kpX Y w1 w') (hx : ∀ c, c < mSz w → Y c → X c) : kpX X w w' := by
  refine ⟨Nat.le_trans h.1 g.1, fun c q1 q2 q3 n1 n2 n3 => ?_⟩
  obtain ⟨a1, a2, a3, a4⟩ := h.2 c q1 q2 q3 n1 n2 n3
  obtain ⟨b1, b2, b3, b4⟩ := g.2 c q1 (Nat.lt_of_lt_of_le q2 h.1) (fun y => q3 (hx c q2 y)) (by rw [a1]; exact n1) (by rw [a1]; exact n2) (by rw [a1]; exact n3)
  exact ⟨b1.trans a1, b2.trans a2, b3.trans a3, b4.trans a4⟩
theorem kpX.mono (h : kpX X w w') (hx : ∀ c, c < mSz w → X c → Y c) : kpX Y w w' := ⟨h.1, fun c q1 q2 q3 => h.2 c q1 q2 (fun z => q3 (hx c q2 z))⟩
theorem kpW.kx (h : kpW w w') : kpX X w w' := ⟨h.1, fun c q1 q2 _ => h.2 c q1 q2⟩
theorem kpX.S (h : sm w w' X) : kpX X w w' := ⟨h.1, fun c _ q2 q3 _ _ _ => h.2 c q2 q3⟩
theorem kpX.wi (hc : X c) : kpX X w (wI w c j x) := kpX.S (sm.wI hc)
theorem kpX.at (h : kpX X w w') (hc : 276 ≤ c ∧ c < mSz w) (hX : ¬ X c) (t : mTg w c = 10 ∨ mTg w c = 50 ∨ mTg w c = 52) : mTg w' c = mTg w c ∧ mLn w' c = mLn w c ∧ mI w' c = mI w c ∧ mR w' c = mR w c := h.2 c hc.1 hc.2 hX (by omega) (by omega) (by omega)
theorem AR.s (h : AR w f n) : mTg w 278 = 10 := h.1
theorem AR.rr (h : AR w f n) : mR w 278 f = some (gR w 278 f) := h.2.1
theorem AR.t (h : AR w f n) : mTg w (gR w 278 f) = 52 := h.2.2.1
theorem AR.t5 (h : AR w f n) : 50 ≤ mTg w (gR w 278 f) ∧ mTg w (gR w 278 f) < 55 := by rw [h.t]; decide
theorem AR.t2 (h : AR w f n) : 52 ≤ mTg w (gR w 278 f) ∧ mTg w (gR w 278 f) < 55 := by rw [h.t]; decide
theorem AR.l (h : AR w f n) : mLn w (gR w 278 f) = n := h.2.2.2.1
theorem AR.b (h : AR w f n) : 279 ≤ gR w 278 f ∧ gR w 278 f < mSz w := h.2.2.2.2
theorem AR.kp (h : AR w f n) (g : kpX X w w') (x1 : ¬ X 278) (x2 : ¬ X (gR w 278 f)) : AR w' f n ∧ gR w' 278 f = gR w 278 f := by
  have b := h.b
  obtain ⟨a1, a2, a3, a4⟩ := g.at ⟨by omega, by omega⟩ x1 (Or.inl h.s)
  obtain ⟨c1, c2, c3, c4⟩ := g.at ⟨by omega, b.2⟩ x2 (Or.inr (Or.inr h.t))
  have e : gR w' 278 f = gR w 278 f := by unfold gR; rw [a4]
  refine ⟨?_, e⟩
  unfold AR
  rw [e, a1, a4, c1, c2]
  exact ⟨h.s, h.rr, h.t, h.l, b.1, Nat.lt_of_lt_of_le b.2 g.1⟩
theorem RX.kp (h : RX w f n r L q g lo) (y : kpX X w w') (x1 : ¬ X 278) (x2 : ¬ X (gR w 278 f)) (x3 : ¬ X (gR w (gR w 278 f) r)) : RX w' f n r L q g lo ∧ gR w' 278 f = gR w 278 f ∧ gR w' (gR w' 278 f) r = gR w (gR w 278 f) r := by
  obtain ⟨h1, h2, h3, h4, h5, h6⟩ := h
  obtain ⟨a, e⟩ := h1.kp y x1 x2
  have b := h1.b
  obtain ⟨c1, c2, c3, c4⟩ := y.at ⟨by omega, b.2⟩ x2 (Or.inr (Or.inr h1.t))
  obtain ⟨d1, d2, d3, d4⟩ := y.at ⟨by omega, h5.2.2⟩ x3 (Or.inr (Or.inl h3))
  have e2 : gR w' (gR w 278 f) r = gR w (gR w 278 f) r := by show (mR w' _ r).getD 0 = (mR w _ r).getD 0; rw [c4]
  refine ⟨⟨a, ?_⟩, e, by rw [e, e2]⟩
  rw [e, e2, c4, d1, d2, d3]
  exact ⟨h2, h3, h4, ⟨h5.1, h5.2.1, Nat.lt_of_lt_of_le h5.2.2 y.1⟩, h6⟩
theorem RX.kw (h : RX w f n r L q g lo) (y : kpW w w') : RX w' f n r L q g lo := (h.kp (X := fun _ => False) y.kx id id id).1
theorem RX.a (h : RX w f n r L q g lo) : AR w f n := h.1
theorem RX.rr (h : RX w f n r L q g lo) : mR w (gR w 278 f) r = some (gR w (gR w 278 f) r) := h.2.1
theorem RX.t (h : RX w f n r L q g lo) : mTg w (gR w (gR w 278 f) r) = 50 := h.2.2.1
theorem RX.l (h : RX w f n r L q g lo) : mLn w (gR w (gR w 278 f) r) = L := h.2.2.2.1
theorem RX.b (h : RX w f n r L q g lo) : 279 ≤ lo ∧ lo ≤ gR w (gR w 278 f) r ∧ gR w (gR w 278 f) r < mSz w := h.2.2.2.2.1
theorem RX.vv (h : RX w f n r L q g lo) (hj : j < q) : mI w (gR w (gR w 278 f) r) j = nI (g j) := h.2.2.2.2.2 j hj
theorem RX.set (h : RX w f n r L q g lo) (e : x = nI (g q)) : RX (wI w (gR w (gR w 278 f) r) q x) f n r L (q + 1) g lo := by
  refine ⟨h.a, h.rr, h.t, h.l, h.b, fun j hj => ?_⟩
  show mI (wI w (gR w (gR w 278 f) r) q x) (gR w (gR w 278 f) r) j = _
  rw [miI]
  by_cases z : j = q
  · subst z; rw [if_pos ⟨rfl, rfl⟩]; exact e
  · rw [if_neg (fun y => z y.2)]; exact h.vv (by omega)
theorem RO.a (h : RO w f n m lo hi ln v) : AR w f n := h.1
theorem RO.b (h : RO w f n m lo hi ln v) : 279 ≤ lo ∧ lo ≤ hi ∧ hi ≤ mSz w := h.2.1
theorem RO.kp (h : RO w f n m lo hi ln v) (y : kpX X w w') (x1 : ¬ X 278) (x2 : ¬ X (gR w 278 f)) (x3 : ∀ c, lo ≤ c → c < hi → ¬ X c) : RO w' f n m lo hi ln v := by
  obtain ⟨h1, h2, h3, h4⟩ := h
  obtain ⟨a, e⟩ := h1.kp y x1 x2
  have b := h1.b
  obtain ⟨c1, c2, c3, c4⟩ := y.at ⟨by omega, b.2⟩ x2 (Or.inr (Or.inr h1.t))
  have e2 : ∀ i, gR w' (gR w 278 f) i = gR w (gR w 278 f) i := fun i => by show (mR w' _ i).getD 0 = (mR w _ i).getD 0; rw [c4]
  refine ⟨a, ⟨h2.1, h2.2.1, Nat.le_trans h2.2.2 y.1⟩, fun i hi' => ?_, fun i j q1 q2 => ?_⟩
  · obtain ⟨p1, p2, p3, p4, p5⟩ := h3 i hi'
    obtain ⟨d1, d2, d3, d4⟩ := y.at (c := gR w (gR w 278 f) i) ⟨by omega, by omega⟩ (x3 _ p4.1 p4.2) (Or.inr (Or.inl p2))
    rw [e, e2, c4, d1, d2, d3]
    exact ⟨p1, p2, p3, p4, p5⟩
  · rw [e, e2, e2]; exact h4 i j q1 q2
theorem RO.kw (h : RO w f n m lo hi ln v) (y : kpW w w') : RO w' f n m lo hi ln v := h.kp (X := fun _ => False) y.kx id id (fun _ _ _ => id)
theorem RO.sm (h : RO w f n m lo hi ln v) (y : sm w w' (fun _ => False)) : RO w' f n m lo hi ln v := h.kp (kpX.S y) id id (fun _ _ _ => id)
/-- a row is put behind those that there are -/
theorem RO.put (h : RO w f n m lo hi ln v) (b : Nat) : RO (wR w (gR w 278 f) m (some b)) f n m lo hi ln v := by
  obtain ⟨h1, h2, h3, h4⟩ := h
  have b1 := h1.b
  have e : mR (wR w (gR w 278 f) m (some b)) 278 = mR w 278 := funext fun j => if_neg (by omega)
  have e1 : gR (wR w (gR w 278 f) m (some b)) 278 f = gR w 278 f := by show (mR (wR w (gR w 278 f) m (some b)) 278 f).getD 0 = _; rw [e]; rfl
  have e2 : ∀ i, i < m → mR (wR w (gR w 278 f) m (some b)) (gR w 278 f) i = mR w (gR w 278 f) i := fun i hi' => if_neg (by omega)
  have e3 : ∀ i, i < m → gR (wR w (gR w 278 f) m (some b)) (gR w 278 f) i = gR w (gR w 278 f) i := fun i hi' => by show (mR (wR w (gR w 278 f) m (some b)) (gR w 278 f) i).getD 0 = _; rw [e2 i hi']; rfl
  refine ⟨?_, h2, fun i hi' => ?_, fun i j q1 q2 => ?_⟩
  · unfold AR
    rw [e1, e]
    exact h1
  · rw [e1, e3 i hi', e2 i hi']
    exact h3 i hi'
  · rw [e1, e3 i (by omega), e3 j q2]
    exact h4 i j q1 q2
/-- the next row is done -/
theorem RO.inc (h : RO w f n m lo hi ln v) (r : RX w f n m (ln m) (ln m) (v m) hi) : RO w f n (m + 1) lo (mSz w) ln v := by
  obtain ⟨h1, h2, h3, h4⟩ := h
  have rb := r.b
  refine ⟨h1, ⟨h2.1, by omega, Nat.le_refl _⟩, fun i hi' => ?_, fun i j q1 q2 => ?_⟩
  · by_cases z : i = m
    · subst z
      exact ⟨r.rr, r.t, r.l, ⟨by omega, rb.2.2⟩, fun j hj => r.vv hj⟩
    · obtain ⟨p1, p2, p3, p4, p5⟩ := h3 i (by omega)
      exact ⟨p1, p2, p3, ⟨p4.1, by omega⟩, p5⟩
  · by_cases z : j = m
    · subst z
      have := (h3 i q1).2.2.2.1
      omega
    · exact h4 i j q1 (by omega)
theorem RO.rd (h : RO w f n m lo hi ln v) (hi' : i < m) : RX w f n i (ln i) (ln i) (v i) lo := by
  obtain ⟨p1, p2, p3, p4, p5⟩ := h.2.2.1 i hi'
  have b := h.b
  exact ⟨h.1, p1, p2, p3, ⟨b.1, p4.1, by omega⟩, p5⟩
theorem RO.top (h : RO w f n m lo hi ln v) (hi' : i < m) : gR w (gR w 278 f) i < hi := (h.2.2.1 i hi').2.2.2.1.2
/-- a number of a row is written -/
theorem RO.wr {v' : Nat → Nat → Nat} (h : RO w f n m lo hi ln v) (hi' : i < m) (e : x = nI (v' i j)) (hv : ∀ i' j', i' < m → ¬ (i' = i ∧ j' = j) → v' i' j' = v i' j') : RO (wI w (gR w (gR w 278 f) i) j x) f n m lo hi ln v' := by
  obtain ⟨h1, h2, h3, h4⟩ := h
  refine ⟨h1, h2, fun a ha => ?_, h4⟩
  obtain ⟨p1, p2, p3, p4, p5⟩ := h3 a ha
  refine ⟨p1, p2, p3, p4, fun b hb => ?_⟩
  show mI (wI w (gR w (gR w 278 f) i) j x) (gR w (gR w 278 f) a) b = _
  rw [miI]
  by_cases z : a = i ∧ b = j
  · obtain ⟨rfl, rfl⟩ := z
    rw [if_pos ⟨rfl, rfl⟩]; exact e
  · rw [if_neg, hv a b ha z]
    · exact p5 b hb
    · rintro ⟨q1, q2⟩
      rcases Nat.lt_trichotomy a i with y | y | y
      · have := h4 a i y hi'; omega
      · exact z ⟨y, q2⟩
      · have := h4 i a y ha; omega
theorem FL.new (hL : L ≤ 7000) : FL w (wN w 50 L L) L 0 g := ⟨sm.wN, gz.wN hL, rfl, if_pos rfl, if_pos rfl, fun j hj => absurd hj (Nat.not_lt_zero _)⟩
theorem FL.set (h : FL w w1 L q g) (e : x = nI (g q)) : FL w (wI w1 (mSz w) q x) L (q + 1) g := by
  obtain ⟨h1, h2, h3, h4, h5, h6⟩ := h
  refine ⟨h1.trans (sm.wI (X := fun c => c = mSz w) rfl) (fun c hc y => ?_), h2, h3, h4, h5, fun j hj => ?_⟩
  · have : c = mSz w := y
    omega
  · rw [miI]
    by_cases z : j = q
    · subst z; rw [if_pos ⟨rfl, rfl⟩]; exact e
    · rw [if_neg (fun y => z y.2)]; exact h6 j (by omega)
theorem FL.upd {g' : Nat → Nat} (h : FL w w1 L q g) (e : x = nI (g' i)) (hg : ∀ j, ¬ j = i → g' j = g j) : FL w (wI w1 (mSz w) i x) L q g' := by
  obtain ⟨h1, h2, h3, h4, h5, h6⟩ := h
  refine ⟨h1.trans (sm.wI (X := fun c => c = mSz w) rfl) (fun c hc y => ?_), h2, h3, h4, h5, fun j hj => ?_⟩
  · have : c = mSz w := y
    omega
  · rw [miI]
    by_cases z : j = i
    · subst z; rw [if_pos ⟨rfl, rfl⟩]; exact e
    · rw [if_neg (fun y => z y.2), hg j z]; exact h6 j hj
theorem FL.t (h : FL w w1 L q g) : mTg w1 (mSz w) = 50 := h.2.2.2.1
theorem FL.l (h : FL w w1 L q g) : mLn w1 (mSz w) = L := h.2.2.2.2.1
theorem FL.vv (h : FL w w1 L q g) (hj : j < q) : mI w1 (mSz w) j = nI (g j) := h.2.2.2.2.2 j hj
theorem AR.sm (h : AR w f n) (y : sm w w' (fun _ => False)) : AR w' f n ∧ gR w' 278 f = gR w 278 f := h.kp (kpX.S y) id id
theorem FL.kx (g1 : FL w w1 L q g) (h : AR w f n) (m : Nat) : kpX (fun c => c = gR w 278 f) w (wR w1 (gR w 278 f) m (some (mSz w))) := by
  refine (kpX.S (g1.1.mono (fun _ _ z => False.elim z))).trans (kpX.S (sm.wR (X := fun c => c = gR w 278 f) rfl)) (fun c _ z => z)
theorem FL.ws (g1 : FL w w1 L q g) (h : AR w f n) (m : Nat) (hw : WS u w tx k) : WS u (wR w1 (gR w 278 f) m (some (mSz w))) tx (k + 1) := by
  have b := h.b
  have t := h.t
  refine hw.sm ((g1.1.mono (fun _ _ z => False.elim z)).trans (sm.wR (X := fun c => c = gR w 278 f) rfl) (fun c _ z => ?_)) g1.2.1
  have : c = gR w 278 f := z
  subst this
  exact ⟨by omega, by rw [t]; decide⟩
theorem FL.rd (g1 : FL w w1 L q g) (h : AR w f n) (m : Nat) : RX (wR w1 (gR w 278 f) m (some (mSz w))) f n m L q g (mSz w) := by
  have b := h.b
  obtain ⟨a, e⟩ := h.sm g1.1
  have e0 : mR (wR w1 (gR w 278 f) m (some (mSz w))) 278 = mR w1 278 := funext fun j => if_neg (by omega)
  have e1 : gR (wR w1 (gR w 278 f) m (some (mSz w))) 278 f = gR w 278 f := by show (mR (wR w1 (gR w 278 f) m (some (mSz w))) 278 f).getD 0 = _; rw [e0]; exact e
  have e2 : mR (wR w1 (gR w 278 f) m (some (mSz w))) (gR w 278 f) m = some (mSz w) := if_pos ⟨rfl, rfl⟩
  have e3 : gR (wR w1 (gR w 278 f) m (some (mSz w))) (gR w 278 f) m = mSz w := gR_of e2
  have z := g1.2.2.1
  refine ⟨?_, ?_⟩
  · unfold AR
    rw [e1, e0]
    rw [← e]
    exact a
  · rw [e1, e3, e2]
    exact ⟨rfl, g1.t, g1.l, ⟨by omega, Nat.le_refl _, by show mSz w < mSz w1; omega⟩, fun j hj => g1.vv hj⟩
theorem FL.ro (g1 : FL w w1 L q g) (h : RO w f n m lo hi ln v) : RO (wR w1 (gR w 278 f) m (some (mSz w))) f n m lo hi ln v := by
  have h' := (h.sm g1.1).put (mSz w)
  rw [(h.a.sm g1.1).2] at h'
  exact h'
theorem WS.wi (h : WS u w tx k) (hc : 278 ≤ c) (t : mTg w c = 50) : WS u (wI w c j x) tx k := h.sm (j := 0) (sm.wI (X := fun c => 278 ≤ c ∧ ¬ mTg w c = 51) ⟨hc, by rw [t]; decide⟩) (gz.refl _ _)
end
