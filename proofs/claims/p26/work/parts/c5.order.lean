/-! ===== the law's own list: the orders ===== -/
/-- the orders' key words are there -/
def KY (w : MW) (a : Nat) : Prop := mTg w a = 54 ∧ mLn w a = 3 ∧ (mR w a 0 = some 154 ∧ mR w a 1 = some 156 ∧ mR w a 2 = some 158) ∧ 279 ≤ a ∧ a < mSz w
section
variable {d f f' n n' m r L q lo hi k kk i j c t W R v a p : Nat} {u w w' w1 w2 : MW} {X Y F G : Nat → Prop} {ln : Nat → Nat} {vv v2 : Nat → Nat → Nat} {g : Nat → Nat} {tx : List Nat} {x : Int32}
theorem KY.kp (h : KY w a) (y : kpX X w w') (x1 : ¬ X a) : KY w' a := by
  obtain ⟨h1, h2, h3, h4, h5⟩ := h
  obtain ⟨a1, a2, a3, a4⟩ := y.2 a (by omega) h5 x1 (by omega) (by omega) (by omega)
  unfold KY
  rw [a1, a2, a4]
  exact ⟨h1, h2, h3, h4, Nat.lt_of_lt_of_le h5 y.1⟩
theorem KY.sm (h : KY w a) (y : sm w w' (fun _ => False)) : KY w' a := h.kp (kpX.S y) id
theorem KY.gg (h : KY w a) (hj : j < 3) : mR w a j = some (gR w a j) ∧ gR w a j = 4 + 2 * (75 + j) := by
  obtain ⟨h1, h2, ⟨h3, h4, h5⟩, h6⟩ := h
  rcases (show j = 0 ∨ j = 1 ∨ j = 2 by omega) with z | z | z <;> subst z
  · rw [gR_of h3, h3]; exact ⟨rfl, rfl⟩
  · rw [gR_of h4, h4]; exact ⟨rfl, rfl⟩
  · rw [gR_of h5, h5]; exact ⟨rfl, rfl⟩
theorem FL.gr (g1 : FL w w1 L q g) (h : AR w f n) (m : Nat) : gR (wR w1 (gR w 278 f) m (some (mSz w))) (gR (wR w1 (gR w 278 f) m (some (mSz w))) 278 f) m = mSz w := by
  have b := h.b
  obtain ⟨a, e⟩ := h.sm g1.1
  have e0 : mR (wR w1 (gR w 278 f) m (some (mSz w))) 278 = mR w1 278 := funext fun j => if_neg (by omega)
  have e1 : gR (wR w1 (gR w 278 f) m (some (mSz w))) 278 f = gR w 278 f := by show (mR (wR w1 (gR w 278 f) m (some (mSz w))) 278 f).getD 0 = _; rw [e0]; exact e
  rw [e1]
  exact gR_wR
theorem key_tx {c0 : Nat} (h : c0 < 3) : sB (75 + c0) = sB (15 + c0 + 1) := by
  rcases (show c0 = 0 ∨ c0 = 1 ∨ c0 = 2 by omega) with z | z | z <;> subst z <;> rfl
theorem ord_tx (C : CD) (h0 : C 9 k 0 < 3) (h1 : C 9 k 1 < 10) : (((((tx ++ sB (75 + C 9 k 0)) ++ sB 33) ++ dec (C 9 k 1)) ++ sB 78) ++ flat (testL (C 9 k 2) (C 9 k 4) (C 9 k 3) (C 9 k 5))) ++ sB 57 = tx ++ flat (ordL C k p) := by
  rw [dec1 h1, key_tx h0]
  have e : flat (ordL C k p) = sB (15 + C 9 k 0 + 1) ++ (sB 33 ++ ([48 + C 9 k 1] ++ (sB 78 ++ flat (testL (C 9 k 2) (C 9 k 4) (C 9 k 3) (C 9 k 5) ++ [syT 59 []])))) := rfl
  rw [e, flat_app, show flat [syT 59 []] = sB 57 from rfl]
  simp only [List.append_assoc]
/-- an order's row is filled -/
theorem wr_orow (h : WS u w tx kk) (h1 : mTg u 1 = 50) (l1 : mLn u 1 < 2147483648) (a10 : AR w 10 (CU u 0 0 2)) (hb : 279 ≤ mSz w) (hk : k < 8) :
    ∃ w1, mX (d + 8) 167 1007 [.ref 1, .ref 276, .ref 278, .int (nI (CU u 0 0 3)), .ref a, .int (nI k), mJ, mJ, mJ] [] w = mX (d + 8) 167 1126 [.ref 1, .ref 276, .ref 278, .int (nI (CU u 0 0 3)), .ref a, .int (nI k), mJ, .ref (mSz w), mJ] [] w1 ∧ FL w w1 6 6 (CU u 9 k) := by
  have eE : mE = 166 := rfl
  have cb := CU_cb u
  have b1 := cb.1
  have hx : xOr (ce u 1) k = ce u 1 (6 + k % 8) >>> ((nI 2 + nI (k / 8)) &&& 31) := rfl
  have pp : nI 6 + (nI k - nI k / nI 8 * nI 8) = nI (6 + k % 8) := by
    rw [jdiv (by omega) (by decide), jmul, jsub (by omega), jadd]
    congr 1
    omega
  have f0 : FL w (wN w 50 6 6) 6 0 (fun j => if j = 4 then bl (xOr (ce u 1) k >>> (nI 5 &&& 31)) (CU u 0 0 3) else CU u 9 k j) := FL.new (by decide)
  have f1 := f0.set (x := nI (bl (xOr (ce u 1) k) 3)) rfl
  have f2 := f1.set (x := nI (bl (xOr (ce u 1) k >>> (nI 2 &&& 31)) (CU u 0 0 3))) rfl
  have f3 := f2.set (x := nI (bl (xOr (ce u 1) k >>> (nI 4 &&& 31)) 9)) rfl
  have f4 := f3.set (x := nI (bl (xOr (ce u 1) k >>> (nI 3 &&& 31)) 7)) rfl
  have f5 := f4.set (x := nI (bl (xOr (ce u 1) k >>> (nI 5 &&& 31)) (CU u 0 0 3))) rfl
  have f6 := f5.set (x := nI (bl (xOr (ce u 1) k >>> (nI 6 &&& 31)) (CU u 0 0 2))) rfl
  have A5 := (a10.sm f5.1).1
  have ep : mX (d + 8) 167 1007 [.ref 1, .ref 276, .ref 278, .int (nI (CU u 0 0 3)), .ref a, .int (nI k), mJ, mJ, mJ] [] w = mX (d + 8) 167 1115 [.ref 1, .ref 276, .ref 278, .int (nI (CU u 0 0 3)), .ref a, .int (nI k), mJ, .ref (mSz w), mJ] [.int (nI (bl (xOr (ce u 1) k >>> (nI 8 &&& 31)) 2))] (wI (wI (wI (wI (wI (wI (wN w 50 6 6) (mSz w) 0 (nI (bl (xOr (ce u 1) k) 3))) (mSz w) 1 (nI (bl (xOr (ce u 1) k >>> (nI 2 &&& 31)) (CU u 0 0 3)))) (mSz w) 2 (nI (bl (xOr (ce u 1) k >>> (nI 4 &&& 31)) 9))) (mSz w) 3 (nI (bl (xOr (ce u 1) k >>> (nI 3 &&& 31)) 7))) (mSz w) 4 (nI (bl (xOr (ce u 1) k >>> (nI 5 &&& 31)) (CU u 0 0 3)))) (mSz w) 5 (nI (bl (xOr (ce u 1) k >>> (nI 6 &&& 31)) (CU u 0 0 2)))) := by
    rw [b_167_1007, pp, h.cell h1 l1 (by omega)]
    simp only [mThen_ok, Option.toList_some, Option.toList_none, List.cons_append, List.nil_append]
    rw [b_167_1019, jdiv (by omega) (by decide), ← hx, b_167_1033, c_below _ (by decide) (by decide)]
    simp only [mThen_ok, Option.toList_some, Option.toList_none, List.cons_append, List.nil_append]
    rw [b_167_1041 f0.t (by omega) (by decide) (by rw [f0.l]; decide), b_167_1042, c_below _ (by omega) (by omega)]
    simp only [mThen_ok, Option.toList_some, Option.toList_none, List.cons_append, List.nil_append]
    rw [b_167_1052 f1.t (by omega) (by decide) (by rw [f1.l]; decide), b_167_1053, c_below _ (by decide) (by decide)]
    simp only [mThen_ok, Option.toList_some, Option.toList_none, List.cons_append, List.nil_append]
    rw [b_167_1064 f2.t (by omega) (by decide) (by rw [f2.l]; decide), b_167_1065, c_below _ (by decide) (by decide)]
    simp only [mThen_ok, Option.toList_some, Option.toList_none, List.cons_append, List.nil_append]
    rw [b_167_1076 f3.t (by omega) (by decide) (by rw [f3.l]; decide), b_167_1077, c_below _ (by omega) (by omega)]
    simp only [mThen_ok, Option.toList_some, Option.toList_none, List.cons_append, List.nil_append]
    rw [b_167_1087 f4.t (by omega) (by decide) (by rw [f4.l]; decide), b_167_1088 A5.s A5.rr A5.t5, A5.l, c_below _ (by omega) (by omega)]
    simp only [mThen_ok, Option.toList_some, Option.toList_none, List.cons_append, List.nil_append]
    rw [b_167_1103 f5.t (by omega) (by decide) (by rw [f5.l]; decide), b_167_1104, c_below _ (by decide) (by decide)]
    simp only [mThen_ok, Option.toList_some, Option.toList_none, List.cons_append, List.nil_append]
  have c4 : CU u 9 k 4 = if bl (xOr (ce u 1) k >>> (nI 8 &&& 31)) 2 = 0 then bl (xOr (ce u 1) k >>> (nI 2 &&& 31)) (CU u 0 0 3) else bl (xOr (ce u 1) k >>> (nI 5 &&& 31)) (CU u 0 0 3) := rfl
  have b8 : bl (xOr (ce u 1) k >>> (nI 8 &&& 31)) 2 < 2 := bl_lt _ (by decide)
  rw [ep, b_167_1115, ijne (by omega) (by decide)]
  generalize hw6 : (wI (wI (wI (wI (wI (wI (wN w 50 6 6) (mSz w) 0 (nI (bl (xOr (ce u 1) k) 3))) (mSz w) 1 (nI (bl (xOr (ce u 1) k >>> (nI 2 &&& 31)) (CU u 0 0 3)))) (mSz w) 2 (nI (bl (xOr (ce u 1) k >>> (nI 4 &&& 31)) 9))) (mSz w) 3 (nI (bl (xOr (ce u 1) k >>> (nI 3 &&& 31)) 7))) (mSz w) 4 (nI (bl (xOr (ce u 1) k >>> (nI 5 &&& 31)) (CU u 0 0 3)))) (mSz w) 5 (nI (bl (xOr (ce u 1) k >>> (nI 6 &&& 31)) (CU u 0 0 2)))) = w6 at *
  by_cases z : bl (xOr (ce u 1) k >>> (nI 8 &&& 31)) 2 = 0
  · rw [if_pos z] at c4
    rw [if_neg (fun y => y z), b_167_1118 f6.t (by rw [f6.l]; decide) (by omega) (by rw [f6.l]; decide)]
    refine ⟨_, rfl, f6.upd (i := 4) (x := mI w6 (mSz w) 1) ?_ (fun j hj => ?_)⟩
    · rw [f6.vv (by decide), c4]; rfl
    · show CU u 9 k j = if j = 4 then _ else CU u 9 k j
      rw [if_neg hj]
  · rw [if_neg z] at c4
    rw [if_pos z]
    refine ⟨w6, rfl, f6.1, f6.2.1, f6.2.2.1, f6.t, f6.l, fun j hj => ?_⟩
    rw [f6.vv hj]
    show nI (if j = 4 then _ else CU u 9 k j) = _
    by_cases y : j = 4
    · subst y; rw [if_pos rfl, c4]
    · rw [if_neg y]
theorem wr_ord (h : WS u w tx kk) (hl : tx.length ≤ 2200) (h1 : mTg u 1 = 50) (l1 : mLn u 1 < 2147483648) (a10 : AR w 10 (CU u 0 0 2)) (h17 : gR w 278 10 < gR w 278 17) (ky : KY w a) (ha : gR w 278 17 < a) (hlo : gR w 278 17 < lo) (ro : RO w 17 (CU u 0 0 5) k lo hi (fun _ => 6) (CU u 9)) (hk : k < CU u 0 0 5) :
    ∃ w', mX (d + 8) 167 997 [.ref 1, .ref 276, .ref 278, .int (nI (CU u 0 0 3)), .ref a, .int (nI k), mJ, mJ, mJ] [] w = mX (d + 8) 167 997 [.ref 1, .ref 276, .ref 278, .int (nI (CU u 0 0 3)), .ref a, .int (nI (k + 1)), mJ, mJ, mJ] [] w' ∧ WS u w' (tx ++ flat (ordL (CU u) k p)) (kk + 47) ∧ RO w' 17 (CU u 0 0 5) (k + 1) lo (mSz w') (fun _ => 6) (CU u 9) ∧ kpX (fun c => c = gR w 278 17) w w' := by
  have eE : mE = 166 := rfl
  have cb := CU_cb u
  have b1 := cb.1
  have b8 := cb.2.2.2.2.2.2.2.1 k
  have ar := ro.a
  have hb := ar.b
  have rb := ro.b
  obtain ⟨w1, e0, f6⟩ := wr_orow (d := d) (a := a) h h1 l1 a10 (by omega) (k := k) (by omega)
  have aF := ar.sm f6.1
  have W7 := f6.ws ar k h
  have D7 := f6.rd ar k
  have G7 := f6.gr ar k
  have O7 := f6.ro ro
  have X7 := f6.kx ar k
  have q7 := f6.pt ar
  have p7l := f6.pl ar
  have K7 := ky.kp X7 (by omega)
  have t7 := D7.t
  have l7 := D7.l
  have v7 : ∀ j, j < 6 → mI (wR w1 (gR w 278 17) k (some (mSz w))) (mSz w) j = nI (CU u 9 k j) := fun j hj => by have := D7.vv hj; rwa [G7] at this
  rw [G7] at t7 l7
  have g7 := K7.gg (j := CU u 9 k 0) b8.1
  have y7 : mSz (wR w1 (gR w 278 17) k (some (mSz w))) = mSz w + 1 := f6.2.2.1
  generalize hw7 : wR w1 (gR w 278 17) k (some (mSz w)) = w7 at *
  have d1 := (dec_len (CU u 9 k 1)).1
  have q75 := sB_le (i := 75 + CU u 9 k 0) (by omega)
  have q33 := sB_le (i := 33) (by decide)
  have q78 := sB_le (i := 78) (by decide)
  obtain ⟨p1, e1, a1, x1⟩ := W7.app (d := d + 1) (i := 75 + CU u 9 k 0) (by omega) (by omega)
  obtain ⟨p2, e2, a2, x2⟩ := a1.app (d := d + 1) (i := 33) (by decide) (by simp only [List.length_append]; omega)
  have x12 := x1.trans x2
  have R2 := (x12.kx (X := fun _ => False)).at (c := mSz w) ⟨by omega, by omega⟩ id (Or.inr (Or.inl t7))
  obtain ⟨p3, e3, a3, x3⟩ := a2.appI (d := d + 1) (n := CU u 9 k 1) (by omega) (by simp only [List.length_append]; omega)
  obtain ⟨p4, e4, a4, x4⟩ := a3.app (d := d + 1) (i := 78) (by decide) (by simp only [List.length_append]; omega)
  have x14 := (x12.trans x3).trans x4
  have R4 := (x14.kx (X := fun _ => False)).at (c := mSz w) ⟨by omega, by omega⟩ id (Or.inr (Or.inl t7))
  have z4 := x14.1
  obtain ⟨p5, b, e5, s5, c5, c5', o5, m5, X5, G5, g5⟩ := c_test (d := d) (u := p4) (a := mSz w) (m := CU u 9 k 2) (s := CU u 9 k 4) (v := CU u 9 k 5) (n := CU u 9 k 3) b8.2.2.1 (by omega) (by omega) (by omega) a4.2.1 a4.2.2.1 (by omega) ⟨R4.1.trans t7, R4.2.1.trans l7, by omega⟩ (by rw [R4.2.2.1]; exact v7 2 (by decide)) (by rw [R4.2.2.1]; exact v7 3 (by decide)) (by rw [R4.2.2.1]; exact v7 4 (by decide)) (by rw [R4.2.2.1]; exact v7 5 (by decide))
  have a5 := a4.sm (m5.mono (fun _ _ y => False.elim y)) g5
  have sb4 := a4.1
  have g276 : gR p5 276 0 = gR p4 276 0 := by
    have y := m5.2 276 (by have := a4.2.2.2.2.1; omega) id
    unfold gR; rw [y.2.2.2]
  have tl : (flat (testL (CU u 9 k 2) (CU u 9 k 4) (CU u 9 k 3) (CU u 9 k 5))).length ≤ 60 := tst_fl _ _ _ _
  have lo4 := sb4.2.2.2.1
  have hi4 := sb4.2.2.2.2.1
  obtain ⟨p6, e6, a6, x6⟩ := a5.appS (d := d + 1) s5 ⟨c5, c5'⟩ (by
    rw [g276]
    rcases o5 with y | y
    · rw [y.2]; omega
    · rw [y.2]; omega) (by simp only [List.length_append]; omega)
  obtain ⟨p8, e8, a8, x8⟩ := a6.app (d := d + 1) (i := 57) (by decide) (by simp only [List.length_append]; omega)
  rw [ord_tx (CU u) (p := p) b8.1 (by omega)] at a8
  have x5 : kpW p4 p5 := kpW.sm m5
  have xx := ((x14.trans x5).trans x6).trans x8
  have D8 := D7.kw xx
  refine ⟨p8, ?_, a8.mono (by omega), (O7.kw xx).inc ⟨D8.a, D8.rr, D8.t, D8.l, ⟨by omega, by have := D8.b; omega, D8.b.2.2⟩, D8.2.2.2.2.2⟩, X7.trans (xx.kx (X := fun _ => False)) (fun _ _ y => False.elim y)⟩
  rw [b_167_997 ar.s ar.rr ar.t5, ar.l, ijle (by omega) (by omega), if_neg (by omega), e0, b_167_1126 aF.1.s aF.1.rr (by rw [aF.2]; exact Or.inl q7) (by omega) (by rw [aF.2, p7l]; exact hk), aF.2, hw7, b_167_1135 (z0 := CU u 9 k 0) t7 (by rw [l7]; decide) (by rw [K7.1]; decide) (v7 0 (by decide)) (by omega) (by rw [K7.2.1]; exact b8.1) g7.1 W7.1.1, g7.2, e1]
  simp only [mThen_ok, Option.toList_some, Option.toList_none, List.cons_append, List.nil_append]
  rw [b_167_1146 a1.1.1, e2]
  simp only [mThen_ok, Option.toList_some, Option.toList_none, List.cons_append, List.nil_append]
  rw [b_167_1151 (R2.1.trans t7) (by rw [R2.2.1, l7]; decide) a2.1.1, R2.2.2.1, v7 1 (by decide), e3]
  simp only [mThen_ok, Option.toList_some, Option.toList_none, List.cons_append, List.nil_append]
  rw [b_167_1158 a3.1.1, e4]
  simp only [mThen_ok, Option.toList_some, Option.toList_none, List.cons_append, List.nil_append]
  rw [b_167_1163, e5]
  simp only [mThen_ok, Option.toList_some, Option.toList_none, List.cons_append, List.nil_append]
  rw [b_167_1168 a5.1.1, e6]
  simp only [mThen_ok, Option.toList_some, Option.toList_none, List.cons_append, List.nil_append]
  rw [b_167_1171 a6.1.1, e8]
  simp only [mThen_ok, Option.toList_some, Option.toList_none, List.cons_append, List.nil_append]
  rw [b_167_1176, jadd]
theorem wr_ords (h1 : mTg u 1 = 50) (l1 : mLn u 1 < 2147483648) : ∀ (m k p kk hi : Nat) (w : MW) (tx : List Nat), k + m = CU u 0 0 5 → WS u w tx kk → tx.length ≤ 1500 + 80 * k → AR w 10 (CU u 0 0 2) → gR w 278 10 < gR w 278 17 → KY w a → gR w 278 17 < a → gR w 278 17 < lo → RO w 17 (CU u 0 0 5) k lo hi (fun _ => 6) (CU u 9) →
    ∃ w', mX (d + 8) 167 997 [.ref 1, .ref 276, .ref 278, .int (nI (CU u 0 0 3)), .ref a, .int (nI k), mJ, mJ, mJ] [] w = mX (d + 8) 167 1183 [mJ, mJ, .ref 278, mJ, mJ, mJ, mJ, mJ, mJ] [] w' ∧ WS u w' (tx ++ flat (ordsL (CU u) m k p)) (kk + 47 * m) ∧ RO w' 17 (CU u 0 0 5) (CU u 0 0 5) lo (mSz w') (fun _ => 6) (CU u 9) ∧ kpX (fun c => c = gR w 278 17) w w' := by
  have b1 := (CU_cb u).1
  intro m
  induction m with
  | zero =>
    intro k p kk hi w tx ht h hl a10 h17 ky ha hlo ro
    have ar := ro.a
    have er : k = CU u 0 0 5 := ht
    refine ⟨w, ?_, ?_, ?_, kpX.refl⟩
    · rw [b_167_997 ar.s ar.rr ar.t5, ar.l, ijle (by omega) (by omega), if_pos (by omega)]
    · rw [show flat (ordsL (CU u) 0 k p) = [] from rfl, List.append_nil]
      exact h
    · rw [er] at ro
      exact ro.up ro.b.2.2 (Nat.le_refl _)
  | succ m ih =>
    intro k p kk hi w tx ht h hl a10 h17 ky ha hlo ro
    have ar := ro.a
    have hb := ar.b
    have b8 := (CU_cb u).2.2.2.2.2.2.2.1 k
    obtain ⟨w1, e1, a1, r1, x1⟩ := wr_ord (d := d) (p := p) h (by omega) h1 l1 a10 h17 ky ha hlo ro (by omega)
    have tl : (flat (ordL (CU u) k p)).length ≤ 80 := fl_ord b8.1
    have s := x1.at (c := 278) ⟨by decide, by omega⟩ (by omega) (Or.inl ar.s)
    have gg : ∀ f, gR w1 278 f = gR w 278 f := fun f => by unfold gR; rw [s.2.2.2]
    obtain ⟨w2, e2, a2, r2, x2⟩ := ih (k + 1) (p + (testP (CU u 9 k 2) 0).length) (kk + 47) (mSz w1) w1 (tx ++ flat (ordL (CU u) k p)) (by omega) a1 (by rw [List.length_append]; omega) (a10.kp x1 (by omega) (by omega)).1 (by rw [gg, gg]; exact h17) (ky.kp x1 (by omega)) (by rw [gg]; exact ha) (by rw [gg]; exact hlo) r1
    refine ⟨w2, e1.trans e2, ?_, r2, x1.trans x2 (fun c _ z => by rw [gg] at z; exact z)⟩
    rw [show flat (ordsL (CU u) (m + 1) k p) = flat (ordL (CU u) k p ++ ordsL (CU u) m (k + 1) (p + (testP (CU u 9 k 2) 0).length)) from rfl, flat_app, ← List.append_assoc]
    rw [show kk + 47 * (m + 1) = kk + 47 + 47 * m by omega]
    exact a2
theorem wr_orders (h1 : mTg u 1 = 50) (l1 : mLn u 1 < 2147483648) (h : WS u w tx kk) (hl : tx.length ≤ 1500) (a10 : AR w 10 (CU u 0 0 2)) :
    ∃ w', mX (d + 8) 167 956 [.ref 1, .ref 276, .ref 278, .int (nI (CU u 0 0 3)), mJ, mJ, mJ, mJ, mJ] [] w = mX (d + 8) 167 1183 [mJ, mJ, .ref 278, mJ, mJ, mJ, mJ, mJ, mJ] [] w' ∧ WS u w' (tx ++ flat (ordsL (CU u) (CU u 0 0 5) 0 0)) (kk + 1 + 1 + 47 * CU u 0 0 5) ∧ RO w' 17 (CU u 0 0 5) (CU u 0 0 5) (mSz w + 2) (mSz w') (fun _ => 6) (CU u 9) ∧ SX (fun f => f = 17) w w' := by
  have eE : mE = 166 := rfl
  have b1 := (CU_cb u).1
  have hb := a10.b
  have hO : CU u 0 0 5 = bl (ce u 1 5) 9 := rfl
  have W1 := na_ws (n := CU u 0 0 5) (f := 17) h a10.s (by omega) (mSz w)
  have R1 := na_ro (w := w) (n := CU u 0 0 5) (f := 17) (ln := fun _ => 6) (v := CU u 9) a10.s (by omega)
  have S1 := na_sx (w := w) (n := CU u 0 0 5) (f := 17) (by omega) (mSz w)
  have A1 := a10.sx S1 (by decide)
  have gA : gR (wR (wN w 52 (CU u 0 0 5) (CU u 0 0 5)) 278 17 (some (mSz w))) 278 17 = mSz w := gR_wR
  have t1 : mTg (wN w 52 (CU u 0 0 5) (CU u 0 0 5)) 278 = 10 := (tgN (w := w) (t := 52) (n := CU u 0 0 5) (k := CU u 0 0 5) (by omega)).trans a10.s
  have z1 : mSz (wR (wN w 52 (CU u 0 0 5) (CU u 0 0 5)) 278 17 (some (mSz w))) = mSz w + 1 := rfl
  generalize hw1 : wR (wN w 52 (CU u 0 0 5) (CU u 0 0 5)) 278 17 (some (mSz w)) = w1 at *
  have tk : ∀ i, i < 81 → mTg (wN w1 54 3 3) (4 + 2 * i) = 11 := fun i hi' => (tgN (w := w1) (t := 54) (n := 3) (k := 3) (by omega)).trans (W1.2.1 i hi').1
  have n0 : mTg (wN w1 54 3 3) (mSz w1) = 54 := if_pos rfl
  have n1 : mLn (wN w1 54 3 3) (mSz w1) = 3 := if_pos rfl
  have nb : mTg (wR (wN w1 54 3 3) (mSz w1) 0 (some 154)) (mSz w1) = 54 := n0
  have kb : mTg (wR (wN w1 54 3 3) (mSz w1) 0 (some 154)) 156 = 11 := tk 76 (by decide)
  have nc : mTg (wR (wR (wN w1 54 3 3) (mSz w1) 0 (some 154)) (mSz w1) 1 (some 156)) (mSz w1) = 54 := n0
  have kc : mTg (wR (wR (wN w1 54 3 3) (mSz w1) 0 (some 154)) (mSz w1) 1 (some 156)) 158 = 11 := tk 77 (by decide)
  have m2 : sm w1 (wR (wR (wR (wN w1 54 3 3) (mSz w1) 0 (some 154)) (mSz w1) 1 (some 156)) (mSz w1) 2 (some 158)) (fun _ => False) := by
    refine (((sm.wN (X := fun _ => False) (t := 54) (n := 3) (k := 3)).trans (sm.wR (X := fun c => c = mSz w1) rfl) (fun c hc z => ?_)).trans (sm.wR (X := fun c => c = mSz w1) rfl) (fun c hc z => ?_)).trans (sm.wR (X := fun c => c = mSz w1) rfl) (fun c hc z => ?_)
    · have : c = mSz w1 := z; omega
    · have : c = mSz w1 := z; omega
    · have : c = mSz w1 := z; omega
  have K2 : KY (wR (wR (wR (wN w1 54 3 3) (mSz w1) 0 (some 154)) (mSz w1) 1 (some 156)) (mSz w1) 2 (some 158)) (mSz w1) := by
    refine ⟨n0, n1, ⟨?_, ?_, if_pos ⟨rfl, rfl⟩⟩, by omega, Nat.lt_succ_self _⟩
    · show (if mSz w1 = mSz w1 ∧ 0 = 2 then _ else if mSz w1 = mSz w1 ∧ 0 = 1 then _ else if mSz w1 = mSz w1 ∧ 0 = 0 then some 154 else _) = some 154
      rw [if_neg (by omega), if_neg (by omega), if_pos ⟨rfl, rfl⟩]
    · show (if mSz w1 = mSz w1 ∧ 1 = 2 then _ else if mSz w1 = mSz w1 ∧ 1 = 1 then some 156 else _) = some 156
      rw [if_neg (by omega), if_pos ⟨rfl, rfl⟩]
  have W2 := W1.sm (j := 1) (m2.mono (fun _ _ y => False.elim y)) ⟨Nat.le_refl _, by show mSl w1 + 3 ≤ _; omega⟩
  have R2 := R1.sm m2
  have A2 := A1.1.sm m2
  have a2 := R1.a.sm m2
  have z2 : mSz (wR (wR (wR (wN w1 54 3 3) (mSz w1) 0 (some 154)) (mSz w1) 1 (some 156)) (mSz w1) 2 (some 158)) = mSz w1 + 1 := rfl
  have S2 := S1.kx (Y := fun _ => False) (kpX.S m2) a10.s (by omega) (fun c z => False.elim z)
  generalize hw2 : wR (wR (wR (wN w1 54 3 3) (mSz w1) 0 (some 154)) (mSz w1) 1 (some 156)) (mSz w1) 2 (some 158) = w2 at *
  have Ra : RO w2 17 (CU u 0 0 5) 0 (mSz w + 2) (mSz w + 2) (fun _ => 6) (CU u 9) := R2.re0 (by omega) (Nat.le_refl _) (by omega)
  have ga : gR w2 278 17 = mSz w := by rw [a2.2, gA]
  have gc : gR w2 278 10 = gR w 278 10 := by rw [A2.2, A1.2]
  obtain ⟨w3, e3, a3, r3, x3⟩ := wr_ords (d := d) (a := mSz w1) h1 l1 (CU u 0 0 5) 0 0 _ _ w2 tx (by omega) W2 (by omega) A2.1 (by rw [gc, ga]; omega) K2 (by rw [ga]; omega) (by rw [ga]; omega) Ra
  rw [ga] at x3
  refine ⟨w3, ?_, a3, r3, S2.kx x3 a10.s (by omega) (fun c z => by omega)⟩
  rw [b_167_956, h.cell h1 l1 (by decide)]
  simp only [mThen_ok, Option.toList_some, Option.toList_none, List.cons_append, List.nil_append]
  rw [b_167_962, c_below _ (by decide) (by decide), ← hO]
  simp only [mThen_ok, Option.toList_some, Option.toList_none, List.cons_append, List.nil_append]
  rw [b_167_967 (by omega) (by omega), b_167_970 t1 (by omega), hw1, b_167_973, b_167_977 (Or.inr (Or.inr ⟨n0, tk 75 (by decide)⟩)) (by rw [n1]; decide), b_167_982 (Or.inr (Or.inr ⟨nb, kb⟩)) (by show 1 < mLn (wN w1 54 3 3) (mSz w1); rw [n1]; decide), b_167_987 (Or.inr (Or.inr ⟨nc, kc⟩)) (by show 2 < mLn (wN w1 54 3 3) (mSz w1); rw [n1]; decide), hw2, b_167_992, e3]
end
