/-! ===== the law's own list: the roots ===== -/
abbrev CU (u : MW) : CD := CS (ce u 1)
theorem CU_cb (u : MW) : CB (CU u) := CS_cb _
theorem gR_wR {w : MW} {c k b : Nat} : gR (wR w c k (some b)) c k = b := by
  have e : mR (wR w c k (some b)) c k = some b := if_pos ⟨rfl, rfl⟩
  exact gR_of e
/-- the tongues' ease is there -/
def EA (w : MW) (u : MW) : Prop := mTg w 278 = 10 ∧ mR w 278 8 = some (gR w 278 8) ∧ mTg w (gR w 278 8) = 50 ∧ mLn w (gR w 278 8) = CU u 0 0 0 ∧ (gR w 278 8 = 290 ∧ 290 < mSz w) ∧ ∀ j, j < CU u 0 0 0 → mI w (gR w 278 8) j = nI (CU u 1 j 0)
/-- a section: old cells stay, but the law's bee's fields F -/
def SX (F : Nat → Prop) (w w' : MW) : Prop := kpX (fun c => c = 278) w w' ∧ mTg w' 278 = mTg w 278 ∧ mI w' 278 = mI w 278 ∧ ∀ f, ¬ F f → mR w' 278 f = mR w 278 f
section
variable {d f n m r L q lo hi k i j c : Nat} {u w w' w1 w2 : MW} {X Y F G : Nat → Prop} {ln : Nat → Nat} {v : Nat → Nat → Nat} {g : Nat → Nat} {tx : List Nat} {x : Int32}
theorem EA.s (h : EA w u) : mTg w 278 = 10 := h.1
theorem EA.rr (h : EA w u) : mR w 278 8 = some (gR w 278 8) := h.2.1
theorem EA.t (h : EA w u) : mTg w (gR w 278 8) = 50 := h.2.2.1
theorem EA.t5 (h : EA w u) : 50 ≤ mTg w (gR w 278 8) ∧ mTg w (gR w 278 8) < 55 := by rw [h.t]; decide
theorem EA.l (h : EA w u) : mLn w (gR w 278 8) = CU u 0 0 0 := h.2.2.2.1
theorem EA.b (h : EA w u) : gR w 278 8 = 290 ∧ 290 < mSz w := h.2.2.2.2.1
theorem EA.kp (h : EA w u) (y : kpX X w w') (x1 : ¬ X 278) (x2 : ¬ X (gR w 278 8)) : EA w' u := by
  have b := h.b
  obtain ⟨a1, a2, a3, a4⟩ := y.at ⟨by omega, by omega⟩ x1 (Or.inl h.s)
  obtain ⟨c1, c2, c3, c4⟩ := y.at (c := gR w 278 8) ⟨by omega, by omega⟩ x2 (Or.inr (Or.inl h.t))
  have e : gR w' 278 8 = gR w 278 8 := by unfold gR; rw [a4]
  unfold EA
  rw [e, a1, a4, c1, c2, c3]
  exact ⟨h.s, h.rr, h.t, h.l, ⟨b.1, Nat.lt_of_lt_of_le b.2 y.1⟩, h.2.2.2.2.2⟩
theorem EA.sm (h : EA w u) (y : sm w w' (fun _ => False)) : EA w' u := h.kp (kpX.S y) id id
/-- an array of rows isn't the ease -/
theorem EA.ne (h : EA w u) (a : AR w f n) : ¬ gR w 278 8 = gR w 278 f := fun e => by
  have t := a.t
  rw [← e, h.t] at t
  exact absurd t (by decide)
theorem SX.trans (h : SX F w w1) (g : SX G w1 w') : SX (fun f => F f ∨ G f) w w' := ⟨h.1.trans g.1 (fun _ _ z => z), g.2.1.trans h.2.1, g.2.2.1.trans h.2.2.1, fun f z => (g.2.2.2 f (fun y => z (Or.inr y))).trans (h.2.2.2 f (fun y => z (Or.inl y)))⟩
theorem SX.kx (h : SX F w w1) (y : kpX Y w1 w') (s : mTg w 278 = 10) (hz : 278 < mSz w) (hy : ∀ c, Y c → mSz w ≤ c) : SX F w w' := by
  obtain ⟨h1, h2, h3, h4⟩ := h
  obtain ⟨a1, a2, a3, a4⟩ := y.at (c := 278) ⟨by decide, Nat.lt_of_lt_of_le hz h1.1⟩ (fun z => by have := hy _ z; omega) (Or.inl (h2.trans s))
  exact ⟨h1.trans y (fun c hc z => by have := hy c z; omega), a1.trans h2, a3.trans h3, fun f z => (by rw [a4]; exact h4 f z)⟩
theorem SX.t (h : SX F w w') (s : mTg w 278 = 10) : mTg w' 278 = 10 := h.2.1.trans s
theorem AR.sx (h : AR w f n) (y : SX F w w') (hf : ¬ F f) : AR w' f n ∧ gR w' 278 f = gR w 278 f := by
  have b := h.b
  have a4 := y.2.2.2 f hf
  obtain ⟨c1, c2, c3, c4⟩ := y.1.at (c := gR w 278 f) ⟨by omega, b.2⟩ (by omega) (Or.inr (Or.inr h.t))
  have e : gR w' 278 f = gR w 278 f := by unfold gR; rw [a4]
  refine ⟨?_, e⟩
  unfold AR
  rw [e, y.2.1, a4, c1, c2]
  exact ⟨h.s, h.rr, h.t, h.l, b.1, Nat.lt_of_lt_of_le b.2 y.1.1⟩
theorem RO.sx (h : RO w f n m lo hi ln v) (y : SX F w w') (hf : ¬ F f) : RO w' f n m lo hi ln v := by
  obtain ⟨h1, h2, h3, h4⟩ := h
  obtain ⟨a, e⟩ := h1.sx y hf
  have b := h1.b
  obtain ⟨c1, c2, c3, c4⟩ := y.1.at (c := gR w 278 f) ⟨by omega, b.2⟩ (by omega) (Or.inr (Or.inr h1.t))
  have e2 : ∀ i, gR w' (gR w 278 f) i = gR w (gR w 278 f) i := fun i => by show (mR w' _ i).getD 0 = (mR w _ i).getD 0; rw [c4]
  refine ⟨a, ⟨h2.1, h2.2.1, Nat.le_trans h2.2.2 y.1.1⟩, fun i hi' => ?_, fun i j q1 q2 => ?_⟩
  · obtain ⟨p1, p2, p3, p4, p5⟩ := h3 i hi'
    obtain ⟨d1, d2, d3, d4⟩ := y.1.at (c := gR w (gR w 278 f) i) ⟨by omega, by omega⟩ (by omega) (Or.inr (Or.inl p2))
    rw [e, e2, c4, d1, d2, d3]
    exact ⟨p1, p2, p3, p4, p5⟩
  · rw [e, e2, e2]; exact h4 i j q1 q2
theorem EA.sx (h : EA w u) (y : SX F w w') (hf : ¬ F 8) : EA w' u := by
  have b := h.b
  have a4 := y.2.2.2 8 hf
  obtain ⟨c1, c2, c3, c4⟩ := y.1.at (c := gR w 278 8) ⟨by omega, by omega⟩ (by omega) (Or.inr (Or.inl h.t))
  have e : gR w' 278 8 = gR w 278 8 := by unfold gR; rw [a4]
  unfold EA
  rw [e, y.2.1, a4, c1, c2, c3]
  exact ⟨h.s, h.rr, h.t, h.l, ⟨b.1, Nat.lt_of_lt_of_le b.2 y.1.1⟩, h.2.2.2.2.2⟩
theorem RO.up {hi' : Nat} (h : RO w f n m lo hi ln v) (h1 : hi ≤ hi') (h2 : hi' ≤ mSz w) : RO w f n m lo hi' ln v := ⟨h.1, ⟨h.b.1, by have := h.b.2.1; omega, h2⟩, fun i z => by
  obtain ⟨p1, p2, p3, p4, p5⟩ := h.2.2.1 i z
  exact ⟨p1, p2, p3, ⟨p4.1, by omega⟩, p5⟩, h.2.2.2⟩
/-- a new array of rows, none there yet -/
theorem na_ro (s : mTg w 278 = 10) (hz : 278 < mSz w) : RO (wR (wN w 52 n n) 278 f (some (mSz w))) f n 0 (mSz w + 1) (mSz w + 1) ln v := by
  have e0 : mR (wR (wN w 52 n n) 278 f (some (mSz w))) 278 f = some (mSz w) := if_pos ⟨rfl, rfl⟩
  have e1 : gR (wR (wN w 52 n n) 278 f (some (mSz w))) 278 f = mSz w := gR_of e0
  have z : mSz (wR (wN w 52 n n) 278 f (some (mSz w))) = mSz w + 1 := rfl
  refine ⟨?_, ⟨by omega, Nat.le_refl _, by omega⟩, fun i hi' => absurd hi' (Nat.not_lt_zero _), fun i j _ hj => absurd hj (Nat.not_lt_zero _)⟩
  unfold AR
  rw [e1, e0, z]
  exact ⟨(tgN (w := w) (t := 52) (n := n) (k := n) (by omega)).trans s, rfl, if_pos rfl, if_pos rfl, by omega, by omega⟩
theorem na_sx (hz : 278 < mSz w) (b : Nat) : SX (fun f' => f' = f) w (wR (wN w 52 n n) 278 f (some b)) := by
  refine ⟨(kpX.S (X := fun c => c = 278) (sm.wN (t := 52) (n := n) (k := n))).trans (kpX.S (sm.wR (X := fun c => c = 278) rfl)) (fun c _ z => z), tgN (w := w) (t := 52) (n := n) (k := n) (by omega), (miN (w := w) (t := 52) (n := n) (k := n) (by omega)), fun f' hf => ?_⟩
  show (if 278 = 278 ∧ f' = f then some b else mR (wN w 52 n n) 278 f') = _
  rw [if_neg (fun z => hf z.2), mrN (t := 52) (n := n) (k := n) (by omega)]
theorem na_ws (h : WS u w tx k) (s : mTg w 278 = 10) (hn : n ≤ 7000) (b : Nat) : WS u (wR (wN w 52 n n) 278 f (some b)) tx (k + 1) := by
  refine h.sm ((sm.wN (X := fun c => 278 ≤ c ∧ ¬ mTg w c = 51) (t := 52) (n := n) (k := n)).trans (sm.wR (X := fun c => c = 278) rfl) (fun c _ z => ?_)) (gz.wN (w := w) (t := 52) (n := n) hn)
  have : c = 278 := z
  subst this
  exact ⟨Nat.le_refl _, by rw [s]; decide⟩
theorem FL.pt (g1 : FL w w1 L q g) (h : AR w f n) : mTg w1 (gR w 278 f) = 52 ∧ mTg w1 (mSz w) = 50 ∧ mE ≤ mSz w := by
  have a := (h.sm g1.1).1.t
  rw [(h.sm g1.1).2] at a
  have b := h.b
  have eE : mE = 166 := rfl
  exact ⟨a, g1.t, by omega⟩
theorem FL.pl (g1 : FL w w1 L q g) (h : AR w f n) : mLn w1 (gR w 278 f) = n := by
  have a := (h.sm g1.1).1.l
  rw [(h.sm g1.1).2] at a
  exact a
theorem roo_tx (C : CD) (h1 : r < 10) (h2 : C 2 r 0 < 10) : ((((((((tx ++ sB 59) ++ dec r) ++ sB 60) ++ dec (C 2 r 0)) ++ sB 61) ++ dec (C 2 r 1)) ++ sB 62) ++ dec (C 2 r 2)) ++ sB 57 = tx ++ flat (rooL C r) := by
  rw [dec1 h1, dec1 h2]
  have e : flat (rooL C r) = sB 59 ++ ([48 + r] ++ (sB 60 ++ ([48 + C 2 r 0] ++ (sB 61 ++ (dec (C 2 r 1) ++ (sB 62 ++ (dec (C 2 r 2) ++ sB 57))))))) := rfl
  rw [e]
  simp only [List.append_assoc]
theorem wr_roo (h : WS u w tx k) (hl : tx.length ≤ 2000) (h1 : mTg u 1 = 50) (l1 : mLn u 1 < 2147483648) (e8 : EA w u) (ro : RO w 9 (CU u 0 0 1) r lo hi (fun _ => 3) (CU u 2)) (hr : r < CU u 0 0 1) :
    ∃ w', mX (d + 7) 167 124 [.ref 1, .ref 276, .ref 278, .int (nI r), mJ, mJ, mJ, mJ, mJ] [] w = mX (d + 7) 167 124 [.ref 1, .ref 276, .ref 278, .int (nI (r + 1)), mJ, mJ, mJ, mJ, mJ] [] w' ∧ WS u w' (tx ++ flat (rooL (CU u) r)) (k + 10) ∧ RO w' 9 (CU u 0 0 1) (r + 1) lo (mSz w') (fun _ => 3) (CU u 2) ∧ kpX (fun c => c = gR w 278 9) w w' := by
  have eE : mE = 166 := rfl
  have cb := CU_cb u
  have b1 := cb.1
  have b2 := cb.2.2.1 r
  have ar := ro.a
  have hb := ar.b
  have hx : xRo (ce u 1) r = ce u 1 1 >>> ((nI 2 + nI 3 * nI r) &&& 31) := rfl
  have f0 : FL w (wN w 50 3 3) 3 0 (CU u 2 r) := FL.new (by decide)
  have f1 := f0.set (x := nI (bl (xRo (ce u 1) r) (CU u 0 0 0))) rfl
  have f2 := f1.set (x := nI 1 + nI (bl (xRo (ce u 1) r >>> (nI 2 &&& 31)) 9)) (by rw [jadd]; rfl)
  have f3 := f2.set (x := nI (bl (xRo (ce u 1) r >>> (nI 1 &&& 31)) 8)) rfl
  have E0 := e8.sm f0.1
  have W4 := f3.ws ar r h
  have D4 := f3.rd ar r
  have O4 := f3.ro ro
  have X4 := f3.kx ar r
  have q3 := f3.pt ar
  have l3 := f3.pl ar
  have dr := (dec_len r).1
  have d0 := (dec_len (CU u 2 r 0)).1
  have d1 := (dec_len (CU u 2 r 1)).1
  have d2 := (dec_len (CU u 2 r 2)).1
  have q59 := sB_le (i := 59) (by decide)
  have q60 := sB_le (i := 60) (by decide)
  have q61 := sB_le (i := 61) (by decide)
  have q62 := sB_le (i := 62) (by decide)
  obtain ⟨p1, e1, a1, x1⟩ := W4.app (d := d) (i := 59) (by decide) (by omega)
  obtain ⟨p2, e2, a2, x2⟩ := a1.appI (d := d) (n := r) (by omega) (by simp only [List.length_append]; omega)
  obtain ⟨p3, e3, a3, x3⟩ := a2.app (d := d) (i := 60) (by decide) (by simp only [List.length_append]; omega)
  have D7 := ((D4.kw x1).kw x2).kw x3
  obtain ⟨p4, e4, a4, x4⟩ := a3.appI (d := d) (n := CU u 2 r 0) (by omega) (by simp only [List.length_append]; omega)
  obtain ⟨p5, e5, a5, x5⟩ := a4.app (d := d) (i := 61) (by decide) (by simp only [List.length_append]; omega)
  have D9 := (D7.kw x4).kw x5
  obtain ⟨p6, e6, a6, x6⟩ := a5.appI (d := d) (n := CU u 2 r 1) (by omega) (by simp only [List.length_append]; omega)
  obtain ⟨p7, e7, a7, x7⟩ := a6.app (d := d) (i := 62) (by decide) (by simp only [List.length_append]; omega)
  have Db := (D9.kw x6).kw x7
  obtain ⟨p8, e8', a8, x8⟩ := a7.appI (d := d) (n := CU u 2 r 2) (by omega) (by simp only [List.length_append]; omega)
  obtain ⟨p9, e9, a9, x9⟩ := a8.app (d := d) (i := 57) (by decide) (by simp only [List.length_append]; omega)
  have xx := ((((((((x1.trans x2).trans x3).trans x4).trans x5).trans x6).trans x7).trans x8).trans x9)
  rw [roo_tx (CU u) (by omega) (by omega)] at a9
  refine ⟨p9, ?_, a9, ?_, X4.trans (xx.kx (X := fun _ => False)) (fun _ _ z => False.elim z)⟩
  · rw [b_167_124 ar.s ar.rr ar.t5, ar.l, ijle (by omega) (by omega), if_neg (by omega), b_167_133, h.cell h1 l1 (by decide)]
    simp only [mThen_ok, Option.toList_some, Option.toList_none, List.cons_append, List.nil_append]
    rw [b_167_138 ar.s ar.rr, ← hx, b_167_154 E0.s E0.rr E0.t5, E0.l, c_below _ (by omega) (by omega)]
    simp only [mThen_ok, Option.toList_some, Option.toList_none, List.cons_append, List.nil_append]
    rw [b_167_166 f0.t (by omega) (by decide) (by rw [f0.l]; decide), b_167_167, c_below _ (by decide) (by decide)]
    simp only [mThen_ok, Option.toList_some, Option.toList_none, List.cons_append, List.nil_append]
    rw [b_167_179 f1.t (by omega) (by decide) (by rw [f1.l]; decide), b_167_181, c_below _ (by decide) (by decide)]
    simp only [mThen_ok, Option.toList_some, Option.toList_none, List.cons_append, List.nil_append]
    rw [b_167_192 f2.t (by omega) (by decide) (by rw [f2.l]; decide), b_167_193 (Or.inl q3) (by omega) (by rw [l3]; exact hr), b_167_194 W4.1.1, e1]
    simp only [mThen_ok, Option.toList_some, Option.toList_none, List.cons_append, List.nil_append]
    rw [b_167_200 a1.1.1, e2]
    simp only [mThen_ok, Option.toList_some, Option.toList_none, List.cons_append, List.nil_append]
    rw [b_167_204 a2.1.1, e3]
    simp only [mThen_ok, Option.toList_some, Option.toList_none, List.cons_append, List.nil_append]
    rw [b_167_209 D7.a.s D7.a.rr D7.a.t2 (by omega) (by rw [D7.a.l]; exact hr) D7.rr D7.t (by rw [D7.l]; decide) a3.1.1, D7.vv (by decide), e4]
    simp only [mThen_ok, Option.toList_some, Option.toList_none, List.cons_append, List.nil_append]
    rw [b_167_220 a4.1.1, e5]
    simp only [mThen_ok, Option.toList_some, Option.toList_none, List.cons_append, List.nil_append]
    rw [b_167_225 D9.a.s D9.a.rr D9.a.t2 (by omega) (by rw [D9.a.l]; exact hr) D9.rr D9.t (by rw [D9.l]; decide) a5.1.1, D9.vv (by decide), e6]
    simp only [mThen_ok, Option.toList_some, Option.toList_none, List.cons_append, List.nil_append]
    rw [b_167_236 a6.1.1, e7]
    simp only [mThen_ok, Option.toList_some, Option.toList_none, List.cons_append, List.nil_append]
    rw [b_167_241 Db.a.s Db.a.rr Db.a.t2 (by omega) (by rw [Db.a.l]; exact hr) Db.rr Db.t (by rw [Db.l]; decide) a7.1.1, Db.vv (by decide), e8']
    simp only [mThen_ok, Option.toList_some, Option.toList_none, List.cons_append, List.nil_append]
    rw [b_167_252 a8.1.1, e9]
    simp only [mThen_ok, Option.toList_some, Option.toList_none, List.cons_append, List.nil_append]
    rw [b_167_257, jadd]
  · have D := (Db.kw x8).kw x9
    have b := ro.b
    exact (O4.kw xx).inc ⟨D.a, D.rr, D.t, D.l, ⟨by omega, by have := D.b; omega, D.b.2.2⟩, D.2.2.2.2.2⟩
theorem wr_roos (h1 : mTg u 1 = 50) (l1 : mLn u 1 < 2147483648) : ∀ (m r k hi : Nat) (w : MW) (tx : List Nat), r + m = CU u 0 0 1 → WS u w tx k → tx.length ≤ 100 + 44 * r → EA w u → RO w 9 (CU u 0 0 1) r lo hi (fun _ => 3) (CU u 2) →
    ∃ w', mX (d + 7) 167 124 [.ref 1, .ref 276, .ref 278, .int (nI r), mJ, mJ, mJ, mJ, mJ] [] w = mX (d + 7) 167 264 [.ref 1, .ref 276, .ref 278, mJ, mJ, mJ, mJ, mJ, mJ] [] w' ∧ WS u w' (tx ++ flat (secL (rooL (CU u)) m r)) (k + 10 * m) ∧ RO w' 9 (CU u 0 0 1) (CU u 0 0 1) lo (mSz w') (fun _ => 3) (CU u 2) ∧ kpX (fun c => c = gR w 278 9) w w' := by
  have b1 := (CU_cb u).1
  intro m
  induction m with
  | zero =>
    intro r k hi w tx ht h hl e8 ro
    have ar := ro.a
    have er : r = CU u 0 0 1 := ht
    refine ⟨w, ?_, ?_, ?_, kpX.refl⟩
    · rw [b_167_124 ar.s ar.rr ar.t5, ar.l, ijle (by omega) (by omega), if_pos (by omega)]
    · rw [show flat (secL (rooL (CU u)) 0 r) = [] from rfl, List.append_nil]
      exact h
    · rw [er] at ro
      exact ro.up ro.b.2.2 (Nat.le_refl _)
  | succ m ih =>
    intro r k hi w tx ht h hl e8 ro
    have ar := ro.a
    obtain ⟨w1, e1, a1, r1, x1⟩ := wr_roo (d := d) h (by omega) h1 l1 e8 ro (by omega)
    have tl : (flat (rooL (CU u) r)).length ≤ 44 := fl_roo
    have hb := ar.b
    have g1 : gR w1 278 9 = gR w 278 9 := by
      have s := x1.at (c := 278) ⟨by decide, by omega⟩ (by omega) (Or.inl ar.s)
      unfold gR; rw [s.2.2.2]
    obtain ⟨w2, e2, a2, r2, x2⟩ := ih (r + 1) (k + 10) (mSz w1) w1 (tx ++ flat (rooL (CU u) r)) (by omega) a1 (by rw [List.length_append]; omega) (e8.kp x1 (by omega) (e8.ne ar)) r1
    refine ⟨w2, e1.trans e2, ?_, r2, x1.trans x2 (fun c _ z => by rw [g1] at z; exact z)⟩
    rw [show flat (secL (rooL (CU u)) (m + 1) r) = flat (rooL (CU u) r ++ secL (rooL (CU u)) m (r + 1)) from rfl, flat_app, ← List.append_assoc]
    rw [show k + 10 * (m + 1) = k + 10 + 10 * m by omega]
    exact a2
theorem wr_roots (h1 : mTg u 1 = 50) (l1 : mLn u 1 < 2147483648) (h : WS u w tx k) (hl : tx.length ≤ 100) (e8 : EA w u) :
    ∃ w', mX (d + 7) 167 104 [.ref 1, .ref 276, .ref 278, mJ, mJ, mJ, mJ, mJ, mJ] [] w = mX (d + 7) 167 264 [.ref 1, .ref 276, .ref 278, mJ, mJ, mJ, mJ, mJ, mJ] [] w' ∧ WS u w' (tx ++ flat (secL (rooL (CU u)) (CU u 0 0 1) 0)) (k + 1 + 10 * CU u 0 0 1) ∧ RO w' 9 (CU u 0 0 1) (CU u 0 0 1) (mSz w + 1) (mSz w') (fun _ => 3) (CU u 2) ∧ SX (fun f => f = 9) w w' := by
  have eE : mE = 166 := rfl
  have b1 := (CU_cb u).1
  have hb := e8.b
  have W1 := na_ws (n := CU u 0 0 1) (f := 9) h e8.s (by omega) (mSz w)
  have R1 := na_ro (w := w) (n := CU u 0 0 1) (f := 9) (ln := fun _ => 3) (v := CU u 2) e8.s (by omega)
  have S1 := na_sx (w := w) (n := CU u 0 0 1) (f := 9) (by omega) (mSz w)
  have E1 := e8.sx S1 (by decide)
  have gA : gR (wR (wN w 52 (CU u 0 0 1) (CU u 0 0 1)) 278 9 (some (mSz w))) 278 9 = mSz w := gR_wR
  have t1 : mTg (wN w 52 (CU u 0 0 1) (CU u 0 0 1)) 278 = 10 := (tgN (w := w) (by omega)).trans e8.s
  obtain ⟨w2, e2, a2, r2, x2⟩ := wr_roos (d := d) h1 l1 (CU u 0 0 1) 0 (k + 1) _ _ tx (by omega) W1 (by omega) E1 R1
  rw [gA] at x2
  refine ⟨w2, ?_, a2, r2, S1.kx x2 e8.s (by omega) (fun c z => by omega)⟩
  rw [b_167_104, h.cell h1 l1 (by decide)]
  simp only [mThen_ok, Option.toList_some, Option.toList_none, List.cons_append, List.nil_append]
  rw [b_167_111, c_below _ (by decide) (by decide)]
  simp only [mThen_ok, Option.toList_some, Option.toList_none, List.cons_append, List.nil_append]
  rw [b_167_115 (z0 := CU u 0 0 1) (by rw [jadd]; rfl) (by omega) (by omega), b_167_119 t1 (by omega), b_167_122, e2]
end
