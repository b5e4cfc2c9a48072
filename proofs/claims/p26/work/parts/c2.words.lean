/-! ===== the law's own list: the words ===== -/
/-- names behind blanks -/
def wnm (c : Nat) (f : Nat → Nat) : Nat → Nat → List Nat
  | 0, _ => []
  | m + 1, k => [32, c] ++ ([48 + f k] ++ wnm c f m (k + 1))
theorem nams_tx {c r : Nat} {f : Nat → Nat} : ∀ (m k : Nat), 1 ≤ m → [32] ++ flat (nams c r f m k) = wnm c f m k := by
  intro m
  induction m with
  | zero => intro k h; omega
  | succ m ih =>
    intro k _
    show [32] ++ ([c, 48 + f k] ++ ((if m = 0 then [] else [32]) ++ flat (nams c r f m (k + 1)))) = [32, c] ++ ([48 + f k] ++ wnm c f m (k + 1))
    by_cases z : m = 0
    · subst z; rfl
    · rw [if_neg z, ih (k + 1) (by omega)]; rfl
theorem wnm_len {c : Nat} {f : Nat → Nat} : ∀ (m k : Nat), (wnm c f m k).length = 3 * m := by
  intro m
  induction m with
  | zero => intro k; rfl
  | succ m ih =>
    intro k
    show (wnm c f m (k + 1)).length + 1 + 1 + 1 = _
    rw [ih]; omega
section
variable {d f f' n n' m r L q lo hi k i j c t W R v : Nat} {u w w' w1 w2 : MW} {X Y F G : Nat → Prop} {ln : Nat → Nat} {vv : Nat → Nat → Nat} {g : Nat → Nat} {tx : List Nat} {x : Int32}
theorem sm.wM : sm w (wM w n L) X := by
  refine ⟨by show w.1 ≤ w.1 + 1 + n; omega, fun c hc _ => ?_⟩
  have h0 : c < w.1 := hc
  refine ⟨?_, ?_, ?_, ?_⟩
  · show (if c = w.1 then 52 else if w.1 < c ∧ c < w.1 + 1 + n then 50 else mTg w c) = _
    rw [if_neg (by omega), if_neg (by omega)]
  · show (if c = w.1 then n else if w.1 < c ∧ c < w.1 + 1 + n then L else mLn w c) = _
    rw [if_neg (by omega), if_neg (by omega)]
  · funext b
    show (if w.1 ≤ c ∧ c < w.1 + 1 + n then 0 else mI w c b) = _
    rw [if_neg (by omega)]
  · funext b
    show (if c = w.1 then (if b < n then some (w.1 + 1 + b) else none) else if w.1 < c ∧ c < w.1 + 1 + n then none else mR w c b) = _
    rw [if_neg (by omega), if_neg (by omega)]
/-- an array of rows, with its rows -/
theorem nm_ro (s : mTg w 278 = 10) (hz : 278 < mSz w) : RO (wR (wM w n L) 278 f (some (mSz w))) f n n (mSz w + 1) (mSz w + 1 + n) (fun _ => L) (fun _ _ => 0) := by
  have zw : mSz w = w.1 := rfl
  have e0 : mR (wR (wM w n L) 278 f (some (mSz w))) 278 f = some (mSz w) := if_pos ⟨rfl, rfl⟩
  have e1 : gR (wR (wM w n L) 278 f (some (mSz w))) 278 f = mSz w := gR_of e0
  have z : mSz (wR (wM w n L) 278 f (some (mSz w))) = mSz w + 1 + n := rfl
  have e2 : ∀ i, i < n → mR (wR (wM w n L) 278 f (some (mSz w))) (mSz w) i = some (mSz w + 1 + i) := fun i hi' => by
    show (if mSz w = 278 ∧ i = f then some (mSz w) else if mSz w = w.1 then (if i < n then some (w.1 + 1 + i) else none) else _) = _
    rw [if_neg (by omega), if_pos zw, if_pos hi']
    rfl
  have e3 : ∀ i, i < n → gR (wR (wM w n L) 278 f (some (mSz w))) (mSz w) i = mSz w + 1 + i := fun i hi' => gR_of (e2 i hi')
  refine ⟨?_, ⟨by omega, by omega, by omega⟩, fun i hi' => ?_, fun i j q1 q2 => ?_⟩
  · unfold AR
    rw [e1, e0, z]
    exact ⟨((sm.wM (X := fun _ => False) (w := w) (n := n) (L := L)).2 278 hz id).1.trans s, rfl, if_pos rfl, if_pos rfl, by omega, by omega⟩
  · rw [e1, e3 i hi', e2 i hi']
    refine ⟨rfl, ?_, ?_, ⟨by omega, by omega⟩, fun j _ => ?_⟩
    · show (if mSz w + 1 + i = w.1 then 52 else if w.1 < mSz w + 1 + i ∧ mSz w + 1 + i < w.1 + 1 + n then 50 else _) = 50
      rw [if_neg (by omega), if_pos (by omega)]
    · show (if mSz w + 1 + i = w.1 then n else if w.1 < mSz w + 1 + i ∧ mSz w + 1 + i < w.1 + 1 + n then L else _) = L
      rw [if_neg (by omega), if_pos (by omega)]
    · show (if w.1 ≤ mSz w + 1 + i ∧ mSz w + 1 + i < w.1 + 1 + n then 0 else _) = nI 0
      rw [if_pos (by omega)]
      decide +kernel
  · rw [e1, e3 i (by omega), e3 j q2]; omega
theorem nm_sx (hz : 278 < mSz w) (b : Nat) : SX (fun f' => f' = f) w (wR (wM w n L) 278 f (some b)) := by
  obtain ⟨a1, a2, a3, a4⟩ := (sm.wM (X := fun _ => False) (w := w) (n := n) (L := L)).2 278 hz id
  refine ⟨(kpX.S (X := fun c => c = 278) (sm.wM (n := n) (L := L))).trans (kpX.S (sm.wR (X := fun c => c = 278) rfl)) (fun c _ z => z), a1, a3, fun f' hf => ?_⟩
  show (if 278 = 278 ∧ f' = f then some b else mR (wM w n L) 278 f') = _
  rw [if_neg (fun z => hf z.2), a4]
theorem nm_ws (h : WS u w tx k) (s : mTg w 278 = 10) (hn : n + n * L ≤ 7000) (b : Nat) : WS u (wR (wM w n L) 278 f (some b)) tx (k + (1 + n)) := by
  refine h.sm ((sm.wM (X := fun c => 278 ≤ c ∧ ¬ mTg w c = 51) (n := n) (L := L)).trans (sm.wR (X := fun c => c = 278) rfl) (fun c _ z => ?_)) ⟨?_, ?_⟩
  · have : c = 278 := z
    subst this
    exact ⟨Nat.le_refl _, by rw [s]; decide⟩
  · show mSz w + 1 + n ≤ _; omega
  · show mSl w + (n + n * L) ≤ _; omega
theorem RO.re0 {lo' hi' : Nat} (h : RO w f n 0 lo hi ln vv) (h1 : 279 ≤ lo') (h2 : lo' ≤ hi') (h3 : hi' ≤ mSz w) : RO w f n 0 lo' hi' ln vv := ⟨h.1, ⟨h1, h2, h3⟩, fun i z => absurd z (Nat.not_lt_zero _), fun i j _ z => absurd z (Nat.not_lt_zero _)⟩
theorem AR.kw (h : AR w f n) (y : kpW w w') : AR w' f n ∧ gR w' 278 f = gR w 278 f := h.kp (X := fun _ => False) y.kx id id
theorem AR.row (h : AR w f n) (y : kpX X w w') (x1 : ¬ X 278) (x2 : ¬ X (gR w 278 f)) : gR w' (gR w' 278 f) i = gR w (gR w 278 f) i := by
  have b := h.b
  obtain ⟨c1, c2, c3, c4⟩ := y.at ⟨by omega, b.2⟩ x2 (Or.inr (Or.inr h.t))
  rw [(h.kp y x1 x2).2]
  show (mR w' _ i).getD 0 = (mR w _ i).getD 0
  rw [c4]
theorem RX.ne (D : RX w f n r L q g lo) (a : AR w f' n') : ¬ gR w 278 f' = gR w (gR w 278 f) r := fun e => by
  have t := a.t
  rw [e, D.t] at t
  exact absurd t (by decide)
theorem RX.n8 (D : RX w f n r L q g lo) : ¬ 278 = gR w (gR w 278 f) r := by have := D.b; omega
theorem WS.mono {k' : Nat} (h : WS u w tx k) (hk : k ≤ k') : WS u w tx k' := ⟨h.1, h.2.1, h.2.2.1, h.2.2.2.1, h.2.2.2.2.1, h.2.2.2.2.2.mono hk⟩
theorem wor_tx (C : CD) (h1 : v < 10) (h2 : 1 ≤ C 3 v 0) : ((((tx ++ sB 63) ++ dec v) ++ sB 64) ++ wnm 114 (C 4 v) (C 3 v 0) 0) ++ sB 57 = tx ++ flat (worL C v) := by
  rw [dec1 h1]
  have e : flat (worL C v) = sB 63 ++ ([48 + v] ++ (sB 64 ++ ([32] ++ flat (nams 114 9 (C 4 v) (C 3 v 0) 0 ++ [syT 59 []])))) := rfl
  rw [e, flat_app, ← List.append_assoc [32], nams_tx _ _ h2, show flat [syT 59 []] = sB 57 from rfl]
  simp only [List.append_assoc]
/-- a part of a word -/
theorem wr_part (h : WS u w tx k) (hl : tx.length ≤ 2500) (a9 : AR w 9 (CU u 0 0 1)) (D : RX w 10 W v L q (CU u 4 v) lo) (hv : v < W) (hW : W ≤ 6) (hq : q < L) (hL : L ≤ 4) :
    ∃ w', mX (d + 7) 167 364 [.ref 1, .ref 276, .ref 278, .int (nI v), .int (xWo (ce u 1) v), .int (nI q), mJ, mJ, mJ] [] w = mX (d + 7) 167 364 [.ref 1, .ref 276, .ref 278, .int (nI v), .int (xWo (ce u 1) v), .int (nI (q + 1)), mJ, mJ, mJ] [] w' ∧ WS u w' (tx ++ ([32, 114] ++ [48 + CU u 4 v q])) (k + 2) ∧ RX w' 10 W v L (q + 1) (CU u 4 v) lo ∧ kpX (fun c => c = gR w (gR w 278 10) v) w w' := by
  have eE : mE = 166 := rfl
  have b1 := (CU_cb u).1
  have b4 := ((CU_cb u).2.2.2.1 v).2.2 q
  have cE : CU u 4 v q = bl ((xWo (ce u 1) v >>> (nI q &&& 31)) + nI 2 * nI q) (CU u 0 0 1) := rfl
  have Db := D.b
  have W1 := h.wi (c := gR w (gR w 278 10) v) (j := q) (x := nI (CU u 4 v q)) (by omega) D.t
  have D1 := D.set (x := nI (CU u 4 v q)) rfl
  have q65 := sB_le (i := 65) (by decide)
  obtain ⟨p1, e1, a1, x1⟩ := W1.app (d := d) (i := 65) (by decide) (by omega)
  have D2 := D1.kw x1
  obtain ⟨p2, e2, a2, x2⟩ := a1.appI (d := d) (n := CU u 4 v q) (by omega) (by simp only [List.length_append]; omega)
  have et : (tx ++ sB 65) ++ dec (CU u 4 v q) = tx ++ ([32, 114] ++ [48 + CU u 4 v q]) := by
    rw [dec1 (s := CU u 4 v q) (by omega), List.append_assoc]; rfl
  rw [et] at a2
  refine ⟨p2, ?_, a2, D2.kw x2, (kpX.wi (w := w) (X := fun c => c = gR w (gR w 278 10) v) rfl).trans ((x1.trans x2).kx (X := fun _ => False)) (fun _ _ z => False.elim z)⟩
  rw [b_167_364 D.a.s D.a.rr D.a.t2 (by omega) (by rw [D.a.l]; exact hv) D.rr (by rw [D.t]; decide), D.l, ijle (by omega) (by omega), if_neg (by omega), b_167_376 D.a.s D.a.rr D.a.t2 (by omega) (by rw [D.a.l]; exact hv) D.rr a9.rr a9.t5, a9.l, c_below _ (by omega) (by omega), ← cE]
  simp only [mThen_ok, Option.toList_some, Option.toList_none, List.cons_append, List.nil_append]
  rw [b_167_402 D.t (by omega) (by omega) (by rw [D.l]; exact hq), b_167_403 W1.1.1, e1]
  simp only [mThen_ok, Option.toList_some, Option.toList_none, List.cons_append, List.nil_append]
  rw [b_167_409 D2.a.s D2.a.rr D2.a.t2 (by omega) (by rw [D2.a.l]; exact hv) D2.rr D2.t (by omega) (by rw [D2.l]; exact hq) a1.1.1, D2.vv (by omega), e2]
  simp only [mThen_ok, Option.toList_some, Option.toList_none, List.cons_append, List.nil_append]
  rw [b_167_421, jadd]
theorem wr_parts (hv : v < W) (hW : W ≤ 6) (hL : L ≤ 4) : ∀ (m q k : Nat) (w : MW) (tx : List Nat), q + m = L → WS u w tx k → tx.length ≤ 2400 + 3 * q → AR w 9 (CU u 0 0 1) → RX w 10 W v L q (CU u 4 v) lo →
    ∃ w', mX (d + 7) 167 364 [.ref 1, .ref 276, .ref 278, .int (nI v), .int (xWo (ce u 1) v), .int (nI q), mJ, mJ, mJ] [] w = mX (d + 7) 167 428 [.ref 1, .ref 276, .ref 278, .int (nI v), mJ, mJ, mJ, mJ, mJ] [] w' ∧ WS u w' (tx ++ wnm 114 (CU u 4 v) m q) (k + 2 * m) ∧ RX w' 10 W v L L (CU u 4 v) lo ∧ kpX (fun c => c = gR w (gR w 278 10) v) w w' := by
  intro m
  induction m with
  | zero =>
    intro q k w tx hq h hl a9 D
    have eq : q = L := hq
    refine ⟨w, ?_, ?_, ?_, kpX.refl⟩
    · rw [b_167_364 D.a.s D.a.rr D.a.t2 (by omega) (by rw [D.a.l]; exact hv) D.rr (by rw [D.t]; decide), D.l, ijle (by omega) (by omega), if_pos (by omega)]
    · rw [show wnm 114 (CU u 4 v) 0 q = [] from rfl, List.append_nil]
      exact h
    · rw [eq] at D; exact D
  | succ m ih =>
    intro q k w tx hq h hl a9 D
    obtain ⟨w1, e1, a1, D1, x1⟩ := wr_part (d := d) h (by omega) a9 D hv hW (by omega) hL
    have g1 : gR w1 (gR w1 278 10) v = gR w (gR w 278 10) v := D.a.row x1 D.n8 (D.ne D.a)
    obtain ⟨w2, e2, a2, D2, x2⟩ := ih (q + 1) (k + 2) w1 (tx ++ ([32, 114] ++ [48 + CU u 4 v q])) (by omega) a1 (by rw [List.length_append, List.length_append]; show _ + (2 + 1) ≤ _; omega) (a9.kp x1 D.n8 (D.ne a9)).1 D1
    refine ⟨w2, e1.trans e2, ?_, D2, x1.trans x2 (fun c _ z => by rw [g1] at z; exact z)⟩
    rw [show wnm 114 (CU u 4 v) (m + 1) q = ([32, 114] ++ [48 + CU u 4 v q]) ++ wnm 114 (CU u 4 v) m (q + 1) from rfl, ← List.append_assoc, show k + 2 * (m + 1) = k + 2 + 2 * m by omega]
    exact a2
theorem wr_wor (h : WS u w tx k) (hl : tx.length ≤ 2000) (h1 : mTg u 1 = 50) (l1 : mLn u 1 < 2147483648) (a9 : AR w 9 (CU u 0 0 1)) (h9 : ¬ gR w 278 9 = gR w 278 10) (ro : RO w 10 (CU u 0 0 2) v lo hi (fun i => CU u 3 i 0) (CU u 4)) (hv : v < CU u 0 0 2) :
    ∃ w', mX (d + 7) 167 298 [.ref 1, .ref 276, .ref 278, .int (nI v), mJ, mJ, mJ, mJ, mJ] [] w = mX (d + 7) 167 298 [.ref 1, .ref 276, .ref 278, .int (nI (v + 1)), mJ, mJ, mJ, mJ, mJ] [] w' ∧ WS u w' (tx ++ flat (worL (CU u) v)) (k + 13) ∧ RO w' 10 (CU u 0 0 2) (v + 1) lo (mSz w') (fun i => CU u 3 i 0) (CU u 4) ∧ kpX (fun c => c = gR w 278 10) w w' := by
  have eE : mE = 166 := rfl
  have cb := CU_cb u
  have b1 := cb.1
  have b4 := cb.2.2.2.1 v
  have ar := ro.a
  have hb := ar.b
  have rb := ro.b
  have hx : xWo (ce u 1) v = ce u 1 2 >>> ((nI 2 + nI 3 * nI v) &&& 31) := rfl
  have bb : bl (xWo (ce u 1) v >>> (nI 3 &&& 31)) 4 < 4 := bl_lt _ (by decide)
  have cL : CU u 3 v 0 = 1 + bl (xWo (ce u 1) v) (1 + bl (xWo (ce u 1) v >>> (nI 3 &&& 31)) 4) := rfl
  have f0 : FL w (wN w 50 (CU u 3 v 0) (CU u 3 v 0)) (CU u 3 v 0) 0 (CU u 4 v) := FL.new (by omega)
  have W1 := f0.ws ar v h
  have D1 := f0.rd ar v
  have O1 := f0.ro ro
  have X1 := f0.kx ar v
  have q1 := f0.pt ar
  have p1l := f0.pl ar
  have A1 := a9.kp X1 (by omega) h9
  have dv := (dec_len v).1
  have q63 := sB_le (i := 63) (by decide)
  have q64 := sB_le (i := 64) (by decide)
  obtain ⟨p1, e1, a1, x1⟩ := W1.app (d := d) (i := 63) (by decide) (by omega)
  obtain ⟨p2, e2, a2, x2⟩ := a1.appI (d := d) (n := v) (by omega) (by simp only [List.length_append]; omega)
  obtain ⟨p3, e3, a3, x3⟩ := a2.app (d := d) (i := 64) (by decide) (by simp only [List.length_append]; omega)
  have x123 := (x1.trans x2).trans x3
  have D3 := D1.kw x123
  obtain ⟨p4, e4, a4, D4, x4⟩ := wr_parts (d := d) hv b1.2.2.2.2.2.1 b4.2.1 (CU u 3 v 0) 0 _ p3 _ (by omega) a3 (by simp only [List.length_append]; omega) (A1.1.kw x123).1 D3
  have wl := wnm_len (c := 114) (f := CU u 4 v) (CU u 3 v 0) 0
  obtain ⟨p5, e5, a5, x5⟩ := a4.app (d := d) (i := 57) (by decide) (by simp only [List.length_append]; omega)
  rw [wor_tx (CU u) (by omega) b4.1] at a5
  have D5 := D4.kw x5
  have O3 := O1.kw x123
  have Db := D3.b
  have O4 : RO p4 10 (CU u 0 0 2) v lo hi (fun i => CU u 3 i 0) (CU u 4) := O3.kp x4 D3.n8 (D3.ne D3.a) (fun c z1 z2 => by omega)
  refine ⟨p5, ?_, a5.mono (by omega), (O4.kw x5).inc ⟨D5.a, D5.rr, D5.t, D5.l, ⟨by omega, by have := D5.b; omega, D5.b.2.2⟩, D5.2.2.2.2.2⟩, ?_⟩
  · rw [b_167_298 ar.s ar.rr ar.t5, ar.l, ijle (by omega) (by omega), if_neg (by omega), b_167_307, h.cell h1 l1 (by decide)]
    simp only [mThen_ok, Option.toList_some, Option.toList_none, List.cons_append, List.nil_append]
    rw [b_167_312 ar.s ar.rr, ← hx, c_below _ (by decide) (by decide)]
    simp only [mThen_ok, Option.toList_some, Option.toList_none, List.cons_append, List.nil_append]
    rw [b_167_337, jadd, c_below _ (by omega) (by omega)]
    simp only [mThen_ok, Option.toList_some, Option.toList_none, List.cons_append, List.nil_append]
    rw [b_167_341 (z0 := CU u 3 v 0) (by rw [jadd]; rfl) (by omega) (by omega), b_167_344 (Or.inl q1) (by omega) (by rw [p1l]; exact hv), b_167_345 W1.1.1, e1]
    simp only [mThen_ok, Option.toList_some, Option.toList_none, List.cons_append, List.nil_append]
    rw [b_167_351 a1.1.1, e2]
    simp only [mThen_ok, Option.toList_some, Option.toList_none, List.cons_append, List.nil_append]
    rw [b_167_355 a2.1.1, e3]
    simp only [mThen_ok, Option.toList_some, Option.toList_none, List.cons_append, List.nil_append]
    rw [b_167_360, e4, b_167_428 a4.1.1, e5]
    simp only [mThen_ok, Option.toList_some, Option.toList_none, List.cons_append, List.nil_append]
    rw [b_167_434, jadd]
  · refine (X1.trans (x123.kx (X := fun _ => False)) (fun _ _ z => False.elim z)).trans (x4.trans (x5.kx (X := fun _ => False)) (fun _ _ z => False.elim z)) (fun c hc z => ?_)
    have := z
    omega
theorem wr_wors (h1 : mTg u 1 = 50) (l1 : mLn u 1 < 2147483648) : ∀ (m v k hi : Nat) (w : MW) (tx : List Nat), v + m = CU u 0 0 2 → WS u w tx k → tx.length ≤ 500 + 32 * v → AR w 9 (CU u 0 0 1) → ¬ gR w 278 9 = gR w 278 10 → RO w 10 (CU u 0 0 2) v lo hi (fun i => CU u 3 i 0) (CU u 4) →
    ∃ w', mX (d + 7) 167 298 [.ref 1, .ref 276, .ref 278, .int (nI v), mJ, mJ, mJ, mJ, mJ] [] w = mX (d + 7) 167 441 [.ref 1, .ref 276, .ref 278, mJ, mJ, mJ, mJ, mJ, mJ] [] w' ∧ WS u w' (tx ++ flat (secL (worL (CU u)) m v)) (k + 13 * m) ∧ RO w' 10 (CU u 0 0 2) (CU u 0 0 2) lo (mSz w') (fun i => CU u 3 i 0) (CU u 4) ∧ kpX (fun c => c = gR w 278 10) w w' := by
  have b1 := (CU_cb u).1
  intro m
  induction m with
  | zero =>
    intro v k hi w tx ht h hl a9 h9 ro
    have ar := ro.a
    have er : v = CU u 0 0 2 := ht
    refine ⟨w, ?_, ?_, ?_, kpX.refl⟩
    · rw [b_167_298 ar.s ar.rr ar.t5, ar.l, ijle (by omega) (by omega), if_pos (by omega)]
    · rw [show flat (secL (worL (CU u)) 0 v) = [] from rfl, List.append_nil]
      exact h
    · rw [er] at ro
      exact ro.up ro.b.2.2 (Nat.le_refl _)
  | succ m ih =>
    intro v k hi w tx ht h hl a9 h9 ro
    have ar := ro.a
    have hb := ar.b
    obtain ⟨w1, e1, a1, r1, x1⟩ := wr_wor (d := d) h (by omega) h1 l1 a9 h9 ro (by omega)
    have tl : (flat (worL (CU u) v)).length ≤ 32 := fl_wor ((CU_cb u).2.2.2.1 v).2.1
    have s := x1.at (c := 278) ⟨by decide, by omega⟩ (by omega) (Or.inl ar.s)
    have gg : ∀ f, gR w1 278 f = gR w 278 f := fun f => by unfold gR; rw [s.2.2.2]
    obtain ⟨w2, e2, a2, r2, x2⟩ := ih (v + 1) (k + 13) (mSz w1) w1 (tx ++ flat (worL (CU u) v)) (by omega) a1 (by rw [List.length_append]; omega) (a9.kp x1 (by omega) h9).1 (by rw [gg, gg]; exact h9) r1
    refine ⟨w2, e1.trans e2, ?_, r2, x1.trans x2 (fun c _ z => by rw [gg] at z; exact z)⟩
    rw [show flat (secL (worL (CU u)) (m + 1) v) = flat (worL (CU u) v ++ secL (worL (CU u)) m (v + 1)) from rfl, flat_app, ← List.append_assoc]
    rw [show k + 13 * (m + 1) = k + 13 + 13 * m by omega]
    exact a2
theorem wr_words (h1 : mTg u 1 = 50) (l1 : mLn u 1 < 2147483648) (h : WS u w tx k) (hl : tx.length ≤ 500) (a9 : AR w 9 (CU u 0 0 1)) :
    ∃ w', mX (d + 7) 167 264 [.ref 1, .ref 276, .ref 278, mJ, mJ, mJ, mJ, mJ, mJ] [] w = mX (d + 7) 167 441 [.ref 1, .ref 276, .ref 278, mJ, mJ, mJ, mJ, mJ, mJ] [] w' ∧ WS u w' (tx ++ flat (secL (worL (CU u)) (CU u 0 0 2) 0)) (k + 1 + (1 + CU u 0 0 2) + 13 * CU u 0 0 2) ∧ RO w' 10 (CU u 0 0 2) (CU u 0 0 2) (mSz w + 2 + CU u 0 0 2) (mSz w') (fun i => CU u 3 i 0) (CU u 4) ∧ RO w' 11 (CU u 0 0 2) (CU u 0 0 2) (mSz w + 2) (mSz w + 2 + CU u 0 0 2) (fun _ => 2) (fun _ _ => 0) ∧ SX (fun f => f = 10 ∨ f = 11) w w' := by
  have eE : mE = 166 := rfl
  have b1 := (CU_cb u).1
  have hb := a9.b
  have W1 := na_ws (n := CU u 0 0 2) (f := 10) h a9.s (by omega) (mSz w)
  have R1 := na_ro (w := w) (n := CU u 0 0 2) (f := 10) (ln := fun i => CU u 3 i 0) (v := CU u 4) a9.s (by omega)
  have S1 := na_sx (w := w) (n := CU u 0 0 2) (f := 10) (by omega) (mSz w)
  have A1 := a9.sx S1 (by decide)
  have gA : gR (wR (wN w 52 (CU u 0 0 2) (CU u 0 0 2)) 278 10 (some (mSz w))) 278 10 = mSz w := gR_wR
  have t1 : mTg (wN w 52 (CU u 0 0 2) (CU u 0 0 2)) 278 = 10 := (tgN (w := w) (t := 52) (n := CU u 0 0 2) (k := CU u 0 0 2) (by omega)).trans a9.s
  have z1 : mSz (wR (wN w 52 (CU u 0 0 2) (CU u 0 0 2)) 278 10 (some (mSz w))) = mSz w + 1 := rfl
  generalize hw1 : wR (wN w 52 (CU u 0 0 2) (CU u 0 0 2)) 278 10 (some (mSz w)) = w1 at *
  have ar := R1.a
  have W2 := nm_ws (n := CU u 0 0 2) (L := 2) (f := 11) W1 ar.s (by omega) (mSz w1)
  have R2 := nm_ro (w := w1) (n := CU u 0 0 2) (L := 2) (f := 11) ar.s (by omega)
  have S2 := nm_sx (w := w1) (n := CU u 0 0 2) (L := 2) (f := 11) (by omega) (mSz w1)
  have R1' := R1.sx S2 (by decide)
  have A2 := A1.1.sx S2 (by decide)
  have g2 := (ar.sx S2 (by decide)).2
  have t2 : mTg (wM w1 (CU u 0 0 2) 2) 278 = 10 := ((sm.wM (X := fun _ => False) (w := w1) (n := CU u 0 0 2) (L := 2)).2 278 (by omega) id).1.trans ar.s
  have z2 : mSz (wR (wM w1 (CU u 0 0 2) 2) 278 11 (some (mSz w1))) = mSz w1 + 1 + CU u 0 0 2 := rfl
  generalize hw2 : wR (wM w1 (CU u 0 0 2) 2) 278 11 (some (mSz w1)) = w2 at *
  have R1'' : RO w2 10 (CU u 0 0 2) 0 (mSz w + 2 + CU u 0 0 2) (mSz w + 2 + CU u 0 0 2) (fun i => CU u 3 i 0) (CU u 4) := R1'.re0 (by omega) (Nat.le_refl _) (by omega)
  have h9 : ¬ gR w2 278 9 = gR w2 278 10 := by rw [A2.2, A1.2, g2, gA]; omega
  obtain ⟨w3, e3, a3, r3, x3⟩ := wr_wors (d := d) h1 l1 (CU u 0 0 2) 0 _ _ w2 tx (by omega) W2 (by omega) A2.1 h9 R1''
  rw [g2, gA] at x3
  have SS := (S1.trans S2).kx x3 a9.s (by omega) (fun c z => by omega)
  have R2' := R2.kp x3 (by omega) (by have := R2.a.b; intro z; have e1 : gR w2 278 11 = mSz w1 := by rw [← hw2]; exact gR_wR
                                      omega) (fun c q1 q2 => by omega)
  rw [z1, show mSz w + 1 + 1 = mSz w + 2 from rfl] at R2'
  refine ⟨w3, ?_, a3, r3, R2', SS⟩
  rw [b_167_264, h.cell h1 l1 (by decide)]
  simp only [mThen_ok, Option.toList_some, Option.toList_none, List.cons_append, List.nil_append]
  rw [b_167_271, c_below _ (by decide) (by decide)]
  simp only [mThen_ok, Option.toList_some, Option.toList_none, List.cons_append, List.nil_append]
  rw [b_167_275 (z0 := CU u 0 0 2) (by rw [jadd]; rfl) (by omega) (by omega), b_167_279 t1 (by omega), hw1, b_167_282 ar.s ar.rr ar.t5 (by rw [ar.l]) (by omega) (by omega), b_167_293 t2 (by omega), hw2, b_167_296, e3]
end
