/-! ===== the law's own list: the rounds ===== -/
section
variable {d f f' n n' m r L q lo hi k kk i j c t W R v : Nat} {u w w' w1 w2 : MW} {X Y F G : Nat → Prop} {ln : Nat → Nat} {vv v2 : Nat → Nat → Nat} {g : Nat → Nat} {tx : List Nat} {x : Int32}
theorem rou_tx (C : CD) (h1 : k < 10) (h2 : 1 ≤ C 7 k 2) : ((((((((tx ++ sB 71) ++ dec k) ++ sB 72) ++ dec (C 7 k 0)) ++ sB 73) ++ dec (C 7 k 1)) ++ sB 74) ++ wnm 119 (C 8 k) (C 7 k 2) 0) ++ sB 57 = tx ++ flat (rouL C k) := by
  rw [dec1 h1]
  have e : flat (rouL C k) = sB 71 ++ ([48 + k] ++ (sB 72 ++ (dec (C 7 k 0) ++ (sB 73 ++ (dec (C 7 k 1) ++ (sB 74 ++ ([32] ++ flat (nams 119 10 (C 8 k) (C 7 k 2) 0 ++ [syT 59 []])))))))) := rfl
  rw [e, flat_app, ← List.append_assoc [32], nams_tx _ _ h2, show flat [syT 59 []] = sB 57 from rfl]
  simp only [List.append_assoc]
/-- a word of a round -/
theorem wr_rw (h : WS u w tx kk) (hl : tx.length ≤ 2500) (a10 : AR w 10 (CU u 0 0 2)) (D : RX w 16 (CU u 0 0 4) k L q (CU u 8 k) lo) (hk : k < CU u 0 0 4) (hq : q < L) (hL : L ≤ 5) :
    ∃ w', mX (d + 7) 167 877 [.ref 1, .ref 276, .ref 278, .int (nI (CU u 0 0 3)), .int (nI k), .int (xQu (ce u 1) k), .int (nI q), mJ, mJ] [] w = mX (d + 7) 167 877 [.ref 1, .ref 276, .ref 278, .int (nI (CU u 0 0 3)), .int (nI k), .int (xQu (ce u 1) k), .int (nI (q + 1)), mJ, mJ] [] w' ∧ WS u w' (tx ++ ([32, 119] ++ [48 + CU u 8 k q])) (kk + 2) ∧ RX w' 16 (CU u 0 0 4) k L (q + 1) (CU u 8 k) lo ∧ kpX (fun c => c = gR w (gR w 278 16) k) w w' := by
  have eE : mE = 166 := rfl
  have cb := CU_cb u
  have b1 := cb.1
  have b7 := (cb.2.2.2.2.2.2.1 k).2.2.2.2 q
  have cE : CU u 8 k q = bl ((xQu (ce u 1) k >>> (nI 1 &&& 31)) + nI 3 * nI q) (CU u 0 0 2) := rfl
  have Db := D.b
  have W1 := h.wi (c := gR w (gR w 278 16) k) (j := q) (x := nI (CU u 8 k q)) (by omega) D.t
  have D1 := D.set (x := nI (CU u 8 k q)) rfl
  have q34 := sB_le (i := 34) (by decide)
  obtain ⟨p1, e1, a1, x1⟩ := W1.app (d := d) (i := 34) (by decide) (by omega)
  have D2 := D1.kw x1
  obtain ⟨p2, e2, a2, x2⟩ := a1.appI (d := d) (n := CU u 8 k q) (by omega) (by simp only [List.length_append]; omega)
  have et : (tx ++ sB 34) ++ dec (CU u 8 k q) = tx ++ ([32, 119] ++ [48 + CU u 8 k q]) := by
    rw [dec1 (s := CU u 8 k q) (by omega), List.append_assoc]; rfl
  rw [et] at a2
  refine ⟨p2, ?_, a2, D2.kw x2, (kpX.wi (w := w) (X := fun c => c = gR w (gR w 278 16) k) rfl).trans ((x1.trans x2).kx (X := fun _ => False)) (fun _ _ z => False.elim z)⟩
  rw [b_167_877 D.a.s D.a.rr D.a.t2 (by omega) (by rw [D.a.l]; exact hk) D.rr (by rw [D.t]; decide), D.l, ijle (by omega) (by omega), if_neg (by omega), b_167_890 D.a.s D.a.rr D.a.t2 (by omega) (by rw [D.a.l]; exact hk) D.rr a10.rr a10.t5, a10.l, c_below _ (by omega) (by omega), ← cE]
  simp only [mThen_ok, Option.toList_some, Option.toList_none, List.cons_append, List.nil_append]
  rw [b_167_916 D.t (by omega) (by omega) (by rw [D.l]; exact hq), b_167_917 W1.1.1, e1]
  simp only [mThen_ok, Option.toList_some, Option.toList_none, List.cons_append, List.nil_append]
  rw [b_167_923 D2.a.s D2.a.rr D2.a.t2 (by omega) (by rw [D2.a.l]; exact hk) D2.rr D2.t (by omega) (by rw [D2.l]; exact hq) a1.1.1, D2.vv (by omega), e2]
  simp only [mThen_ok, Option.toList_some, Option.toList_none, List.cons_append, List.nil_append]
  rw [b_167_936, jadd]
theorem wr_rws (hk : k < CU u 0 0 4) (hL : L ≤ 5) : ∀ (m q kk : Nat) (w : MW) (tx : List Nat), q + m = L → WS u w tx kk → tx.length ≤ 2400 + 3 * q → AR w 10 (CU u 0 0 2) → RX w 16 (CU u 0 0 4) k L q (CU u 8 k) lo →
    ∃ w', mX (d + 7) 167 877 [.ref 1, .ref 276, .ref 278, .int (nI (CU u 0 0 3)), .int (nI k), .int (xQu (ce u 1) k), .int (nI q), mJ, mJ] [] w = mX (d + 7) 167 943 [.ref 1, .ref 276, .ref 278, .int (nI (CU u 0 0 3)), .int (nI k), mJ, mJ, mJ, mJ] [] w' ∧ WS u w' (tx ++ wnm 119 (CU u 8 k) m q) (kk + 2 * m) ∧ RX w' 16 (CU u 0 0 4) k L L (CU u 8 k) lo ∧ kpX (fun c => c = gR w (gR w 278 16) k) w w' := by
  have b1 := (CU_cb u).1
  intro m
  induction m with
  | zero =>
    intro q kk w tx hq h hl a10 D
    have eq : q = L := hq
    refine ⟨w, ?_, ?_, ?_, kpX.refl⟩
    · rw [b_167_877 D.a.s D.a.rr D.a.t2 (by omega) (by rw [D.a.l]; exact hk) D.rr (by rw [D.t]; decide), D.l, ijle (by omega) (by omega), if_pos (by omega)]
    · rw [show wnm 119 (CU u 8 k) 0 q = [] from rfl, List.append_nil]
      exact h
    · rw [eq] at D; exact D
  | succ m ih =>
    intro q kk w tx hq h hl a10 D
    obtain ⟨w1, e1, a1, D1, x1⟩ := wr_rw (d := d) h (by omega) a10 D hk (by omega) hL
    have g1 : gR w1 (gR w1 278 16) k = gR w (gR w 278 16) k := D.a.row x1 D.n8 (D.ne D.a)
    obtain ⟨w2, e2, a2, D2, x2⟩ := ih (q + 1) (kk + 2) w1 (tx ++ ([32, 119] ++ [48 + CU u 8 k q])) (by omega) a1 (by rw [List.length_append, List.length_append]; show _ + (2 + 1) ≤ _; omega) (a10.kp x1 D.n8 (D.ne a10)).1 D1
    refine ⟨w2, e1.trans e2, ?_, D2, x1.trans x2 (fun c _ z => by rw [g1] at z; exact z)⟩
    rw [show wnm 119 (CU u 8 k) (m + 1) q = ([32, 119] ++ [48 + CU u 8 k q]) ++ wnm 119 (CU u 8 k) m (q + 1) from rfl, ← List.append_assoc, show kk + 2 * (m + 1) = kk + 2 + 2 * m by omega]
    exact a2
theorem wr_rou (h : WS u w tx kk) (hl : tx.length ≤ 2000) (h1 : mTg u 1 = 50) (l1 : mLn u 1 < 2147483648) (a10 : AR w 10 (CU u 0 0 2)) (h15 : gR w 278 10 < gR w 278 15) (h16 : gR w 278 15 < gR w 278 16) (hlo : gR w 278 16 < lo) (ro : RO w 15 (CU u 0 0 4) k lo hi (fun _ => 2) (CU u 7)) (rl : RO w 16 (CU u 0 0 4) k lo hi (fun i => CU u 7 i 2) (CU u 8)) (hk : k < CU u 0 0 4) :
    ∃ w', mX (d + 7) 167 734 [.ref 1, .ref 276, .ref 278, .int (nI (CU u 0 0 3)), .int (nI k), mJ, mJ, mJ, mJ] [] w = mX (d + 7) 167 734 [.ref 1, .ref 276, .ref 278, .int (nI (CU u 0 0 3)), .int (nI (k + 1)), mJ, mJ, mJ, mJ] [] w' ∧ WS u w' (tx ++ flat (rouL (CU u) k)) (kk + 20) ∧ RO w' 15 (CU u 0 0 4) (k + 1) lo (mSz w') (fun _ => 2) (CU u 7) ∧ RO w' 16 (CU u 0 0 4) (k + 1) lo (mSz w') (fun i => CU u 7 i 2) (CU u 8) ∧ kpX (fun c => c = gR w 278 15 ∨ c = gR w 278 16) w w' := by
  have eE : mE = 166 := rfl
  have cb := CU_cb u
  have b1 := cb.1
  have b6 := cb.2.2.2.2.2.1 k hk
  have b7 := cb.2.2.2.2.2.2.1 k
  have ar := ro.a
  have al := rl.a
  have hb := ar.b
  have hbl := al.b
  have rb := ro.b
  have hx : xQu (ce u 1) k = ce u 1 4 >>> ((nI 2 + nI 5 * nI k) &&& 31) := rfl
  have f0 : FL w (wN w 50 2 2) 2 0 (CU u 7 k) := FL.new (by decide)
  have f1 := f0.set (x := nI (bl (xQu (ce u 1) k) 4) * nI k * nI 2 + nI (bl (xQu (ce u 1) k >>> (nI 3 &&& 31)) 3)) (by rw [jmul, jmul, jadd]; rfl)
  have f2 := f1.set (x := nI 1 + nI (bl (xQu (ce u 1) k >>> (nI 2 &&& 31)) 3)) (by rw [jadd]; rfl)
  have W4 := f2.ws ar k h
  have D4 := f2.rd ar k
  have O4 := f2.ro ro
  have X4 := f2.kx ar k
  have q4 := f2.pt ar
  have p4l := f2.pl ar
  have L4 := rl.kp X4 (by omega) (by omega) (fun c z1 z2 => by omega)
  have A4 := a10.kp X4 (by omega) (by omega)
  have X4s := X4.at (c := 278) ⟨by decide, by omega⟩ (by omega) (Or.inl ar.s)
  have y4 : mSz (wR (wI (wI (wN w 50 2 2) (mSz w) 0 (nI (bl (xQu (ce u 1) k) 4) * nI k * nI 2 + nI (bl (xQu (ce u 1) k >>> (nI 3 &&& 31)) 3))) (mSz w) 1 (nI 1 + nI (bl (xQu (ce u 1) k >>> (nI 2 &&& 31)) 3))) (gR w 278 15) k (some (mSz w))) = mSz w + 1 := rfl
  generalize hw4 : wR (wI (wI (wN w 50 2 2) (mSz w) 0 (nI (bl (xQu (ce u 1) k) 4) * nI k * nI 2 + nI (bl (xQu (ce u 1) k >>> (nI 3 &&& 31)) 3))) (mSz w) 1 (nI 1 + nI (bl (xQu (ce u 1) k >>> (nI 2 &&& 31)) 3))) (gR w 278 15) k (some (mSz w)) = w4 at *
  have gg4 : ∀ f, gR w4 278 f = gR w 278 f := fun f => by unfold gR; rw [X4s.2.2.2]
  have f6 : FL w4 (wN w4 50 (CU u 7 k 2) (CU u 7 k 2)) (CU u 7 k 2) 0 (CU u 8 k) := FL.new (by omega)
  have W6 := f6.ws L4.a k W4
  have E6 := f6.rd L4.a k
  have L6 := f6.ro L4
  have X6 := f6.kx L4.a k
  have q6 := f6.pt L4.a
  have p6l := f6.pl L4.a
  have D4b := D4.b
  have D6 := (D4.kp X6 (by rw [gg4]; omega) (by rw [gg4, gg4]; omega) (by have := gg4 16; omega)).1
  have O6 := O4.kp X6 (by rw [gg4]; omega) (by rw [gg4, gg4]; omega) (fun c z1 z2 => by rw [gg4]; omega)
  have A6 := A4.1.kp X6 (by rw [gg4]; omega) (by rw [gg4, gg4]; omega)
  have y6 : mSz (wR (wN w4 50 (CU u 7 k 2) (CU u 7 k 2)) (gR w4 278 16) k (some (mSz w4))) = mSz w4 + 1 := rfl
  generalize hw6 : wR (wN w4 50 (CU u 7 k 2) (CU u 7 k 2)) (gR w4 278 16) k (some (mSz w4)) = w6 at *
  have X46 : kpX (fun c => c = gR w 278 15 ∨ c = gR w 278 16) w w6 := (X4.mono (Y := fun c => c = gR w 278 15 ∨ c = gR w 278 16) (fun c _ z => Or.inl z)).trans X6 (fun c _ z => Or.inr (by rw [← gg4]; exact z))
  have X46s := X46.at (c := 278) ⟨by decide, by omega⟩ (by omega) (Or.inl ar.s)
  have gg6 : ∀ f, gR w6 278 f = gR w 278 f := fun f => by unfold gR; rw [X46s.2.2.2]
  have dk := (dec_len k).1
  have d0 := (dec_len (CU u 7 k 0)).1
  have d1 := (dec_len (CU u 7 k 1)).1
  have q71 := sB_le (i := 71) (by decide)
  have q72 := sB_le (i := 72) (by decide)
  have q73 := sB_le (i := 73) (by decide)
  have q74 := sB_le (i := 74) (by decide)
  obtain ⟨p1, e1, a1, x1⟩ := W6.app (d := d) (i := 71) (by decide) (by omega)
  obtain ⟨p2, e2, a2, x2⟩ := a1.appI (d := d) (n := k) (by omega) (by simp only [List.length_append]; omega)
  obtain ⟨p3, e3, a3, x3⟩ := a2.app (d := d) (i := 72) (by decide) (by simp only [List.length_append]; omega)
  have D7 := ((D6.kw x1).kw x2).kw x3
  obtain ⟨p4, e4, a4, x4⟩ := a3.appI (d := d) (n := CU u 7 k 0) (by omega) (by simp only [List.length_append]; omega)
  obtain ⟨p5, e5, a5, x5⟩ := a4.app (d := d) (i := 73) (by decide) (by simp only [List.length_append]; omega)
  have D9 := (D7.kw x4).kw x5
  obtain ⟨p6, e6, a6, x6⟩ := a5.appI (d := d) (n := CU u 7 k 1) (by omega) (by simp only [List.length_append]; omega)
  obtain ⟨p7, e7, a7, x7⟩ := a6.app (d := d) (i := 74) (by decide) (by simp only [List.length_append]; omega)
  have xx := (((((x1.trans x2).trans x3).trans x4).trans x5).trans x6).trans x7
  have xxs := (xx.kx (X := fun _ => False)).at (c := 278) ⟨by decide, by omega⟩ id (Or.inl (X46s.1.trans ar.s))
  have gg7 : ∀ f, gR p7 278 f = gR w 278 f := fun f => by rw [← gg6]; unfold gR; rw [xxs.2.2.2]
  have E7 := E6.kw xx
  have Db := (D9.kw x6).kw x7
  have O7 := O6.kw xx
  have L7 := L6.kw xx
  have A7 := A6.1.kw xx
  obtain ⟨p8, e8, a8, E8, x8⟩ := wr_rws (d := d) hk b7.2.2.2.1 (CU u 7 k 2) 0 _ p7 _ (by omega) a7 (by simp only [List.length_append]; omega) A7.1 E7
  have wl := wnm_len (c := 119) (f := CU u 8 k) (CU u 7 k 2) 0
  obtain ⟨p9, e9, a9, x9⟩ := a8.app (d := d) (i := 57) (by decide) (by simp only [List.length_append]; omega)
  rw [rou_tx (CU u) (by omega) b7.2.2.1] at a9
  have E7b := E7.b
  have Dbb := Db.b
  have O8 := O7.kp x8 E7.n8 (E7.ne O7.a) (fun c z1 z2 => by omega)
  have L8 := L7.kp x8 E7.n8 (E7.ne L7.a) (fun c z1 z2 => by omega)
  have t6 : gR p7 (gR p7 278 15) k < mSz w4 := by
    have t := D6.kp (X := fun _ => False) xx.kx id id id
    have t0 := D4.kp X6 (by rw [gg4]; omega) (by rw [gg4, gg4]; omega) (by have := gg4 16; omega)
    rw [t.2.2, t0.2.2]
    exact D4b.2.2
  have D8 := (Db.kp x8 E7.n8 (E7.ne O7.a) (by intro z; omega)).1
  have D10 := D8.kw x9
  have E10 := E8.kw x9
  refine ⟨p9, ?_, a9.mono (by omega), (O8.kw x9).inc ⟨D10.a, D10.rr, D10.t, D10.l, ⟨by omega, by have := D10.b; omega, D10.b.2.2⟩, D10.2.2.2.2.2⟩, (L8.kw x9).inc ⟨E10.a, E10.rr, E10.t, E10.l, ⟨by omega, by have := E10.b; omega, E10.b.2.2⟩, E10.2.2.2.2.2⟩, ?_⟩
  · rw [b_167_734 ar.s ar.rr ar.t5, ar.l, ijle (by omega) (by omega), if_neg (by omega), b_167_744, h.cell h1 l1 (by decide)]
    simp only [mThen_ok, Option.toList_some, Option.toList_none, List.cons_append, List.nil_append]
    rw [b_167_749 ar.s ar.rr, ← hx, b_167_767, c_below _ (by decide) (by decide)]
    simp only [mThen_ok, Option.toList_some, Option.toList_none, List.cons_append, List.nil_append]
    rw [b_167_775, c_below _ (by decide) (by decide)]
    simp only [mThen_ok, Option.toList_some, Option.toList_none, List.cons_append, List.nil_append]
    rw [b_167_788 f0.t (by omega) (by decide) (by rw [f0.l]; decide), b_167_790, c_below _ (by decide) (by decide)]
    simp only [mThen_ok, Option.toList_some, Option.toList_none, List.cons_append, List.nil_append]
    rw [b_167_801 f1.t (by omega) (by decide) (by rw [f1.l]; decide), b_167_803 (Or.inl q4) (by omega) (by rw [p4l]; exact hk), hw4, b_167_804 L4.a.s L4.a.rr, c_below _ (by decide) (by decide)]
    simp only [mThen_ok, Option.toList_some, Option.toList_none, List.cons_append, List.nil_append]
    rw [b_167_819 (z0 := CU u 7 k 2) (by rw [jadd]; rfl) (by omega) (by omega), b_167_822 (Or.inl q6) (by omega) (by rw [p6l]; exact hk), hw6, b_167_823 W6.1.1, e1]
    simp only [mThen_ok, Option.toList_some, Option.toList_none, List.cons_append, List.nil_append]
    rw [b_167_829 a1.1.1, e2]
    simp only [mThen_ok, Option.toList_some, Option.toList_none, List.cons_append, List.nil_append]
    rw [b_167_834 a2.1.1, e3]
    simp only [mThen_ok, Option.toList_some, Option.toList_none, List.cons_append, List.nil_append]
    rw [b_167_839 D7.a.s D7.a.rr D7.a.t2 (by omega) (by rw [D7.a.l]; exact hk) D7.rr D7.t (by rw [D7.l]; decide) a3.1.1, D7.vv (by decide), e4]
    simp only [mThen_ok, Option.toList_some, Option.toList_none, List.cons_append, List.nil_append]
    rw [b_167_851 a4.1.1, e5]
    simp only [mThen_ok, Option.toList_some, Option.toList_none, List.cons_append, List.nil_append]
    rw [b_167_856 D9.a.s D9.a.rr D9.a.t2 (by omega) (by rw [D9.a.l]; exact hk) D9.rr D9.t (by rw [D9.l]; decide) a5.1.1, D9.vv (by decide), e6]
    simp only [mThen_ok, Option.toList_some, Option.toList_none, List.cons_append, List.nil_append]
    rw [b_167_868 a6.1.1, e7]
    simp only [mThen_ok, Option.toList_some, Option.toList_none, List.cons_append, List.nil_append]
    rw [b_167_873, e8, b_167_943 a8.1.1, e9]
    simp only [mThen_ok, Option.toList_some, Option.toList_none, List.cons_append, List.nil_append]
    rw [b_167_949, jadd]
  · refine (X46.trans (xx.kx (X := fun _ => False)) (fun _ _ z => False.elim z)).trans (x8.trans (x9.kx (X := fun _ => False)) (fun _ _ z => False.elim z)) (fun c hc z => ?_)
    have z' : c = gR p7 (gR p7 278 16) k := z
    omega
theorem wr_rous (h1 : mTg u 1 = 50) (l1 : mLn u 1 < 2147483648) : ∀ (m k kk hi : Nat) (w : MW) (tx : List Nat), k + m = CU u 0 0 4 → WS u w tx kk → tx.length ≤ 1200 + 60 * k → AR w 10 (CU u 0 0 2) → gR w 278 10 < gR w 278 15 → gR w 278 15 < gR w 278 16 → gR w 278 16 < lo → RO w 15 (CU u 0 0 4) k lo hi (fun _ => 2) (CU u 7) → RO w 16 (CU u 0 0 4) k lo hi (fun i => CU u 7 i 2) (CU u 8) →
    ∃ w', mX (d + 7) 167 734 [.ref 1, .ref 276, .ref 278, .int (nI (CU u 0 0 3)), .int (nI k), mJ, mJ, mJ, mJ] [] w = mX (d + 7) 167 956 [.ref 1, .ref 276, .ref 278, .int (nI (CU u 0 0 3)), mJ, mJ, mJ, mJ, mJ] [] w' ∧ WS u w' (tx ++ flat (secL (rouL (CU u)) m k)) (kk + 20 * m) ∧ RO w' 15 (CU u 0 0 4) (CU u 0 0 4) lo (mSz w') (fun _ => 2) (CU u 7) ∧ RO w' 16 (CU u 0 0 4) (CU u 0 0 4) lo (mSz w') (fun i => CU u 7 i 2) (CU u 8) ∧ kpX (fun c => c = gR w 278 15 ∨ c = gR w 278 16) w w' := by
  have b1 := (CU_cb u).1
  intro m
  induction m with
  | zero =>
    intro k kk hi w tx ht h hl a10 h15 h16 hlo ro rl
    have ar := ro.a
    have er : k = CU u 0 0 4 := ht
    refine ⟨w, ?_, ?_, ?_, ?_, kpX.refl⟩
    · rw [b_167_734 ar.s ar.rr ar.t5, ar.l, ijle (by omega) (by omega), if_pos (by omega)]
    · rw [show flat (secL (rouL (CU u)) 0 k) = [] from rfl, List.append_nil]
      exact h
    · rw [er] at ro
      exact ro.up ro.b.2.2 (Nat.le_refl _)
    · rw [er] at rl
      exact rl.up rl.b.2.2 (Nat.le_refl _)
  | succ m ih =>
    intro k kk hi w tx ht h hl a10 h15 h16 hlo ro rl
    have ar := ro.a
    have hb := ar.b
    have al := rl.a
    have hbl := al.b
    obtain ⟨w1, e1, a1, r1, t1, x1⟩ := wr_rou (d := d) h (by omega) h1 l1 a10 h15 h16 hlo ro rl (by omega)
    have tl : (flat (rouL (CU u) k)).length ≤ 60 := fl_rou ((CU_cb u).2.2.2.2.2.2.1 k).2.2.2.1
    have s := x1.at (c := 278) ⟨by decide, by omega⟩ (by omega) (Or.inl ar.s)
    have gg : ∀ f, gR w1 278 f = gR w 278 f := fun f => by unfold gR; rw [s.2.2.2]
    obtain ⟨w2, e2, a2, r2, t2, x2⟩ := ih (k + 1) (kk + 20) (mSz w1) w1 (tx ++ flat (rouL (CU u) k)) (by omega) a1 (by rw [List.length_append]; omega) (a10.kp x1 (by omega) (by omega)).1 (by rw [gg, gg]; exact h15) (by rw [gg, gg]; exact h16) (by rw [gg]; exact hlo) r1 t1
    refine ⟨w2, e1.trans e2, ?_, r2, t2, x1.trans x2 (fun c _ z => by rw [gg, gg] at z; exact z)⟩
    rw [show flat (secL (rouL (CU u)) (m + 1) k) = flat (rouL (CU u) k ++ secL (rouL (CU u)) m (k + 1)) from rfl, flat_app, ← List.append_assoc]
    rw [show kk + 20 * (m + 1) = kk + 20 + 20 * m by omega]
    exact a2
theorem wr_rounds (h1 : mTg u 1 = 50) (l1 : mLn u 1 < 2147483648) (h : WS u w tx kk) (hl : tx.length ≤ 1200) (a10 : AR w 10 (CU u 0 0 2)) :
    ∃ w', mX (d + 7) 167 701 [.ref 1, .ref 276, .ref 278, .int (nI (CU u 0 0 3)), mJ, mJ, mJ, mJ, mJ] [] w = mX (d + 7) 167 956 [.ref 1, .ref 276, .ref 278, .int (nI (CU u 0 0 3)), mJ, mJ, mJ, mJ, mJ] [] w' ∧ WS u w' (tx ++ flat (secL (rouL (CU u)) (CU u 0 0 4) 0)) (kk + 1 + 1 + 20 * CU u 0 0 4) ∧ RO w' 15 (CU u 0 0 4) (CU u 0 0 4) (mSz w + 2) (mSz w') (fun _ => 2) (CU u 7) ∧ RO w' 16 (CU u 0 0 4) (CU u 0 0 4) (mSz w + 2) (mSz w') (fun i => CU u 7 i 2) (CU u 8) ∧ SX (fun f => f = 15 ∨ f = 16) w w' := by
  have eE : mE = 166 := rfl
  have b1 := (CU_cb u).1
  have hb := a10.b
  have W1 := na_ws (n := CU u 0 0 4) (f := 15) h a10.s (by omega) (mSz w)
  have R1 := na_ro (w := w) (n := CU u 0 0 4) (f := 15) (ln := fun _ => 2) (v := CU u 7) a10.s (by omega)
  have S1 := na_sx (w := w) (n := CU u 0 0 4) (f := 15) (by omega) (mSz w)
  have A1 := a10.sx S1 (by decide)
  have gA : gR (wR (wN w 52 (CU u 0 0 4) (CU u 0 0 4)) 278 15 (some (mSz w))) 278 15 = mSz w := gR_wR
  have t1 : mTg (wN w 52 (CU u 0 0 4) (CU u 0 0 4)) 278 = 10 := (tgN (w := w) (t := 52) (n := CU u 0 0 4) (k := CU u 0 0 4) (by omega)).trans a10.s
  have z1 : mSz (wR (wN w 52 (CU u 0 0 4) (CU u 0 0 4)) 278 15 (some (mSz w))) = mSz w + 1 := rfl
  generalize hw1 : wR (wN w 52 (CU u 0 0 4) (CU u 0 0 4)) 278 15 (some (mSz w)) = w1 at *
  have ar := R1.a
  have W2 := na_ws (n := CU u 0 0 4) (f := 16) W1 ar.s (by omega) (mSz w1)
  have R2 := na_ro (w := w1) (n := CU u 0 0 4) (f := 16) (ln := fun i => CU u 7 i 2) (v := CU u 8) ar.s (by omega)
  have S2 := na_sx (w := w1) (n := CU u 0 0 4) (f := 16) (by omega) (mSz w1)
  have R1' := R1.sx S2 (by decide)
  have A2 := A1.1.sx S2 (by decide)
  have g2 := (ar.sx S2 (by decide)).2
  have gB : gR (wR (wN w1 52 (CU u 0 0 4) (CU u 0 0 4)) 278 16 (some (mSz w1))) 278 16 = mSz w1 := gR_wR
  have t2 : mTg (wN w1 52 (CU u 0 0 4) (CU u 0 0 4)) 278 = 10 := (tgN (w := w1) (t := 52) (n := CU u 0 0 4) (k := CU u 0 0 4) (by omega)).trans ar.s
  have z2 : mSz (wR (wN w1 52 (CU u 0 0 4) (CU u 0 0 4)) 278 16 (some (mSz w1))) = mSz w1 + 1 := rfl
  generalize hw2 : wR (wN w1 52 (CU u 0 0 4) (CU u 0 0 4)) 278 16 (some (mSz w1)) = w2 at *
  have Ra : RO w2 15 (CU u 0 0 4) 0 (mSz w + 2) (mSz w + 2) (fun _ => 2) (CU u 7) := R1'.re0 (by omega) (Nat.le_refl _) (by omega)
  have Rb : RO w2 16 (CU u 0 0 4) 0 (mSz w + 2) (mSz w + 2) (fun i => CU u 7 i 2) (CU u 8) := R2.re0 (by omega) (Nat.le_refl _) (by omega)
  have ga : gR w2 278 15 = mSz w := by rw [g2, gA]
  have gc : gR w2 278 10 = gR w 278 10 := by rw [A2.2, A1.2]
  obtain ⟨w3, e3, a3, r3, l3, x3⟩ := wr_rous (d := d) h1 l1 (CU u 0 0 4) 0 _ _ w2 tx (by omega) W2 (by omega) A2.1 (by rw [gc, ga]; omega) (by rw [ga, gB]; omega) (by rw [gB]; omega) Ra Rb
  rw [ga, gB] at x3
  have SS := (S1.trans S2).kx x3 a10.s (by omega) (fun c z => by omega)
  refine ⟨w3, ?_, a3, r3, l3, SS⟩
  rw [b_167_701, h.cell h1 l1 (by decide)]
  simp only [mThen_ok, Option.toList_some, Option.toList_none, List.cons_append, List.nil_append]
  rw [b_167_708, c_below _ (by decide) (by decide)]
  simp only [mThen_ok, Option.toList_some, Option.toList_none, List.cons_append, List.nil_append]
  rw [b_167_712 (z0 := CU u 0 0 4) (by rw [jadd]; rfl) (by omega) (by omega), b_167_716 t1 (by omega), hw1, b_167_719 ar.s ar.rr ar.t5 (by rw [ar.l]) (by omega) (by omega), b_167_728 t2 (by omega), hw2, b_167_731, e3]
end
