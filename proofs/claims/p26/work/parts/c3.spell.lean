/-! ===== the law's own list: the spellers ===== -/
/-- what a speller knows, behind blanks -/
def wkn (f g : Nat → Nat) : Nat → Nat → List Nat
  | 0, _ => []
  | m + 1, k => (sB 68 ++ ([48 + f k] ++ (sB 69 ++ dec (g k)))) ++ wkn f g m (k + 1)
theorem knw_tx {f g : Nat → Nat} : ∀ (m k : Nat), 1 ≤ m → [32] ++ flat (knwL f g m k) = wkn f g m k := by
  intro m
  induction m with
  | zero => intro k h; omega
  | succ m ih =>
    intro k _
    have e : [32] ++ flat (knwL f g (m + 1) k) = sB 68 ++ ([48 + f k] ++ (sB 69 ++ (dec (g k) ++ ((if m = 0 then [] else [32]) ++ flat (knwL f g m (k + 1)))))) := rfl
    rw [e, show wkn f g (m + 1) k = (sB 68 ++ ([48 + f k] ++ (sB 69 ++ dec (g k)))) ++ wkn f g m (k + 1) from rfl]
    by_cases z : m = 0
    · subst z
      simp only [List.append_assoc]
      rfl
    · rw [if_neg z, ih (k + 1) (by omega)]
      simp only [List.append_assoc]
theorem s68 : (sB 68).length = 8 := by decide +kernel
theorem s69 : (sB 69).length = 1 := by decide +kernel
theorem wkn_len {f g : Nat → Nat} : ∀ (m k : Nat), (wkn f g m k).length ≤ 12 * m := by
  intro m
  induction m with
  | zero => intro k; exact Nat.le_refl _
  | succ m ih =>
    intro k
    have h1 := ih (k + 1)
    have h2 := (dec_len (g k)).1
    rw [show wkn f g (m + 1) k = (sB 68 ++ ([48 + f k] ++ (sB 69 ++ dec (g k)))) ++ wkn f g m (k + 1) from rfl]
    simp only [List.length_append, s68, s69, List.length_singleton]
    omega
/-- what the spellers know while they are written: k spellers and i numbers of the next -/
def knv (C : CD) (k i s j : Nat) : Nat := if s < k then C 6 s j else if s = k then knF C s j i else 0
section
variable {d f f' n n' m r L q lo hi k kk i j c t W R v lo3 hi3 : Nat} {u w w' w1 w2 : MW} {X Y F G : Nat → Prop} {ln : Nat → Nat} {vv v2 : Nat → Nat → Nat} {g : Nat → Nat} {tx : List Nat} {x : Int32}
theorem RO.ext (h : RO w f n m lo hi ln vv) (e : ∀ i j, i < m → vv i j = v2 i j) : RO w f n m lo hi ln v2 := ⟨h.1, h.2.1, fun i z => by
  obtain ⟨p1, p2, p3, p4, p5⟩ := h.2.2.1 i z
  exact ⟨p1, p2, p3, p4, fun j hj => by rw [← e i j z]; exact p5 j hj⟩, h.2.2.2⟩
theorem spe_tx (C : CD) (h1 : k < 10) (h2 : 1 ≤ C 10 k 0) : (((((tx ++ sB 66) ++ dec k) ++ sB 67) ++ dec (C 5 k 0)) ++ wkn (C 11 k) (C 12 k) (C 10 k 0) 0) ++ sB 70 = tx ++ flat (speL C k) := by
  rw [dec1 h1]
  have e : flat (speL C k) = sB 66 ++ ([48 + k] ++ (sB 67 ++ (dec (C 5 k 0) ++ ([32] ++ flat (knwL (C 11 k) (C 12 k) (C 10 k 0) 0 ++ [syT 59 [10]]))))) := rfl
  rw [e, flat_app, ← List.append_assoc [32], knw_tx _ _ h2, show flat [syT 59 [10]] = sB 70 from rfl]
  simp only [List.append_assoc]
/-- one thing that a speller knows -/
theorem wr_know (h : WS u w tx kk) (hl : tx.length ≤ 2500) (e8 : EA w u) (ro : RO w 13 (CU u 0 0 3) (CU u 0 0 3) lo hi (fun _ => CU u 0 0 0) (knv (CU u) k i)) (hk : k < CU u 0 0 3) (hi' : i < CU u 10 k 0) :
    ∃ w', mX (d + 7) 167 596 [.ref 1, .ref 276, .ref 278, .int (nI (CU u 0 0 3)), .int (nI k), .int (xSp (ce u 1) k), mJ, .int (nI i), mJ] [] w = mX (d + 7) 167 596 [.ref 1, .ref 276, .ref 278, .int (nI (CU u 0 0 3)), .int (nI k), .int (xSp (ce u 1) k), mJ, .int (nI (i + 1)), mJ] [] w' ∧ WS u w' (tx ++ (sB 68 ++ ([48 + CU u 11 k i] ++ (sB 69 ++ dec (CU u 12 k i))))) (kk + 4) ∧ RO w' 13 (CU u 0 0 3) (CU u 0 0 3) lo hi (fun _ => CU u 0 0 0) (knv (CU u) k (i + 1)) ∧ kpX (fun c => c = gR w (gR w 278 13) k) w w' := by
  have eE : mE = 166 := rfl
  have cb := CU_cb u
  have b1 := cb.1
  have b5 := cb.2.2.2.2.1 k
  have b6 := b5.2.2 i
  have D := ro.rd hk
  have Db := D.b
  have cL : CU u 10 k 0 = 1 + bl (xSp (ce u 1) k >>> (nI 3 &&& 31)) 4 := rfl
  have cT : CU u 11 k i = bl ((xSp (ce u 1) k >>> (nI 2 &&& 31)) + nI i) (CU u 0 0 0) := rfl
  have cV : CU u 12 k i = bl ((xSp (ce u 1) k >>> (nI 4 &&& 31)) + nI 5 * nI i) 15 := rfl
  have kn0 : knv (CU u) k (i + 1) k (CU u 11 k i) = CU u 12 k i := by
    show (if k < k then _ else if k = k then (if CU u 11 k i = CU u 11 k i then CU u 12 k i else knF (CU u) k (CU u 11 k i) i) else 0) = _
    rw [if_neg (Nat.lt_irrefl k), if_pos rfl, if_pos rfl]
  have W1 := h.wi (c := gR w (gR w 278 13) k) (j := CU u 11 k i) (x := nI (CU u 12 k i)) (by omega) D.t
  have O1 : RO (wI w (gR w (gR w 278 13) k) (CU u 11 k i) (nI (CU u 12 k i))) 13 (CU u 0 0 3) (CU u 0 0 3) lo hi (fun _ => CU u 0 0 0) (knv (CU u) k (i + 1)) := by
    refine ro.wr hk (by rw [kn0]) (fun i' j' z1 z2 => ?_)
    show (if i' < k then CU u 6 i' j' else if i' = k then (if CU u 11 i' i = j' then CU u 12 i' i else knF (CU u) i' j' i) else 0) = (if i' < k then CU u 6 i' j' else if i' = k then knF (CU u) i' j' i else 0)
    by_cases y : i' = k
    · subst y
      rw [if_neg (Nat.lt_irrefl i'), if_neg (Nat.lt_irrefl i'), if_pos rfl, if_pos rfl, if_neg (fun q => z2 ⟨rfl, q.symm⟩)]
    · rw [if_neg y, if_neg y]
  have q69 := sB_le (i := 69) (by decide)
  have q68 := sB_le (i := 68) (by decide)
  have dt := (dec_len (CU u 11 k i)).1
  obtain ⟨p1, e1, a1, x1⟩ := W1.app (d := d) (i := 68) (by decide) (by omega)
  obtain ⟨p2, e2, a2, x2⟩ := a1.appI (d := d) (n := CU u 11 k i) (by omega) (by simp only [List.length_append]; omega)
  obtain ⟨p3, e3, a3, x3⟩ := a2.app (d := d) (i := 69) (by decide) (by simp only [List.length_append]; omega)
  have x123 := (x1.trans x2).trans x3
  have O3 := O1.kw x123
  have D3 := O3.rd hk
  obtain ⟨p4, e4, a4, x4⟩ := a3.appI (d := d) (n := CU u 12 k i) (by omega) (by simp only [List.length_append]; omega)
  have et : ((((tx ++ sB 68) ++ dec (CU u 11 k i)) ++ sB 69) ++ dec (CU u 12 k i)) = tx ++ (sB 68 ++ ([48 + CU u 11 k i] ++ (sB 69 ++ dec (CU u 12 k i)))) := by
    rw [dec1 (s := CU u 11 k i) (by omega)]
    simp only [List.append_assoc]
  rw [et] at a4
  refine ⟨p4, ?_, a4, O3.kw x4, (kpX.wi (w := w) (X := fun c => c = gR w (gR w 278 13) k) rfl).trans ((x123.trans x4).kx (X := fun _ => False)) (fun _ _ z => False.elim z)⟩
  rw [b_167_596, c_below _ (by decide) (by decide)]
  simp only [mThen_ok, Option.toList_some, Option.toList_none, List.cons_append, List.nil_append]
  rw [b_167_607, jadd, ijle (by omega) (by omega), if_neg (by omega), b_167_611 e8.s e8.rr e8.t5, e8.l, c_below _ (by omega) (by omega), ← cT]
  simp only [mThen_ok, Option.toList_some, Option.toList_none, List.cons_append, List.nil_append]
  rw [b_167_626 D.a.s D.a.rr D.a.t2 (by omega) (by rw [D.a.l]; exact hk) D.rr, c_below _ (by decide) (by decide), ← cV]
  simp only [mThen_ok, Option.toList_some, Option.toList_none, List.cons_append, List.nil_append]
  rw [b_167_651 D.t (by omega) (by omega) (by rw [D.l]; omega), b_167_652 W1.1.1, e1]
  simp only [mThen_ok, Option.toList_some, Option.toList_none, List.cons_append, List.nil_append]
  rw [b_167_658 a1.1.1, e2]
  simp only [mThen_ok, Option.toList_some, Option.toList_none, List.cons_append, List.nil_append]
  rw [b_167_663 a2.1.1, e3]
  simp only [mThen_ok, Option.toList_some, Option.toList_none, List.cons_append, List.nil_append]
  rw [b_167_668 D3.a.s D3.a.rr D3.a.t2 (by omega) (by rw [D3.a.l]; exact hk) D3.rr D3.t (by omega) (by rw [D3.l]; omega) a3.1.1, D3.vv (by omega), kn0, e4]
  simp only [mThen_ok, Option.toList_some, Option.toList_none, List.cons_append, List.nil_append]
  rw [b_167_681, jadd]
theorem wr_knows (hk : k < CU u 0 0 3) (hlo : 290 < lo) : ∀ (m i kk : Nat) (w : MW) (tx : List Nat), i + m = CU u 10 k 0 → WS u w tx kk → tx.length ≤ 2300 + 12 * i → EA w u → RO w 13 (CU u 0 0 3) (CU u 0 0 3) lo hi (fun _ => CU u 0 0 0) (knv (CU u) k i) →
    ∃ w', mX (d + 7) 167 596 [.ref 1, .ref 276, .ref 278, .int (nI (CU u 0 0 3)), .int (nI k), .int (xSp (ce u 1) k), mJ, .int (nI i), mJ] [] w = mX (d + 7) 167 688 [.ref 1, .ref 276, .ref 278, .int (nI (CU u 0 0 3)), .int (nI k), mJ, mJ, mJ, mJ] [] w' ∧ WS u w' (tx ++ wkn (CU u 11 k) (CU u 12 k) m i) (kk + 4 * m) ∧ RO w' 13 (CU u 0 0 3) (CU u 0 0 3) lo hi (fun _ => CU u 0 0 0) (knv (CU u) k (CU u 10 k 0)) ∧ kpX (fun c => c = gR w (gR w 278 13) k) w w' := by
  have cb := CU_cb u
  have b5 := cb.2.2.2.2.1 k
  have cL : CU u 10 k 0 = 1 + bl (xSp (ce u 1) k >>> (nI 3 &&& 31)) 4 := rfl
  intro m
  induction m with
  | zero =>
    intro i kk w tx hq h hl e8 ro
    have eq : i = CU u 10 k 0 := hq
    refine ⟨w, ?_, ?_, ?_, kpX.refl⟩
    · rw [b_167_596, c_below _ (by decide) (by decide)]
      simp only [mThen_ok, Option.toList_some, Option.toList_none, List.cons_append, List.nil_append]
      rw [b_167_607, jadd, ijle (by omega) (by omega), if_pos (by omega)]
    · rw [show wkn (CU u 11 k) (CU u 12 k) 0 i = [] from rfl, List.append_nil]
      exact h
    · rw [eq] at ro; exact ro
  | succ m ih =>
    intro i kk w tx hq h hl e8 ro
    have D := ro.rd hk
    have b6 := b5.2.2 i
    obtain ⟨w1, e1, a1, r1, x1⟩ := wr_know (d := d) h (by omega) e8 ro hk (by omega)
    have g1 : gR w1 (gR w1 278 13) k = gR w (gR w 278 13) k := D.a.row x1 D.n8 (D.ne D.a)
    have dv := (dec_len (CU u 12 k i)).1
    have e8n : ¬ gR w 278 8 = gR w (gR w 278 13) k := by have := D.b; have := e8.b; omega
    obtain ⟨w2, e2, a2, r2, x2⟩ := ih (i + 1) (kk + 4) w1 _ (by omega) a1 (by simp only [List.length_append, s68, s69, List.length_singleton]; omega) (e8.kp x1 D.n8 e8n) r1
    refine ⟨w2, e1.trans e2, ?_, r2, x1.trans x2 (fun c _ z => by rw [g1] at z; exact z)⟩
    rw [show wkn (CU u 11 k) (CU u 12 k) (m + 1) i = (sB 68 ++ ([48 + CU u 11 k i] ++ (sB 69 ++ dec (CU u 12 k i)))) ++ wkn (CU u 11 k) (CU u 12 k) m (i + 1) from rfl, ← List.append_assoc tx, show kk + 4 * (m + 1) = kk + 4 + 4 * m by omega]
    exact a2
theorem wr_spe (h : WS u w tx kk) (hl : tx.length ≤ 2000) (h1 : mTg u 1 = 50) (l1 : mLn u 1 < 2147483648) (e8 : EA w u) (h13 : ¬ gR w 278 13 = gR w 278 12) (h12 : gR w 278 12 < lo3) (ro : RO w 12 (CU u 0 0 3) k lo hi (fun _ => 9) (begM (CU u) 0 3)) (r3 : RO w 13 (CU u 0 0 3) (CU u 0 0 3) lo3 hi3 (fun _ => CU u 0 0 0) (knv (CU u) k 0)) (hlo : 290 < lo3) (hh : hi3 ≤ lo) (hk : k < CU u 0 0 3) :
    ∃ w', mX (d + 7) 167 492 [.ref 1, .ref 276, .ref 278, .int (nI (CU u 0 0 3)), .int (nI k), mJ, mJ, mJ, mJ] [] w = mX (d + 7) 167 492 [.ref 1, .ref 276, .ref 278, .int (nI (CU u 0 0 3)), .int (nI (k + 1)), mJ, mJ, mJ, mJ] [] w' ∧ WS u w' (tx ++ flat (speL (CU u) k)) (kk + 22) ∧ RO w' 12 (CU u 0 0 3) (k + 1) lo (mSz w') (fun _ => 9) (begM (CU u) 0 3) ∧ RO w' 13 (CU u 0 0 3) (CU u 0 0 3) lo3 hi3 (fun _ => CU u 0 0 0) (knv (CU u) (k + 1) 0) ∧ kpX (fun c => c = gR w 278 12 ∨ (lo3 ≤ c ∧ c < hi3)) w w' := by
  have eE : mE = 166 := rfl
  have cb := CU_cb u
  have b1 := cb.1
  have b5 := cb.2.2.2.2.1 k
  have b9 := cb.2.2.2.2.2.2.2.2.1 k
  have ar := ro.a
  have hb := ar.b
  have rb := ro.b
  have hb3 := r3.b
  have hx : xSp (ce u 1) k = ce u 1 3 >>> ((nI 2 + nI 4 * nI k) &&& 31) := rfl
  have cP : CU u 5 k 0 = bl (xSp (ce u 1) k) 4 := if_pos hk
  have f0 : FL w (wN w 50 9 9) 9 0 (begM (CU u) 0 3 k) := FL.new (by decide)
  have f1 := f0.set (x := nI 1) (by show nI 1 = nI (if k < CU u 0 0 3 then 1 else 0); rw [if_pos hk])
  have f2 := f1.set (x := nI 0) rfl
  have f3 := f2.set (x := nI 0) rfl
  have f4 := f3.set (x := nI (bl (xSp (ce u 1) k) 4)) (by rw [← cP]; rfl)
  have f5 := f4.set (x := nI 1) rfl
  have f6 := f5.set (x := nI 0) rfl
  have f7 := f6.set (x := nI 0) rfl
  have f8 := f7.set (x := nI 0) rfl
  have f9 := f8.set (x := nI 0) rfl
  have W1 := f9.ws ar k h
  have D1 := f9.rd ar k
  have O1 := f9.ro ro
  have X1 := f9.kx ar k
  have q1 := f9.pt ar
  have p1l := f9.pl ar
  have E1 := e8.kp X1 (by omega) (e8.ne ar)
  have T1 := r3.kp X1 (by omega) h13 (fun c z1 z2 => by omega)
  have dk := (dec_len k).1
  have dp := (dec_len (CU u 5 k 0)).1
  have q66 := sB_le (i := 66) (by decide)
  have q67 := sB_le (i := 67) (by decide)
  obtain ⟨p1, e1, a1, x1⟩ := W1.app (d := d) (i := 66) (by decide) (by omega)
  obtain ⟨p2, e2, a2, x2⟩ := a1.appI (d := d) (n := k) (by omega) (by simp only [List.length_append]; omega)
  obtain ⟨p3, e3, a3, x3⟩ := a2.app (d := d) (i := 67) (by decide) (by simp only [List.length_append]; omega)
  obtain ⟨p4, e4, a4, x4⟩ := a3.appI (d := d) (n := CU u 5 k 0) (by omega) (by simp only [List.length_append]; omega)
  have xx := ((x1.trans x2).trans x3).trans x4
  have D4 := D1.kw xx
  have O4 := O1.kw xx
  have T4 := T1.kw xx
  have E4 := E1.kp (X := fun _ => False) xx.kx id id
  obtain ⟨p5, e5, a5, T5, x5⟩ := wr_knows (d := d) hk hlo (CU u 10 k 0) 0 _ p4 _ (by omega) a4 (by simp only [List.length_append]; omega) E4 T4
  have wl := wkn_len (f := CU u 11 k) (g := CU u 12 k) (CU u 10 k 0) 0
  obtain ⟨p6, e6, a6, x6⟩ := a5.app (d := d) (i := 70) (by decide) (by simp only [List.length_append]; omega)
  rw [spe_tx (CU u) (by omega) b5.2.1.1] at a6
  have K4 := T4.rd hk
  have K4b := K4.b
  have K4t := T4.top hk
  have D4b := D4.b
  have X1s := X1.at (c := 278) ⟨by decide, by omega⟩ (by omega) (Or.inl ar.s)
  have xxs := (xx.kx (X := fun _ => False)).at (c := 278) ⟨by decide, by have := X1.1; omega⟩ id (Or.inl (X1s.1.trans ar.s))
  have g12 : gR p4 278 12 = gR w 278 12 := by unfold gR; rw [xxs.2.2.2, X1s.2.2.2]
  have n12 : ¬ gR p4 278 12 = gR p4 (gR p4 278 13) k := K4.ne O4.a
  have D5 := (D4.kp x5 K4.n8 n12 (by intro z; omega)).1
  have O5 := O4.kp x5 K4.n8 n12 (fun c z1 z2 => by omega)
  have D6 := D5.kw x6
  have T6 : RO p6 13 (CU u 0 0 3) (CU u 0 0 3) lo3 hi3 (fun _ => CU u 0 0 0) (knv (CU u) (k + 1) 0) := by
    refine (T5.kw x6).ext (fun i j hi' => ?_)
    show (if i < k then CU u 6 i j else if i = k then knF (CU u) i j (CU u 10 k 0) else 0) = (if i < k + 1 then CU u 6 i j else if i = k + 1 then 0 else 0)
    by_cases y : i < k
    · rw [if_pos y, if_pos (by omega)]
    · by_cases y2 : i = k
      · subst y2
        rw [if_neg y, if_pos rfl, if_pos (by omega), b9, if_pos hk]
      · rw [if_neg y, if_neg y2, if_neg (by omega)]
        split <;> rfl
  refine ⟨p6, ?_, a6.mono (by omega), (O5.kw x6).inc ⟨D6.a, D6.rr, D6.t, D6.l, ⟨by omega, by have := D6.b; omega, D6.b.2.2⟩, D6.2.2.2.2.2⟩, T6, ?_⟩
  · rw [b_167_492, ijle (by omega) (by omega), if_neg (by omega), b_167_498, h.cell h1 l1 (by decide)]
    simp only [mThen_ok, Option.toList_some, Option.toList_none, List.cons_append, List.nil_append]
    rw [b_167_503, ← hx, c_below _ (by decide) (by decide)]
    simp only [mThen_ok, Option.toList_some, Option.toList_none, List.cons_append, List.nil_append]
    rw [b_167_518 ar.s ar.rr, b_167_530 f0.t (by omega) (by rw [f0.l]; decide), b_167_534 f1.t (by omega) (by rw [f1.l]; decide), b_167_538 f2.t (by omega) (by rw [f2.l]; decide), b_167_542 f3.t (by omega) (by rw [f3.l]; decide), b_167_547 f4.t (by omega) (by rw [f4.l]; decide), b_167_551 f5.t (by omega) (by rw [f5.l]; decide), b_167_555 f6.t (by omega) (by rw [f6.l]; decide), b_167_560 f7.t (by omega) (by rw [f7.l]; decide), b_167_565 f8.t (by omega) (by rw [f8.l]; decide), b_167_570 (Or.inl q1) (by omega) (by rw [p1l]; exact hk), b_167_571 W1.1.1, e1]
    simp only [mThen_ok, Option.toList_some, Option.toList_none, List.cons_append, List.nil_append]
    rw [b_167_577 a1.1.1, e2]
    simp only [mThen_ok, Option.toList_some, Option.toList_none, List.cons_append, List.nil_append]
    rw [b_167_582 a2.1.1, e3]
    simp only [mThen_ok, Option.toList_some, Option.toList_none, List.cons_append, List.nil_append]
    rw [b_167_587 a3.1.1, ← cP, e4]
    simp only [mThen_ok, Option.toList_some, Option.toList_none, List.cons_append, List.nil_append]
    rw [b_167_592, e5, b_167_688 a5.1.1, e6]
    simp only [mThen_ok, Option.toList_some, Option.toList_none, List.cons_append, List.nil_append]
    rw [b_167_694, jadd]
  · refine ((X1.trans (xx.kx (X := fun _ => False)) (fun _ _ z => False.elim z)).mono (Y := fun c => c = gR w 278 12 ∨ (lo3 ≤ c ∧ c < hi3)) (fun c _ z => Or.inl z)).trans (x5.trans (x6.kx (X := fun _ => False)) (fun _ _ z => False.elim z)) (fun c hc z => ?_)
    refine Or.inr ?_
    have z' : c = gR p4 (gR p4 278 13) k := z
    omega
theorem wr_spes (h1 : mTg u 1 = 50) (l1 : mLn u 1 < 2147483648) (hlo : 290 < lo3) : ∀ (m k kk hi : Nat) (w : MW) (tx : List Nat), k + m = CU u 0 0 3 → WS u w tx kk → tx.length ≤ 800 + 80 * k → EA w u → ¬ gR w 278 13 = gR w 278 12 → gR w 278 12 < lo3 → RO w 12 (CU u 0 0 3) k lo hi (fun _ => 9) (begM (CU u) 0 3) → RO w 13 (CU u 0 0 3) (CU u 0 0 3) lo3 hi3 (fun _ => CU u 0 0 0) (knv (CU u) k 0) → hi3 ≤ lo →
    ∃ w', mX (d + 7) 167 492 [.ref 1, .ref 276, .ref 278, .int (nI (CU u 0 0 3)), .int (nI k), mJ, mJ, mJ, mJ] [] w = mX (d + 7) 167 701 [.ref 1, .ref 276, .ref 278, .int (nI (CU u 0 0 3)), mJ, mJ, mJ, mJ, mJ] [] w' ∧ WS u w' (tx ++ flat (secL (speL (CU u)) m k)) (kk + 22 * m) ∧ RO w' 12 (CU u 0 0 3) (CU u 0 0 3) lo (mSz w') (fun _ => 9) (begM (CU u) 0 3) ∧ RO w' 13 (CU u 0 0 3) (CU u 0 0 3) lo3 hi3 (fun _ => CU u 0 0 0) (CU u 6) ∧ kpX (fun c => c = gR w 278 12 ∨ (lo3 ≤ c ∧ c < hi3)) w w' := by
  have b1 := (CU_cb u).1
  intro m
  induction m with
  | zero =>
    intro k kk hi w tx ht h hl e8 h13 h12 ro r3 hh
    have ar := ro.a
    have er : k = CU u 0 0 3 := ht
    refine ⟨w, ?_, ?_, ?_, ?_, kpX.refl⟩
    · rw [b_167_492, ijle (by omega) (by omega), if_pos (by omega)]
    · rw [show flat (secL (speL (CU u)) 0 k) = [] from rfl, List.append_nil]
      exact h
    · rw [er] at ro
      exact ro.up ro.b.2.2 (Nat.le_refl _)
    · refine r3.ext (fun i j hi' => ?_)
      show (if i < k then CU u 6 i j else _) = _
      rw [if_pos (by omega)]
  | succ m ih =>
    intro k kk hi w tx ht h hl e8 h13 h12 ro r3 hh
    have ar := ro.a
    have hb := ar.b
    have rb3 := r3.b
    obtain ⟨w1, e1, a1, r1, t1, x1⟩ := wr_spe (d := d) h (by omega) h1 l1 e8 h13 h12 ro r3 hlo hh (by omega)
    have tl : (flat (speL (CU u) k)).length ≤ 80 := fl_spe ((CU_cb u).2.2.2.2.1 k).2.1.2
    have s := x1.at (c := 278) ⟨by decide, by omega⟩ (by omega) (Or.inl ar.s)
    have gg : ∀ f, gR w1 278 f = gR w 278 f := fun f => by unfold gR; rw [s.2.2.2]
    have e8b := e8.b
    have e8n := e8.ne ar
    obtain ⟨w2, e2, a2, r2, t2, x2⟩ := ih (k + 1) (kk + 22) (mSz w1) w1 (tx ++ flat (speL (CU u) k)) (by omega) a1 (by rw [List.length_append]; omega) (e8.kp x1 (by omega) (by omega)) (by rw [gg, gg]; exact h13) (by rw [gg]; exact h12) r1 t1 hh
    refine ⟨w2, e1.trans e2, ?_, r2, t2, x1.trans x2 (fun c _ z => by rw [gg] at z; exact z)⟩
    rw [show flat (secL (speL (CU u)) (m + 1) k) = flat (speL (CU u) k ++ secL (speL (CU u)) m (k + 1)) from rfl, flat_app, ← List.append_assoc]
    rw [show kk + 22 * (m + 1) = kk + 22 + 22 * m by omega]
    exact a2
theorem wr_spells (h1 : mTg u 1 = 50) (l1 : mLn u 1 < 2147483648) (h : WS u w tx kk) (hl : tx.length ≤ 800) (e8 : EA w u) (a9 : AR w 9 (CU u 0 0 1)) (hz : 291 ≤ mSz w) :
    ∃ w', mX (d + 7) 167 441 [.ref 1, .ref 276, .ref 278, mJ, mJ, mJ, mJ, mJ, mJ] [] w = mX (d + 7) 167 701 [.ref 1, .ref 276, .ref 278, .int (nI (CU u 0 0 3)), mJ, mJ, mJ, mJ, mJ] [] w' ∧ WS u w' (tx ++ flat (secL (speL (CU u)) (CU u 0 0 3) 0)) (kk + 1 + (1 + CU u 0 0 3) + (1 + CU u 0 0 3) + 22 * CU u 0 0 3) ∧ RO w' 12 (CU u 0 0 3) (CU u 0 0 3) (mSz w + 3 + CU u 0 0 3 + CU u 0 0 3) (mSz w') (fun _ => 9) (begM (CU u) 0 3) ∧ RO w' 13 (CU u 0 0 3) (CU u 0 0 3) (mSz w + 2) (mSz w + 2 + CU u 0 0 3) (fun _ => CU u 0 0 0) (CU u 6) ∧ RO w' 14 (CU u 0 0 3) (CU u 0 0 3) (mSz w + 3 + CU u 0 0 3) (mSz w + 3 + CU u 0 0 3 + CU u 0 0 3) (fun _ => CU u 0 0 1) (fun _ _ => 0) ∧ SX (fun f => (f = 12 ∨ f = 13) ∨ f = 14) w w' := by
  have eE : mE = 166 := rfl
  have b1 := (CU_cb u).1
  have hb := a9.b
  have hs : nI 2 + nI (bl (ce u 1 3) 3) = nI (CU u 0 0 3) := by rw [jadd]; rfl
  have m1 : CU u 0 0 3 * CU u 0 0 0 ≤ 4 * 3 := Nat.mul_le_mul (by omega) (by omega)
  have m2 : CU u 0 0 3 * CU u 0 0 1 ≤ 4 * 6 := Nat.mul_le_mul (by omega) (by omega)
  have W1 := na_ws (n := CU u 0 0 3) (f := 12) h a9.s (by omega) (mSz w)
  have R1 := na_ro (w := w) (n := CU u 0 0 3) (f := 12) (ln := fun _ => 9) (v := begM (CU u) 0 3) a9.s (by omega)
  have S1 := na_sx (w := w) (n := CU u 0 0 3) (f := 12) (by omega) (mSz w)
  have A1 := a9.sx S1 (by decide)
  have E1 := e8.sx S1 (by decide)
  have gA : gR (wR (wN w 52 (CU u 0 0 3) (CU u 0 0 3)) 278 12 (some (mSz w))) 278 12 = mSz w := gR_wR
  have t1 : mTg (wN w 52 (CU u 0 0 3) (CU u 0 0 3)) 278 = 10 := (tgN (w := w) (t := 52) (n := CU u 0 0 3) (k := CU u 0 0 3) (by omega)).trans a9.s
  have z1 : mSz (wR (wN w 52 (CU u 0 0 3) (CU u 0 0 3)) 278 12 (some (mSz w))) = mSz w + 1 := rfl
  generalize hw1 : wR (wN w 52 (CU u 0 0 3) (CU u 0 0 3)) 278 12 (some (mSz w)) = w1 at *
  have ar := R1.a
  have W2 := nm_ws (n := CU u 0 0 3) (L := CU u 0 0 0) (f := 13) W1 ar.s (by omega) (mSz w1)
  have R2 := nm_ro (w := w1) (n := CU u 0 0 3) (L := CU u 0 0 0) (f := 13) ar.s (by omega)
  have S2 := nm_sx (w := w1) (n := CU u 0 0 3) (L := CU u 0 0 0) (f := 13) (by omega) (mSz w1)
  have R1' := R1.sx S2 (by decide)
  have A2 := A1.1.sx S2 (by decide)
  have E2 := E1.sx S2 (by decide)
  have g2 := (ar.sx S2 (by decide)).2
  have gB : gR (wR (wM w1 (CU u 0 0 3) (CU u 0 0 0)) 278 13 (some (mSz w1))) 278 13 = mSz w1 := gR_wR
  have t2 : mTg (wM w1 (CU u 0 0 3) (CU u 0 0 0)) 278 = 10 := ((sm.wM (X := fun _ => False) (w := w1) (n := CU u 0 0 3) (L := CU u 0 0 0)).2 278 (by omega) id).1.trans ar.s
  have z2 : mSz (wR (wM w1 (CU u 0 0 3) (CU u 0 0 0)) 278 13 (some (mSz w1))) = mSz w1 + 1 + CU u 0 0 3 := rfl
  generalize hw2 : wR (wM w1 (CU u 0 0 3) (CU u 0 0 0)) 278 13 (some (mSz w1)) = w2 at *
  have W3 := nm_ws (n := CU u 0 0 3) (L := CU u 0 0 1) (f := 14) W2 A2.1.s (by omega) (mSz w2)
  have R3 := nm_ro (w := w2) (n := CU u 0 0 3) (L := CU u 0 0 1) (f := 14) A2.1.s (by omega)
  have S3 := nm_sx (w := w2) (n := CU u 0 0 3) (L := CU u 0 0 1) (f := 14) (by omega) (mSz w2)
  have R1'' := R1'.sx S3 (by decide)
  have R2' := R2.sx S3 (by decide)
  have A3 := A2.1.sx S3 (by decide)
  have E3 := E2.sx S3 (by decide)
  have g3 := (R1'.a.sx S3 (by decide)).2
  have g3' := (R2.a.sx S3 (by decide)).2
  have gC : gR (wR (wM w2 (CU u 0 0 3) (CU u 0 0 1)) 278 14 (some (mSz w2))) 278 14 = mSz w2 := gR_wR
  have t3 : mTg (wM w2 (CU u 0 0 3) (CU u 0 0 1)) 278 = 10 := ((sm.wM (X := fun _ => False) (w := w2) (n := CU u 0 0 3) (L := CU u 0 0 1)).2 278 (by omega) id).1.trans A2.1.s
  have z3 : mSz (wR (wM w2 (CU u 0 0 3) (CU u 0 0 1)) 278 14 (some (mSz w2))) = mSz w2 + 1 + CU u 0 0 3 := rfl
  generalize hw3 : wR (wM w2 (CU u 0 0 3) (CU u 0 0 1)) 278 14 (some (mSz w2)) = w3 at *
  have y2 : mSz w1 + 1 = mSz w + 2 := by omega
  have y3 : mSz w2 + 1 = mSz w + 3 + CU u 0 0 3 := by omega
  rw [y2] at R2'
  rw [y3] at R3
  have Ra : RO w3 12 (CU u 0 0 3) 0 (mSz w + 3 + CU u 0 0 3 + CU u 0 0 3) (mSz w + 3 + CU u 0 0 3 + CU u 0 0 3) (fun _ => 9) (begM (CU u) 0 3) := R1''.re0 (by omega) (Nat.le_refl _) (by omega)
  have Rk : RO w3 13 (CU u 0 0 3) (CU u 0 0 3) (mSz w + 2) (mSz w + 2 + CU u 0 0 3) (fun _ => CU u 0 0 0) (knv (CU u) 0 0) := R2'.ext (fun i j _ => by
    show 0 = (if i < 0 then _ else if i = 0 then 0 else 0)
    rw [if_neg (Nat.not_lt_zero _)]
    split <;> rfl)
  have ga : gR w3 278 12 = mSz w := by rw [g3, g2, gA]
  have gb : gR w3 278 13 = mSz w1 := by rw [g3', gB]
  obtain ⟨w4, e4, a4, r4, k4, x4⟩ := wr_spes (d := d) h1 l1 (lo3 := mSz w + 2) (by omega) (CU u 0 0 3) 0 _ _ w3 tx (by omega) W3 (by omega) E3 (by rw [ga, gb]; omega) (by rw [ga]; omega) Ra Rk (by omega)
  rw [ga] at x4
  have SS := ((S1.trans S2).trans S3).kx x4 a9.s (by omega) (fun c z => by omega)
  have R4 := R3.kp x4 (by omega) (by rw [gC]; omega) (fun c q1 q2 => by omega)
  refine ⟨w4, ?_, a4, r4, k4, R4, SS⟩
  rw [b_167_441, h.cell h1 l1 (by decide)]
  simp only [mThen_ok, Option.toList_some, Option.toList_none, List.cons_append, List.nil_append]
  rw [b_167_447, c_below _ (by decide) (by decide)]
  simp only [mThen_ok, Option.toList_some, Option.toList_none, List.cons_append, List.nil_append]
  rw [b_167_451 (z0 := CU u 0 0 3) hs (by omega) (by omega), hs, b_167_458 t1 (by omega), hw1, b_167_461 E1.s E1.rr E1.t5 (by rw [E1.l]) (by omega) (by omega) (by omega) (by omega), b_167_472 t2 (by omega), hw2, b_167_475 A2.1.s A2.1.rr A2.1.t5 (by rw [A2.1.l]) (by omega) (by omega) (by omega) (by omega), b_167_486 t3 (by omega), hw3, b_167_489, e4]
end
