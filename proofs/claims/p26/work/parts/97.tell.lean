/-! ===== the teller reads a whole list ===== -/
/-- a name's number is among those told, also where it isn't asked for -/
def RgOk (C : CD) : Prop := (∀ v p, v < C 0 0 2 → p < 4 → C 4 v p < C 0 0 1) ∧ (∀ q p, q < C 0 0 4 → p < 8 → C 8 q p < C 0 0 2) ∧ ∀ r, r < C 0 0 1 → 1 ≤ C 2 r 1
section
variable {d i j m n t a b c e f g q : Nat} {u w : MW} {tx : List Nat} {E : List Tk} {M M' : Nat → Nat → Nat} {N N' : Nat → Nat} {C : CD} {rE : List Tk}
/-- a section of lines: what is told after k lines is told by Q k -/
theorem ts_sec {D B : Nat} {F : Nat → List Tk} {Q : Nat → (Nat → Nat → Nat) → (Nat → Nat) → Prop} (hf : ∀ t i q M N rE, t < B → Q t M N → E.drop i = F t ++ rE → ∃ M' N' q' i', TR u tx E D M N q i M' N' q' i' ∧ Q (t + 1) M' N' ∧ E.drop i' = rE ∧ i' ≤ E.length) :
    ∀ (m t i q : Nat) (M : Nat → Nat → Nat) (N : Nat → Nat) (rE : List Tk), t + m ≤ B → i ≤ E.length → Q t M N → E.drop i = secL F m t ++ rE → ∃ M' N' q' i', TR u tx E D M N q i M' N' q' i' ∧ Q (t + m) M' N' ∧ E.drop i' = rE ∧ i' ≤ E.length := by
  intro m
  induction m with
  | zero => intro t i q M N rE ht hi hq h; exact ⟨M, N, q, i, TR.refl, hq, h, hi⟩
  | succ m ih =>
    intro t i q M N rE ht hi hq h
    have h' : E.drop i = F t ++ (secL F m (t + 1) ++ rE) := by rw [h]; show (F t ++ secL F m (t + 1)) ++ rE = _; rw [List.append_assoc]
    obtain ⟨M1, N1, q1, i1, a1, a2, a3, a4⟩ := hf t i q M N _ (by omega) hq h'
    obtain ⟨M2, N2, q2, i2, b1, b2, b3, b4⟩ := ih (t + 1) i1 q1 M1 N1 rE (by omega) a4 a2 a3
    rw [show t + 1 + m = t + (m + 1) by omega] at b2
    exact ⟨M2, N2, q2, i2, a1.trans b1, b2, b3, b4⟩
theorem ts_ords (hc : CfOk C) : ∀ (m t i q : Nat) (M : Nat → Nat → Nat) (N : Nat → Nat), t + m ≤ C 0 0 5 → i ≤ E.length → FI C E M N (C 0 0 0) (C 0 0 1) (C 0 0 2) (C 0 0 3) (C 0 0 4) t → E.drop i = ordsL C m t (posM C t) → ∃ M' N' q' i', TR u tx E (d + 5) M N q i M' N' q' i' ∧ FI C E M' N' (C 0 0 0) (C 0 0 1) (C 0 0 2) (C 0 0 3) (C 0 0 4) (t + m) ∧ E.drop i' = [] ∧ i' ≤ E.length := by
  intro m
  induction m with
  | zero => intro t i q M N ht hi hq h; exact ⟨M, N, q, i, TR.refl, hq, h, hi⟩
  | succ m ih =>
    intro t i q M N ht hi hq h
    have hb := hc.1
    have ho := hc.2.2.2.2.2.2 t (by omega)
    have h' : E.drop i = ordL C t (posM C t) ++ ordsL C m (t + 1) (posM C (t + 1)) := h
    obtain ⟨M1, N1, q1, i1, a1, a2, a3, a4⟩ := tl_ord (u := u) (tx := tx) (d := d) (q := q) hq (by omega) (by omega) (by omega) ⟨ho.2.1, ho.2.2.2.2.1, ho.2.2.2.2.2⟩ h'
    obtain ⟨M2, N2, q2, i2, b1, b2, b3, b4⟩ := ih (t + 1) i1 q1 M1 N1 (by omega) a4 a2 a3
    rw [show t + 1 + m = t + (m + 1) by omega] at b2
    exact ⟨M2, N2, q2, i2, a1.trans b1, b2, b3, b4⟩
theorem FI.zero (h0 : ∀ a j, M a j = 0) (hN : ∀ j, N j = 0) : FI C E M N 0 0 0 0 0 0 := by
  refine ⟨⟨h0 _ _, h0 _ _, h0 _ _, h0 _ _, h0 _ _, h0 _ _⟩, fun k hk => absurd hk (by omega), fun k hk => absurd hk (by omega), ⟨fun k hk => absurd hk (by omega), fun _ _ => h0 _ _⟩, ⟨fun k hk => absurd hk (by omega), fun _ _ _ => ⟨h0 _ _, fun _ _ => h0 _ _⟩⟩, ⟨fun k hk => absurd hk (by omega), fun _ _ => h0 _ _⟩, fun k hk => absurd hk (by omega), fun j => by rw [hN]; omega, fun k hk => absurd hk (by omega), fun k hk => absurd hk (by omega), fun k hk => absurd hk (by omega), fun k hk => absurd hk (by omega), fun k hk => absurd hk (by omega)⟩
theorem ts_all (hc : CfOk C) (hn : KnOk C) (hr : RgOk C) (hE : E = EL C) (h0 : FI C E M N 0 0 0 0 0 0) : ∃ M' N' q' i', TR u tx E (d + 5) M N q 0 M' N' q' i' ∧ FI C E M' N' (C 0 0 0) (C 0 0 1) (C 0 0 2) (C 0 0 3) (C 0 0 4) (C 0 0 5) ∧ E.drop i' = [] ∧ i' ≤ E.length := by
  have hb := hc.1
  have s0 : E.drop 0 = secL (tonL C) (C 0 0 0) 0 ++ (secL (rooL C) (C 0 0 1) 0 ++ (secL (worL C) (C 0 0 2) 0 ++ (secL (speL C) (C 0 0 3) 0 ++ (secL (rouL C) (C 0 0 4) 0 ++ ordsL C (C 0 0 5) 0 0)))) := by
    rw [List.drop_zero, hE]
    unfold EL headL
    simp only [List.append_assoc]
  obtain ⟨M1, N1, q1, i1, a1, f1, x1, y1⟩ := ts_sec (u := u) (tx := tx) (D := d + 5) (F := tonL C) (B := C 0 0 0) (Q := fun t M N => FI C E M N t 0 0 0 0 0) (fun t i q M N rE ht hq h => tl_ton hq (by omega) (hc.2.1 t ht) h) (C 0 0 0) 0 0 q M N _ (by omega) (Nat.zero_le _) h0 s0
  rw [Nat.zero_add] at f1
  obtain ⟨M2, N2, q2, i2, a2, f2, x2, y2⟩ := ts_sec (u := u) (tx := tx) (D := d + 5) (F := rooL C) (B := C 0 0 1) (Q := fun t M N => FI C E M N (C 0 0 0) t 0 0 0 0) (fun t i q M N rE ht hq h => tl_roo hq (by omega) (by omega) ⟨(hc.2.2.1 t ht).1, hr.2.2 t ht, (hc.2.2.1 t ht).2.1, (hc.2.2.1 t ht).2.2⟩ h) (C 0 0 1) 0 i1 q1 M1 N1 _ (by omega) y1 f1 x1
  rw [Nat.zero_add] at f2
  obtain ⟨M3, N3, q3, i3, a3, f3, x3, y3⟩ := ts_sec (u := u) (tx := tx) (D := d + 5) (F := worL C) (B := C 0 0 2) (Q := fun t M N => FI C E M N (C 0 0 0) (C 0 0 1) t 0 0 0) (fun t i q M N rE ht hq h => tl_wor hq (by omega) (by omega) (by omega) (hc.2.2.2.1 t ht).2.1 (fun p hp => hr.1 t p ht hp) (fun v hv => (hc.2.2.2.1 v (by omega)).2.1) h) (C 0 0 2) 0 i2 q2 M2 N2 _ (by omega) y2 f2 x2
  rw [Nat.zero_add] at f3
  obtain ⟨M4, N4, q4, i4, a4, f4, x4, y4⟩ := ts_sec (u := u) (tx := tx) (D := d + 5) (F := speL C) (B := C 0 0 3) (Q := fun t M N => FI C E M N (C 0 0 0) (C 0 0 1) (C 0 0 2) t 0 0) (fun t i q M N rE ht hq h => tl_spe hq ⟨by omega, by omega⟩ (by omega) (by omega) (hc.2.2.2.2.1 t ht).1 (fun k => ⟨((hn t ht).1 k).2, ((hn t ht).1 k).1⟩) h) (C 0 0 3) 0 i3 q3 M3 N3 _ (by omega) y3 f3 x3
  rw [Nat.zero_add] at f4
  obtain ⟨M5, N5, q5, i5, a5, f5, x5, y5⟩ := ts_sec (u := u) (tx := tx) (D := d + 5) (F := rouL C) (B := C 0 0 4) (Q := fun t M N => FI C E M N (C 0 0 0) (C 0 0 1) (C 0 0 2) (C 0 0 3) t 0) (fun t i q M N rE ht hq h => tl_rou hq ⟨by omega, by omega, by omega⟩ (by omega) (by omega) ⟨(hc.2.2.2.2.2.1 t ht).1, (hc.2.2.2.2.2.1 t ht).2.1, (hc.2.2.2.2.2.1 t ht).2.2.1⟩ (hc.2.2.2.2.2.1 t ht).2.2.2.2.1 (fun p hp => hr.2.1 t p ht hp) (fun v hv => (hc.2.2.2.2.2.1 v (by omega)).2.2.2.2.1) h) (C 0 0 4) 0 i4 q4 M4 N4 _ (by omega) y4 f4 x4
  rw [Nat.zero_add] at f5
  obtain ⟨M6, N6, q6, i6, a6, f6, x6, y6⟩ := ts_ords (u := u) (tx := tx) (d := d) hc (C 0 0 5) 0 i5 q5 M5 N5 (by omega) y5 f5 x5
  rw [Nat.zero_add] at f6
  exact ⟨M6, N6, q6, i6, ((((a1.trans a2).trans a3).trans a4).trans a5).trans a6, f6, x6, y6⟩
/-- the teller's loop: from the first token to behind the last -/
theorem ts_loop (hc : CfOk C) (hn : KnOk C) (hr : RgOk C) (hE : E = EL C) (h0 : ∀ a j, M a j = 0) (hN : ∀ j, N j = 0) (h : TI u w tx E M N q 0) : ∃ w' M' N' q', mX (d + 5) 62 9 [.ref 218, .int (nI 0), mJ] [] w = mX (d + 5) 62 43 [.ref 218, mJ, mJ] [] w' ∧ TI u w' tx E M' N' q' (E.length + 1) ∧ FI C E M' N' (C 0 0 0) (C 0 0 1) (C 0 0 2) (C 0 0 3) (C 0 0 4) (C 0 0 5) := by
  obtain ⟨M', N', q', i', r, f, x, y⟩ := ts_all (u := u) (tx := tx) (d := d) (q := q) hc hn hr hE (FI.zero (C := C) (E := E) h0 hN)
  have L : i' = E.length := by
    have := congrArg List.length x
    rw [List.length_drop, List.length_nil] at this
    omega
  subst L
  have r2 : TR u tx E (d + 5) M' N' q' E.length M' N' q' (E.length + 1) := TR.step (lk_0 (Nat.le_refl _) (by rw [List.getD_eq_getElem?_getD, List.getElem?_eq_none (Nat.le_refl _)]; rfl)) (Nat.le_refl _)
  obtain ⟨w1, e1, h1⟩ := (r.trans r2) w h
  refine ⟨w1, M', N', q', ?_, h1, f⟩
  have k := h1.k
  have hl := h1.1.2.1
  have sz : mI w1 169 6 = nI (E.length + 1) := by rw [h1.2.2.1.out (by unfold tF; omega)]; exact h1.1.2.2.2.1
  rw [e1, b_62_9 k.t6 k.s60 k.t60, k.g60, sz, ijle (by omega) (by omega), if_pos (Nat.le_refl _)]
end
