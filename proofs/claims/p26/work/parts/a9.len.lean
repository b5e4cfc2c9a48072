/-! ===== the whole text: how many tokens and operations; roles ===== -/
section
variable {C : CD} {k : Nat}
theorem wor_len : (worL C k).length = 4 + C 3 k 0 := by
  unfold worL
  simp only [List.length_cons, List.length_append, List.length_nil, nams_len]
  omega
theorem spe_len : (speL C k).length = 5 + 3 * C 10 k 0 := by
  unfold speL
  simp only [List.length_cons, List.length_append, List.length_nil, knw_len]
  omega
theorem rou_len : (rouL C k).length = 8 + C 7 k 2 := by
  unfold rouL
  simp only [List.length_cons, List.length_append, List.length_nil, nams_len]
  omega
theorem ord_len {o p : Nat} : (ordL C o p).length ≤ 18 := by
  have := (tst_len (C 9 o 2) (C 9 o 4) (C 9 o 3) (C 9 o 5) 0).1
  unfold ordL
  simp only [List.length_cons, List.length_append, List.length_nil]
  omega
theorem EL_len (h : CB C) : (EL C).length ≤ 399 := by
  have z := EL_mu (μ := List.length) (w1 := 5) (w2 := 9) (w3 := 8) (w4 := 17) (w5 := 13) (w6 := 18) h rfl (fun a b => List.length_append) (fun k => Nat.le_refl _) (fun k => Nat.le_refl _) (fun k => by have := (h.2.2.2.1 k).2.1; rw [wor_len]; omega) (fun k => by have := (h.2.2.2.2.1 k).2.1.2; rw [spe_len]; omega) (fun k => by have := (h.2.2.2.2.2.2.1 k).2.2.2.1; rw [rou_len]; omega) (fun o p => ord_len)
  omega
theorem testP_le (m i : Nat) : (testP m i).length ≤ 10 := by
  unfold testP
  split <;> exact Nat.le_of_ble_eq_true rfl
theorem PL_len (h : CB C) : (PL C).length ≤ 400 := by
  have key : ∀ (m o i : Nat), (codeL C m o i).length ≤ 10 * m := by
    intro m
    induction m with
    | zero => intro o i; exact Nat.le_refl _
    | succ m ih =>
      intro o i
      have h1 := testP_le (C 9 o 2) (i + 3)
      have h2 := ih (o + 1) (i + (ordL C o 0).length)
      show (testP (C 9 o 2) (i + 3) ++ codeL C m (o + 1) (i + (ordL C o 0).length)).length ≤ _
      rw [List.length_append]
      omega
  have h1 := h.1
  have := key (C 0 0 5) 0 (headL C).length
  show (codeL C (C 0 0 5) 0 (headL C).length).length ≤ 400
  omega
/-- tokens with a role that there isn't -/
def rb (E : List Tk) : Nat := E.countP (fun t => decide (21 ≤ tR t))
theorem rb_app (a b : List Tk) : rb (a ++ b) = rb a + rb b := List.countP_append
theorem rb_nms {c r : Nat} {f : Nat → Nat} (hr : r < 21) : ∀ (m k : Nat), rb (nams c r f m k) = 0 := by
  intro m
  induction m with
  | zero => intro k; rfl
  | succ m ih =>
    intro k
    have e : rb (nams c r f (m + 1) k) = rb [nmT c (f k) (if m = 0 then [] else [32]) r] + rb (nams c r f m (k + 1)) := rb_app [_] _
    have z : rb [nmT c (f k) (if m = 0 then [] else [32]) r] = 0 := by
      unfold rb
      rw [List.countP_eq_zero]
      intro t ht
      rw [List.mem_singleton] at ht
      subst ht
      rw [decide_eq_true_eq]
      show ¬ 21 ≤ r
      omega
    rw [e, ih, z]
theorem rb_knw {f g : Nat → Nat} : ∀ (m k : Nat), rb (knwL f g m k) = 0 := by
  intro m
  induction m with
  | zero => intro k; rfl
  | succ m ih =>
    intro k
    have e : rb (knwL f g (m + 1) k) = rb [kwT 10 [32], nmT 116 (f k) [32] 8, nuT (g k) (if m = 0 then [] else [32]) 18] + rb (knwL f g m (k + 1)) := rb_app [_, _, _] _
    rw [e, ih]
    rfl
theorem rb_tst (m s n v : Nat) : rb (testL m s n v) = 0 := by
  match m with
  | 0 => rfl
  | 1 => rfl
  | 2 => rfl
  | 3 => rfl
  | 4 => rfl
  | 5 => rfl
  | 6 => rfl
  | 7 => rfl
  | _ + 8 => rfl
theorem EL_role (h : CB C) (j : Nat) : tR ((EL C).getD j tk0) < 21 := by
  have z := EL_mu (μ := rb) (w1 := 0) (w2 := 0) (w3 := 0) (w4 := 0) (w5 := 0) (w6 := 0) h rfl rb_app (fun k => Nat.le_refl _) (fun k => Nat.le_refl _)
    (fun k => by
      have e : rb (worL C k) = rb [kwT 6 [32], nmT 119 k [32] 3, kwT 7 [32]] + rb (nams 114 9 (C 4 k) (C 3 k 0) 0 ++ [syT 59 []]) := rb_app [_, _, _] _
      rw [e, rb_app, rb_nms (by decide)]
      exact Nat.le_refl _)
    (fun k => by
      have e : rb (speL C k) = rb [kwT 8 [32], nmT 115 k [32] 4, kwT 9 [32], nuT (C 5 k 0) [32] 17] + rb (knwL (C 11 k) (C 12 k) (C 10 k 0) 0 ++ [syT 59 [10]]) := rb_app [_, _, _, _] _
      rw [e, rb_app, rb_knw]
      exact Nat.le_refl _)
    (fun k => by
      have e : rb (rouL C k) = rb [kwT 11 [32], nmT 113 k [32] 5, kwT 12 [32], nuT (C 7 k 0) [32] 19, kwT 13 [32], nuT (C 7 k 1) [32] 20, kwT 14 [32]] + rb (nams 119 10 (C 8 k) (C 7 k 2) 0 ++ [syT 59 []]) := rb_app [_, _, _, _, _, _, _] _
      rw [e, rb_app, rb_nms (by decide)]
      exact Nat.le_refl _)
    (fun o p => by
      have e : rb (ordL C o p) = rb [orT (15 + C 9 o 0) [32] p, nmT 115 (C 9 o 1) [32] 11, kwT 18 [32]] + rb (testL (C 9 o 2) (C 9 o 4) (C 9 o 3) (C 9 o 5) ++ [syT 59 []]) := rb_app [_, _, _] _
      rw [e, rb_app, rb_tst]
      exact Nat.le_refl _)
  have z0 : rb (EL C) = 0 := by omega
  rw [List.getD_eq_getElem?_getD]
  cases g : (EL C)[j]? with
  | none => show 0 < 21; omega
  | some t =>
    have q := List.countP_eq_zero.mp z0 t (List.mem_of_getElem? g)
    rw [decide_eq_true_eq] at q
    show tR t < 21
    omega
end
