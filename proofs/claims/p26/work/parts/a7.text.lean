/-! ===== the whole text: tokens, roles, lengths, bytes ===== -/
section
variable {C : CD} {rE : List Tk} {t : Tk} {i j k n s v : Nat}
theorem lex_ton (h : CB C) (hk : k < 10) (hr : lexL rE = true) : lexL (tonL C k ++ rE) = true := by
  have h2 := h.2.1 k
  show lexL (kwT 0 [32] :: nmT 116 k [32] 1 :: kwT 1 [32] :: nuT (C 1 k 0) (if k % 2 = 0 then [] else [32]) 14 :: syT 59 (if k % 2 = 0 then [] else [10]) :: rE) = true
  refine lex_b (ok_kwb (by decide)) rfl (lex_b (ok_nmb (by decide) (by decide) hk) rfl (lex_b (ok_kwb (by decide)) rfl ?_))
  by_cases z : k % 2 = 0
  · rw [if_pos z, if_pos z]
    exact lex_e (b := 0) (c := 59) (ok_nue (by omega)) rfl ⟨rfl, Nat.le_refl _⟩ (nx_nu0 _ (by omega) 59 (by decide)) (lex_s (Or.inl rfl) hr)
  · rw [if_neg z, if_neg z]
    exact lex_b (ok_nub (by omega)) rfl (lex_s (Or.inr (Or.inl rfl)) hr)
theorem lex_roo (h : CB C) (hk : k < 10) (hr : lexL rE = true) : lexL (rooL C k ++ rE) = true := by
  have h1 := h.1
  have h2 := h.2.2.1 k
  show lexL (kwT 2 [32] :: nmT 114 k [32] 2 :: kwT 3 [32] :: nmT 116 (C 2 k 0) [32] 7 :: kwT 4 [32] :: nuT (C 2 k 1) [32] 15 :: kwT 5 [32] :: nuT (C 2 k 2) [] 16 :: syT 59 [] :: rE) = true
  exact lex_b (ok_kwb (by decide)) rfl (lex_b (ok_nmb (by decide) (by decide) hk) rfl (lex_b (ok_kwb (by decide)) rfl (lex_b (ok_nmb (by decide) (by decide) (by omega)) rfl (lex_b (ok_kwb (by decide)) rfl (lex_b (ok_nub (by omega)) rfl (lex_b (ok_kwb (by decide)) rfl (lex_e (b := 0) (c := 59) (ok_nue (by omega)) rfl ⟨rfl, Nat.le_refl _⟩ (nx_nu0 _ (by omega) 59 (by decide)) (lex_s (Or.inl rfl) hr))))))))
theorem lex_wor (h : CB C) (hk : k < 10) (hr : lexL rE = true) : lexL (worL C k ++ rE) = true := by
  have h1 := h.1
  have h2 := h.2.2.2.1 k
  have e : worL C k ++ rE = kwT 6 [32] :: nmT 119 k [32] 3 :: kwT 7 [32] :: (nams 114 9 (C 4 k) (C 3 k 0) 0 ++ (syT 59 [] :: rE)) := by unfold worL; simp only [List.cons_append, List.append_assoc, List.nil_append]
  rw [e]
  exact lex_b (ok_kwb (by decide)) rfl (lex_b (ok_nmb (by decide) (by decide) hk) rfl (lex_b (ok_kwb (by decide)) rfl (lex_nms (by decide) (by decide) (fun p => by have := h2.2.2 p; omega) hr _ _)))
theorem lex_spe (h : CB C) (hk : k < 10) (hr : lexL rE = true) : lexL (speL C k ++ rE) = true := by
  have h1 := h.1
  have h2 := h.2.2.2.2.1 k
  have e : speL C k ++ rE = kwT 8 [32] :: nmT 115 k [32] 4 :: kwT 9 [32] :: nuT (C 5 k 0) [32] 17 :: (knwL (C 11 k) (C 12 k) (C 10 k 0) 0 ++ (syT 59 [10] :: rE)) := by unfold speL; simp only [List.cons_append, List.append_assoc, List.nil_append]
  rw [e]
  exact lex_b (ok_kwb (by decide)) rfl (lex_b (ok_nmb (by decide) (by decide) hk) rfl (lex_b (ok_kwb (by decide)) rfl (lex_b (ok_nub (by omega)) rfl (lex_knw (fun p => by have := h2.2.2 p; omega) hr _ _))))
theorem lex_rou (h : CB C) (hk : k < C 0 0 4) (hr : lexL rE = true) : lexL (rouL C k ++ rE) = true := by
  have h1 := h.1
  have h0 := h.2.2.2.2.2.1 k hk
  have h2 := h.2.2.2.2.2.2.1 k
  have e : rouL C k ++ rE = kwT 11 [32] :: nmT 113 k [32] 5 :: kwT 12 [32] :: nuT (C 7 k 0) [32] 19 :: kwT 13 [32] :: nuT (C 7 k 1) [32] 20 :: kwT 14 [32] :: (nams 119 10 (C 8 k) (C 7 k 2) 0 ++ (syT 59 [] :: rE)) := by unfold rouL; simp only [List.cons_append, List.append_assoc, List.nil_append]
  rw [e]
  exact lex_b (ok_kwb (by decide)) rfl (lex_b (ok_nmb (by decide) (by decide) (by omega)) rfl (lex_b (ok_kwb (by decide)) rfl (lex_b (ok_nub (by omega)) rfl (lex_b (ok_kwb (by decide)) rfl (lex_b (ok_nub (by omega)) rfl (lex_b (ok_kwb (by decide)) rfl (lex_nms (by decide) (by decide) (fun p => by have := h2.2.2.2.2 p; omega) hr _ _)))))))
theorem lex_ord {o p : Nat} (h : CB C) (hr : lexL rE = true) : lexL (ordL C o p ++ rE) = true := by
  have h1 := h.1
  have h2 := h.2.2.2.2.2.2.2.1 o
  have e : ordL C o p ++ rE = orT (15 + C 9 o 0) [32] p :: nmT 115 (C 9 o 1) [32] 11 :: kwT 18 [32] :: (testL (C 9 o 2) (C 9 o 4) (C 9 o 3) (C 9 o 5) ++ (syT 59 [] :: rE)) := by unfold ordL; simp only [List.cons_append, List.append_assoc, List.nil_append]
  rw [e]
  exact lex_b (ok_or (by omega) (by omega)) rfl (lex_b (ok_nmb (by decide) (by decide) (by omega)) rfl (lex_b (ok_kwb (by decide)) rfl (lex_test (by omega) (by omega) (by omega) (lex_s (Or.inl rfl) hr))))
theorem lex_sec {f : Nat → List Tk} {B : Nat} (hf : ∀ k rE, k < B → lexL rE = true → lexL (f k ++ rE) = true) (hr : lexL rE = true) : ∀ (m k : Nat), k + m ≤ B → lexL (secL f m k ++ rE) = true := by
  intro m
  induction m with
  | zero => intro k _; exact hr
  | succ m ih =>
    intro k hk
    show lexL ((f k ++ secL f m (k + 1)) ++ rE) = true
    rw [List.append_assoc]
    exact hf k _ (by omega) (ih (k + 1) (by omega))
theorem lex_EL (h : CB C) : lexL (EL C) = true := by
  have h1 := h.1
  have ords : ∀ (m o p : Nat), lexL (ordsL C m o p) = true := by
    intro m
    induction m with
    | zero => intro o p; rfl
    | succ m ih => intro o p; exact lex_ord h (ih _ _)
  unfold EL headL
  simp only [List.append_assoc]
  exact lex_sec (B := C 0 0 0) (fun k r hk hr => lex_ton h (by omega) hr) (lex_sec (B := C 0 0 1) (fun k r hk hr => lex_roo h (by omega) hr) (lex_sec (B := C 0 0 2) (fun k r hk hr => lex_wor h (by omega) hr) (lex_sec (B := C 0 0 3) (fun k r hk hr => lex_spe h (by omega) hr) (lex_sec (B := C 0 0 4) (fun k r hk hr => lex_rou h hk hr) (ords _ _ _) _ _ (by omega)) _ _ (by omega)) _ _ (by omega)) _ _ (by omega)) _ _ (by omega)
/-- a token's bytes are ASCII -/
theorem lex_lt {b : List Nat} (h : lexOk b = true) : ∀ x ∈ b, x < 128 := by
  intro x hx
  unfold lexOk at h
  split at h
  · rw [Bool.and_eq_true, List.all_eq_true] at h
    have z := h.1 x hx
    unfold alB isD isL at z
    rw [Bool.or_eq_true, Bool.and_eq_true, Bool.and_eq_true, decide_eq_true_eq, decide_eq_true_eq, decide_eq_true_eq, decide_eq_true_eq] at z
    omega
  · split at h
    · rw [Bool.and_eq_true, List.all_eq_true] at h
      have z := h.1 x hx
      unfold isD at z
      rw [Bool.and_eq_true, decide_eq_true_eq, decide_eq_true_eq] at z
      omega
    · rw [Bool.or_eq_true, Bool.or_eq_true, beq_iff_eq, beq_iff_eq, Bool.and_eq_true, decide_eq_true_eq] at h
      rcases h with (q | q) | q
      · rw [q] at hx; simp only [List.mem_cons, List.not_mem_nil, or_false] at hx; omega
      · rw [q] at hx; simp only [List.mem_cons, List.not_mem_nil, or_false] at hx; omega
      · have hm : b.getD 0 0 ∈ sB 0 := List.contains_iff_mem.mp q.2
        match b, q.1, hx, hm with
        | [y], _, hx, hm =>
          rw [List.mem_singleton] at hx
          subst hx
          have hm2 : x ∈ sB 0 := hm
          obtain ⟨j, hj, ej⟩ := List.getElem_of_mem hm2
          have := sB_lt (i := 0) (j := j) (by decide)
          rw [List.getD_eq_getElem?_getD, List.getElem?_eq_getElem hj, ej] at this
          exact this
theorem flat_lt : ∀ (E : List Tk), lexL E = true → ∀ x ∈ flat E, x < 128 := by
  intro E
  induction E with
  | nil => intro _ x hx; exact absurd hx (List.not_mem_nil)
  | cons t r ih =>
    intro h x hx
    obtain ⟨x1, x2, x3, x4, x5⟩ := lexL_split r t h
    have hx' : x ∈ tB t ++ (tP t ++ flat r) := hx
    rw [List.mem_append, List.mem_append] at hx'
    rcases hx' with hx' | hx' | hx'
    · exact lex_lt x1 x hx'
    · rw [List.all_eq_true] at x3
      have z := x3 x hx'
      unfold isS at z
      rw [Bool.or_eq_true, decide_eq_true_eq, decide_eq_true_eq] at z
      omega
    · exact ih x5 x hx'
theorem text_lt (h : CB C) (p : Nat) : (flat (EL C)).getD p 0 < 128 := by
  rw [List.getD_eq_getElem?_getD]
  cases g : (flat (EL C))[p]? with
  | none => show 0 < 128; omega
  | some b => exact flat_lt _ (lex_EL h) b (List.mem_of_getElem? g)
end
