/-! ===== the whole text: roles, lengths ===== -/
theorem flat_app : ∀ (a b : List Tk), flat (a ++ b) = flat a ++ flat b := by
  intro a
  induction a with
  | nil => intro b; rfl
  | cons t r ih =>
    intro b
    show tB t ++ (tP t ++ flat (r ++ b)) = (tB t ++ (tP t ++ flat r)) ++ flat b
    rw [ih, List.append_assoc, List.append_assoc]
/-- bytes of tokens -/
def fl (E : List Tk) : Nat := (flat E).length
theorem fl_app (a b : List Tk) : fl (a ++ b) = fl a + fl b := by unfold fl; rw [flat_app, List.length_append]
theorem fl_cons (t : Tk) (r : List Tk) : fl (t :: r) = (tB t).length + (tP t).length + fl r := by
  show (tB t ++ (tP t ++ flat r)).length = _
  rw [List.length_append, List.length_append, Nat.add_assoc]
  rfl
theorem kw_le : ∀ k, k < 31 → (sB (k + 1)).length ≤ 7 := by decide +kernel
section
variable {C : CD} {rE : List Tk} {t : Tk} {i j k n s v : Nat} {po : List Nat}
theorem fl_kw (hk : k < 31) : fl (kwT k po :: rE) ≤ 7 + po.length + fl rE := by
  rw [fl_cons]
  have := kw_le k hk
  show (sB (k + 1)).length + po.length + _ ≤ _
  omega
theorem fl_or {p : Nat} (hk : k < 31) : fl (orT k po p :: rE) ≤ 7 + po.length + fl rE := by
  rw [fl_cons]
  have := kw_le k hk
  show (sB (k + 1)).length + po.length + _ ≤ _
  omega
theorem fl_nm {c r : Nat} : fl (nmT c j po r :: rE) ≤ 2 + po.length + fl rE := by rw [fl_cons]; exact Nat.le_refl _
theorem fl_nu {r : Nat} : fl (nuT n po r :: rE) ≤ 2 + po.length + fl rE := by
  rw [fl_cons]
  have := (dec_len n).1
  show (dec n).length + po.length + _ ≤ _
  omega
theorem fl_sy {b : Nat} : fl (syT b po :: rE) ≤ 1 + po.length + fl rE := by rw [fl_cons]; exact Nat.le_refl _
theorem fl_wi {b : Nat} : fl (wiT b k po :: rE) ≤ 2 + po.length + fl rE := by rw [fl_cons]; exact Nat.le_refl _
theorem fl_nil : fl [] = 0 := rfl
theorem po_le {a b : List Nat} {q : Prop} [Decidable q] (ha : a.length ≤ 1) (hb : b.length ≤ 1) : (if q then a else b).length ≤ 1 := by split <;> assumption
theorem fl_nms {c r : Nat} {f : Nat → Nat} : ∀ (m k : Nat), fl (nams c r f m k) ≤ 3 * m := by
  intro m
  induction m with
  | zero => intro k; exact Nat.le_refl _
  | succ m ih =>
    intro k
    show fl (nmT c (f k) (if m = 0 then [] else [32]) r :: nams c r f m (k + 1)) ≤ _
    have h1 := fl_nm (c := c) (j := f k) (po := if m = 0 then [] else [32]) (r := r) (rE := nams c r f m (k + 1))
    have h2 := po_le (q := m = 0) (a := []) (b := [32]) (by decide) (by decide)
    have h3 := ih (k + 1)
    omega
theorem fl_knw {f g : Nat → Nat} : ∀ (m k : Nat), fl (knwL f g m k) ≤ 14 * m := by
  intro m
  induction m with
  | zero => intro k; exact Nat.le_refl _
  | succ m ih =>
    intro k
    show fl (kwT 10 [32] :: nmT 116 (f k) [32] 8 :: nuT (g k) (if m = 0 then [] else [32]) 18 :: knwL f g m (k + 1)) ≤ _
    have h0 := fl_kw (k := 10) (po := [32]) (rE := nmT 116 (f k) [32] 8 :: nuT (g k) (if m = 0 then [] else [32]) 18 :: knwL f g m (k + 1)) (by decide)
    have h1 := fl_nm (c := 116) (j := f k) (po := [32]) (r := 8) (rE := nuT (g k) (if m = 0 then [] else [32]) 18 :: knwL f g m (k + 1))
    have h4 := fl_nu (n := g k) (po := if m = 0 then [] else [32]) (r := 18) (rE := knwL f g m (k + 1))
    have h2 := po_le (q := m = 0) (a := []) (b := [32]) (by decide) (by decide)
    have h3 := ih (k + 1)
    have h5 : ([32] : List Nat).length = 1 := rfl
    omega
/-- a measure of lists of tokens, over a section -/
theorem sec_mu {μ : List Tk → Nat} {f : Nat → List Tk} {B W : Nat} (h0 : μ [] = 0) (ha : ∀ a b, μ (a ++ b) = μ a + μ b) (hf : ∀ k, k < B → μ (f k) ≤ W) : ∀ (m k : Nat), k + m ≤ B → μ (secL f m k) ≤ m * W := by
  intro m
  induction m with
  | zero => intro k _; rw [show secL f 0 k = [] from rfl, h0]; exact Nat.zero_le _
  | succ m ih =>
    intro k hk
    have h1 := hf k (by omega)
    have h2 := ih (k + 1) (by omega)
    rw [show secL f (m + 1) k = f k ++ secL f m (k + 1) from rfl, ha, Nat.succ_mul]
    omega
theorem fl_ton : fl (tonL C k) ≤ 25 := by
  have p1 := po_le (q := k % 2 = 0) (a := []) (b := [32]) (by decide) (by decide)
  have p2 := po_le (q := k % 2 = 0) (a := []) (b := [10]) (by decide) (by decide)
  have h5 : ([32] : List Nat).length = 1 := rfl
  unfold tonL
  refine Nat.le_trans (fl_kw (by decide)) ?_
  refine Nat.le_trans (Nat.add_le_add_left fl_nm _) ?_
  refine Nat.le_trans (Nat.add_le_add_left (Nat.add_le_add_left (fl_kw (by decide)) _) _) ?_
  refine Nat.le_trans (Nat.add_le_add_left (Nat.add_le_add_left (Nat.add_le_add_left fl_nu _) _) _) ?_
  refine Nat.le_trans (Nat.add_le_add_left (Nat.add_le_add_left (Nat.add_le_add_left (Nat.add_le_add_left fl_sy _) _) _) _) ?_
  rw [fl_nil]
  omega
theorem fl_roo : fl (rooL C k) ≤ 44 := by
  have h5 : ([32] : List Nat).length = 1 := rfl
  have h6 : ([] : List Nat).length = 0 := rfl
  have a8 := fl_sy (b := 59) (po := []) (rE := [])
  have a7 := fl_nu (n := C 2 k 2) (po := []) (r := 16) (rE := [syT 59 []])
  have a6 := fl_kw (k := 5) (po := [32]) (rE := [nuT (C 2 k 2) [] 16, syT 59 []]) (by decide)
  have a5 := fl_nu (n := C 2 k 1) (po := [32]) (r := 15) (rE := [kwT 5 [32], nuT (C 2 k 2) [] 16, syT 59 []])
  have a4 := fl_kw (k := 4) (po := [32]) (rE := [nuT (C 2 k 1) [32] 15, kwT 5 [32], nuT (C 2 k 2) [] 16, syT 59 []]) (by decide)
  have a3 := fl_nm (c := 116) (j := C 2 k 0) (po := [32]) (r := 7) (rE := [kwT 4 [32], nuT (C 2 k 1) [32] 15, kwT 5 [32], nuT (C 2 k 2) [] 16, syT 59 []])
  have a2 := fl_kw (k := 3) (po := [32]) (rE := [nmT 116 (C 2 k 0) [32] 7, kwT 4 [32], nuT (C 2 k 1) [32] 15, kwT 5 [32], nuT (C 2 k 2) [] 16, syT 59 []]) (by decide)
  have a1 := fl_nm (c := 114) (j := k) (po := [32]) (r := 2) (rE := [kwT 3 [32], nmT 116 (C 2 k 0) [32] 7, kwT 4 [32], nuT (C 2 k 1) [32] 15, kwT 5 [32], nuT (C 2 k 2) [] 16, syT 59 []])
  have a0 := fl_kw (k := 2) (po := [32]) (rE := [nmT 114 k [32] 2, kwT 3 [32], nmT 116 (C 2 k 0) [32] 7, kwT 4 [32], nuT (C 2 k 1) [32] 15, kwT 5 [32], nuT (C 2 k 2) [] 16, syT 59 []]) (by decide)
  rw [fl_nil] at a8
  unfold rooL
  omega
theorem fl_wor (h : C 3 k 0 ≤ 4) : fl (worL C k) ≤ 32 := by
  have h5 : ([32] : List Nat).length = 1 := rfl
  have h6 : ([] : List Nat).length = 0 := rfl
  have a3 := fl_nms (c := 114) (r := 9) (f := C 4 k) (C 3 k 0) 0
  have a4 := fl_sy (b := 59) (po := []) (rE := [])
  have e := fl_app (nams 114 9 (C 4 k) (C 3 k 0) 0) [syT 59 []]
  have a2 := fl_kw (k := 7) (po := [32]) (rE := nams 114 9 (C 4 k) (C 3 k 0) 0 ++ [syT 59 []]) (by decide)
  have a1 := fl_nm (c := 119) (j := k) (po := [32]) (r := 3) (rE := kwT 7 [32] :: (nams 114 9 (C 4 k) (C 3 k 0) 0 ++ [syT 59 []]))
  have a0 := fl_kw (k := 6) (po := [32]) (rE := nmT 119 k [32] 3 :: kwT 7 [32] :: (nams 114 9 (C 4 k) (C 3 k 0) 0 ++ [syT 59 []])) (by decide)
  rw [fl_nil] at a4
  unfold worL
  omega
theorem fl_spe (h : C 10 k 0 ≤ 4) : fl (speL C k) ≤ 80 := by
  have h5 : ([32] : List Nat).length = 1 := rfl
  have h6 : ([10] : List Nat).length = 1 := rfl
  have a5 := fl_knw (f := C 11 k) (g := C 12 k) (C 10 k 0) 0
  have a4 := fl_sy (b := 59) (po := [10]) (rE := [])
  have e := fl_app (knwL (C 11 k) (C 12 k) (C 10 k 0) 0) [syT 59 [10]]
  have a3 := fl_nu (n := C 5 k 0) (po := [32]) (r := 17) (rE := knwL (C 11 k) (C 12 k) (C 10 k 0) 0 ++ [syT 59 [10]])
  have a2 := fl_kw (k := 9) (po := [32]) (rE := nuT (C 5 k 0) [32] 17 :: (knwL (C 11 k) (C 12 k) (C 10 k 0) 0 ++ [syT 59 [10]])) (by decide)
  have a1 := fl_nm (c := 115) (j := k) (po := [32]) (r := 4) (rE := kwT 9 [32] :: nuT (C 5 k 0) [32] 17 :: (knwL (C 11 k) (C 12 k) (C 10 k 0) 0 ++ [syT 59 [10]]))
  have a0 := fl_kw (k := 8) (po := [32]) (rE := nmT 115 k [32] 4 :: kwT 9 [32] :: nuT (C 5 k 0) [32] 17 :: (knwL (C 11 k) (C 12 k) (C 10 k 0) 0 ++ [syT 59 [10]])) (by decide)
  rw [fl_nil] at a4
  unfold speL
  omega
theorem fl_rou (h : C 7 k 2 ≤ 5) : fl (rouL C k) ≤ 60 := by
  have h5 : ([32] : List Nat).length = 1 := rfl
  have h6 : ([] : List Nat).length = 0 := rfl
  have a7 := fl_nms (c := 119) (r := 10) (f := C 8 k) (C 7 k 2) 0
  have a8 := fl_sy (b := 59) (po := []) (rE := [])
  have e := fl_app (nams 119 10 (C 8 k) (C 7 k 2) 0) [syT 59 []]
  have a6 := fl_kw (k := 14) (po := [32]) (rE := nams 119 10 (C 8 k) (C 7 k 2) 0 ++ [syT 59 []]) (by decide)
  have a5 := fl_nu (n := C 7 k 1) (po := [32]) (r := 20) (rE := kwT 14 [32] :: (nams 119 10 (C 8 k) (C 7 k 2) 0 ++ [syT 59 []]))
  have a4 := fl_kw (k := 13) (po := [32]) (rE := nuT (C 7 k 1) [32] 20 :: kwT 14 [32] :: (nams 119 10 (C 8 k) (C 7 k 2) 0 ++ [syT 59 []])) (by decide)
  have a3 := fl_nu (n := C 7 k 0) (po := [32]) (r := 19) (rE := kwT 13 [32] :: nuT (C 7 k 1) [32] 20 :: kwT 14 [32] :: (nams 119 10 (C 8 k) (C 7 k 2) 0 ++ [syT 59 []]))
  have a2 := fl_kw (k := 12) (po := [32]) (rE := nuT (C 7 k 0) [32] 19 :: kwT 13 [32] :: nuT (C 7 k 1) [32] 20 :: kwT 14 [32] :: (nams 119 10 (C 8 k) (C 7 k 2) 0 ++ [syT 59 []])) (by decide)
  have a1 := fl_nm (c := 113) (j := k) (po := [32]) (r := 5) (rE := kwT 12 [32] :: nuT (C 7 k 0) [32] 19 :: kwT 13 [32] :: nuT (C 7 k 1) [32] 20 :: kwT 14 [32] :: (nams 119 10 (C 8 k) (C 7 k 2) 0 ++ [syT 59 []]))
  have a0 := fl_kw (k := 11) (po := [32]) (rE := nmT 113 k [32] 5 :: kwT 12 [32] :: nuT (C 7 k 0) [32] 19 :: kwT 13 [32] :: nuT (C 7 k 1) [32] 20 :: kwT 14 [32] :: (nams 119 10 (C 8 k) (C 7 k 2) 0 ++ [syT 59 []])) (by decide)
  rw [fl_nil] at a8
  unfold rouL
  omega
theorem fl_cons_le {W : Nat} (h : (tB t).length + (tP t).length ≤ W) (r : List Tk) : fl (t :: r) ≤ W + fl r := by rw [fl_cons]; omega
theorem tst_fl0 (s nn v : Nat) : fl (testL 0 s nn v) ≤ 60 := by
  have h5 : ([32] : List Nat).length = 1 := rfl
  have h6 : ([] : List Nat).length = 0 := rfl
  show fl [kwT 23 [32], nmT 115 s [] 12, syT 62 [], nuT nn [] 0] ≤ 60
  have a0 := fl_kw (k := 23) (po := [32]) (rE := [nmT 115 s [] 12, syT 62 [], nuT nn [] 0]) (by decide)
  have a1 := fl_nm (c := 115) (j := s) (po := []) (r := 12) (rE := [syT 62 [], nuT nn [] 0])
  have a2 := fl_sy (b := 62) (po := []) (rE := [nuT nn [] 0])
  have a3 := fl_nu (n := nn) (po := []) (r := 0) (rE := [])
  have z : fl ([] : List Tk) = 0 := rfl
  omega
theorem tst_fl1 (s nn v : Nat) : fl (testL 1 s nn v) ≤ 60 := by
  have h5 : ([32] : List Nat).length = 1 := rfl
  have h6 : ([] : List Nat).length = 0 := rfl
  show fl [kwT 21 [32], nmT 115 s [] 12, wiT 62 257 [], nuT nn [] 0] ≤ 60
  have a0 := fl_kw (k := 21) (po := [32]) (rE := [nmT 115 s [] 12, wiT 62 257 [], nuT nn [] 0]) (by decide)
  have a1 := fl_nm (c := 115) (j := s) (po := []) (r := 12) (rE := [wiT 62 257 [], nuT nn [] 0])
  have a2 := fl_wi (b := 62) (k := 257) (po := []) (rE := [nuT nn [] 0])
  have a3 := fl_nu (n := nn) (po := []) (r := 0) (rE := [])
  have z : fl ([] : List Tk) = 0 := rfl
  omega
theorem tst_fl2 (s nn v : Nat) : fl (testL 2 s nn v) ≤ 60 := by
  have h5 : ([32] : List Nat).length = 1 := rfl
  have h6 : ([] : List Nat).length = 0 := rfl
  show fl [kwT 22 [32], nmT 115 s [] 12, syT 61 [], nuT (1) [] 0] ≤ 60
  have a0 := fl_kw (k := 22) (po := [32]) (rE := [nmT 115 s [] 12, syT 61 [], nuT (1) [] 0]) (by decide)
  have a1 := fl_nm (c := 115) (j := s) (po := []) (r := 12) (rE := [syT 61 [], nuT (1) [] 0])
  have a2 := fl_sy (b := 61) (po := []) (rE := [nuT (1) [] 0])
  have a3 := fl_nu (n := 1) (po := []) (r := 0) (rE := [])
  have z : fl ([] : List Tk) = 0 := rfl
  omega
theorem tst_fl3 (s nn v : Nat) : fl (testL 3 s nn v) ≤ 60 := by
  have h5 : ([32] : List Nat).length = 1 := rfl
  have h6 : ([] : List Nat).length = 0 := rfl
  show fl [kwT 19 [32], syT 62 [32], nuT nn [] 0] ≤ 60
  have a0 := fl_kw (k := 19) (po := [32]) (rE := [syT 62 [32], nuT nn [] 0]) (by decide)
  have a1 := fl_sy (b := 62) (po := [32]) (rE := [nuT nn [] 0])
  have a2 := fl_nu (n := nn) (po := []) (r := 0) (rE := [])
  have z : fl ([] : List Tk) = 0 := rfl
  omega
theorem tst_fl4 (s nn v : Nat) : fl (testL 4 s nn v) ≤ 60 := by
  have h5 : ([32] : List Nat).length = 1 := rfl
  have h6 : ([] : List Nat).length = 0 := rfl
  show fl [kwT 20 [], wiT 60 256 [], nuT nn [32] 0, kwT 27 [32], kwT 9 [32], nmT 115 s [] 12, syT 62 [], nuT (0) [] 0] ≤ 60
  have a0 := fl_kw (k := 20) (po := []) (rE := [wiT 60 256 [], nuT nn [32] 0, kwT 27 [32], kwT 9 [32], nmT 115 s [] 12, syT 62 [], nuT (0) [] 0]) (by decide)
  have a1 := fl_wi (b := 60) (k := 256) (po := []) (rE := [nuT nn [32] 0, kwT 27 [32], kwT 9 [32], nmT 115 s [] 12, syT 62 [], nuT (0) [] 0])
  have a2 := fl_nu (n := nn) (po := [32]) (r := 0) (rE := [kwT 27 [32], kwT 9 [32], nmT 115 s [] 12, syT 62 [], nuT (0) [] 0])
  have a3 := fl_kw (k := 27) (po := [32]) (rE := [kwT 9 [32], nmT 115 s [] 12, syT 62 [], nuT (0) [] 0]) (by decide)
  have a4 := fl_kw (k := 9) (po := [32]) (rE := [nmT 115 s [] 12, syT 62 [], nuT (0) [] 0]) (by decide)
  have a5 := fl_nm (c := 115) (j := s) (po := []) (r := 12) (rE := [syT 62 [], nuT (0) [] 0])
  have a6 := fl_sy (b := 62) (po := []) (rE := [nuT (0) [] 0])
  have a7 := fl_nu (n := 0) (po := []) (r := 0) (rE := [])
  have z : fl ([] : List Tk) = 0 := rfl
  omega
theorem tst_fl5 (s nn v : Nat) : fl (testL 5 s nn v) ≤ 60 := by
  have h5 : ([32] : List Nat).length = 1 := rfl
  have h6 : ([] : List Nat).length = 0 := rfl
  show fl [kwT 26 [32], kwT 25 [32], nmT 115 s [32] 12, kwT 28 [32], kwT 5 [32], nmT 119 v [] 13, syT 62 [], nuT nn [] 0] ≤ 60
  have a0 := fl_kw (k := 26) (po := [32]) (rE := [kwT 25 [32], nmT 115 s [32] 12, kwT 28 [32], kwT 5 [32], nmT 119 v [] 13, syT 62 [], nuT nn [] 0]) (by decide)
  have a1 := fl_kw (k := 25) (po := [32]) (rE := [nmT 115 s [32] 12, kwT 28 [32], kwT 5 [32], nmT 119 v [] 13, syT 62 [], nuT nn [] 0]) (by decide)
  have a2 := fl_nm (c := 115) (j := s) (po := [32]) (r := 12) (rE := [kwT 28 [32], kwT 5 [32], nmT 119 v [] 13, syT 62 [], nuT nn [] 0])
  have a3 := fl_kw (k := 28) (po := [32]) (rE := [kwT 5 [32], nmT 119 v [] 13, syT 62 [], nuT nn [] 0]) (by decide)
  have a4 := fl_kw (k := 5) (po := [32]) (rE := [nmT 119 v [] 13, syT 62 [], nuT nn [] 0]) (by decide)
  have a5 := fl_nm (c := 119) (j := v) (po := []) (r := 13) (rE := [syT 62 [], nuT nn [] 0])
  have a6 := fl_sy (b := 62) (po := []) (rE := [nuT nn [] 0])
  have a7 := fl_nu (n := nn) (po := []) (r := 0) (rE := [])
  have z : fl ([] : List Tk) = 0 := rfl
  omega
theorem tst_fl6 (s nn v : Nat) : fl (testL 6 s nn v) ≤ 60 := by
  have h5 : ([32] : List Nat).length = 1 := rfl
  have h6 : ([] : List Nat).length = 0 := rfl
  show fl [syT 91 [], kwT 24 [32], nmT 115 s [] 12, syT 93 [], kwT 27 [32], kwT 23 [32], nmT 115 s [] 12, syT 45 [], kwT 5 [32], nmT 119 v [] 13, syT 47 [], nuT (2) [] 0, syT 60 [], nuT nn [] 0] ≤ 60
  have a0 := fl_sy (b := 91) (po := []) (rE := [kwT 24 [32], nmT 115 s [] 12, syT 93 [], kwT 27 [32], kwT 23 [32], nmT 115 s [] 12, syT 45 [], kwT 5 [32], nmT 119 v [] 13, syT 47 [], nuT (2) [] 0, syT 60 [], nuT nn [] 0])
  have a1 := fl_kw (k := 24) (po := [32]) (rE := [nmT 115 s [] 12, syT 93 [], kwT 27 [32], kwT 23 [32], nmT 115 s [] 12, syT 45 [], kwT 5 [32], nmT 119 v [] 13, syT 47 [], nuT (2) [] 0, syT 60 [], nuT nn [] 0]) (by decide)
  have a2 := fl_nm (c := 115) (j := s) (po := []) (r := 12) (rE := [syT 93 [], kwT 27 [32], kwT 23 [32], nmT 115 s [] 12, syT 45 [], kwT 5 [32], nmT 119 v [] 13, syT 47 [], nuT (2) [] 0, syT 60 [], nuT nn [] 0])
  have a3 := fl_sy (b := 93) (po := []) (rE := [kwT 27 [32], kwT 23 [32], nmT 115 s [] 12, syT 45 [], kwT 5 [32], nmT 119 v [] 13, syT 47 [], nuT (2) [] 0, syT 60 [], nuT nn [] 0])
  have a4 := fl_kw (k := 27) (po := [32]) (rE := [kwT 23 [32], nmT 115 s [] 12, syT 45 [], kwT 5 [32], nmT 119 v [] 13, syT 47 [], nuT (2) [] 0, syT 60 [], nuT nn [] 0]) (by decide)
  have a5 := fl_kw (k := 23) (po := [32]) (rE := [nmT 115 s [] 12, syT 45 [], kwT 5 [32], nmT 119 v [] 13, syT 47 [], nuT (2) [] 0, syT 60 [], nuT nn [] 0]) (by decide)
  have a6 := fl_nm (c := 115) (j := s) (po := []) (r := 12) (rE := [syT 45 [], kwT 5 [32], nmT 119 v [] 13, syT 47 [], nuT (2) [] 0, syT 60 [], nuT nn [] 0])
  have a7 := fl_sy (b := 45) (po := []) (rE := [kwT 5 [32], nmT 119 v [] 13, syT 47 [], nuT (2) [] 0, syT 60 [], nuT nn [] 0])
  have a8 := fl_kw (k := 5) (po := [32]) (rE := [nmT 119 v [] 13, syT 47 [], nuT (2) [] 0, syT 60 [], nuT nn [] 0]) (by decide)
  have a9 := fl_nm (c := 119) (j := v) (po := []) (r := 13) (rE := [syT 47 [], nuT (2) [] 0, syT 60 [], nuT nn [] 0])
  have a10 := fl_sy (b := 47) (po := []) (rE := [nuT (2) [] 0, syT 60 [], nuT nn [] 0])
  have a11 := fl_nu (n := 2) (po := []) (r := 0) (rE := [syT 60 [], nuT nn [] 0])
  have a12 := fl_sy (b := 60) (po := []) (rE := [nuT nn [] 0])
  have a13 := fl_nu (n := nn) (po := []) (r := 0) (rE := [])
  have z : fl ([] : List Tk) = 0 := rfl
  omega
theorem tst_fl7 (s nn v : Nat) : fl (testL 7 s nn v) ≤ 60 := by
  have h5 : ([32] : List Nat).length = 1 := rfl
  have h6 : ([] : List Nat).length = 0 := rfl
  show fl [nuT (1) [] 0, syT 61 [], nuT (1) [] 0] ≤ 60
  have a0 := fl_nu (n := 1) (po := []) (r := 0) (rE := [syT 61 [], nuT (1) [] 0])
  have a1 := fl_sy (b := 61) (po := []) (rE := [nuT (1) [] 0])
  have a2 := fl_nu (n := 1) (po := []) (r := 0) (rE := [])
  have z : fl ([] : List Tk) = 0 := rfl
  omega
theorem tst_fl8 (s nn v : Nat) : fl (testL 8 s nn v) ≤ 60 := by
  have h5 : ([32] : List Nat).length = 1 := rfl
  have h6 : ([] : List Nat).length = 0 := rfl
  show fl [kwT 29 [], syT 40 [], kwT 21 [32], nmT 115 s [] 12, syT 44 [], nuT nn [] 0, syT 41 [], syT 42 [], nuT (2) [] 0, syT 62 [], kwT 19 [], syT 47 [], nuT (3) [] 0] ≤ 60
  have a0 := fl_kw (k := 29) (po := []) (rE := [syT 40 [], kwT 21 [32], nmT 115 s [] 12, syT 44 [], nuT nn [] 0, syT 41 [], syT 42 [], nuT (2) [] 0, syT 62 [], kwT 19 [], syT 47 [], nuT (3) [] 0]) (by decide)
  have a1 := fl_sy (b := 40) (po := []) (rE := [kwT 21 [32], nmT 115 s [] 12, syT 44 [], nuT nn [] 0, syT 41 [], syT 42 [], nuT (2) [] 0, syT 62 [], kwT 19 [], syT 47 [], nuT (3) [] 0])
  have a2 := fl_kw (k := 21) (po := [32]) (rE := [nmT 115 s [] 12, syT 44 [], nuT nn [] 0, syT 41 [], syT 42 [], nuT (2) [] 0, syT 62 [], kwT 19 [], syT 47 [], nuT (3) [] 0]) (by decide)
  have a3 := fl_nm (c := 115) (j := s) (po := []) (r := 12) (rE := [syT 44 [], nuT nn [] 0, syT 41 [], syT 42 [], nuT (2) [] 0, syT 62 [], kwT 19 [], syT 47 [], nuT (3) [] 0])
  have a4 := fl_sy (b := 44) (po := []) (rE := [nuT nn [] 0, syT 41 [], syT 42 [], nuT (2) [] 0, syT 62 [], kwT 19 [], syT 47 [], nuT (3) [] 0])
  have a5 := fl_nu (n := nn) (po := []) (r := 0) (rE := [syT 41 [], syT 42 [], nuT (2) [] 0, syT 62 [], kwT 19 [], syT 47 [], nuT (3) [] 0])
  have a6 := fl_sy (b := 41) (po := []) (rE := [syT 42 [], nuT (2) [] 0, syT 62 [], kwT 19 [], syT 47 [], nuT (3) [] 0])
  have a7 := fl_sy (b := 42) (po := []) (rE := [nuT (2) [] 0, syT 62 [], kwT 19 [], syT 47 [], nuT (3) [] 0])
  have a8 := fl_nu (n := 2) (po := []) (r := 0) (rE := [syT 62 [], kwT 19 [], syT 47 [], nuT (3) [] 0])
  have a9 := fl_sy (b := 62) (po := []) (rE := [kwT 19 [], syT 47 [], nuT (3) [] 0])
  have a10 := fl_kw (k := 19) (po := []) (rE := [syT 47 [], nuT (3) [] 0]) (by decide)
  have a11 := fl_sy (b := 47) (po := []) (rE := [nuT (3) [] 0])
  have a12 := fl_nu (n := 3) (po := []) (r := 0) (rE := [])
  have z : fl ([] : List Tk) = 0 := rfl
  omega
theorem tst_fl (m s n v : Nat) : fl (testL m s n v) ≤ 60 := by
  match m with
  | 0 => exact tst_fl0 s n v
  | 1 => exact tst_fl1 s n v
  | 2 => exact tst_fl2 s n v
  | 3 => exact tst_fl3 s n v
  | 4 => exact tst_fl4 s n v
  | 5 => exact tst_fl5 s n v
  | 6 => exact tst_fl6 s n v
  | 7 => exact tst_fl7 s n v
  | _ + 8 => exact tst_fl8 s n v
theorem fl_ord {o p : Nat} (h : C 9 o 0 < 3) : fl (ordL C o p) ≤ 80 := by
  have h5 : ([32] : List Nat).length = 1 := rfl
  have h6 : ([] : List Nat).length = 0 := rfl
  have a3 := tst_fl (C 9 o 2) (C 9 o 4) (C 9 o 3) (C 9 o 5)
  have a4 := fl_sy (b := 59) (po := []) (rE := [])
  have e := fl_app (testL (C 9 o 2) (C 9 o 4) (C 9 o 3) (C 9 o 5)) [syT 59 []]
  have a2 := fl_kw (k := 18) (po := [32]) (rE := testL (C 9 o 2) (C 9 o 4) (C 9 o 3) (C 9 o 5) ++ [syT 59 []]) (by decide)
  have a1 := fl_nm (c := 115) (j := C 9 o 1) (po := [32]) (r := 11) (rE := kwT 18 [32] :: (testL (C 9 o 2) (C 9 o 4) (C 9 o 3) (C 9 o 5) ++ [syT 59 []]))
  have a0 := fl_or (k := 15 + C 9 o 0) (po := [32]) (p := p) (rE := nmT 115 (C 9 o 1) [32] 11 :: kwT 18 [32] :: (testL (C 9 o 2) (C 9 o 4) (C 9 o 3) (C 9 o 5) ++ [syT 59 []])) (by omega)
  rw [fl_nil] at a4
  unfold ordL
  omega
theorem ords_mu {μ : List Tk → Nat} {W : Nat} (h0 : μ [] = 0) (ha : ∀ a b, μ (a ++ b) = μ a + μ b) (hf : ∀ o p, μ (ordL C o p) ≤ W) : ∀ (m o p : Nat), μ (ordsL C m o p) ≤ m * W := by
  intro m
  induction m with
  | zero => intro o p; rw [show ordsL C 0 o p = [] from rfl, h0]; exact Nat.zero_le _
  | succ m ih =>
    intro o p
    have h1 := hf o p
    have h2 := ih (o + 1) (p + (testP (C 9 o 2) 0).length)
    rw [show ordsL C (m + 1) o p = ordL C o p ++ ordsL C m (o + 1) (p + (testP (C 9 o 2) 0).length) from rfl, ha, Nat.succ_mul]
    omega
theorem EL_mu {μ : List Tk → Nat} {w1 w2 w3 w4 w5 w6 : Nat} (h : CB C) (h0 : μ [] = 0) (ha : ∀ a b, μ (a ++ b) = μ a + μ b) (m1 : ∀ k, μ (tonL C k) ≤ w1) (m2 : ∀ k, μ (rooL C k) ≤ w2) (m3 : ∀ k, μ (worL C k) ≤ w3) (m4 : ∀ k, μ (speL C k) ≤ w4) (m5 : ∀ k, μ (rouL C k) ≤ w5) (m6 : ∀ o p, μ (ordL C o p) ≤ w6) : μ (EL C) ≤ 3 * w1 + 6 * w2 + 6 * w3 + 4 * w4 + 3 * w5 + 8 * w6 := by
  have h1 := h.1
  have s1 := sec_mu (B := C 0 0 0) h0 ha (fun k _ => m1 k) (C 0 0 0) 0 (by omega)
  have s2 := sec_mu (B := C 0 0 1) h0 ha (fun k _ => m2 k) (C 0 0 1) 0 (by omega)
  have s3 := sec_mu (B := C 0 0 2) h0 ha (fun k _ => m3 k) (C 0 0 2) 0 (by omega)
  have s4 := sec_mu (B := C 0 0 3) h0 ha (fun k _ => m4 k) (C 0 0 3) 0 (by omega)
  have s5 := sec_mu (B := C 0 0 4) h0 ha (fun k _ => m5 k) (C 0 0 4) 0 (by omega)
  have s6 := ords_mu (C := C) h0 ha m6 (C 0 0 5) 0 0
  have t1 : C 0 0 0 * w1 ≤ 3 * w1 := Nat.mul_le_mul_right _ (by omega)
  have t2 : C 0 0 1 * w2 ≤ 6 * w2 := Nat.mul_le_mul_right _ (by omega)
  have t3 : C 0 0 2 * w3 ≤ 6 * w3 := Nat.mul_le_mul_right _ (by omega)
  have t4 : C 0 0 3 * w4 ≤ 4 * w4 := Nat.mul_le_mul_right _ (by omega)
  have t5 : C 0 0 4 * w5 ≤ 3 * w5 := Nat.mul_le_mul_right _ (by omega)
  have t6 : C 0 0 5 * w6 ≤ 8 * w6 := Nat.mul_le_mul_right _ (by omega)
  unfold EL headL
  rw [ha, ha, ha, ha, ha]
  omega
theorem text_len (h : CB C) : (flat (EL C)).length < 2000 := by
  have z := EL_mu (μ := fl) (w1 := 25) (w2 := 44) (w3 := 32) (w4 := 80) (w5 := 60) (w6 := 80) h rfl fl_app (fun k => fl_ton) (fun k => fl_roo) (fun k => fl_wor (h.2.2.2.1 k).2.1) (fun k => fl_spe (h.2.2.2.2.1 k).2.1.2) (fun k => fl_rou (h.2.2.2.2.2.2.1 k).2.2.2.1) (fun o p => fl_ord (h.2.2.2.2.2.2.2.1 o).1)
  have e : (flat (EL C)).length = fl (EL C) := rfl
  omega
end
