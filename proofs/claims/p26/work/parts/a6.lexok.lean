/-! ===== a list's text: bounds of its numbers; every token is one: by program (wip/p26/mklexok.py) ===== -/
/-- what bounds a list's numbers -/
def CB (C : CD) : Prop :=
  (1 ≤ C 0 0 0 ∧ C 0 0 0 ≤ 3 ∧ 2 ≤ C 0 0 1 ∧ C 0 0 1 ≤ 6 ∧ 2 ≤ C 0 0 2 ∧ C 0 0 2 ≤ 6 ∧ 2 ≤ C 0 0 3 ∧ C 0 0 3 ≤ 4 ∧ 1 ≤ C 0 0 4 ∧ C 0 0 4 ≤ 3 ∧ C 0 0 5 ≤ 8) ∧
  (∀ k, C 1 k 0 ≤ 4) ∧ (∀ r, C 2 r 0 < C 0 0 0 ∧ 1 ≤ C 2 r 1 ∧ C 2 r 1 ≤ 9 ∧ C 2 r 2 ≤ 7) ∧
  (∀ v, 1 ≤ C 3 v 0 ∧ C 3 v 0 ≤ 4 ∧ ∀ p, C 4 v p < C 0 0 1) ∧
  (∀ s, (C 5 s 0 ≤ 3) ∧ (1 ≤ C 10 s 0 ∧ C 10 s 0 ≤ 4) ∧ ∀ i, C 11 s i < C 0 0 0 ∧ C 12 s i < 15) ∧
  (∀ q, q < C 0 0 4 → C 7 q 0 ≤ 14) ∧ (∀ q, 1 ≤ C 7 q 1 ∧ C 7 q 1 ≤ 3 ∧ 1 ≤ C 7 q 2 ∧ C 7 q 2 ≤ 5 ∧ ∀ p, C 8 q p < C 0 0 2) ∧
  (∀ o, C 9 o 0 < 3 ∧ C 9 o 1 < C 0 0 3 ∧ C 9 o 2 < 9 ∧ C 9 o 3 ≤ 6 ∧ C 9 o 4 < C 0 0 3 ∧ C 9 o 5 < C 0 0 2) ∧
  (∀ s k, C 6 s k = if s < C 0 0 3 then knF C s k (C 10 s 0) else 0) ∧ ∀ s, C 0 0 3 ≤ s → C 5 s 0 = 0
def okT (t : Tk) : Bool := lexOk (tB t) && (kdOf (tB t) == tK t) && (tP t).all isS
section
variable {C : CD} {rE : List Tk} {t t2 : Tk} {i j k n s v nn : Nat} {po : List Nat}
theorem knF_lt (h : CB C) (s k : Nat) : ∀ n, knF C s k n < 15 := by
  intro n
  induction n with
  | zero => exact Nat.zero_lt_succ _
  | succ n ih =>
    unfold knF
    split
    · exact ((h.2.2.2.2.1 s).2.2 n).2
    · exact ih
theorem CB.cf (h : CB C) : CfOk C := by
  have h1 := h.1
  have h2 := h.2.1
  have h3 := h.2.2.1
  have h4 := h.2.2.2.1
  have h5 := h.2.2.2.2.1
  have h6 := h.2.2.2.2.2.1
  have h7 := h.2.2.2.2.2.2.1
  have h8 := h.2.2.2.2.2.2.2.1
  have h9 := h.2.2.2.2.2.2.2.2.1
  refine ⟨⟨by omega, by omega, by omega, by omega, by omega, by omega⟩, fun k _ => by have := h2 k; omega, fun r _ => by have := h3 r; omega, fun v _ => ⟨(h4 v).1, (h4 v).2.1, fun p _ => (h4 v).2.2 p⟩, fun s hs => ⟨(h5 s).1, fun k _ => ?_⟩, fun q hq => ⟨by have := h6 q hq; omega, by have := h7 q; omega, by have := h7 q; omega, by have := h7 q; omega, by have := h7 q; omega, fun p _ => (h7 q).2.2.2.2 p⟩, fun o _ => by have := h8 o; omega⟩
  rw [h9, if_pos hs]
  have := knF_lt h s k (C 10 s 0)
  omega
theorem CB.kn (h : CB C) : KnOk C := fun s _ => ⟨fun i => ⟨((h.2.2.2.2.1 s).2.2 i).2, ((h.2.2.2.2.1 s).2.2 i).1⟩, (h.2.2.2.2.1 s).2.1.1, (h.2.2.2.2.1 s).2.1.2⟩
theorem CB.rg (h : CB C) : RgOk C := ⟨fun v p _ _ => (h.2.2.2.1 v).2.2 p, fun q p _ _ => (h.2.2.2.2.2.2.1 q).2.2.2.2 p, fun r _ => (h.2.2.1 r).2.1⟩
theorem CB.sp (h : CB C) : SpOk C := ⟨fun s hs k _ => by rw [h.2.2.2.2.2.2.2.2.1, if_pos hs], fun s hs _ => ⟨h.2.2.2.2.2.2.2.2.2 s hs, fun k _ => by rw [h.2.2.2.2.2.2.2.2.1, if_neg (by omega)]⟩⟩
theorem lexL_cons (h : okT t = true) (hn : nxOk (tB t) ((tP t ++ flat rE).getD 0 0) = true) (hr : lexL rE = true) : lexL (t :: rE) = true := by
  unfold okT at h
  unfold lexL
  rw [Bool.and_eq_true] at h
  rw [Bool.and_eq_true, Bool.and_eq_true, Bool.and_eq_true]
  exact ⟨⟨⟨h.1, h.2⟩, hn⟩, hr⟩
theorem nx32 {b : List Nat} : nxOk b 32 = true := by
  unfold nxOk
  split
  · rfl
  · split
    · rfl
    · split
      · rw [show (32 == 61) = false from rfl, Bool.and_false]; rfl
      · rfl
theorem lex_b (h : okT t = true) (hp : tP t = [32]) (hr : lexL rE = true) : lexL (t :: rE) = true := lexL_cons h (by rw [hp]; exact nx32) hr
theorem lex_e {b c : Nat} (h : okT t = true) (hp : tP t = []) (hc : (tB t2).getD 0 0 = c ∧ 1 ≤ (tB t2).length) (hn : nxOk (tB t) c = true) (hr : lexL (t2 :: rE) = true) : lexL (t :: t2 :: rE) = true := by
  refine lexL_cons h ?_ hr
  rw [hp, List.nil_append]
  have e : (flat (t2 :: rE)).getD 0 0 = (tB t2).getD 0 0 := by
    unfold flat
    rw [getD_app, if_pos (by omega)]
  rw [e, hc.1]
  exact hn
theorem lex_s (hp : po = [] ∨ po = [10] ∨ po = [32]) (hr : lexL rE = true) : lexL (syT 59 po :: rE) = true := by
  refine lexL_cons ?_ ?_ hr
  · rcases hp with rfl | rfl | rfl <;> decide +kernel
  · show nxOk [59] _ = true
    unfold nxOk
    rw [if_neg (by decide), if_neg (by decide), if_pos (by decide)]
    rfl
theorem ok_kw : ∀ k, k < 31 → ∀ b : Bool, okT (kwT k (if b then [32] else [])) = true := by decide +kernel
theorem ok_kwb (hk : k < 31) : okT (kwT k [32]) = true := ok_kw k hk true
theorem ok_kwe (hk : k < 31) : okT (kwT k []) = true := ok_kw k hk false
theorem ok_nm0 : ∀ c, c < 123 → 97 ≤ c → ∀ j, j < 10 → ∀ b : Bool, okT (nmT c j (if b then [32] else []) 0) = true := by decide +kernel
theorem ok_nmb {c r : Nat} (h1 : c < 123) (h2 : 97 ≤ c) (hj : j < 10) : okT (nmT c j [32] r) = true := ok_nm0 c h1 h2 j hj true
theorem ok_nme {c r : Nat} (h1 : c < 123) (h2 : 97 ≤ c) (hj : j < 10) : okT (nmT c j [] r) = true := ok_nm0 c h1 h2 j hj false
theorem ok_nu0 : ∀ n, n < 100 → ∀ b : Bool, okT (nuT n (if b then [32] else []) 0) = true := by decide +kernel
theorem ok_nub {r : Nat} (hn : n < 100) : okT (nuT n [32] r) = true := ok_nu0 n hn true
theorem ok_nue {r : Nat} (hn : n < 100) : okT (nuT n [] r) = true := ok_nu0 n hn false
/-- what follows a name or a number without a blank -/
theorem nx_nm0 : ∀ c, c < 123 → 97 ≤ c → ∀ x ∈ [59, 62, 61, 44, 45, 47, 93, 41, 42, 60], ∀ j, j < 10 → nxOk [c, 48 + j] x = true := by decide +kernel
theorem nx_nu0 : ∀ n, n < 100 → ∀ x ∈ [59, 62, 61, 44, 45, 47, 93, 41, 42, 60], nxOk (dec n) x = true := by decide +kernel
theorem ok_or0 : ∀ k, k < 18 → 15 ≤ k → okT (orT k [32] 0) = true := by decide +kernel
theorem ok_or {p : Nat} (h1 : k < 18) (h2 : 15 ≤ k) : okT (orT k [32] p) = true := ok_or0 k h1 h2
theorem lex_nms {c r : Nat} {f : Nat → Nat} (h1 : c < 123) (h2 : 97 ≤ c) (hf : ∀ k, f k < 10) (hr : lexL rE = true) : ∀ (m k : Nat), lexL (nams c r f m k ++ (syT 59 [] :: rE)) = true := by
  intro m
  induction m with
  | zero => intro k; exact lex_s (Or.inl rfl) hr
  | succ m ih =>
    intro k
    show lexL (nmT c (f k) (if m = 0 then [] else [32]) r :: (nams c r f m (k + 1) ++ (syT 59 [] :: rE))) = true
    by_cases z : m = 0
    · subst z
      exact lex_e (b := 0) (c := 59) (ok_nme h1 h2 (hf k)) rfl ⟨rfl, Nat.le_refl _⟩ (nx_nm0 c h1 h2 59 (by decide) _ (hf k)) (ih (k + 1))
    · rw [if_neg z]
      exact lex_b (ok_nmb h1 h2 (hf k)) rfl (ih (k + 1))
theorem lex_knw {f g : Nat → Nat} (hf : ∀ k, f k < 10 ∧ g k < 100) (hr : lexL rE = true) : ∀ (m k : Nat), lexL (knwL f g m k ++ (syT 59 [10] :: rE)) = true := by
  intro m
  induction m with
  | zero => intro k; exact lex_s (Or.inr (Or.inl rfl)) hr
  | succ m ih =>
    intro k
    show lexL (kwT 10 [32] :: nmT 116 (f k) [32] 8 :: nuT (g k) (if m = 0 then [] else [32]) 18 :: (knwL f g m (k + 1) ++ (syT 59 [10] :: rE))) = true
    refine lex_b (ok_kwb (by decide)) rfl (lex_b (ok_nmb (by decide) (by decide) (hf k).1) rfl ?_)
    by_cases z : m = 0
    · subst z
      exact lex_e (b := 0) (c := 59) (ok_nue (hf k).2) rfl ⟨rfl, Nat.le_refl _⟩ (nx_nu0 _ (hf k).2 59 (by decide)) (ih (k + 1))
    · rw [if_neg z]
      exact lex_b (ok_nub (hf k).2) rfl (ih (k + 1))
theorem dec_hd : ∀ n, n < 100 → isD ((dec n).getD 0 0) = true ∧ 1 ≤ (dec n).length := by decide +kernel
/-- a sign, and a number behind it -/
theorem lex_n {po : List Nat} (h : okT t = true) (hp : tP t = []) (hn : nn < 100) (hx : (∀ c, c < 58 → 48 ≤ c → nxOk (tB t) c = true)) (hr : lexL (nuT nn po 0 :: rE) = true) : lexL (t :: nuT nn po 0 :: rE) = true := by
  obtain ⟨d1, d2⟩ := dec_hd nn hn
  unfold isD at d1
  rw [Bool.and_eq_true, decide_eq_true_eq, decide_eq_true_eq] at d1
  exact lex_e (b := 0) (c := (dec nn).getD 0 0) h hp ⟨rfl, d2⟩ (hx _ (by omega) d1.1) hr
theorem kw_hd : ∀ k, k < 31 → (97 ≤ (sB (k + 1)).getD 0 0 ∧ (sB (k + 1)).getD 0 0 < 123) ∧ 1 ≤ (sB (k + 1)).length := by decide +kernel
/-- a sign, and a keyword behind it -/
theorem lex_k {po : List Nat} (h : okT t = true) (hp : tP t = []) (hk : k < 31) (hx : (∀ c, c < 123 → 97 ≤ c → nxOk (tB t) c = true)) (hr : lexL (kwT k po :: rE) = true) : lexL (t :: kwT k po :: rE) = true := by
  obtain ⟨d1, d2⟩ := kw_hd k hk
  exact lex_e (b := 0) (c := (sB (k + 1)).getD 0 0) h hp ⟨rfl, d2⟩ (hx _ d1.2 d1.1) hr
theorem lex_t0 (hs : s < 10) (hv : v < 10) (hn : nn < 100) (hr : lexL (syT 59 [] :: rE) = true) : lexL (testL 0 s nn v ++ (syT 59 [] :: rE)) = true := by
  show lexL (kwT 23 [32] :: nmT 115 s [] 12 :: syT 62 [] :: nuT nn [] 0 :: syT 59 [] :: rE) = true
  exact (lex_b (ok_kwb (by decide)) rfl (lex_e (b := 0) (c := 62) (ok_nme (by decide) (by decide) hs) rfl ⟨rfl, Nat.le_of_ble_eq_true rfl⟩ (nx_nm0 _ (by decide) (by decide) 62 (by decide) _ hs) (lex_n (by decide +kernel) rfl hn (by decide +kernel) (lex_e (b := 0) (c := 59) (ok_nue hn) rfl ⟨rfl, Nat.le_of_ble_eq_true rfl⟩ (nx_nu0 _ hn 59 (by decide)) hr))))
theorem lex_t1 (hs : s < 10) (hv : v < 10) (hn : nn < 100) (hr : lexL (syT 59 [] :: rE) = true) : lexL (testL 1 s nn v ++ (syT 59 [] :: rE)) = true := by
  show lexL (kwT 21 [32] :: nmT 115 s [] 12 :: wiT 62 257 [] :: nuT nn [] 0 :: syT 59 [] :: rE) = true
  exact (lex_b (ok_kwb (by decide)) rfl (lex_e (b := 0) (c := 62) (ok_nme (by decide) (by decide) hs) rfl ⟨rfl, Nat.le_of_ble_eq_true rfl⟩ (nx_nm0 _ (by decide) (by decide) 62 (by decide) _ hs) (lex_n (by decide +kernel) rfl hn (by decide +kernel) (lex_e (b := 0) (c := 59) (ok_nue hn) rfl ⟨rfl, Nat.le_of_ble_eq_true rfl⟩ (nx_nu0 _ hn 59 (by decide)) hr))))
theorem lex_t2 (hs : s < 10) (hv : v < 10) (hn : nn < 100) (hr : lexL (syT 59 [] :: rE) = true) : lexL (testL 2 s nn v ++ (syT 59 [] :: rE)) = true := by
  show lexL (kwT 22 [32] :: nmT 115 s [] 12 :: syT 61 [] :: nuT (1) [] 0 :: syT 59 [] :: rE) = true
  exact (lex_b (ok_kwb (by decide)) rfl (lex_e (b := 0) (c := 61) (ok_nme (by decide) (by decide) hs) rfl ⟨rfl, Nat.le_of_ble_eq_true rfl⟩ (nx_nm0 _ (by decide) (by decide) 61 (by decide) _ hs) (lex_n (by decide +kernel) rfl (by decide) (by decide +kernel) (lex_e (b := 0) (c := 59) (ok_nue (by decide)) rfl ⟨rfl, Nat.le_of_ble_eq_true rfl⟩ (nx_nu0 1 (by decide) 59 (by decide)) hr))))
theorem lex_t3 (hs : s < 10) (hv : v < 10) (hn : nn < 100) (hr : lexL (syT 59 [] :: rE) = true) : lexL (testL 3 s nn v ++ (syT 59 [] :: rE)) = true := by
  show lexL (kwT 19 [32] :: syT 62 [32] :: nuT nn [] 0 :: syT 59 [] :: rE) = true
  exact (lex_b (ok_kwb (by decide)) rfl (lex_b (by decide +kernel) rfl (lex_e (b := 0) (c := 59) (ok_nue hn) rfl ⟨rfl, Nat.le_of_ble_eq_true rfl⟩ (nx_nu0 _ hn 59 (by decide)) hr)))
theorem lex_t4 (hs : s < 10) (hv : v < 10) (hn : nn < 100) (hr : lexL (syT 59 [] :: rE) = true) : lexL (testL 4 s nn v ++ (syT 59 [] :: rE)) = true := by
  show lexL (kwT 20 [] :: wiT 60 256 [] :: nuT nn [32] 0 :: kwT 27 [32] :: kwT 9 [32] :: nmT 115 s [] 12 :: syT 62 [] :: nuT (0) [] 0 :: syT 59 [] :: rE) = true
  exact (lex_e (b := 0) (c := 60) (ok_kwe (by decide)) rfl ⟨rfl, Nat.le_of_ble_eq_true rfl⟩ (by decide +kernel) (lex_n (by decide +kernel) rfl hn (by decide +kernel) (lex_b (ok_nub hn) rfl (lex_b (ok_kwb (by decide)) rfl (lex_b (ok_kwb (by decide)) rfl (lex_e (b := 0) (c := 62) (ok_nme (by decide) (by decide) hs) rfl ⟨rfl, Nat.le_of_ble_eq_true rfl⟩ (nx_nm0 _ (by decide) (by decide) 62 (by decide) _ hs) (lex_n (by decide +kernel) rfl (by decide) (by decide +kernel) (lex_e (b := 0) (c := 59) (ok_nue (by decide)) rfl ⟨rfl, Nat.le_of_ble_eq_true rfl⟩ (nx_nu0 0 (by decide) 59 (by decide)) hr))))))))
theorem lex_t5 (hs : s < 10) (hv : v < 10) (hn : nn < 100) (hr : lexL (syT 59 [] :: rE) = true) : lexL (testL 5 s nn v ++ (syT 59 [] :: rE)) = true := by
  show lexL (kwT 26 [32] :: kwT 25 [32] :: nmT 115 s [32] 12 :: kwT 28 [32] :: kwT 5 [32] :: nmT 119 v [] 13 :: syT 62 [] :: nuT nn [] 0 :: syT 59 [] :: rE) = true
  exact (lex_b (ok_kwb (by decide)) rfl (lex_b (ok_kwb (by decide)) rfl (lex_b (ok_nmb (by decide) (by decide) hs) rfl (lex_b (ok_kwb (by decide)) rfl (lex_b (ok_kwb (by decide)) rfl (lex_e (b := 0) (c := 62) (ok_nme (by decide) (by decide) hv) rfl ⟨rfl, Nat.le_of_ble_eq_true rfl⟩ (nx_nm0 _ (by decide) (by decide) 62 (by decide) _ hv) (lex_n (by decide +kernel) rfl hn (by decide +kernel) (lex_e (b := 0) (c := 59) (ok_nue hn) rfl ⟨rfl, Nat.le_of_ble_eq_true rfl⟩ (nx_nu0 _ hn 59 (by decide)) hr))))))))
theorem lex_t6 (hs : s < 10) (hv : v < 10) (hn : nn < 100) (hr : lexL (syT 59 [] :: rE) = true) : lexL (testL 6 s nn v ++ (syT 59 [] :: rE)) = true := by
  show lexL (syT 91 [] :: kwT 24 [32] :: nmT 115 s [] 12 :: syT 93 [] :: kwT 27 [32] :: kwT 23 [32] :: nmT 115 s [] 12 :: syT 45 [] :: kwT 5 [32] :: nmT 119 v [] 13 :: syT 47 [] :: nuT (2) [] 0 :: syT 60 [] :: nuT nn [] 0 :: syT 59 [] :: rE) = true
  exact (lex_k (by decide +kernel) rfl (by decide) (by decide +kernel) (lex_b (ok_kwb (by decide)) rfl (lex_e (b := 0) (c := 93) (ok_nme (by decide) (by decide) hs) rfl ⟨rfl, Nat.le_of_ble_eq_true rfl⟩ (nx_nm0 _ (by decide) (by decide) 93 (by decide) _ hs) (lex_k (by decide +kernel) rfl (by decide) (by decide +kernel) (lex_b (ok_kwb (by decide)) rfl (lex_b (ok_kwb (by decide)) rfl (lex_e (b := 0) (c := 45) (ok_nme (by decide) (by decide) hs) rfl ⟨rfl, Nat.le_of_ble_eq_true rfl⟩ (nx_nm0 _ (by decide) (by decide) 45 (by decide) _ hs) (lex_k (by decide +kernel) rfl (by decide) (by decide +kernel) (lex_b (ok_kwb (by decide)) rfl (lex_e (b := 0) (c := 47) (ok_nme (by decide) (by decide) hv) rfl ⟨rfl, Nat.le_of_ble_eq_true rfl⟩ (nx_nm0 _ (by decide) (by decide) 47 (by decide) _ hv) (lex_n (by decide +kernel) rfl (by decide) (by decide +kernel) (lex_e (b := 0) (c := 60) (ok_nue (by decide)) rfl ⟨rfl, Nat.le_of_ble_eq_true rfl⟩ (nx_nu0 2 (by decide) 60 (by decide)) (lex_n (by decide +kernel) rfl hn (by decide +kernel) (lex_e (b := 0) (c := 59) (ok_nue hn) rfl ⟨rfl, Nat.le_of_ble_eq_true rfl⟩ (nx_nu0 _ hn 59 (by decide)) hr))))))))))))))
theorem lex_t7 (hs : s < 10) (hv : v < 10) (hn : nn < 100) (hr : lexL (syT 59 [] :: rE) = true) : lexL (testL 7 s nn v ++ (syT 59 [] :: rE)) = true := by
  show lexL (nuT (1) [] 0 :: syT 61 [] :: nuT (1) [] 0 :: syT 59 [] :: rE) = true
  exact (lex_e (b := 0) (c := 61) (ok_nue (by decide)) rfl ⟨rfl, Nat.le_of_ble_eq_true rfl⟩ (nx_nu0 1 (by decide) 61 (by decide)) (lex_n (by decide +kernel) rfl (by decide) (by decide +kernel) (lex_e (b := 0) (c := 59) (ok_nue (by decide)) rfl ⟨rfl, Nat.le_of_ble_eq_true rfl⟩ (nx_nu0 1 (by decide) 59 (by decide)) hr)))
theorem lex_t8 (hs : s < 10) (hv : v < 10) (hn : nn < 100) (hr : lexL (syT 59 [] :: rE) = true) : lexL (testL 8 s nn v ++ (syT 59 [] :: rE)) = true := by
  show lexL (kwT 29 [] :: syT 40 [] :: kwT 21 [32] :: nmT 115 s [] 12 :: syT 44 [] :: nuT nn [] 0 :: syT 41 [] :: syT 42 [] :: nuT (2) [] 0 :: syT 62 [] :: kwT 19 [] :: syT 47 [] :: nuT (3) [] 0 :: syT 59 [] :: rE) = true
  exact (lex_e (b := 0) (c := 40) (ok_kwe (by decide)) rfl ⟨rfl, Nat.le_of_ble_eq_true rfl⟩ (by decide +kernel) (lex_k (by decide +kernel) rfl (by decide) (by decide +kernel) (lex_b (ok_kwb (by decide)) rfl (lex_e (b := 0) (c := 44) (ok_nme (by decide) (by decide) hs) rfl ⟨rfl, Nat.le_of_ble_eq_true rfl⟩ (nx_nm0 _ (by decide) (by decide) 44 (by decide) _ hs) (lex_n (by decide +kernel) rfl hn (by decide +kernel) (lex_e (b := 0) (c := 41) (ok_nue hn) rfl ⟨rfl, Nat.le_of_ble_eq_true rfl⟩ (nx_nu0 _ hn 41 (by decide)) (lex_e (b := 0) (c := 42) (by decide +kernel) rfl ⟨rfl, Nat.le_of_ble_eq_true rfl⟩ (by decide +kernel) (lex_n (by decide +kernel) rfl (by decide) (by decide +kernel) (lex_e (b := 0) (c := 62) (ok_nue (by decide)) rfl ⟨rfl, Nat.le_of_ble_eq_true rfl⟩ (nx_nu0 2 (by decide) 62 (by decide)) (lex_k (by decide +kernel) rfl (by decide) (by decide +kernel) (lex_e (b := 0) (c := 47) (ok_kwe (by decide)) rfl ⟨rfl, Nat.le_of_ble_eq_true rfl⟩ (by decide +kernel) (lex_n (by decide +kernel) rfl (by decide) (by decide +kernel) (lex_e (b := 0) (c := 59) (ok_nue (by decide)) rfl ⟨rfl, Nat.le_of_ble_eq_true rfl⟩ (nx_nu0 3 (by decide) 59 (by decide)) hr)))))))))))))
theorem lex_test {m : Nat} (hs : s < 10) (hv : v < 10) (hn : nn < 100) (hr : lexL (syT 59 [] :: rE) = true) : lexL (testL m s nn v ++ (syT 59 [] :: rE)) = true := by
  match m with
  | 0 => exact lex_t0 hs hv hn hr
  | 1 => exact lex_t1 hs hv hn hr
  | 2 => exact lex_t2 hs hv hn hr
  | 3 => exact lex_t3 hs hv hn hr
  | 4 => exact lex_t4 hs hv hn hr
  | 5 => exact lex_t5 hs hv hn hr
  | 6 => exact lex_t6 hs hv hn hr
  | 7 => exact lex_t7 hs hv hn hr
  | _ + 8 => exact lex_t8 hs hv hn hr
end
