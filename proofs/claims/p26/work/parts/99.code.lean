/-! ===== the orders' code: by program (wip/p26/mkcode.py) ===== -/
theorem vF_nm {c j r : Nat} {po : List Nat} (h : r = 12 ∨ r = 13) : vF (nmT c j po r) = j := by
  have e : vF (nmT c j po r) = if r = 12 ∨ r = 13 then 48 + j - 48 else 0 := rfl
  rw [e, if_pos h]
  omega
section
variable {d i j m n s v nv o : Nat} {u w : MW} {tx : List Nat} {E : List Tk} {P : List (Nat × Nat)} {C : CD} {rE : List Tk} {rP : List (Nat × Nat)}
theorem cm_0 (hm : C 9 o 2 = 0) (hE : E.drop i = testL 0 (C 9 o 4) (C 9 o 3) (C 9 o 5) ++ rE) : (testP 0 i).length = (codeM C o).length ∧ ∀ (x a b : Nat), (codeM C o)[x]? = some (a, b) → ∃ g, (testP 0 i)[x]? = some (a, g) ∧ (argM a = true → g ≤ E.length ∧ vF (E.getD g tk0) = b) := by
  have x0 : E.drop i = kwT 23 [32] :: nmT 115 (C 9 o 4) [] 12 :: syT 62 [] :: nuT (C 9 o 3) [] 0 :: rE := hE
  obtain ⟨a0, x1, i0⟩ := drop_hd x0
  obtain ⟨a1, x2, i1⟩ := drop_hd x1
  obtain ⟨a2, x3, i2⟩ := drop_hd x2
  obtain ⟨a3, x4, i3⟩ := drop_hd x3
  have cE : codeM C o = [(23, C 9 o 4), (259, C 9 o 3), (62, 0), (59, 0)] := by unfold codeM; rw [hm]; rfl
  rw [cE]
  refine ⟨rfl, fun x a b h => ?_⟩
  match x, h with
  | 0, h =>
    injection h with h; injection h with h1 h2; subst h1; subst h2
    exact ⟨_, rfl, fun _ => ⟨by omega, by rw [a1]; exact vF_nm (by decide)⟩⟩
  | 1, h =>
    injection h with h; injection h with h1 h2; subst h1; subst h2
    exact ⟨_, rfl, fun _ => ⟨by omega, by rw [a3]; rfl⟩⟩
  | 2, h =>
    injection h with h; injection h with h1 h2; subst h1; subst h2
    exact ⟨_, rfl, fun z => absurd z (by decide)⟩
  | 3, h =>
    injection h with h; injection h with h1 h2; subst h1; subst h2
    exact ⟨_, rfl, fun z => absurd z (by decide)⟩
  | x + 4, h => exact absurd h (by intro z; injection z)
theorem cm_1 (hm : C 9 o 2 = 1) (hE : E.drop i = testL 1 (C 9 o 4) (C 9 o 3) (C 9 o 5) ++ rE) : (testP 1 i).length = (codeM C o).length ∧ ∀ (x a b : Nat), (codeM C o)[x]? = some (a, b) → ∃ g, (testP 1 i)[x]? = some (a, g) ∧ (argM a = true → g ≤ E.length ∧ vF (E.getD g tk0) = b) := by
  have x0 : E.drop i = kwT 21 [32] :: nmT 115 (C 9 o 4) [] 12 :: wiT 62 257 [] :: nuT (C 9 o 3) [] 0 :: rE := hE
  obtain ⟨a0, x1, i0⟩ := drop_hd x0
  obtain ⟨a1, x2, i1⟩ := drop_hd x1
  obtain ⟨a2, x3, i2⟩ := drop_hd x2
  obtain ⟨a3, x4, i3⟩ := drop_hd x3
  have cE : codeM C o = [(21, C 9 o 4), (259, C 9 o 3), (257, 0), (59, 0)] := by unfold codeM; rw [hm]; rfl
  rw [cE]
  refine ⟨rfl, fun x a b h => ?_⟩
  match x, h with
  | 0, h =>
    injection h with h; injection h with h1 h2; subst h1; subst h2
    exact ⟨_, rfl, fun _ => ⟨by omega, by rw [a1]; exact vF_nm (by decide)⟩⟩
  | 1, h =>
    injection h with h; injection h with h1 h2; subst h1; subst h2
    exact ⟨_, rfl, fun _ => ⟨by omega, by rw [a3]; rfl⟩⟩
  | 2, h =>
    injection h with h; injection h with h1 h2; subst h1; subst h2
    exact ⟨_, rfl, fun z => absurd z (by decide)⟩
  | 3, h =>
    injection h with h; injection h with h1 h2; subst h1; subst h2
    exact ⟨_, rfl, fun z => absurd z (by decide)⟩
  | x + 4, h => exact absurd h (by intro z; injection z)
theorem cm_2 (hm : C 9 o 2 = 2) (hE : E.drop i = testL 2 (C 9 o 4) (C 9 o 3) (C 9 o 5) ++ rE) : (testP 2 i).length = (codeM C o).length ∧ ∀ (x a b : Nat), (codeM C o)[x]? = some (a, b) → ∃ g, (testP 2 i)[x]? = some (a, g) ∧ (argM a = true → g ≤ E.length ∧ vF (E.getD g tk0) = b) := by
  have x0 : E.drop i = kwT 22 [32] :: nmT 115 (C 9 o 4) [] 12 :: syT 61 [] :: nuT (1) [] 0 :: rE := hE
  obtain ⟨a0, x1, i0⟩ := drop_hd x0
  obtain ⟨a1, x2, i1⟩ := drop_hd x1
  obtain ⟨a2, x3, i2⟩ := drop_hd x2
  obtain ⟨a3, x4, i3⟩ := drop_hd x3
  have cE : codeM C o = [(22, C 9 o 4), (259, 1), (61, 0), (59, 0)] := by unfold codeM; rw [hm]; rfl
  rw [cE]
  refine ⟨rfl, fun x a b h => ?_⟩
  match x, h with
  | 0, h =>
    injection h with h; injection h with h1 h2; subst h1; subst h2
    exact ⟨_, rfl, fun _ => ⟨by omega, by rw [a1]; exact vF_nm (by decide)⟩⟩
  | 1, h =>
    injection h with h; injection h with h1 h2; subst h1; subst h2
    exact ⟨_, rfl, fun _ => ⟨by omega, by rw [a3]; rfl⟩⟩
  | 2, h =>
    injection h with h; injection h with h1 h2; subst h1; subst h2
    exact ⟨_, rfl, fun z => absurd z (by decide)⟩
  | 3, h =>
    injection h with h; injection h with h1 h2; subst h1; subst h2
    exact ⟨_, rfl, fun z => absurd z (by decide)⟩
  | x + 4, h => exact absurd h (by intro z; injection z)
theorem cm_3 (hm : C 9 o 2 = 3) (hE : E.drop i = testL 3 (C 9 o 4) (C 9 o 3) (C 9 o 5) ++ rE) : (testP 3 i).length = (codeM C o).length ∧ ∀ (x a b : Nat), (codeM C o)[x]? = some (a, b) → ∃ g, (testP 3 i)[x]? = some (a, g) ∧ (argM a = true → g ≤ E.length ∧ vF (E.getD g tk0) = b) := by
  have x0 : E.drop i = kwT 19 [32] :: syT 62 [32] :: nuT (C 9 o 3) [] 0 :: rE := hE
  obtain ⟨a0, x1, i0⟩ := drop_hd x0
  obtain ⟨a1, x2, i1⟩ := drop_hd x1
  obtain ⟨a2, x3, i2⟩ := drop_hd x2
  have cE : codeM C o = [(19, 0), (259, C 9 o 3), (62, 0), (59, 0)] := by unfold codeM; rw [hm]; rfl
  rw [cE]
  refine ⟨rfl, fun x a b h => ?_⟩
  match x, h with
  | 0, h =>
    injection h with h; injection h with h1 h2; subst h1; subst h2
    exact ⟨_, rfl, fun z => absurd z (by decide)⟩
  | 1, h =>
    injection h with h; injection h with h1 h2; subst h1; subst h2
    exact ⟨_, rfl, fun _ => ⟨by omega, by rw [a2]; rfl⟩⟩
  | 2, h =>
    injection h with h; injection h with h1 h2; subst h1; subst h2
    exact ⟨_, rfl, fun z => absurd z (by decide)⟩
  | 3, h =>
    injection h with h; injection h with h1 h2; subst h1; subst h2
    exact ⟨_, rfl, fun z => absurd z (by decide)⟩
  | x + 4, h => exact absurd h (by intro z; injection z)
theorem cm_4 (hm : C 9 o 2 = 4) (hE : E.drop i = testL 4 (C 9 o 4) (C 9 o 3) (C 9 o 5) ++ rE) : (testP 4 i).length = (codeM C o).length ∧ ∀ (x a b : Nat), (codeM C o)[x]? = some (a, b) → ∃ g, (testP 4 i)[x]? = some (a, g) ∧ (argM a = true → g ≤ E.length ∧ vF (E.getD g tk0) = b) := by
  have x0 : E.drop i = kwT 20 [] :: wiT 60 256 [] :: nuT (C 9 o 3) [32] 0 :: kwT 27 [32] :: kwT 9 [32] :: nmT 115 (C 9 o 4) [] 12 :: syT 62 [] :: nuT (0) [] 0 :: rE := hE
  obtain ⟨a0, x1, i0⟩ := drop_hd x0
  obtain ⟨a1, x2, i1⟩ := drop_hd x1
  obtain ⟨a2, x3, i2⟩ := drop_hd x2
  obtain ⟨a3, x4, i3⟩ := drop_hd x3
  obtain ⟨a4, x5, i4⟩ := drop_hd x4
  obtain ⟨a5, x6, i5⟩ := drop_hd x5
  obtain ⟨a6, x7, i6⟩ := drop_hd x6
  obtain ⟨a7, x8, i7⟩ := drop_hd x7
  have cE : codeM C o = [(20, 0), (259, C 9 o 3), (256, 0), (9, C 9 o 4), (259, 0), (62, 0), (27, 0), (59, 0)] := by unfold codeM; rw [hm]; rfl
  rw [cE]
  refine ⟨rfl, fun x a b h => ?_⟩
  match x, h with
  | 0, h =>
    injection h with h; injection h with h1 h2; subst h1; subst h2
    exact ⟨_, rfl, fun z => absurd z (by decide)⟩
  | 1, h =>
    injection h with h; injection h with h1 h2; subst h1; subst h2
    exact ⟨_, rfl, fun _ => ⟨by omega, by rw [a2]; rfl⟩⟩
  | 2, h =>
    injection h with h; injection h with h1 h2; subst h1; subst h2
    exact ⟨_, rfl, fun z => absurd z (by decide)⟩
  | 3, h =>
    injection h with h; injection h with h1 h2; subst h1; subst h2
    exact ⟨_, rfl, fun _ => ⟨by omega, by rw [a5]; exact vF_nm (by decide)⟩⟩
  | 4, h =>
    injection h with h; injection h with h1 h2; subst h1; subst h2
    exact ⟨_, rfl, fun _ => ⟨by omega, by rw [a7]; rfl⟩⟩
  | 5, h =>
    injection h with h; injection h with h1 h2; subst h1; subst h2
    exact ⟨_, rfl, fun z => absurd z (by decide)⟩
  | 6, h =>
    injection h with h; injection h with h1 h2; subst h1; subst h2
    exact ⟨_, rfl, fun z => absurd z (by decide)⟩
  | 7, h =>
    injection h with h; injection h with h1 h2; subst h1; subst h2
    exact ⟨_, rfl, fun z => absurd z (by decide)⟩
  | x + 8, h => exact absurd h (by intro z; injection z)
theorem cm_5 (hm : C 9 o 2 = 5) (hE : E.drop i = testL 5 (C 9 o 4) (C 9 o 3) (C 9 o 5) ++ rE) : (testP 5 i).length = (codeM C o).length ∧ ∀ (x a b : Nat), (codeM C o)[x]? = some (a, b) → ∃ g, (testP 5 i)[x]? = some (a, g) ∧ (argM a = true → g ≤ E.length ∧ vF (E.getD g tk0) = b) := by
  have x0 : E.drop i = kwT 26 [32] :: kwT 25 [32] :: nmT 115 (C 9 o 4) [32] 12 :: kwT 28 [32] :: kwT 5 [32] :: nmT 119 (C 9 o 5) [] 13 :: syT 62 [] :: nuT (C 9 o 3) [] 0 :: rE := hE
  obtain ⟨a0, x1, i0⟩ := drop_hd x0
  obtain ⟨a1, x2, i1⟩ := drop_hd x1
  obtain ⟨a2, x3, i2⟩ := drop_hd x2
  obtain ⟨a3, x4, i3⟩ := drop_hd x3
  obtain ⟨a4, x5, i4⟩ := drop_hd x4
  obtain ⟨a5, x6, i5⟩ := drop_hd x5
  obtain ⟨a6, x7, i6⟩ := drop_hd x6
  obtain ⟨a7, x8, i7⟩ := drop_hd x7
  have cE : codeM C o = [(25, C 9 o 4), (26, 0), (5, C 9 o 5), (259, C 9 o 3), (62, 0), (28, 0), (59, 0)] := by unfold codeM; rw [hm]; rfl
  rw [cE]
  refine ⟨rfl, fun x a b h => ?_⟩
  match x, h with
  | 0, h =>
    injection h with h; injection h with h1 h2; subst h1; subst h2
    exact ⟨_, rfl, fun _ => ⟨by omega, by rw [a2]; exact vF_nm (by decide)⟩⟩
  | 1, h =>
    injection h with h; injection h with h1 h2; subst h1; subst h2
    exact ⟨_, rfl, fun z => absurd z (by decide)⟩
  | 2, h =>
    injection h with h; injection h with h1 h2; subst h1; subst h2
    exact ⟨_, rfl, fun _ => ⟨by omega, by rw [a5]; exact vF_nm (by decide)⟩⟩
  | 3, h =>
    injection h with h; injection h with h1 h2; subst h1; subst h2
    exact ⟨_, rfl, fun _ => ⟨by omega, by rw [a7]; rfl⟩⟩
  | 4, h =>
    injection h with h; injection h with h1 h2; subst h1; subst h2
    exact ⟨_, rfl, fun z => absurd z (by decide)⟩
  | 5, h =>
    injection h with h; injection h with h1 h2; subst h1; subst h2
    exact ⟨_, rfl, fun z => absurd z (by decide)⟩
  | 6, h =>
    injection h with h; injection h with h1 h2; subst h1; subst h2
    exact ⟨_, rfl, fun z => absurd z (by decide)⟩
  | x + 7, h => exact absurd h (by intro z; injection z)
theorem cm_6 (hm : C 9 o 2 = 6) (hE : E.drop i = testL 6 (C 9 o 4) (C 9 o 3) (C 9 o 5) ++ rE) : (testP 6 i).length = (codeM C o).length ∧ ∀ (x a b : Nat), (codeM C o)[x]? = some (a, b) → ∃ g, (testP 6 i)[x]? = some (a, g) ∧ (argM a = true → g ≤ E.length ∧ vF (E.getD g tk0) = b) := by
  have x0 : E.drop i = syT 91 [] :: kwT 24 [32] :: nmT 115 (C 9 o 4) [] 12 :: syT 93 [] :: kwT 27 [32] :: kwT 23 [32] :: nmT 115 (C 9 o 4) [] 12 :: syT 45 [] :: kwT 5 [32] :: nmT 119 (C 9 o 5) [] 13 :: syT 47 [] :: nuT (2) [] 0 :: syT 60 [] :: nuT (C 9 o 3) [] 0 :: rE := hE
  obtain ⟨a0, x1, i0⟩ := drop_hd x0
  obtain ⟨a1, x2, i1⟩ := drop_hd x1
  obtain ⟨a2, x3, i2⟩ := drop_hd x2
  obtain ⟨a3, x4, i3⟩ := drop_hd x3
  obtain ⟨a4, x5, i4⟩ := drop_hd x4
  obtain ⟨a5, x6, i5⟩ := drop_hd x5
  obtain ⟨a6, x7, i6⟩ := drop_hd x6
  obtain ⟨a7, x8, i7⟩ := drop_hd x7
  obtain ⟨a8, x9, i8⟩ := drop_hd x8
  obtain ⟨a9, x10, i9⟩ := drop_hd x9
  obtain ⟨a10, x11, i10⟩ := drop_hd x10
  obtain ⟨a11, x12, i11⟩ := drop_hd x11
  obtain ⟨a12, x13, i12⟩ := drop_hd x12
  obtain ⟨a13, x14, i13⟩ := drop_hd x13
  have cE : codeM C o = [(24, C 9 o 4), (23, C 9 o 4), (5, C 9 o 5), (259, 2), (47, 0), (45, 0), (259, C 9 o 3), (60, 0), (27, 0), (59, 0)] := by unfold codeM; rw [hm]; rfl
  rw [cE]
  refine ⟨rfl, fun x a b h => ?_⟩
  match x, h with
  | 0, h =>
    injection h with h; injection h with h1 h2; subst h1; subst h2
    exact ⟨_, rfl, fun _ => ⟨by omega, by rw [a2]; exact vF_nm (by decide)⟩⟩
  | 1, h =>
    injection h with h; injection h with h1 h2; subst h1; subst h2
    exact ⟨_, rfl, fun _ => ⟨by omega, by rw [a6]; exact vF_nm (by decide)⟩⟩
  | 2, h =>
    injection h with h; injection h with h1 h2; subst h1; subst h2
    exact ⟨_, rfl, fun _ => ⟨by omega, by rw [a9]; exact vF_nm (by decide)⟩⟩
  | 3, h =>
    injection h with h; injection h with h1 h2; subst h1; subst h2
    exact ⟨_, rfl, fun _ => ⟨by omega, by rw [a11]; rfl⟩⟩
  | 4, h =>
    injection h with h; injection h with h1 h2; subst h1; subst h2
    exact ⟨_, rfl, fun z => absurd z (by decide)⟩
  | 5, h =>
    injection h with h; injection h with h1 h2; subst h1; subst h2
    exact ⟨_, rfl, fun z => absurd z (by decide)⟩
  | 6, h =>
    injection h with h; injection h with h1 h2; subst h1; subst h2
    exact ⟨_, rfl, fun _ => ⟨by omega, by rw [a13]; rfl⟩⟩
  | 7, h =>
    injection h with h; injection h with h1 h2; subst h1; subst h2
    exact ⟨_, rfl, fun z => absurd z (by decide)⟩
  | 8, h =>
    injection h with h; injection h with h1 h2; subst h1; subst h2
    exact ⟨_, rfl, fun z => absurd z (by decide)⟩
  | 9, h =>
    injection h with h; injection h with h1 h2; subst h1; subst h2
    exact ⟨_, rfl, fun z => absurd z (by decide)⟩
  | x + 10, h => exact absurd h (by intro z; injection z)
theorem cm_7 (hm : C 9 o 2 = 7) (hE : E.drop i = testL 7 (C 9 o 4) (C 9 o 3) (C 9 o 5) ++ rE) : (testP 7 i).length = (codeM C o).length ∧ ∀ (x a b : Nat), (codeM C o)[x]? = some (a, b) → ∃ g, (testP 7 i)[x]? = some (a, g) ∧ (argM a = true → g ≤ E.length ∧ vF (E.getD g tk0) = b) := by
  have x0 : E.drop i = nuT (1) [] 0 :: syT 61 [] :: nuT (1) [] 0 :: rE := hE
  obtain ⟨a0, x1, i0⟩ := drop_hd x0
  obtain ⟨a1, x2, i1⟩ := drop_hd x1
  obtain ⟨a2, x3, i2⟩ := drop_hd x2
  have cE : codeM C o = [(259, 1), (259, 1), (61, 0), (59, 0)] := by unfold codeM; rw [hm]; rfl
  rw [cE]
  refine ⟨rfl, fun x a b h => ?_⟩
  match x, h with
  | 0, h =>
    injection h with h; injection h with h1 h2; subst h1; subst h2
    exact ⟨_, rfl, fun _ => ⟨by omega, by rw [a0]; rfl⟩⟩
  | 1, h =>
    injection h with h; injection h with h1 h2; subst h1; subst h2
    exact ⟨_, rfl, fun _ => ⟨by omega, by rw [a2]; rfl⟩⟩
  | 2, h =>
    injection h with h; injection h with h1 h2; subst h1; subst h2
    exact ⟨_, rfl, fun z => absurd z (by decide)⟩
  | 3, h =>
    injection h with h; injection h with h1 h2; subst h1; subst h2
    exact ⟨_, rfl, fun z => absurd z (by decide)⟩
  | x + 4, h => exact absurd h (by intro z; injection z)
theorem cm_8 (hm : ¬ C 9 o 2 = 0 ∧ ¬ C 9 o 2 = 1 ∧ ¬ C 9 o 2 = 2 ∧ ¬ C 9 o 2 = 3 ∧ ¬ C 9 o 2 = 4 ∧ ¬ C 9 o 2 = 5 ∧ ¬ C 9 o 2 = 6 ∧ ¬ C 9 o 2 = 7) (hE : E.drop i = testL 8 (C 9 o 4) (C 9 o 3) (C 9 o 5) ++ rE) : (testP 8 i).length = (codeM C o).length ∧ ∀ (x a b : Nat), (codeM C o)[x]? = some (a, b) → ∃ g, (testP 8 i)[x]? = some (a, g) ∧ (argM a = true → g ≤ E.length ∧ vF (E.getD g tk0) = b) := by
  have x0 : E.drop i = kwT 29 [] :: syT 40 [] :: kwT 21 [32] :: nmT 115 (C 9 o 4) [] 12 :: syT 44 [] :: nuT (C 9 o 3) [] 0 :: syT 41 [] :: syT 42 [] :: nuT (2) [] 0 :: syT 62 [] :: kwT 19 [] :: syT 47 [] :: nuT (3) [] 0 :: rE := hE
  obtain ⟨a0, x1, i0⟩ := drop_hd x0
  obtain ⟨a1, x2, i1⟩ := drop_hd x1
  obtain ⟨a2, x3, i2⟩ := drop_hd x2
  obtain ⟨a3, x4, i3⟩ := drop_hd x3
  obtain ⟨a4, x5, i4⟩ := drop_hd x4
  obtain ⟨a5, x6, i5⟩ := drop_hd x5
  obtain ⟨a6, x7, i6⟩ := drop_hd x6
  obtain ⟨a7, x8, i7⟩ := drop_hd x7
  obtain ⟨a8, x9, i8⟩ := drop_hd x8
  obtain ⟨a9, x10, i9⟩ := drop_hd x9
  obtain ⟨a10, x11, i10⟩ := drop_hd x10
  obtain ⟨a11, x12, i11⟩ := drop_hd x11
  obtain ⟨a12, x13, i12⟩ := drop_hd x12
  have cE : codeM C o = [(21, C 9 o 4), (259, C 9 o 3), (29, 0), (259, 2), (42, 0), (19, 0), (259, 3), (47, 0), (62, 0), (59, 0)] := by
    unfold codeM
    obtain ⟨h0, h1, h2, h3, h4, h5, h6, h7⟩ := hm
    split
    all_goals first | (exfalso; omega) | rfl
  rw [cE]
  refine ⟨rfl, fun x a b h => ?_⟩
  match x, h with
  | 0, h =>
    injection h with h; injection h with h1 h2; subst h1; subst h2
    exact ⟨_, rfl, fun _ => ⟨by omega, by rw [a3]; exact vF_nm (by decide)⟩⟩
  | 1, h =>
    injection h with h; injection h with h1 h2; subst h1; subst h2
    exact ⟨_, rfl, fun _ => ⟨by omega, by rw [a5]; rfl⟩⟩
  | 2, h =>
    injection h with h; injection h with h1 h2; subst h1; subst h2
    exact ⟨_, rfl, fun z => absurd z (by decide)⟩
  | 3, h =>
    injection h with h; injection h with h1 h2; subst h1; subst h2
    exact ⟨_, rfl, fun _ => ⟨by omega, by rw [a8]; rfl⟩⟩
  | 4, h =>
    injection h with h; injection h with h1 h2; subst h1; subst h2
    exact ⟨_, rfl, fun z => absurd z (by decide)⟩
  | 5, h =>
    injection h with h; injection h with h1 h2; subst h1; subst h2
    exact ⟨_, rfl, fun z => absurd z (by decide)⟩
  | 6, h =>
    injection h with h; injection h with h1 h2; subst h1; subst h2
    exact ⟨_, rfl, fun _ => ⟨by omega, by rw [a12]; rfl⟩⟩
  | 7, h =>
    injection h with h; injection h with h1 h2; subst h1; subst h2
    exact ⟨_, rfl, fun z => absurd z (by decide)⟩
  | 8, h =>
    injection h with h; injection h with h1 h2; subst h1; subst h2
    exact ⟨_, rfl, fun z => absurd z (by decide)⟩
  | 9, h =>
    injection h with h; injection h with h1 h2; subst h1; subst h2
    exact ⟨_, rfl, fun z => absurd z (by decide)⟩
  | x + 10, h => exact absurd h (by intro z; injection z)
theorem cm_all (hm : C 9 o 2 < 9) (hE : E.drop i = testL (C 9 o 2) (C 9 o 4) (C 9 o 3) (C 9 o 5) ++ rE) : (testP (C 9 o 2) i).length = (codeM C o).length ∧ ∀ (x a b : Nat), (codeM C o)[x]? = some (a, b) → ∃ g, (testP (C 9 o 2) i)[x]? = some (a, g) ∧ (argM a = true → g ≤ E.length ∧ vF (E.getD g tk0) = b) := by
  rcases (show C 9 o 2 = 0 ∨ C 9 o 2 = 1 ∨ C 9 o 2 = 2 ∨ C 9 o 2 = 3 ∨ C 9 o 2 = 4 ∨ C 9 o 2 = 5 ∨ C 9 o 2 = 6 ∨ C 9 o 2 = 7 ∨ C 9 o 2 = 8 by omega) with q | q | q | q | q | q | q | q | q
  · rw [q] at hE ⊢; exact cm_0 q hE
  · rw [q] at hE ⊢; exact cm_1 q hE
  · rw [q] at hE ⊢; exact cm_2 q hE
  · rw [q] at hE ⊢; exact cm_3 q hE
  · rw [q] at hE ⊢; exact cm_4 q hE
  · rw [q] at hE ⊢; exact cm_5 q hE
  · rw [q] at hE ⊢; exact cm_6 q hE
  · rw [q] at hE ⊢; exact cm_7 q hE
  · rw [q] at hE ⊢; exact cm_8 (by omega) hE
/-- where an order's test stands, as tokens and as operations -/
theorem cd_ords (hp : ∀ o, o < C 0 0 5 → C 9 o 2 < 9) : ∀ (m o i : Nat), o + m = C 0 0 5 → E.drop i = ordsL C m o (posM C o) → P.drop (posM C o) = codeL C m o i → ∀ o', o ≤ o' → o' < C 0 0 5 → ∃ i' rE rP, E.drop i' = testL (C 9 o' 2) (C 9 o' 4) (C 9 o' 3) (C 9 o' 5) ++ rE ∧ P.drop (posM C o') = testP (C 9 o' 2) i' ++ rP := by
  intro m
  induction m with
  | zero => intro o i ho hE hP o' h1 h2; omega
  | succ m ih =>
    intro o i ho hE hP o' h1 h2
    have hE' : E.drop i = ordL C o (posM C o) ++ ordsL C m (o + 1) (posM C (o + 1)) := hE
    have hP' : P.drop (posM C o) = testP (C 9 o 2) (i + 3) ++ codeL C m (o + 1) (i + (ordL C o 0).length) := hP
    by_cases g : o' = o
    · subst g
      have x0 : E.drop i = orT (15 + C 9 o' 0) [32] (posM C o') :: nmT 115 (C 9 o' 1) [32] 11 :: kwT 18 [32] :: (testL (C 9 o' 2) (C 9 o' 4) (C 9 o' 3) (C 9 o' 5) ++ (syT 59 [] :: ordsL C m (o' + 1) (posM C (o' + 1)))) := by
        rw [hE']
        unfold ordL
        simp only [List.cons_append, List.append_assoc, List.nil_append]
      obtain ⟨_, x1, _⟩ := drop_hd x0
      obtain ⟨_, x2, _⟩ := drop_hd x1
      obtain ⟨_, x3, _⟩ := drop_hd x2
      exact ⟨i + 1 + 1 + 1, _, _, x3, hP'⟩
    · have hE2 : E.drop (i + (ordL C o 0).length) = ordsL C m (o + 1) (posM C (o + 1)) := by
        have y := congrArg (List.drop (ordL C o (posM C o)).length) hE'
        rw [List.drop_drop, List.drop_left] at y
        exact y
      have hP2 : P.drop (posM C (o + 1)) = codeL C m (o + 1) (i + (ordL C o 0).length) := by
        have y := congrArg (List.drop (testP (C 9 o 2) (i + 3)).length) hP'
        rw [List.drop_drop, List.drop_left, testP_len] at y
        exact y
      exact ih (o + 1) (i + (ordL C o 0).length) (by omega) hE2 hP2 o' (by omega) h2
/-- the code is settled: each number is its token's -/
theorem c_settleC {z : Nat} (k : KW w) (hz : mI w 214 2 = nI z) (hz4 : z ≤ 400) : ∃ w', mK (d + 1) 31 [.ref 214, .ref 169] w = some (.inl none, w') ∧ frB 216 217 w w' ∧ ∀ j, j < z → mI w' 216 j = gt w 174 (mI w 216 j) := by
  have eE : mE = 166 := rfl
  have t1 : ∀ {w : MW}, KW w → mTg w 214 = 1 := fun k => k.tg 214 (by decide) (by decide)
  have key : ∀ m n w1, n + m = z → frB 216 217 w w1 → (∀ j, j < n → mI w1 216 j = gt w 174 (mI w 216 j)) → (∀ j, n ≤ j → mI w1 216 j = mI w 216 j) → ∃ w', mX (d + 1) 31 2 [.ref 214, .ref 169, .int (nI n)] [] w1 = some (.inl none, w') ∧ frB 216 217 w w' ∧ ∀ j, j < z → mI w' 216 j = gt w 174 (mI w 216 j) := by
    intro m
    induction m with
    | zero =>
      intro n w1 hn hf h1 h2
      have k1 := hf.kw k
      refine ⟨w1, ?_, hf, fun j hj => h1 j (by omega)⟩
      rw [b_31_2 (t1 k1), hf.out (c := 214) (Or.inl (by decide)), hz, ijle (by omega) (by omega), if_pos (by omega), b_31_39]
    | succ m ih =>
      intro n w1 hn hf h1 h2
      have k1 := hf.kw k
      have r4 := k1.row 174 (by decide) (by decide)
      have l6 : mLn w1 216 = 400 := k1.ln 216 (by decide) (by decide)
      have t6 : mTg w1 216 = 50 := k1.tg 216 (by decide) (by decide)
      have gg : gt w1 174 (mI w 216 n) = gt w 174 (mI w 216 n) := by
        obtain ⟨J, rfl, a⟩ := hf
        unfold gt
        rw [show mI (wJ w J) 174 (mI w 216 n).toNatClampNeg = mI w 174 (mI w 216 n).toNatClampNeg from a 174 _ (Or.inl (by decide))]
        rfl
      obtain ⟨w', e1, e2, e3⟩ := ih (n + 1) (wI w1 216 n (gt w 174 (mI w 216 n))) (by omega) (hf.set (by decide) (by decide)) (fun j hj => by
        rw [miI]
        by_cases g : j = n
        · subst g; rw [if_pos ⟨rfl, rfl⟩]
        · rw [if_neg (fun q => g q.2)]; exact h1 j (by omega)) (fun j hj => by
        rw [miI, if_neg (by omega)]; exact h2 j (by omega))
      refine ⟨w', ?_, e2, e3⟩
      rw [b_31_2 (t1 k1), hf.out (c := 214) (Or.inl (by decide)), hz, ijle (by omega) (by omega), if_neg (by omega), b_31_10 (t1 k1) k1.s11 k1.t7 k1.s7.2.2.2.2, k1.g11, k1.g7.2.2.2.2, c_getN t6 (by omega) (by omega), h2 n (Nat.le_refl _)]
      simp only [mThen_ok, Option.toList_some, Option.toList_none, List.cons_append, List.nil_append]
      rw [b_31_27, c_get r4.1 (by omega), gg]
      simp only [mThen_ok, Option.toList_some, Option.toList_none, List.cons_append, List.nil_append]
      rw [b_31_30, c_putN t6 (by omega) (by omega) (by omega)]
      simp only [mThen_ok, Option.toList_some, Option.toList_none, List.cons_append, List.nil_append]
      rw [b_31_33, jadd, e1]
  obtain ⟨w', e1, e2, e3⟩ := key z 0 w (by omega) (frB.refl _ _ _) (fun j hj => absurd hj (by omega)) (fun _ _ => rfl)
  exact ⟨w', by rw [e_31, b_31_0, e1], e2, e3⟩
/-- how hard the words are is written down -/
theorem c_hards (k : KW w) (hc : CF w 196 C) (hk : CfOk C) : ∃ w', mX (d + 3) 93 10 [.ref 196, mJ, .int (nI 0), mJ, mJ] [] w = some (.inl none, w') ∧ frB 204 205 w w' ∧ HF w' 196 C := by
  have eE : mE = 166 := rfl
  have hb := hk.1
  have key : ∀ m n w1, n + m = C 0 0 2 → frB 204 205 w w1 → (∀ v, v < n → mI w1 204 v = nI (hardM C v)) → ∃ w', mX (d + 3) 93 10 [.ref 196, mJ, .int (nI n), mJ, mJ] [] w1 = some (.inl none, w') ∧ frB 204 205 w w' ∧ HF w' 196 C := by
    intro m
    induction m with
    | zero =>
      intro n w1 hn hf h1
      have k1 := hf.kw k
      have ht := k1.tT196
      have c1 : mI w1 197 2 = nI (C 0 0 2) := by rw [hf.out (c := 197) (Or.inl (by decide))]; exact hc.1 2 (by decide)
      refine ⟨w1, ?_, hf, fun v hv => h1 v (by omega)⟩
      rw [b_93_10 ht.t0 ht.s0_0, ht.g0_0, c_getN ht.t1 (by rw [ht.l1]; decide) (by rw [ht.l1]; decide), c1]
      simp only [mThen_ok, Option.toList_some, Option.toList_none, List.cons_append, List.nil_append]
      rw [b_93_19, ijle (by omega) (by omega), if_pos (by omega), b_93_84]
    | succ m ih =>
      intro n w1 hn hf h1
      have k1 := hf.kw k
      have ht := k1.tT196
      have hv : n < C 0 0 2 := by omega
      have hw := hk.2.2.2.1 n hv
      have c1 : mI w1 197 2 = nI (C 0 0 2) := by rw [hf.out (c := 197) (Or.inl (by decide))]; exact hc.1 2 (by decide)
      -- the list as the methods see it: the row of how hard words are is not looked at
      have hc1 : CF w1 196 C := by
        obtain ⟨J, rfl, a⟩ := hf
        obtain ⟨f1, f2, f3, f4, f5, f6, f7, f8⟩ := hc
        have e : ∀ c j, ¬ c = 204 → J c j = mI w c j := fun c j q => a c j (by omega)
        refine ⟨fun j hj => (e 197 j (by decide)).trans (f1 j hj), fun q hq => (e 198 q (by decide)).trans (f2 q hq), fun r hr => ⟨(e 199 r (by decide)).trans (f3 r hr).1, (e 200 r (by decide)).trans (f3 r hr).2.1, (e 201 r (by decide)).trans (f3 r hr).2.2⟩, fun v hv => ⟨(e 202 v (by decide)).trans (f4 v hv).1, fun p hp => (e 203 _ (by decide)).trans ((f4 v hv).2 p hp)⟩, fun s hs => ⟨(e 205 s (by decide)).trans (f5 s hs).1, fun q hq => (e 206 _ (by decide)).trans ((f5 s hs).2 q hq)⟩, fun q hq => ⟨(e 207 q (by decide)).trans (f6 q hq).1, (e 208 q (by decide)).trans (f6 q hq).2.1, (e 209 q (by decide)).trans (f6 q hq).2.2.1, fun p hp => (e 210 _ (by decide)).trans ((f6 q hq).2.2.2 p hp)⟩, fun o ho => ⟨(e 211 o (by decide)).trans (f7 o ho).1, (e 212 o (by decide)).trans (f7 o ho).2⟩, ?_⟩
        obtain ⟨P, z, g1, g2, g3⟩ := f8
        exact ⟨P, z, g1, (e 214 2 (by decide)).trans g2, fun o ho => ⟨(e 213 o (by decide)).trans (g3 o ho).1, (g3 o ho).2.1, fun i a b h => ⟨(e 215 _ (by decide)).trans ((g3 o ho).2.2 i a b h).1, fun ha => (e 216 _ (by decide)).trans (((g3 o ho).2.2 i a b h).2 ha)⟩⟩⟩
      have lb : lettersM C n ≤ 36 := by
        have key2 : ∀ q, q ≤ C 3 n 0 → su q (fun p => C 2 (C 4 n p) 1) ≤ 9 * q := by
          intro q
          induction q with
          | zero => intro _; exact Nat.zero_le _
          | succ q ih2 =>
            intro hq
            have z1 := (hk.2.2.1 _ (hw.2.2 q (by omega))).2.1
            have z2 := ih2 (by omega)
            show su q _ + C 2 (C 4 n q) 1 ≤ _
            omega
        have := key2 (C 3 n 0) (Nat.le_refl _)
        show su (C 3 n 0) _ ≤ _
        omega
      have inner := loop0 (fun q => mX (d + 3) 93 33 [.ref 196, mJ, .int (nI n), .int (nI (lettersM C n / 4 + su q (fun p => C 2 (C 4 n p) 2))), .int (nI q)] [] w1) (C 3 n 0) (fun q hq => by
        have hr := hw.2.2 q hq
        have pq : mK (d + 2) 88 [.ref 196, .int (nI n), .int (nI q)] w1 = some (.inl (some (.int (nI (C 4 n q)))), w1) := c_part (d := d + 1) ht hc1 hk hv hq
        rw [b_93_33 ht.t0 ht.s0_5, ht.g0_5, c_size ht hc1 hk hv]
        simp only [mThen_ok, Option.toList_some, Option.toList_none, List.cons_append, List.nil_append]
        rw [b_93_43, ijle (by omega) (by omega), if_neg (by omega), b_93_46 ht.t0 ht.s0_4, ht.g0_4, pq]
        simp only [mThen_ok, Option.toList_some, Option.toList_none, List.cons_append, List.nil_append]
        rw [b_93_58, c_rhar ht hc1 hk hr]
        simp only [mThen_ok, Option.toList_some, Option.toList_none, List.cons_append, List.nil_append]
        rw [b_93_61, jadd, jadd, Nat.add_assoc (lettersM C n / 4)]
        rfl)
      have f1 : frB 204 205 w (wI w1 204 n (nI (hardM C n))) := hf.set (by decide) (by decide)
      obtain ⟨w', e1, e2, e3⟩ := ih (n + 1) (wI w1 204 n (nI (hardM C n))) (by omega) f1 (fun v hv => by
        rw [miI]
        by_cases g : v = n
        · subst g; rw [if_pos ⟨rfl, rfl⟩]
        · rw [if_neg (fun q => g q.2)]; exact h1 v (by omega))
      refine ⟨w', ?_, e2, e3⟩
      rw [b_93_10 ht.t0 ht.s0_0, ht.g0_0, c_getN ht.t1 (by rw [ht.l1]; decide) (by rw [ht.l1]; decide), c1]
      simp only [mThen_ok, Option.toList_some, Option.toList_none, List.cons_append, List.nil_append]
      rw [b_93_19, ijle (by omega) (by omega), if_neg (by omega), b_93_22 ht.t0, c_letters (d := d) ht hc1 hk hv]
      simp only [mThen_ok, Option.toList_some, Option.toList_none, List.cons_append, List.nil_append]
      rw [b_93_27, jdiv (by omega) (by decide)]
      refine Eq.trans inner ?_
      try dsimp only
      rw [b_93_33 ht.t0 ht.s0_5, ht.g0_5, c_size ht hc1 hk hv]
      simp only [mThen_ok, Option.toList_some, Option.toList_none, List.cons_append, List.nil_append]
      rw [b_93_43, if_pos (by rw [jle (by omega) (by omega)]; exact Nat.le_refl _), b_93_69 ht.t0 ht.s0_7, ht.g0_7, c_putN ht.t8 (by omega) (by rw [ht.l8]; omega) (by rw [ht.l8]; decide)]
      simp only [mThen_ok, Option.toList_some, Option.toList_none, List.cons_append, List.nil_append]
      rw [b_93_78, jadd]
      exact e1
  exact key (C 0 0 2) 0 w (by omega) (frB.refl _ _ _) (fun v hv => absurd hv (by omega))
end
