/-! ===== the list that a script chooses ===== -/
section
variable (cs : Nat → Int32)
def nT : Nat := 1 + bl (cs 0) 3
def nRo : Nat := 2 + bl (cs 1) 5
def nWo : Nat := 2 + bl (cs 2) 5
def nSp : Nat := 2 + bl (cs 3) 3
def nQu : Nat := 1 + bl (cs 4) 3
def nOr : Nat := bl (cs 5) 9
def xRo (k : Nat) : Int32 := cs 1 >>> ((nI 2 + nI 3 * nI k) &&& 31)
def xWo (k : Nat) : Int32 := cs 2 >>> ((nI 2 + nI 3 * nI k) &&& 31)
def xSp (k : Nat) : Int32 := cs 3 >>> ((nI 2 + nI 4 * nI k) &&& 31)
def xQu (k : Nat) : Int32 := cs 4 >>> ((nI 2 + nI 5 * nI k) &&& 31)
def xOr (k : Nat) : Int32 := cs (6 + k % 8) >>> ((nI 2 + nI (k / 8)) &&& 31)
/-- the numbers but the knowledge as it comes out -/
def CS0 : CD := fun g i j => match g, j with
  | 0, 0 => nT cs
  | 0, 1 => nRo cs
  | 0, 2 => nWo cs
  | 0, 3 => nSp cs
  | 0, 4 => nQu cs
  | 0, 5 => nOr cs
  | 1, _ => bl (cs 0 >>> ((nI 3 * nI i + nI 2) &&& 31)) 5
  | 2, 0 => bl (xRo cs i) (nT cs)
  | 2, 1 => 1 + bl (xRo cs i >>> (nI 2 &&& 31)) 9
  | 2, _ => bl (xRo cs i >>> (nI 1 &&& 31)) 8
  | 3, _ => 1 + bl (xWo cs i) (1 + bl (xWo cs i >>> (nI 3 &&& 31)) 4)
  | 4, k => bl ((xWo cs i >>> (nI k &&& 31)) + nI 2 * nI k) (nRo cs)
  | 5, _ => if i < nSp cs then bl (xSp cs i) 4 else 0
  | 7, 0 => bl (xQu cs i) 4 * i * 2 + bl (xQu cs i >>> (nI 3 &&& 31)) 3
  | 7, 1 => 1 + bl (xQu cs i >>> (nI 2 &&& 31)) 3
  | 7, _ => 1 + bl (xQu cs i >>> (nI 4 &&& 31)) 5
  | 8, k => bl ((xQu cs i >>> (nI 1 &&& 31)) + nI 3 * nI k) (nWo cs)
  | 9, 0 => bl (xOr cs i) 3
  | 9, 1 => bl (xOr cs i >>> (nI 2 &&& 31)) (nSp cs)
  | 9, 2 => bl (xOr cs i >>> (nI 4 &&& 31)) 9
  | 9, 3 => bl (xOr cs i >>> (nI 3 &&& 31)) 7
  | 9, 4 => if bl (xOr cs i >>> (nI 8 &&& 31)) 2 = 0 then bl (xOr cs i >>> (nI 2 &&& 31)) (nSp cs) else bl (xOr cs i >>> (nI 5 &&& 31)) (nSp cs)
  | 9, 5 => bl (xOr cs i >>> (nI 6 &&& 31)) (nWo cs)
  | 10, _ => 1 + bl (xSp cs i >>> (nI 3 &&& 31)) 4
  | 11, k => bl ((xSp cs i >>> (nI 2 &&& 31)) + nI k) (nT cs)
  | 12, k => bl ((xSp cs i >>> (nI 4 &&& 31)) + nI 5 * nI k) 15
  | _, _ => 0
def CS : CD := fun g i j => if g = 6 then (if i < nSp cs then knF (CS0 cs) i j (CS0 cs 10 i 0) else 0) else CS0 cs g i j
theorem CS_knF (s k : Nat) : ∀ n, knF (CS cs) s k n = knF (CS0 cs) s k n := by
  intro n
  induction n with
  | zero => rfl
  | succ n ih =>
    unfold knF
    rw [ih]
    rfl
theorem CS_cb : CB (CS cs) := by
  have t0 : ∀ x : Int32, bl x 3 < 3 := fun x => bl_lt _ (by decide)
  have t1 : ∀ x : Int32, bl x 5 < 5 := fun x => bl_lt _ (by decide)
  have t2 : ∀ x : Int32, bl x 9 < 9 := fun x => bl_lt _ (by decide)
  have t3 : ∀ x : Int32, bl x 4 < 4 := fun x => bl_lt _ (by decide)
  have t4 : ∀ x : Int32, bl x 8 < 8 := fun x => bl_lt _ (by decide)
  have t5 : ∀ x : Int32, bl x 7 < 7 := fun x => bl_lt _ (by decide)
  have t6 : ∀ x : Int32, bl x 15 < 15 := fun x => bl_lt _ (by decide)
  have aT : ∀ x : Int32, bl x (nT cs) < nT cs := fun x => bl_lt _ (by unfold nT; omega)
  have aR : ∀ x : Int32, bl x (nRo cs) < nRo cs := fun x => bl_lt _ (by unfold nRo; omega)
  have aW : ∀ x : Int32, bl x (nWo cs) < nWo cs := fun x => bl_lt _ (by unfold nWo; omega)
  have aS : ∀ x : Int32, bl x (nSp cs) < nSp cs := fun x => bl_lt _ (by unfold nSp; omega)
  have eT : nT cs = 1 + bl (cs 0) 3 := rfl
  have eR : nRo cs = 2 + bl (cs 1) 5 := rfl
  have eW : nWo cs = 2 + bl (cs 2) 5 := rfl
  have eS : nSp cs = 2 + bl (cs 3) 3 := rfl
  have eQ : nQu cs = 1 + bl (cs 4) 3 := rfl
  have eO : nOr cs = bl (cs 5) 9 := rfl
  have z0 := t0 (cs 0)
  have z1 := t1 (cs 1)
  have z2 := t1 (cs 2)
  have z3 := t0 (cs 3)
  have z4 := t0 (cs 4)
  have z5 := t2 (cs 5)
  refine ⟨?_, fun k => ?_, fun r => ?_, fun v => ?_, fun s => ?_, fun q hq => ?_, fun q => ?_, fun o => ?_, fun s k => ?_, fun s hs => ?_⟩
  · show 1 ≤ nT cs ∧ nT cs ≤ 3 ∧ 2 ≤ nRo cs ∧ nRo cs ≤ 6 ∧ 2 ≤ nWo cs ∧ nWo cs ≤ 6 ∧ 2 ≤ nSp cs ∧ nSp cs ≤ 4 ∧ 1 ≤ nQu cs ∧ nQu cs ≤ 3 ∧ nOr cs ≤ 8
    omega
  · have := t1 (cs 0 >>> ((nI 3 * nI k + nI 2) &&& 31))
    show bl _ 5 ≤ 4
    omega
  · have h1 := aT (xRo cs r)
    have h2 := t2 (xRo cs r >>> (nI 2 &&& 31))
    have h3 := t4 (xRo cs r >>> (nI 1 &&& 31))
    show bl _ (nT cs) < nT cs ∧ 1 ≤ 1 + bl _ 9 ∧ 1 + bl _ 9 ≤ 9 ∧ bl _ 8 ≤ 7
    omega
  · have h1 := t3 (xWo cs v >>> (nI 3 &&& 31))
    have h2 : bl (xWo cs v) (1 + bl (xWo cs v >>> (nI 3 &&& 31)) 4) < 1 + bl (xWo cs v >>> (nI 3 &&& 31)) 4 := bl_lt _ (by omega)
    refine ⟨?_, ?_, fun p => ?_⟩
    · show 1 ≤ 1 + bl _ _; omega
    · show 1 + bl (xWo cs v) (1 + bl (xWo cs v >>> (nI 3 &&& 31)) 4) ≤ 4; omega
    · exact aR _
  · have h1 := t3 (xSp cs s)
    have h2 := t3 (xSp cs s >>> (nI 3 &&& 31))
    refine ⟨?_, ⟨?_, ?_⟩, fun i => ⟨aT _, t6 _⟩⟩
    · show (if s < nSp cs then bl (xSp cs s) 4 else 0) ≤ 3
      split <;> omega
    · show 1 ≤ 1 + bl _ 4; omega
    · show 1 + bl _ 4 ≤ 4; omega
  · have hq' : q < nQu cs := hq
    have h1 := t3 (xQu cs q)
    have h2 := t0 (xQu cs q >>> (nI 3 &&& 31))
    show bl (xQu cs q) 4 * q * 2 + bl _ 3 ≤ 14
    have h3 : bl (xQu cs q) 4 * q ≤ 3 * 2 := Nat.mul_le_mul (by omega) (by omega)
    omega
  · have h1 := t0 (xQu cs q >>> (nI 2 &&& 31))
    have h2 := t1 (xQu cs q >>> (nI 4 &&& 31))
    refine ⟨?_, ?_, ?_, ?_, fun p => aW _⟩
    · show 1 ≤ 1 + bl _ 3; omega
    · show 1 + bl _ 3 ≤ 3; omega
    · show 1 ≤ 1 + bl _ 5; omega
    · show 1 + bl _ 5 ≤ 5; omega
  · refine ⟨t0 _, aS _, t2 _, ?_, ?_, aW _⟩
    · have := t5 (xOr cs o >>> (nI 3 &&& 31))
      show bl _ 7 ≤ 6; omega
    · show (if bl (xOr cs o >>> (nI 8 &&& 31)) 2 = 0 then bl (xOr cs o >>> (nI 2 &&& 31)) (nSp cs) else bl (xOr cs o >>> (nI 5 &&& 31)) (nSp cs)) < nSp cs
      split
      · exact aS _
      · exact aS _
  · rw [CS_knF]
    rfl
  · have hs' : nSp cs ≤ s := hs
    show (if s < nSp cs then bl (xSp cs s) 4 else 0) = 0
    rw [if_neg (by omega)]
end
