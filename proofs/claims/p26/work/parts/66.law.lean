/-! ===== the law's world: the class's object and the law's bee, that stand alike ===== -/
theorem and31 (x : Int32) : ¬ (x &&& nI 2147483647) < nI 0 := by
  have h : (x &&& nI 2147483647).toBitVec.msb = false := by
    rw [Int32.toBitVec_and, BitVec.msb_and]
    have : (nI 2147483647).toBitVec.msb = false := by decide +kernel
    rw [this, Bool.and_false]
  rw [BitVec.msb_eq_toInt] at h
  rw [Int32.lt_iff_toInt_lt]
  intro g
  have h0 : (nI 0).toInt = 0 := by decide +kernel
  rw [h0] at g
  have g2 : decide ((x &&& nI 2147483647).toBitVec.toInt < 0) = true := decide_eq_true g
  rw [h] at g2
  cases g2
/-- what the law's below answers -/
def bl (x : Int32) (n : Nat) : Nat := (x &&& nI 2147483647).toNatClampNeg % n
theorem bl_lt (x : Int32) {n : Nat} (h : 0 < n) : bl x n < n := Nat.mod_lt _ h
theorem c_below {d n : Nat} {w : MW} (x : Int32) (h0 : 0 < n) (hn : n < 2147483648) : mK d 163 [.int x, .int (nI n)] w = some (.inl (some (.int (nI (bl x n)))), w) := by
  obtain ⟨j, hj, e⟩ := jof (and31 x)
  rw [e_163, b_163_0 (by rw [jeq hn (by decide)]; omega)]
  unfold bl
  rw [e, jmod hj hn, jcl hj]
/-- what the law's cell answers -/
def ce (w : MW) (a k : Nat) : Int32 := if k < mLn w a then mI w a k else nI 790386105 * (nI k + nI 3)
theorem c_cell {d a k : Nat} {w : MW} (h : mTg w a = 50) (hl : mLn w a < 2147483648) (hk : k < 2147483648) : mK d 164 [.ref a, .int (nI k)] w = some (.inl (some (.int (ce w a k))), w) := by
  rw [e_164, b_164_0 (by omega), ijle hl hk]
  unfold ce
  by_cases g : k < mLn w a
  · rw [if_neg (by omega), if_pos g, b_164_6 h hk g, b_164_18]
  · rw [if_pos (by omega), if_neg g, b_164_12, b_164_18]
section
variable {d B σ hi : Nat} {w w' w1 : MW} {C : CD} {M M' : MD}
theorem agr.mono {lo lo' hi' : Nat} (h : agr w w' lo hi) (h1 : lo ≤ lo') (h2 : hi' ≤ hi) : agr w w' lo' hi' := fun c g1 g2 => h c (by omega) (by omega)
/-- at most k new cells of at most 20 places -/
def gr (k : Nat) (w w' : MW) : Prop := mSz w ≤ mSz w' ∧ mSz w' ≤ mSz w + k ∧ mSl w' ≤ mSl w + 20 * k
theorem gr.refl (k : Nat) (w : MW) : gr k w w := ⟨Nat.le_refl _, by omega, by omega⟩
theorem gr.trans {k j : Nat} (h : gr k w w') (g : gr j w' w1) : gr (k + j) w w1 := by
  obtain ⟨a1, a2, a3⟩ := h
  obtain ⟨b1, b2, b3⟩ := g
  exact ⟨by omega, by omega, by omega⟩
theorem gr.mono {k j : Nat} (h : gr k w w') (hj : k ≤ j) : gr j w w' := ⟨h.1, by have := h.2.1; omega, by have := h.2.2; omega⟩
theorem gr.wN {t n k : Nat} (h : k ≤ 20) : gr 1 w (wN w t n k) := ⟨Nat.le_succ _, Nat.le_refl _, by show mSl w + k ≤ _; omega⟩
theorem gr.wI {c k : Nat} {x : Int32} : gr 0 w (wI w c k x) := ⟨Nat.le_refl _, Nat.le_refl _, Nat.le_refl _⟩
theorem gr.wR {c k : Nat} {x : Option Nat} : gr 0 w (wR w c k x) := ⟨Nat.le_refl _, Nat.le_refl _, Nat.le_refl _⟩
theorem gr.wJ {J : Nat → Nat → Int32} : gr 0 w (wJ w J) := ⟨Nat.le_refl _, Nat.le_refl _, Nat.le_refl _⟩
theorem gr.upB {b : Nat} (h : upB b w w' M) : gr 0 w w' := by obtain ⟨J, rfl, -⟩ := h; exact gr.wJ
theorem gr.frB {lo hi : Nat} (h : frB lo hi w w') : gr 0 w w' := by obtain ⟨J, rfl, -⟩ := h; exact gr.wJ
theorem gr.upS {σ : Nat} (h : upS σ C w w' M) : gr 0 w w' := by obtain ⟨J, rfl, -⟩ := h; exact gr.wJ
def LW (w : MW) (σ hi : Nat) (C : CD) (M : MD) : Prop := GW w C M ∧ SW w σ C M ∧ SB w σ C hi ∧ 276 ≤ hi ∧ hi ≤ mSz w ∧ (mTg w 1 = 50 ∧ mLn w 1 < 2147483648)
theorem LW.g (h : LW w σ hi C M) : GW w C M := h.1
theorem LW.s (h : LW w σ hi C M) : SW w σ C M := h.2.1
theorem LW.b (h : LW w σ hi C M) : SB w σ C hi := h.2.2.1
theorem LW.k (h : LW w σ hi C M) : CfOk C := h.2.1.k
theorem LW.lo (h : LW w σ hi C M) : 276 ≤ hi := h.2.2.2.1
theorem LW.top (h : LW w σ hi C M) : hi ≤ mSz w := h.2.2.2.2.1
theorem LW.one (h : LW w σ hi C M) : mTg w 1 = 50 ∧ mLn w 1 < 2147483648 := h.2.2.2.2.2
/-- new cells, and writings from hi on -/
theorem LW.ag (h : LW w σ hi C M) (a : agr w w' 166 hi) (hs : mSz w ≤ mSz w') (hT : mTg w' 1 = mTg w 1 ∧ mLn w' 1 = mLn w 1) : LW w' σ hi C M := by
  have a2 : agr w w' 276 hi := a.mono (by omega) (Nat.le_refl _)
  exact ⟨h.g.ag h.lo a, h.s.ag h.b a2, h.b.ag h.s.s a2, h.lo, Nat.le_trans h.top hs, hT.1.trans h.one.1, by rw [hT.2]; exact h.one.2⟩
theorem LW.wN (h : LW w σ hi C M) {t n k : Nat} : LW (wN w t n k) σ hi C M := h.ag (agr.wN h.top) (Nat.le_succ _) ⟨if_neg (by have := h.lo; have := h.top; show ¬ 1 = mSz w; omega), if_neg (by have := h.lo; have := h.top; show ¬ 1 = mSz w; omega)⟩
theorem LW.wI (h : LW w σ hi C M) {c k : Nat} {x : Int32} (hc : hi ≤ c) : LW (wI w c k x) σ hi C M := h.ag (agr.wI (Or.inl hc)) (Nat.le_refl _) ⟨rfl, rfl⟩
/-- the ghost alone is touched -/
theorem agr.fr {lo lo0 : Nat} (f : frB lo0 lo w w') {l : Nat} (hl : lo ≤ l) : agr w w' l hi := by
  obtain ⟨J, rfl, e⟩ := f
  exact fun c h1 h2 => ⟨rfl, rfl, funext fun k => e c k (by omega), rfl⟩
theorem LW.gs (h : LW w σ hi C M) (u : frB 248 276 w w') : LW w' σ hi C M := by
  have a2 : agr w w' 276 hi := agr.fr u (Nat.le_refl _)
  exact ⟨h.g.gs u, h.s.frB h.b (Nat.le_refl _) u, h.b.ag h.s.s a2, h.lo, by have := (gr.frB u).1; have := h.top; omega, by obtain ⟨J, rfl, -⟩ := u; exact h.one⟩
/-- both move on -/
theorem LW.both (h : LW w σ hi C M) (u : upB 220 w w1 M') (v : upS σ C w1 w' M') : LW w' σ hi C M' := by
  have f : frB 220 248 w w1 := u.fr
  have a2 : agr w w1 276 hi := agr.fr f (by omega)
  have s1 : SW w1 σ C M := h.s.frB h.b (by omega) f
  have g1 : GW w1 C M' := h.g.up u
  have b1 : SB w1 σ C hi := h.b.ag h.s.s a2
  have l1 := (gr.upB u).1
  have l2 := (gr.upS v).1
  have o1 : mTg w' 1 = mTg w 1 ∧ mLn w' 1 = mLn w 1 := by obtain ⟨J, rfl, -⟩ := u; obtain ⟨J', rfl, -⟩ := v; exact ⟨rfl, rfl⟩
  refine ⟨g1.upS s1.s v, s1.up v, ?_, h.lo, by have := h.top; omega, o1.1.trans h.one.1, by rw [o1.2]; exact h.one.2⟩
  obtain ⟨J, rfl, -⟩ := v
  exact b1
/-- the law's bee first -/
theorem LW.both2 (h : LW w σ hi C M) (v : upS σ C w w1 M') (u : upB 220 w1 w' M') : LW w' σ hi C M' := by
  have s1 : SW w1 σ C M' := h.s.up v
  have g1 : GW w1 C M := h.g.upS h.s.s v
  have b1 : SB w1 σ C hi := by obtain ⟨J, rfl, -⟩ := v; exact h.b
  have f : frB 220 248 w1 w' := u.fr
  have a2 : agr w1 w' 276 hi := agr.fr f (by omega)
  have l1 := (gr.upB u).1
  have l2 := (gr.upS v).1
  have o1 : mTg w' 1 = mTg w 1 ∧ mLn w' 1 = mLn w 1 := by obtain ⟨J, rfl, -⟩ := u; obtain ⟨J', rfl, -⟩ := v; exact ⟨rfl, rfl⟩
  exact ⟨g1.up u, s1.frB b1 (by omega) f, b1.ag s1.s a2, h.lo, by have := h.top; omega, o1.1.trans h.one.1, by rw [o1.2]; exact h.one.2⟩
theorem LW.ext (h : LW w σ hi C M) (e : ∀ g i j, M g i j = M' g i j) : LW w σ hi C M' := by
  have : M = M' := funext fun g => funext fun i => funext fun j => e g i j
  rw [← this]; exact h
end
