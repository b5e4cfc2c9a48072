/-! ===== the law's own list: the bee that it leaves ===== -/
/-- all that the law's bee is made of, when the list is written: cells s1 to s6 part the sections -/
def FIN (w u : MW) (s2 s3 s4 s5 s6 s7 : Nat) : Prop :=
  (RO w 9 (CU u 0 0 1) (CU u 0 0 1) s2 s3 (fun _ => 3) (CU u 2) ∧
  RO w 10 (CU u 0 0 2) (CU u 0 0 2) (s3 + 2 + CU u 0 0 2) s4 (fun i => CU u 3 i 0) (CU u 4) ∧
  RO w 11 (CU u 0 0 2) (CU u 0 0 2) (s3 + 2) (s3 + 2 + CU u 0 0 2) (fun _ => 2) (fun _ _ => 0)) ∧
  (RO w 12 (CU u 0 0 3) (CU u 0 0 3) (s4 + 3 + CU u 0 0 3 + CU u 0 0 3) s5 (fun _ => 9) (begM (CU u) 0 3) ∧
  RO w 13 (CU u 0 0 3) (CU u 0 0 3) (s4 + 2) (s4 + 2 + CU u 0 0 3) (fun _ => CU u 0 0 0) (CU u 6) ∧
  RO w 14 (CU u 0 0 3) (CU u 0 0 3) (s4 + 3 + CU u 0 0 3) (s4 + 3 + CU u 0 0 3 + CU u 0 0 3) (fun _ => CU u 0 0 1) (fun _ _ => 0)) ∧
  (RO w 15 (CU u 0 0 4) (CU u 0 0 4) (s5 + 2) s6 (fun _ => 2) (CU u 7) ∧
  RO w 16 (CU u 0 0 4) (CU u 0 0 4) (s5 + 2) s6 (fun i => CU u 7 i 2) (CU u 8) ∧
  RO w 17 (CU u 0 0 5) (CU u 0 0 5) (s6 + 2) s7 (fun _ => 6) (CU u 9)) ∧
  EA w u ∧ (291 ≤ s2 ∧ s2 ≤ s3) ∧ (mR w 278 7 = some 279 ∧ mTg w 279 = 50 ∧ mLn w 279 = 6 ∧ ∀ j, mI w 279 j = nI 0)
section
variable {f n m lo hi i j c s2 s3 s4 s5 s6 s7 : Nat} {u w w' : MW} {ln : Nat → Nat} {v : Nat → Nat → Nat} {x : Int32}
theorem RO.lw (h : RO w f n m lo hi ln v) : ∀ i, i < m → lo + i ≤ gR w (gR w 278 f) i := by
  intro i
  induction i with
  | zero => intro z; have := (h.2.2.1 0 z).2.2.2.1; omega
  | succ i ih =>
    intro z
    have a := ih (by omega)
    have b := h.2.2.2 i (i + 1) (Nat.lt_succ_self i) z
    omega
theorem RO.hg (h : RO w f n m lo hi ln v) : ∀ k i, i + k + 1 = m → gR w (gR w 278 f) i + k < hi := by
  intro k
  induction k with
  | zero => intro i z; have := (h.2.2.1 i (by omega)).2.2.2.1; omega
  | succ k ih =>
    intro i z
    have a := ih (i + 1) (by omega)
    have b := h.2.2.2 i (i + 1) (Nat.lt_succ_self i) (by omega)
    omega
/-- rows that fill their place lie one behind the other -/
theorem RO.co (h : RO w f n m lo (lo + m) ln v) (hi' : i < m) : gR w (gR w 278 f) i = lo + i := by
  have a := h.lw i hi'
  have b := h.hg (m - i - 1) i (by omega)
  omega
theorem RO.w1 (h : RO w f n m lo hi ln v) : RO (wI w 278 1 x) f n m lo hi ln v := by
  refine ⟨h.1, h.2.1, fun i hi' => ?_, h.2.2.2⟩
  obtain ⟨p1, p2, p3, p4, p5⟩ := h.2.2.1 i hi'
  have b := h.b
  refine ⟨p1, p2, p3, p4, fun j hj => ?_⟩
  show mI (wI w 278 1 x) (gR w (gR w 278 f) i) j = _
  rw [miI, if_neg (by omega)]
  exact p5 j hj
theorem EA.w1 (h : EA w u) : EA (wI w 278 1 x) u := by
  refine ⟨h.1, h.2.1, h.2.2.1, h.2.2.2.1, h.2.2.2.2.1, fun j hj => ?_⟩
  have b := h.b
  show mI (wI w 278 1 x) (gR w 278 8) j = _
  rw [miI, if_neg (by omega)]
  exact h.2.2.2.2.2 j hj
theorem FIN.w1 (h : FIN w u s2 s3 s4 s5 s6 s7) : FIN (wI w 278 1 x) u s2 s3 s4 s5 s6 s7 := by
  obtain ⟨⟨a1, a2, a3⟩, ⟨b1, b2, b3⟩, ⟨c1, c2, c3⟩, e, s, ⟨z1, z2, z3, z4⟩⟩ := h
  refine ⟨⟨a1.w1, a2.w1, a3.w1⟩, ⟨b1.w1, b2.w1, b3.w1⟩, ⟨c1.w1, c2.w1, c3.w1⟩, e.w1, s, ⟨z1, z2, z3, fun j => ?_⟩⟩
  rw [miI, if_neg (by omega)]
  exact z4 j
theorem FIN.mu (h : FIN w u s2 s3 s4 s5 s6 s7) (hm : muS w 278 (CU u) c) : c = 278 ∨ c = 279 ∨ (s3 + 2 ≤ c ∧ c < s3 + 2 + CU u 0 0 2) ∨ (s4 + 2 ≤ c ∧ c < s5) := by
  obtain ⟨⟨a1, a2, a3⟩, ⟨b1, b2, b3⟩, ⟨c1, c2, c3⟩, e, s, ⟨z1, z2, z3, z4⟩⟩ := h
  have g7 : gR w 278 7 = 279 := gR_of z1
  have q1 := b1.b
  rcases hm with q | q | ⟨i, hi', q⟩ | ⟨i, hi', q | q | q⟩
  · exact Or.inl q
  · rw [g7] at q; exact Or.inr (Or.inl q)
  · have := (a3.2.2.1 i hi').2.2.2.1; omega
  · have := (b1.2.2.1 i hi').2.2.2.1; omega
  · have := (b2.2.2.1 i hi').2.2.2.1; omega
  · have := (b3.2.2.1 i hi').2.2.2.1; omega
theorem FIN.st (h : FIN w u s2 s3 s4 s5 s6 s7) : ST w 278 (CU u) := by
  have hh := h
  obtain ⟨⟨a1, a2, a3⟩, ⟨b1, b2, b3⟩, ⟨c1, c2, c3⟩, e, s, ⟨z1, z2, z3, z4⟩⟩ := h
  have cb := (CU_cb u).1
  have g7 : gR w 278 7 = 279 := gR_of z1
  have qa1 := a1.b
  have qa2 := a2.b
  have qb1 := b1.b
  have qc1 := c1.b
  have qc3 := c3.b
  have eb := e.b
  have o11 := a3.co (i := 0) (by omega)
  have o13 := b2.co (i := 0) (by omega)
  have o14 := b3.co (i := 0) (by omega)
  exact ⟨e.s, by rw [g7]; exact z1, by rw [g7]; exact z2, by rw [g7]; exact z3,
    e.rr, e.t, e.l,
    a1.a.rr, a1.a.t, a1.a.l, fun i hi' => ⟨(a1.rd hi').rr, (a1.rd hi').t, (a1.rd hi').l⟩,
    a2.a.rr, a2.a.t, a2.a.l, fun i hi' => ⟨(a2.rd hi').rr, (a2.rd hi').t, (a2.rd hi').l⟩,
    a3.a.rr, a3.a.t, a3.a.l, fun i hi' => ⟨(a3.rd hi').rr, (a3.rd hi').t, (a3.rd hi').l⟩,
    b1.a.rr, b1.a.t, b1.a.l, fun i hi' => ⟨(b1.rd hi').rr, (b1.rd hi').t, (b1.rd hi').l⟩,
    b2.a.rr, b2.a.t, b2.a.l, fun i hi' => ⟨(b2.rd hi').rr, (b2.rd hi').t, (b2.rd hi').l⟩,
    b3.a.rr, b3.a.t, b3.a.l, fun i hi' => ⟨(b3.rd hi').rr, (b3.rd hi').t, (b3.rd hi').l⟩,
    c1.a.rr, c1.a.t, c1.a.l, fun i hi' => ⟨(c1.rd hi').rr, (c1.rd hi').t, (c1.rd hi').l⟩,
    c2.a.rr, c2.a.t, c2.a.l, fun i hi' => ⟨(c2.rd hi').rr, (c2.rd hi').t, (c2.rd hi').l⟩,
    c3.a.rr, c3.a.t, c3.a.l, fun i hi' => ⟨(c3.rd hi').rr, (c3.rd hi').t, (c3.rd hi').l⟩,
    by omega, by omega,
    fun i hi' => by have := a3.co hi'; omega,
    fun i hi' => by have := b2.co hi'; omega,
    fun i hi' => by have := b3.co hi'; omega,
    by omega, by omega, by omega,
    fun i hi' => by have := (b1.2.2.1 i hi').2.2.2.1; omega,
    fun i j q1 q2 => b1.2.2.2 i j q1 q2,
    fun y => by have := hh.mu y; omega,
    fun i hi' y => by have := hh.mu y; have := (a1.2.2.1 i hi').2.2.2.1; omega,
    fun i hi' y => by have := hh.mu y; have := (a2.2.2.1 i hi').2.2.2.1; omega,
    fun i hi' y => by have := hh.mu y; have := (c1.2.2.1 i hi').2.2.2.1; omega,
    fun i hi' y => by have := hh.mu y; have := (c2.2.2.1 i hi').2.2.2.1; omega,
    fun i hi' y => by have := hh.mu y; have := (c3.2.2.1 i hi').2.2.2.1; omega⟩
theorem FIN.sc (h : FIN w u s2 s3 s4 s5 s6 s7) : SC w 278 (CU u) := by
  obtain ⟨⟨a1, a2, a3⟩, ⟨b1, b2, b3⟩, ⟨c1, c2, c3⟩, e, s, ⟨z1, z2, z3, z4⟩⟩ := h
  exact ⟨e.2.2.2.2.2, fun r hr j hj => (a1.rd hr).vv hj, fun v hv p hp => (a2.rd hv).vv hp, fun q hq j hj => (c1.rd hq).vv hj, fun q hq p hp => (c2.rd hq).vv hp, fun o ho j hj => (c3.rd ho).vv hj⟩
theorem FIN.lk (h : FIN w u s2 s3 s4 s5 s6 s7) (hz : ∀ j, mI w 278 j = nI 0) : lnOk (SL w 278 (CU u)) w (begM (CU u) 0) := by
  obtain ⟨⟨a1, a2, a3⟩, ⟨b1, b2, b3⟩, ⟨c1, c2, c3⟩, e, s, ⟨z1, z2, z3, z4⟩⟩ := h
  have g7 : gR w 278 7 = 279 := gR_of z1
  intro g i j hv
  rcases hv with ⟨rfl, rfl, q⟩ | ⟨rfl, rfl, q⟩ | ⟨rfl, q1, q2⟩ | ⟨rfl, q1, q2⟩ | ⟨rfl, q1, q2⟩ | ⟨rfl, q1, q2⟩ | ⟨rfl, rfl, q1, q2⟩
  · show mI w 278 j = nI (if j = 4 then 0 else 0)
    rw [hz j]
    split <;> rfl
  · show mI w (gR w 278 7) j = nI 0
    rw [g7]; exact z4 j
  · exact (a3.rd q1).vv q2
  · exact (b1.rd q1).vv q2
  · exact (b2.rd q1).vv q2
  · exact (b3.rd q1).vv q2
  · exact hz j
theorem FIN.sb (h : FIN w u s2 s3 s4 s5 s6 s7) : SB w 278 (CU u) (mSz w) := by
  obtain ⟨⟨a1, a2, a3⟩, ⟨b1, b2, b3⟩, ⟨c1, c2, c3⟩, e, s, ⟨z1, z2, z3, z4⟩⟩ := h
  have g7 : gR w 278 7 = 279 := gR_of z1
  have eb := e.b
  have k9 := a1.a.b
  have k10 := a2.a.b
  have k11 := a3.a.b
  have k12 := b1.a.b
  have k13 := b2.a.b
  have k14 := b3.a.b
  have k15 := c1.a.b
  have k16 := c2.a.b
  have k17 := c3.a.b
  have key : ∀ {f n m lo hi : Nat} {ln : Nat → Nat} {v : Nat → Nat → Nat}, RO w f n m lo hi ln v → ∀ i, i < m → 276 ≤ gR w (gR w 278 f) i ∧ gR w (gR w 278 f) i < mSz w := fun r i hi' => by
    have := (r.rd hi').b
    omega
  refine ⟨by omega, fun f f1 f2 => ?_, fun f i r => ?_⟩
  · rcases (show f = 7 ∨ f = 8 ∨ f = 9 ∨ f = 10 ∨ f = 11 ∨ f = 12 ∨ f = 13 ∨ f = 14 ∨ f = 15 ∨ f = 16 ∨ f = 17 by omega) with z | z | z | z | z | z | z | z | z | z | z <;> subst z <;> omega
  · rcases r with ⟨rfl, q⟩ | ⟨rfl | rfl, q⟩ | ⟨rfl | rfl | rfl, q⟩ | ⟨rfl | rfl, q⟩ | ⟨rfl, q⟩
    · exact key a1 i q
    · exact key a2 i q
    · exact key a3 i q
    · exact key b1 i q
    · exact key b2 i q
    · exact key b3 i q
    · exact key c1 i q
    · exact key c2 i q
    · exact key c3 i q
theorem FIN.sw (h : FIN w u s2 s3 s4 s5 s6 s7) (hz : ∀ j, mI w 278 j = nI 0) : SW w 278 (CU u) (begM (CU u) 0) := ⟨h.st, h.sc, (CU_cb u).cf, h.lk hz⟩
end
