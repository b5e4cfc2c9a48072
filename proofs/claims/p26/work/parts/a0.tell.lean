/-! ===== the teller: a whole list is told ===== -/
/-- what a list's numbers are where they are told of spellers -/
def SpOk (C : CD) : Prop := (∀ s, s < C 0 0 3 → ∀ k, k < 5 → C 6 s k = knF C s k (C 10 s 0)) ∧ ∀ s, C 0 0 3 ≤ s → s < 6 → C 5 s 0 = 0 ∧ ∀ k, k < 5 → C 6 s k = 0
section
variable {d i j m n q : Nat} {u w w0 w1 w2 : MW} {tx : List Nat} {E : List Tk} {P : List (Nat × Nat)} {M : Nat → Nat → Nat} {N : Nat → Nat} {C : CD}
theorem c_fill0 {a : Nat} (ha : mTg w a = 50) (hE : mE ≤ a) (hn : mLn w a < 2147483648) (h0 : ∀ k, mI w a k = nI 0) : mK d 188 [.ref a, .int (nI 0)] w = some (.inl none, w) := by
  rw [c_fill ha hE hn]
  have e : jr (mI w) a (fun k => if k < mLn w a then nI 0 else mI w a k) = mI w := by
    funext c k
    unfold jr
    by_cases g : c = a
    · subst g
      rw [if_pos rfl, h0]
      show (if k < mLn w c then nI 0 else mI w c k) = nI 0
      rw [h0]
      split <;> rfl
    · rw [if_neg g]
  rw [e, wJ_self]
theorem c_clear (k : KW w) (h0 : ∀ c, 197 ≤ c → c ≤ 213 → ∀ j, mI w c j = nI 0) : mK (d + 1) 92 [.ref 196] w = some (.inl none, w) := by
  have eE : mE = 166 := rfl
  have ht := k.tT196
  have r := fun a ha => k.rd a ha
  rw [e_92, b_92_0 ht.t0 ht.s0_0, ht.g0_0, c_fill0 (k.tg 197 (by decide) (by decide)) (by omega) (by rw [k.ln 197 (by decide) (by decide)]; decide) (h0 197 (by decide) (by decide))]
  simp only [mThen_ok, Option.toList_some, Option.toList_none, List.cons_append, List.nil_append]
  rw [b_92_8 ht.t0 ht.s0_5, ht.g0_5, c_fill0 (k.tg 202 (by decide) (by decide)) (by omega) (by rw [k.ln 202 (by decide) (by decide)]; decide) (h0 202 (by decide) (by decide))]
  simp only [mThen_ok, Option.toList_some, Option.toList_none, List.cons_append, List.nil_append]
  rw [b_92_16 ht.t0 ht.s0_12, ht.g0_12, c_fill0 (k.tg 209 (by decide) (by decide)) (by omega) (by rw [k.ln 209 (by decide) (by decide)]; decide) (h0 209 (by decide) (by decide))]
  simp only [mThen_ok, Option.toList_some, Option.toList_none, List.cons_append, List.nil_append]
  rw [b_92_24 ht.t0 ht.s0_9, ht.g0_9, c_fill0 (k.tg 206 (by decide) (by decide)) (by omega) (by rw [k.ln 206 (by decide) (by decide)]; decide) (h0 206 (by decide) (by decide))]
  simp only [mThen_ok, Option.toList_some, Option.toList_none, List.cons_append, List.nil_append]
  rw [b_92_32]
theorem drop_get {P : List (Nat × Nat)} {a b : List (Nat × Nat)} {p x : Nat} {v : Nat × Nat} (h : P.drop p = a ++ b) (hx : a[x]? = some v) : P.getD (p + x) (0, 0) = v ∧ p + x < P.length := by
  have hl : x < a.length := (List.getElem?_eq_some_iff.mp hx).1
  have e : P[p + x]? = some v := by
    rw [← List.getElem?_drop, h, List.getElem?_append_left hl, hx]
  exact ⟨by rw [List.getD_eq_getElem?_getD, e]; rfl, (List.getElem?_eq_some_iff.mp e).1⟩
/-- what is told, in the draft's cells -/
theorem cf_of (hc : CfOk C) (hs : SpOk C) (hE : E = EL C) (hP : P = PL C) (hP4 : P.length ≤ 400) (h : TI w w1 tx E M N q (E.length + 1)) (hf : FI C E M N (C 0 0 0) (C 0 0 1) (C 0 0 2) (C 0 0 3) (C 0 0 4) (C 0 0 5)) (hz : mI w 214 2 = nI P.length) (hops : ∀ j, j < P.length → mI w 215 j = nI (P.getD j (0, 0)).1 ∧ mI w 216 j = nI (P.getD j (0, 0)).2) (f2 : frB 216 217 w1 w2) (hset : ∀ j, j < P.length → mI w2 216 j = gt w1 174 (mI w1 216 j)) : CF w2 196 C ∧ KF w2 196 C := by
  obtain ⟨⟨g0, g1, g2, g3, g4, g5⟩, k1, k2, k3, k5, k7, k9, _⟩ := hf
  have hb := hc.1
  have hl := h.1.2.1
  have row : ∀ a, a < 17 → ∀ j, mI w2 (197 + a) j = nI (M a j) := fun a ha j => by
    rw [f2.out (Or.inl (by omega))]
    exact h.cnt a j ha
  have r0 : ∀ j, mI w2 197 j = nI (M 0 j) := row 0 (by decide)
  have fix : ∀ c, 214 ≤ c → c ≤ 216 → ∀ j, mI w1 c j = mI w c j := fun c h1 h2 j => h.2.2.1.out (by unfold tF; omega) j
  refine ⟨⟨fun j hj => ?_, fun k hk => ?_, fun r hr => ⟨?_, ?_, ?_⟩, fun v hv => ⟨?_, fun p hp => ?_⟩, fun s hsp => ⟨?_, fun k hk => ?_⟩, fun y hy => ⟨?_, ?_, ?_, fun p hp => ?_⟩, fun o ho => ⟨?_, ?_⟩, ?_⟩, fun s hs6 => ⟨?_, fun k hk => ?_⟩⟩
  · rw [show 196 + 1 = 197 from rfl, r0]
    rcases (show j = 0 ∨ j = 1 ∨ j = 2 ∨ j = 3 ∨ j = 4 ∨ j = 5 by omega) with z | z | z | z | z | z <;> subst z
    · rw [g0]
    · rw [g1]
    · rw [g2]
    · rw [g3]
    · rw [g4]
    · rw [g5]
  · exact (row 1 (by decide) k).trans (by rw [k1 k hk])
  · exact (row 2 (by decide) r).trans (by rw [(k2 r hr).1])
  · exact (row 3 (by decide) r).trans (by rw [(k2 r hr).2.1])
  · exact (row 4 (by decide) r).trans (by rw [(k2 r hr).2.2])
  · exact (row 5 (by decide) v).trans (by rw [(k3.1 v hv).1])
  · exact (row 6 (by decide) _).trans (by rw [(k3.1 v hv).2 p hp])
  · exact (row 8 (by decide) s).trans (by rw [(k5.1 s hsp).1])
  · exact (row 9 (by decide) _).trans (by rw [(k5.1 s hsp).2 k (by omega), hs.1 s hsp k (by omega)])
  · exact (row 10 (by decide) y).trans (by rw [(k7.1 y hy).1])
  · exact (row 11 (by decide) y).trans (by rw [(k7.1 y hy).2.1])
  · exact (row 12 (by decide) y).trans (by rw [(k7.1 y hy).2.2.1])
  · exact (row 13 (by decide) _).trans (by rw [(k7.1 y hy).2.2.2 p hp])
  · exact (row 14 (by decide) o).trans (by rw [(k9 o ho).1])
  · exact (row 15 (by decide) o).trans (by rw [(k9 o ho).2.1])
  · refine ⟨posM C, P.length, hP4, ?_, fun o ho => ?_⟩
    · show mI w2 214 2 = _
      rw [f2.out (Or.inl (by decide)), fix 214 (by decide) (by decide)]
      exact hz
    · have hE5 : E.drop (headL C).length = ordsL C (C 0 0 5) 0 (posM C 0) := by
        rw [hE]
        unfold EL
        rw [List.drop_left]
        rfl
      have hP5 : P.drop (posM C 0) = codeL C (C 0 0 5) 0 (headL C).length := by rw [hP]; rfl
      obtain ⟨i', rE, rP, x1, x2⟩ := cd_ords (fun o ho => (hc.2.2.2.2.2.2 o ho).2.2.1) (C 0 0 5) 0 (headL C).length (by omega) hE5 hP5 o (Nat.zero_le _) ho
      obtain ⟨y1, y2⟩ := cm_all (hc.2.2.2.2.2.2 o ho).2.2.1 x1
      refine ⟨(row 16 (by decide) o).trans (by rw [(k9 o ho).2.2]), ?_, fun x a b hx => ?_⟩
      · have L := congrArg List.length x2
        rw [List.length_drop, List.length_append, y1] at L
        have := testP_pos (C 9 o 2) i'
        omega
      · obtain ⟨g, z1, z2⟩ := y2 x a b hx
        obtain ⟨v1, v2⟩ := drop_get x2 z1
        refine ⟨?_, fun ha => ?_⟩
        · show mI w2 215 _ = _
          rw [f2.out (Or.inl (by decide)), fix 215 (by decide) (by decide), (hops _ v2).1, v1]
        · show mI w2 216 _ = _
          obtain ⟨t1, t2⟩ := z2 ha
          have r4 := h.k.row 174 (by decide) (by decide)
          rw [hset _ v2, fix 216 (by decide) (by decide), (hops _ v2).2, v1, gt_in (by omega) (by omega), h.2.2.2.2.2.2.1 g t1, if_pos (by omega), t2]
  · refine (row 8 (by decide) s).trans ?_
    by_cases z : s < C 0 0 3
    · rw [(k5.1 s z).1]
    · rw [(k5.2 s (by omega) hs6).1, (hs.2 s (by omega) hs6).1]
  · refine (row 9 (by decide) _).trans ?_
    by_cases z : s < C 0 0 3
    · rw [(k5.1 s z).2 k hk, hs.1 s z k hk]
    · rw [(k5.2 s (by omega) hs6).2 k hk, (hs.2 s (by omega) hs6).2 k hk]
/-- the teller finds no error, and the draft holds what is told -/
theorem c_tread (hc : CfOk C) (hn : KnOk C) (hr : RgOk C) (hs : SpOk C) (hE : E = EL C) (hP : P = PL C) (hP4 : P.length ≤ 400) (hS : SU w tx E) (h0 : ∀ c, (197 ≤ c ∧ c ≤ 213) ∨ c = 219 → ∀ j, mI w c j = nI 0) (h3 : mI w 218 3 = nI 0) (hV : ∀ j, j ≤ E.length → mI w 174 j = nI (tV (E.getD j tk0))) (hz : mI w 214 2 = nI P.length) (hops : ∀ j, j < P.length → mI w 215 j = nI (P.getD j (0, 0)).1 ∧ mI w 216 j = nI (P.getD j (0, 0)).2) :
    ∃ w', mK (d + 5) 62 [.ref 218] w = some (.inl (some (.int (nI 0))), w') ∧ frB 170 220 w w' ∧ CF w' 196 C ∧ HF w' 196 C ∧ KF w' 196 C := by
  have k := hS.1.1
  have i0 : TI w w tx E (fun _ _ => 0) (fun _ => 0) 0 0 := ⟨hS, k, frT.refl, fun a ha j => h0 _ (Or.inl ⟨by omega, by omega⟩) j, fun j => h0 219 (Or.inr rfl) j, h3, fun j hj => by rw [if_neg (by omega)]; exact hV j hj, fun _ => Nat.zero_lt_succ _, fun _ _ => Nat.zero_le _⟩
  obtain ⟨w1, M, N, q, e1, i1, f1⟩ := ts_loop (d := d) hc hn hr hE (fun _ _ => rfl) (fun _ => rfl) i0
  have k1 := i1.k
  have z1 : mI w1 214 2 = nI P.length := by rw [i1.2.2.1.out (by unfold tF; omega)]; exact hz
  obtain ⟨w2, e2, f2, s2⟩ := c_settleC (d := d + 2) k1 z1 hP4
  have k2 := f2.kw k1
  obtain ⟨c2, kf2⟩ := cf_of hc hs hE hP hP4 i1 f1 hz hops f2 s2
  obtain ⟨w3, e3, f3, hh⟩ := c_hards (d := d + 1) k2 c2 hc
  have c3 : CF w3 196 C ∧ KF w3 196 C := by
    obtain ⟨J, rfl, a⟩ := f3
    have e : ∀ c j, ¬ c = 204 → J c j = mI w2 c j := fun c j q => a c j (by omega)
    obtain ⟨f1, f2, f3, f4, f5, f6, f7, f8⟩ := c2
    refine ⟨⟨fun j hj => (e 197 j (by decide)).trans (f1 j hj), fun q hq => (e 198 q (by decide)).trans (f2 q hq), fun r hr => ⟨(e 199 r (by decide)).trans (f3 r hr).1, (e 200 r (by decide)).trans (f3 r hr).2.1, (e 201 r (by decide)).trans (f3 r hr).2.2⟩, fun v hv => ⟨(e 202 v (by decide)).trans (f4 v hv).1, fun p hp => (e 203 _ (by decide)).trans ((f4 v hv).2 p hp)⟩, fun s hs => ⟨(e 205 s (by decide)).trans (f5 s hs).1, fun q hq => (e 206 _ (by decide)).trans ((f5 s hs).2 q hq)⟩, fun q hq => ⟨(e 207 q (by decide)).trans (f6 q hq).1, (e 208 q (by decide)).trans (f6 q hq).2.1, (e 209 q (by decide)).trans (f6 q hq).2.2.1, fun p hp => (e 210 _ (by decide)).trans ((f6 q hq).2.2.2 p hp)⟩, fun o ho => ⟨(e 211 o (by decide)).trans (f7 o ho).1, (e 212 o (by decide)).trans (f7 o ho).2⟩, ?_⟩, fun s hs => ⟨(e 205 s (by decide)).trans (kf2 s hs).1, fun q hq => (e 206 _ (by decide)).trans ((kf2 s hs).2 q hq)⟩⟩
    obtain ⟨P, z, g1, g2, g3⟩ := f8
    exact ⟨P, z, g1, (e 214 2 (by decide)).trans g2, fun o ho => ⟨(e 213 o (by decide)).trans (g3 o ho).1, (g3 o ho).2.1, fun i a b h => ⟨(e 215 _ (by decide)).trans ((g3 o ho).2.2 i a b h).1, fun ha => (e 216 _ (by decide)).trans (((g3 o ho).2.2 i a b h).2 ha)⟩⟩⟩
  have fr1 : frB 170 220 w w1 := by
    obtain ⟨J, rfl, a⟩ := i1.2.2.1
    exact ⟨J, rfl, fun c j hc => a c j (by unfold tF; omega)⟩
  have ht1 := k1.tT196
  refine ⟨w3, ?_, (fr1.trans (f2.mono (by decide) (by decide))).trans (f3.mono (by decide) (by decide)), c3.1, hh, c3.2⟩
  have e93 : mK (d + 4) 93 [.ref 196, .ref 169] w1 = some (.inl none, w3) := by
    rw [e_93, b_93_0 ht1.t0 ht1.s0_17 (by rw [ht1.g0_17]; exact ht1.t18), ht1.g0_17, e2]
    simp only [mThen_ok, Option.toList_some, Option.toList_none, List.cons_append, List.nil_append]
    rw [b_93_8, e3]
  rw [e_62, b_62_0 k.t6 k.s61 k.t61, k.g61, c_clear (d := d + 3) k (fun c h1 h2 => h0 c (Or.inl ⟨h1, h2⟩))]
  simp only [mThen_ok, Option.toList_some, Option.toList_none, List.cons_append, List.nil_append]
  rw [b_62_7, e1, b_62_43 k1.t6 k1.s61 k1.s60 k1.t61, k1.g61, k1.g60, e93]
  simp only [mThen_ok, Option.toList_some, Option.toList_none, List.cons_append, List.nil_append]
  rw [b_62_54]
end
