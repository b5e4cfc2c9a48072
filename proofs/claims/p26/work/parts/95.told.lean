/-! ===== the teller reads a line; what is told so far: by program (wip/p26/mktold.py) ===== -/
theorem up2_eq {M : Nat → Nat → Nat} {a j v : Nat} : up2 M a j v a = up1 (M a) j v := by
  funext j'
  unfold up2 up1
  simp only [true_and]
theorem up2_ne {M : Nat → Nat → Nat} {a j v a' : Nat} (h : ¬ a' = a) : up2 M a j v a' = M a' := by
  funext j'
  unfold up2
  rw [if_neg (fun q => h q.1)]
theorem up1_eq {f : Nat → Nat} {j v : Nat} : up1 f j v j = v := if_pos rfl
theorem up1_ne {f : Nat → Nat} {j v k : Nat} (h : ¬ k = j) : up1 f j v k = f k := if_neg h
/-- the knowledge that is told of a speller, by the last that is said -/
def knF (C : CD) (s k : Nat) : Nat → Nat
  | 0 => 0
  | n + 1 => if C 11 s n = k then C 12 s n else knF C s k n
/-- where an order's test begins -/
def posM (C : CD) : Nat → Nat
  | 0 => 0
  | o + 1 => posM C o + (testP (C 9 o 2) 0).length
def FC (M : Nat → Nat) (a b c e f g : Nat) : Prop := M 0 = a ∧ M 1 = b ∧ M 2 = c ∧ M 3 = e ∧ M 4 = f ∧ M 5 = g
def F1 (C : CD) (A : Nat → Nat) (n : Nat) : Prop := ∀ k, k < n → A k = C 1 k 0
def F2 (C : CD) (A B D : Nat → Nat) (n : Nat) : Prop := ∀ k, k < n → A k = C 2 k 0 ∧ B k = C 2 k 1 ∧ D k = C 2 k 2
def F3 (C : CD) (A B : Nat → Nat) (n : Nat) : Prop := (∀ v, v < n → A v = C 3 v 0 ∧ ∀ p, p < C 3 v 0 → B (v * 4 + p) = C 4 v p) ∧ ∀ v, n ≤ v → A v = 0
def F5 (C : CD) (A B : Nat → Nat) (n : Nat) : Prop := (∀ s, s < n → A s = C 5 s 0 ∧ ∀ k, k < 5 → B (s * 5 + k) = knF C s k (C 10 s 0)) ∧ ∀ s, n ≤ s → s < 6 → A s = 0 ∧ ∀ k, k < 5 → B (s * 5 + k) = 0
def F7 (C : CD) (A B D G : Nat → Nat) (n : Nat) : Prop := (∀ q, q < n → A q = C 7 q 0 ∧ B q = C 7 q 1 ∧ D q = C 7 q 2 ∧ ∀ p, p < C 7 q 2 → G (q * 8 + p) = C 8 q p) ∧ ∀ q, n ≤ q → D q = 0
def F9 (C : CD) (A B D : Nat → Nat) (n : Nat) : Prop := ∀ o, o < n → A o = 15 + C 9 o 0 ∧ B o = C 9 o 1 ∧ D o = posM C o
def FN (E : List Tk) (N : Nat → Nat) (a b c e f : Nat) : Prop := (∀ j, N j < E.length + 1) ∧ NMs E N 0 116 a ∧ NMs E N 1 114 b ∧ NMs E N 2 119 c ∧ NMs E N 3 115 e ∧ NMs E N 4 113 f
/-- what is told so far -/
def FI (C : CD) (E : List Tk) (M : Nat → Nat → Nat) (N : Nat → Nat) (a b c e f g : Nat) : Prop := FC (M 0) a b c e f g ∧ F1 C (M 1) a ∧ F2 C (M 2) (M 3) (M 4) b ∧ F3 C (M 5) (M 6) c ∧ F5 C (M 8) (M 9) e ∧ F7 C (M 10) (M 11) (M 12) (M 13) f ∧ F9 C (M 14) (M 15) (M 16) g ∧ FN E N a b c e f
section
variable {d i j x q m n t a b c e f g : Nat} {u w : MW} {tx : List Nat} {E : List Tk} {M M' : Nat → Nat → Nat} {N N' : Nat → Nat} {C : CD} {rE : List Tk} {po : List Nat}
theorem NMs.up {kd c n x j : Nat} (h : NMs E N kd c n) (hj : ∀ k, k < n → ¬ kd * 12 + k = j) : NMs E (up1 N j x) kd c n := by
  intro k hk
  rw [up1_ne (hj k hk)]
  exact h k hk
theorem NMs.new {kd c n x : Nat} (h : NMs E N kd c n) (hx : x < E.length) (hb : tB (E.getD x tk0) = [c, 48 + n]) : NMs E (up1 N (kd * 12 + n) x) kd c (n + 1) := by
  intro k hk
  by_cases g : k = n
  · subst g
    rw [up1_eq]
    exact ⟨hx, hb⟩
  · rw [up1_ne (by omega)]
    exact h k (by omega)
/-- a token of a test is no more than looked up -/
def hmT (t : Tk) (e c : Nat) : Prop := tR t = 0 ∨ (tR t = 12 ∧ ∃ s, s < e ∧ tB t = [115, 48 + s]) ∨ (tR t = 13 ∧ ∃ v, v < c ∧ tB t = [119, 48 + v])
theorem tr_hm (hE3 : M 0 3 = e) (hE2 : M 0 2 = c) (h3 : NMs E N 3 115 e) (h2 : NMs E N 2 119 c) (he : e ≤ 12) (hc : c ≤ 12) : ∀ (L : List Tk) (i : Nat), E.drop i = L ++ rE → (∀ t ∈ L, hmT t e c) → TR u tx E (d + 5) M N q i M N q (i + L.length) ∧ E.drop (i + L.length) = rE := by
  intro L
  induction L with
  | nil => intro i hd _; exact ⟨TR.refl, hd⟩
  | cons t r ih =>
    intro i hd hm
    obtain ⟨a0, x1, i0⟩ := drop_hd (show E.drop i = t :: (r ++ rE) from hd)
    obtain ⟨b1, b2⟩ := ih (i + 1) x1 (fun t' ht' => hm t' (List.mem_cons_of_mem _ ht'))
    have s : TR u tx E (d + 5) M N q i M N q (i + 1) := by
      rcases hm t List.mem_cons_self with z | ⟨z, s, z1, z2⟩ | ⟨z, s, z1, z2⟩
      · exact TR.step (lk_0 (by omega) (by rw [a0]; exact z)) (by omega)
      · exact TR.step (lk_tsp (c := 115) (m := s) i0 (by rw [a0]; exact z) (by rw [a0]; exact z2) (by rw [hE3]; exact h3) (by omega) (by omega)) (by omega)
      · exact TR.step (lk_twd (c := 119) (m := s) i0 (by rw [a0]; exact z) (by rw [a0]; exact z2) (by rw [hE2]; exact h2) (by omega) (by omega)) (by omega)
    rw [show i + 1 + r.length = i + (t :: r).length by simp only [List.length_cons]; omega] at b1 b2
    exact ⟨s.trans b1, b2⟩
/-- a tongue's line -/
theorem tl_ton (h : FI C E M N t b c e f g) (ht : t < 5) (h1 : C 1 t 0 ≤ 9) (hE : E.drop i = tonL C t ++ rE) : ∃ M' N' q' i', TR u tx E (d + 5) M N q i M' N' q' i' ∧ FI C E M' N' (t + 1) b c e f g ∧ E.drop i' = rE ∧ i' ≤ E.length := by
  obtain ⟨⟨g0, g1, g2, g3, g4, g5⟩, k1, k2, k3, k5, k7, k9, ⟨n9, n0, n1, n2, n3, n4⟩⟩ := h
  have x0 : E.drop i = kwT 0 [32] :: nmT 116 t [32] 1 :: kwT 1 [32] :: nuT (C 1 t 0) (if t % 2 = 0 then [] else [32]) 14 :: syT 59 (if t % 2 = 0 then [] else [10]) :: rE := hE
  obtain ⟨a0, x1, i0⟩ := drop_hd x0
  obtain ⟨a1, x2, i1⟩ := drop_hd x1
  obtain ⟨a2, x3, i2⟩ := drop_hd x2
  obtain ⟨a3, x4, i3⟩ := drop_hd x3
  obtain ⟨a4, x5, i4⟩ := drop_hd x4
  have s0 : TR u tx E (d + 5) M N q i M N q (i + 1) := TR.step (lk_0 (by omega) (by rw [a0]; rfl)) (by omega)
  have hb1 : tB (E.getD (i + 1) tk0) = [116, 48 + t] := by rw [a1]; rfl
  have s1 : TR u tx E (d + 5) M N q (i + 1) _ _ q (i + 1 + 1) := TR.step (lk_new0 (c := 116) i1 (by rw [a1]; rfl) (by rw [g0]; exact hb1) (by rw [g0]; exact n0) (by omega)) (by omega)
  rw [g0] at s1
  have s2 : TR u tx E (d + 5) (up2 M 0 0 (t + 1)) (up1 N (0 * 12 + t) (i + 1)) q (i + 1 + 1) _ _ q (i + 1 + 1 + 1) := TR.step (lk_0 (by omega) (by rw [a2]; rfl)) (by omega)
  have z0 : up2 M 0 0 (t + 1) 0 0 = t + 1 := if_pos ⟨rfl, rfl⟩
  have s3 : TR u tx E (d + 5) (up2 M 0 0 (t + 1)) (up1 N (0 * 12 + t) (i + 1)) q (i + 1 + 1 + 1) _ _ q (i + 1 + 1 + 1 + 1) := TR.step (lk_n14 i3 (by rw [a3]; rfl) (by rw [a3]; exact ⟨Nat.zero_le _, h1⟩) ⟨by omega, by rw [z0]; show t + 1 - 1 < 5; omega⟩) (by omega)
  rw [z0, Nat.add_sub_cancel, a3] at s3
  have s4 : TR u tx E (d + 5) (up2 (up2 M 0 0 (t + 1)) 1 t (C 1 t 0)) (up1 N (0 * 12 + t) (i + 1)) q (i + 1 + 1 + 1 + 1) _ _ q (i + 1 + 1 + 1 + 1 + 1) := TR.step (lk_0 (by omega) (by rw [a4]; rfl)) (by omega)
  refine ⟨_, _, _, _, (((s0.trans s1).trans s2).trans s3).trans s4, ?_, x5, by omega⟩
  unfold FI
  simp only [up2_eq, up2_ne, Nat.reduceEqDiff, not_false_eq_true]
  refine ⟨⟨up1_eq, by rw [up1_ne (by decide)]; exact g1, by rw [up1_ne (by decide)]; exact g2, by rw [up1_ne (by decide)]; exact g3, by rw [up1_ne (by decide)]; exact g4, by rw [up1_ne (by decide)]; exact g5⟩, ?_, k2, k3, k5, k7, k9, ?_, n0.new i1 hb1, n1.up (fun k _ => by omega), n2.up (fun k _ => by omega), n3.up (fun k _ => by omega), n4.up (fun k _ => by omega)⟩
  · intro k hk
    by_cases z : k = t
    · subst z; exact up1_eq
    · rw [up1_ne z]; exact k1 k (by omega)
  · intro j
    unfold up1
    split
    · omega
    · exact n9 j
/-- a root's line -/
theorem tl_roo (h : FI C E M N a t c e f g) (ha : a ≤ 5) (ht : t < 10) (h1 : C 2 t 0 < a ∧ 1 ≤ C 2 t 1 ∧ C 2 t 1 ≤ 9 ∧ C 2 t 2 ≤ 9) (hE : E.drop i = rooL C t ++ rE) : ∃ M' N' q' i', TR u tx E (d + 5) M N q i M' N' q' i' ∧ FI C E M' N' a (t + 1) c e f g ∧ E.drop i' = rE ∧ i' ≤ E.length := by
  obtain ⟨⟨g0, g1, g2, g3, g4, g5⟩, k1, k2, k3, k5, k7, k9, ⟨n9, n0, n1, n2, n3, n4⟩⟩ := h
  have x0 : E.drop i = kwT 2 [32] :: nmT 114 t [32] 2 :: kwT 3 [32] :: nmT 116 (C 2 t 0) [32] 7 :: kwT 4 [32] :: nuT (C 2 t 1) [32] 15 :: kwT 5 [32] :: nuT (C 2 t 2) [] 16 :: syT 59 [] :: rE := hE
  obtain ⟨a0, x1, i0⟩ := drop_hd x0
  obtain ⟨a1, x2, i1⟩ := drop_hd x1
  obtain ⟨a2, x3, i2⟩ := drop_hd x2
  obtain ⟨a3, x4, i3⟩ := drop_hd x3
  obtain ⟨a4, x5, i4⟩ := drop_hd x4
  obtain ⟨a5, x6, i5⟩ := drop_hd x5
  obtain ⟨a6, x7, i6⟩ := drop_hd x6
  obtain ⟨a7, x8, i7⟩ := drop_hd x7
  obtain ⟨a8, x9, i8⟩ := drop_hd x8
  have s0 : TR u tx E (d + 5) M N q i M N q (i + 1) := TR.step (lk_0 (by omega) (by rw [a0]; rfl)) (by omega)
  have hb1 : tB (E.getD (i + 1) tk0) = [114, 48 + t] := by rw [a1]; rfl
  have s1 : TR u tx E (d + 5) M N q (i + 1) _ _ q (i + 1 + 1) := TR.step (lk_new1 (c := 114) i1 (by rw [a1]; rfl) (by rw [g1]; exact hb1) (by rw [g1]; exact n1) (by omega)) (by omega)
  rw [g1] at s1
  generalize hM1 : up2 M 0 1 (t + 1) = M1 at s1
  generalize hN1 : up1 N (1 * 12 + t) (i + 1) = N1 at s1
  have n0' : NMs E N1 0 116 a := by rw [← hN1]; exact n0.up (fun k hk => by omega)
  have z0 : M1 0 0 = a := by rw [← hM1, up2_eq, up1_ne (by decide)]; exact g0
  have z1 : M1 0 1 = t + 1 := by rw [← hM1]; exact if_pos ⟨rfl, rfl⟩
  have s2 : TR u tx E (d + 5) M1 N1 q (i + 1 + 1) _ _ q (i + 1 + 1 + 1) := TR.step (lk_0 (by omega) (by rw [a2]; rfl)) (by omega)
  have s3 : TR u tx E (d + 5) M1 N1 q (i + 1 + 1 + 1) _ _ q (i + 1 + 1 + 1 + 1) := TR.step (lk_of (c := 116) (m := C 2 t 0) i3 (by rw [a3]; rfl) (by rw [a3]; rfl) (by rw [z0]; exact n0') (by omega) (by omega) ⟨by omega, by rw [z1]; show t + 1 - 1 < 10; omega⟩) (by omega)
  rw [z1, Nat.add_sub_cancel] at s3
  generalize hM2 : up2 M1 2 t (C 2 t 0) = M2 at s3
  have y1 : M2 0 1 = t + 1 := by rw [← hM2, up2_ne (by decide)]; exact z1
  have s4 : TR u tx E (d + 5) M2 N1 q (i + 1 + 1 + 1 + 1) _ _ q (i + 1 + 1 + 1 + 1 + 1) := TR.step (lk_0 (by omega) (by rw [a4]; rfl)) (by omega)
  have s5 : TR u tx E (d + 5) M2 N1 q (i + 1 + 1 + 1 + 1 + 1) _ _ q (i + 1 + 1 + 1 + 1 + 1 + 1) := TR.step (lk_n15 i5 (by rw [a5]; rfl) (by rw [a5]; exact ⟨h1.2.1, h1.2.2.1⟩) ⟨by omega, by rw [y1]; show t + 1 - 1 < 10; omega⟩) (by omega)
  rw [y1, Nat.add_sub_cancel, a5] at s5
  generalize hM3 : up2 M2 3 t (tV (nuT (C 2 t 1) [32] 15)) = M3 at s5
  have w1 : M3 0 1 = t + 1 := by rw [← hM3, up2_ne (by decide)]; exact y1
  have s6 : TR u tx E (d + 5) M3 N1 q (i + 1 + 1 + 1 + 1 + 1 + 1) _ _ q (i + 1 + 1 + 1 + 1 + 1 + 1 + 1) := TR.step (lk_0 (by omega) (by rw [a6]; rfl)) (by omega)
  have s7 : TR u tx E (d + 5) M3 N1 q (i + 1 + 1 + 1 + 1 + 1 + 1 + 1) _ _ q (i + 1 + 1 + 1 + 1 + 1 + 1 + 1 + 1) := TR.step (lk_n16 i7 (by rw [a7]; rfl) (by rw [a7]; exact ⟨Nat.zero_le _, h1.2.2.2⟩) ⟨by omega, by rw [w1]; show t + 1 - 1 < 10; omega⟩) (by omega)
  rw [w1, Nat.add_sub_cancel, a7] at s7
  have s8 : TR u tx E (d + 5) (up2 M3 4 t (tV (nuT (C 2 t 2) [] 16))) N1 q (i + 1 + 1 + 1 + 1 + 1 + 1 + 1 + 1) _ _ q (i + 1 + 1 + 1 + 1 + 1 + 1 + 1 + 1 + 1) := TR.step (lk_0 (by omega) (by rw [a8]; rfl)) (by omega)
  refine ⟨_, _, _, _, (((((((s0.trans s1).trans s2).trans s3).trans s4).trans s5).trans s6).trans s7).trans s8, ?_, x9, by omega⟩
  subst hM3 hM2 hM1 hN1
  unfold FI
  simp only [up2_eq, up2_ne, Nat.reduceEqDiff, not_false_eq_true]
  refine ⟨⟨by rw [up1_ne (by decide)]; exact g0, up1_eq, by rw [up1_ne (by decide)]; exact g2, by rw [up1_ne (by decide)]; exact g3, by rw [up1_ne (by decide)]; exact g4, by rw [up1_ne (by decide)]; exact g5⟩, k1, ?_, k3, k5, k7, k9, ?_, n0.up (fun k _ => by omega), n1.new i1 hb1, n2.up (fun k _ => by omega), n3.up (fun k _ => by omega), n4.up (fun k _ => by omega)⟩
  · intro k hk
    by_cases z : k = t
    · subst z; exact ⟨up1_eq, up1_eq, up1_eq⟩
    · rw [up1_ne z, up1_ne z, up1_ne z]; exact k2 k (by omega)
  · intro j
    unfold up1
    split
    · omega
    · exact n9 j
end
