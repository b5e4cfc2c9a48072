/-! ===== the teller reads a line: word, speller, round, order: by program (wip/p26/mktold2.py) ===== -/
section
variable {d i j x q m n t a b c e f g : Nat} {u w : MW} {tx : List Nat} {E : List Tk} {M M' : Nat → Nat → Nat} {N N' : Nat → Nat} {C : CD} {rE : List Tk} {po : List Nat}
theorem tl_parts {F : Nat → Nat} {cn : Nat} (hn : NMs E N 1 114 cn) (hcn : cn ≤ 12) (ht : t < 12) (hF : ∀ p, p < 4 → F p < cn) : ∀ (m p i : Nat) (M : Nat → Nat → Nat), p + m ≤ 4 → M 0 1 = cn → M 0 2 = t + 1 → M 5 t = p → E.drop i = nams 114 9 F m p ++ rE →
    ∃ M', TR u tx E (d + 5) M N q i M' N q (i + m) ∧ E.drop (i + m) = rE ∧ (∀ a, ¬ a = 6 → ¬ a = 5 → M' a = M a) ∧ M' 5 t = p + m ∧ (∀ j, ¬ j = t → M' 5 j = M 5 j) ∧ (∀ p', p ≤ p' → p' < p + m → M' 6 (t * 4 + p') = F p') ∧ (∀ j, ¬ (t * 4 + p ≤ j ∧ j < t * 4 + 4) → M' 6 j = M 6 j) := by
  intro m
  induction m with
  | zero =>
    intro p i M hp h1 h2 h3 hE
    exact ⟨M, TR.refl, hE, fun _ _ _ => rfl, h3, fun _ _ => rfl, fun p' q1 q2 => absurd q2 (by omega), fun _ _ => rfl⟩
  | succ m ih =>
    intro p i M hp h1 h2 h3 hE
    obtain ⟨a0, x1, i0⟩ := drop_hd (show E.drop i = nmT 114 (F p) (if m = 0 then [] else [32]) 9 :: (nams 114 9 F m (p + 1) ++ rE) from hE)
    have hF0 := hF p (by omega)
    have s0 : TR u tx E (d + 5) M N q i _ _ q (i + 1) := TR.step (lk_part (c := 114) (m := F p) i0 (by rw [a0]; rfl) (by rw [a0]; rfl) (by rw [h1]; exact hn) (by omega) (by omega) ⟨by omega, by rw [h2]; show t + 1 - 1 < 12; omega⟩ (by rw [h2, Nat.add_sub_cancel, h3]; omega) (by rw [h2, Nat.add_sub_cancel, h3]; show t * 4 + p < 48; omega)) (by omega)
    rw [h2, Nat.add_sub_cancel, h3] at s0
    obtain ⟨M', b1, b2, b3, b4, b5, b6, b7⟩ := ih (p + 1) (i + 1) (up2 (up2 M 6 (t * 4 + p) (F p)) 5 t (p + 1)) (by omega) (by rw [up2_ne (by decide), up2_ne (by decide)]; exact h1) (by rw [up2_ne (by decide), up2_ne (by decide)]; exact h2) (by rw [up2_eq, up1_eq]) x1
    rw [show i + 1 + m = i + (m + 1) by omega] at b1 b2
    refine ⟨M', s0.trans b1, b2, fun a z1 z2 => ?_, by omega, fun j hj => ?_, fun p' q1 q2 => ?_, fun j hj => ?_⟩
    · rw [b3 a z1 z2, up2_ne z2, up2_ne z1]
    · rw [b5 j hj, up2_eq, up1_ne hj, up2_ne (by decide)]
    · by_cases z : p' = p
      · subst z
        rw [b7 _ (by omega), up2_ne (by decide), up2_eq, up1_eq]
      · exact b6 p' (by omega) (by omega)
    · rw [b7 j (by omega), up2_ne (by decide), up2_eq, up1_ne (by omega)]
theorem tl_lists {F : Nat → Nat} {cn : Nat} (hn : NMs E N 2 119 cn) (hcn : cn ≤ 12) (ht : t < 5) (hF : ∀ p, p < 8 → F p < cn) : ∀ (m p i : Nat) (M : Nat → Nat → Nat), p + m ≤ 8 → M 0 2 = cn → M 0 4 = t + 1 → M 12 t = p → E.drop i = nams 119 10 F m p ++ rE →
    ∃ M', TR u tx E (d + 5) M N q i M' N q (i + m) ∧ E.drop (i + m) = rE ∧ (∀ a, ¬ a = 13 → ¬ a = 12 → M' a = M a) ∧ M' 12 t = p + m ∧ (∀ j, ¬ j = t → M' 12 j = M 12 j) ∧ (∀ p', p ≤ p' → p' < p + m → M' 13 (t * 8 + p') = F p') ∧ (∀ j, ¬ (t * 8 + p ≤ j ∧ j < t * 8 + 8) → M' 13 j = M 13 j) := by
  intro m
  induction m with
  | zero =>
    intro p i M hp h1 h2 h3 hE
    exact ⟨M, TR.refl, hE, fun _ _ _ => rfl, h3, fun _ _ => rfl, fun p' q1 q2 => absurd q2 (by omega), fun _ _ => rfl⟩
  | succ m ih =>
    intro p i M hp h1 h2 h3 hE
    obtain ⟨a0, x1, i0⟩ := drop_hd (show E.drop i = nmT 119 (F p) (if m = 0 then [] else [32]) 10 :: (nams 119 10 F m (p + 1) ++ rE) from hE)
    have hF0 := hF p (by omega)
    have s0 : TR u tx E (d + 5) M N q i _ _ q (i + 1) := TR.step (lk_list (c := 119) (m := F p) i0 (by rw [a0]; rfl) (by rw [a0]; rfl) (by rw [h1]; exact hn) (by omega) (by omega) ⟨by omega, by rw [h2]; show t + 1 - 1 < 5; omega⟩ (by rw [h2, Nat.add_sub_cancel, h3]; omega) (by rw [h2, Nat.add_sub_cancel, h3]; show t * 8 + p < 40; omega)) (by omega)
    rw [h2, Nat.add_sub_cancel, h3] at s0
    obtain ⟨M', b1, b2, b3, b4, b5, b6, b7⟩ := ih (p + 1) (i + 1) (up2 (up2 M 13 (t * 8 + p) (F p)) 12 t (p + 1)) (by omega) (by rw [up2_ne (by decide), up2_ne (by decide)]; exact h1) (by rw [up2_ne (by decide), up2_ne (by decide)]; exact h2) (by rw [up2_eq, up1_eq]) x1
    rw [show i + 1 + m = i + (m + 1) by omega] at b1 b2
    refine ⟨M', s0.trans b1, b2, fun a z1 z2 => ?_, by omega, fun j hj => ?_, fun p' q1 q2 => ?_, fun j hj => ?_⟩
    · rw [b3 a z1 z2, up2_ne z2, up2_ne z1]
    · rw [b5 j hj, up2_eq, up1_ne hj, up2_ne (by decide)]
    · by_cases z : p' = p
      · subst z
        rw [b7 _ (by omega), up2_ne (by decide), up2_eq, up1_eq]
      · exact b6 p' (by omega) (by omega)
    · rw [b7 j (by omega), up2_ne (by decide), up2_eq, up1_ne (by omega)]
theorem tl_knows (hn : NMs E N 0 116 a) (ha : a ≤ 5) (ht : t < 6) (hF : ∀ k, C 11 t k < a ∧ C 12 t k < 15) : ∀ (m k i q : Nat) (M : Nat → Nat → Nat), M 0 0 = a → M 0 3 = t + 1 → (∀ k', k' < 5 → M 9 (t * 5 + k') = knF C t k' k) → E.drop i = knwL (C 11 t) (C 12 t) m k ++ rE →
    ∃ M' q', TR u tx E (d + 5) M N q i M' N q' (i + 3 * m) ∧ E.drop (i + 3 * m) = rE ∧ (∀ a, ¬ a = 9 → M' a = M a) ∧ (∀ k', k' < 5 → M' 9 (t * 5 + k') = knF C t k' (k + m)) ∧ (∀ j, ¬ (t * 5 ≤ j ∧ j < t * 5 + 5) → M' 9 j = M 9 j) := by
  intro m
  induction m with
  | zero =>
    intro k i q M h1 h2 h3 hE
    exact ⟨M, q, TR.refl, hE, fun _ _ => rfl, h3, fun _ _ => rfl⟩
  | succ m ih =>
    intro k i q M h1 h2 h3 hE
    obtain ⟨a0, x1, i0⟩ := drop_hd (show E.drop i = kwT 10 [32] :: nmT 116 (C 11 t k) [32] 8 :: nuT (C 12 t k) (if m = 0 then [] else [32]) 18 :: (knwL (C 11 t) (C 12 t) m (k + 1) ++ rE) from hE)
    obtain ⟨a1, x2, i1⟩ := drop_hd x1
    obtain ⟨a2, x3, i2⟩ := drop_hd x2
    have hF0 := hF k
    have s0 : TR u tx E (d + 5) M N q i _ _ q (i + 1) := TR.step (lk_0 (by omega) (by rw [a0]; rfl)) (by omega)
    have s1 : TR u tx E (d + 5) M N q (i + 1) _ _ (C 11 t k) (i + 1 + 1) := TR.step (lk_kn (c := 116) (m := C 11 t k) i1 (by rw [a1]; rfl) (by rw [a1]; rfl) (by rw [h1]; exact hn) (by omega) (by omega)) (by omega)
    have s2 : TR u tx E (d + 5) M N (C 11 t k) (i + 1 + 1) _ _ (C 11 t k) (i + 1 + 1 + 1) := TR.step (lk_n18 i2 (by rw [a2]; rfl) (by rw [a2]; show C 12 t k ≤ 20; omega) (by omega) (by rw [h2, Nat.add_sub_cancel]; omega)) (by omega)
    rw [h2, Nat.add_sub_cancel, a2, show tV (nuT (C 12 t k) (if m = 0 then [] else [32]) 18) = C 12 t k from rfl] at s2
    obtain ⟨M', q', b1, b2, b3, b4, b5⟩ := ih (k + 1) (i + 1 + 1 + 1) (C 11 t k) (up2 M 9 (t * 5 + C 11 t k) (C 12 t k)) (by rw [up2_ne (by decide)]; exact h1) (by rw [up2_ne (by decide)]; exact h2) (fun k' hk' => by
      rw [up2_eq]
      unfold knF
      by_cases z : C 11 t k = k'
      · rw [if_pos z, z, up1_eq]
      · rw [if_neg z, up1_ne (by omega)]; exact h3 k' hk') x3
    rw [show i + 1 + 1 + 1 + 3 * m = i + 3 * (m + 1) by omega] at b1 b2
    refine ⟨M', q', ((s0.trans s1).trans s2).trans b1, b2, fun a z => ?_, fun k' hk' => ?_, fun j hj => ?_⟩
    · rw [b3 a z, up2_ne z]
    · rw [b4 k' hk', show k + 1 + m = k + (m + 1) by omega]
    · rw [b5 j hj, up2_eq, up1_ne (by omega)]
/-- a word's line -/
theorem tl_wor (h : FI C E M N a b t e f g) (cp : a ≤ 12) (hb : b ≤ 10) (ht : t < 12) (h1 : C 3 t 0 ≤ 4) (h2 : ∀ p, p < 4 → C 4 t p < b) (hC4 : ∀ v, v < t → C 3 v 0 ≤ 4) (hE : E.drop i = worL C t ++ rE) : ∃ M' N' q' i', TR u tx E (d + 5) M N q i M' N' q' i' ∧ FI C E M' N' a b (t + 1) e f g ∧ E.drop i' = rE ∧ i' ≤ E.length := by
  obtain ⟨⟨g0, g1, g2, g3, g4, g5⟩, k1, k2, k3, k5, k7, k9, ⟨n9, n0, n1, n2, n3, n4⟩⟩ := h
  have x0 : E.drop i = kwT 6 [32] :: nmT 119 t [32] 3 :: kwT 7 [32] :: (nams 114 9 (C 4 t) (C 3 t 0) 0 ++ (syT 59 [] :: rE)) := by
    rw [hE]; unfold worL; simp only [List.cons_append, List.append_assoc, List.nil_append]
  obtain ⟨a0, x1, i0⟩ := drop_hd x0
  obtain ⟨a1, x2, i1⟩ := drop_hd x1
  obtain ⟨a2, x3, i2⟩ := drop_hd x2
  have s0 : TR u tx E (d + 5) M N q i M N q (i + 1) := TR.step (lk_0 (by omega) (by rw [a0]; rfl)) (by omega)
  have hb1 : tB (E.getD (i + 1) tk0) = [119, 48 + t] := by rw [a1]; rfl
  have s1 : TR u tx E (d + 5) M N q (i + 1) _ _ q (i + 1 + 1) := TR.step (lk_new2 (c := 119) i1 (by rw [a1]; rfl) (by rw [g2]; exact hb1) (by rw [g2]; exact n2) (by omega)) (by omega)
  rw [g2] at s1
  have s2 : TR u tx E (d + 5) (up2 M 0 2 (t + 1)) (up1 N (2 * 12 + t) (i + 1)) q (i + 1 + 1) _ _ q (i + 1 + 1 + 1) := TR.step (lk_0 (by omega) (by rw [a2]; rfl)) (by omega)
  have n1' : NMs E (up1 N (2 * 12 + t) (i + 1)) 1 114 b := n1.up (fun k hk => by omega)
  obtain ⟨M', b1, b2, b3, b4, b5, b6, b7⟩ := tl_parts (u := u) (tx := tx) (d := d) (q := q) (F := C 4 t) n1' (by omega) ht h2 (C 3 t 0) 0 (i + 1 + 1 + 1) (up2 M 0 2 (t + 1)) (by omega) (by rw [up2_eq, up1_ne (by decide)]; exact g1) (by rw [up2_eq, up1_eq]) (by rw [up2_ne (by decide)]; exact k3.2 t (Nat.le_refl _)) x3
  obtain ⟨a4, x5, i4⟩ := drop_hd b2
  have s4 : TR u tx E (d + 5) M' (up1 N (2 * 12 + t) (i + 1)) q (i + 1 + 1 + 1 + C 3 t 0) _ _ q (i + 1 + 1 + 1 + C 3 t 0 + 1) := TR.step (lk_0 (by omega) (by rw [a4]; rfl)) (by omega)
  refine ⟨_, _, _, _, (((s0.trans s1).trans s2).trans b1).trans s4, ?_, x5, by omega⟩
  unfold FI
  rw [b3 0 (by decide) (by decide), b3 1 (by decide) (by decide), b3 2 (by decide) (by decide), b3 3 (by decide) (by decide), b3 4 (by decide) (by decide), b3 8 (by decide) (by decide), b3 9 (by decide) (by decide), b3 10 (by decide) (by decide), b3 11 (by decide) (by decide), b3 12 (by decide) (by decide), b3 13 (by decide) (by decide), b3 14 (by decide) (by decide), b3 15 (by decide) (by decide), b3 16 (by decide) (by decide)]
  simp only [up2_eq, up2_ne, Nat.reduceEqDiff, not_false_eq_true]
  refine ⟨⟨by rw [up1_ne (by decide)]; exact g0, by rw [up1_ne (by decide)]; exact g1, up1_eq, by rw [up1_ne (by decide)]; exact g3, by rw [up1_ne (by decide)]; exact g4, by rw [up1_ne (by decide)]; exact g5⟩, k1, k2, ⟨fun v hv => ?_, fun v hv => ?_⟩, k5, k7, k9, ?_, n0.up (fun k _ => by omega), n1', n2.new i1 hb1, n3.up (fun k _ => by omega), n4.up (fun k _ => by omega)⟩
  · by_cases z : v = t
    · subst z
      exact ⟨by omega, fun p hp => b6 p (Nat.zero_le _) (by omega)⟩
    · rw [b5 v z, up2_ne (by decide)]
      refine ⟨(k3.1 v (by omega)).1, fun p hp => ?_⟩
      have hp4 : p < 4 ∨ 4 ≤ p := by omega
      rcases hp4 with hp4 | hp4
      · rw [b7 _ (by omega), up2_ne (by decide)]; exact (k3.1 v (by omega)).2 p hp
      · exfalso
        have := hC4 v (by omega)
        omega
  · rw [b5 v (by omega), up2_ne (by decide)]; exact k3.2 v (by omega)
  · intro j
    unfold up1
    split
    · omega
    · exact n9 j
/-- a speller's line -/
theorem tl_spe (h : FI C E M N a b c t f g) (cp : b ≤ 12 ∧ c ≤ 12) (ha : a ≤ 5) (ht : t < 6) (h1 : C 5 t 0 ≤ 3) (h2 : ∀ k, C 11 t k < a ∧ C 12 t k < 15) (hE : E.drop i = speL C t ++ rE) : ∃ M' N' q' i', TR u tx E (d + 5) M N q i M' N' q' i' ∧ FI C E M' N' a b c (t + 1) f g ∧ E.drop i' = rE ∧ i' ≤ E.length := by
  obtain ⟨⟨g0, g1, g2, g3, g4, g5⟩, k1, k2, k3, k5, k7, k9, ⟨n9, n0, n1, n2, n3, n4⟩⟩ := h
  have x0 : E.drop i = kwT 8 [32] :: nmT 115 t [32] 4 :: kwT 9 [32] :: nuT (C 5 t 0) [32] 17 :: (knwL (C 11 t) (C 12 t) (C 10 t 0) 0 ++ (syT 59 [10] :: rE)) := by
    rw [hE]; unfold speL; simp only [List.cons_append, List.append_assoc, List.nil_append]
  obtain ⟨a0, x1, i0⟩ := drop_hd x0
  obtain ⟨a1, x2, i1⟩ := drop_hd x1
  obtain ⟨a2, x3, i2⟩ := drop_hd x2
  obtain ⟨a3, x4, i3⟩ := drop_hd x3
  have s0 : TR u tx E (d + 5) M N q i M N q (i + 1) := TR.step (lk_0 (by omega) (by rw [a0]; rfl)) (by omega)
  have hb1 : tB (E.getD (i + 1) tk0) = [115, 48 + t] := by rw [a1]; rfl
  have s1 : TR u tx E (d + 5) M N q (i + 1) _ _ q (i + 1 + 1) := TR.step (lk_new3 (c := 115) i1 (by rw [a1]; rfl) (by rw [g3]; exact hb1) (by rw [g3]; exact n3) (by omega)) (by omega)
  rw [g3] at s1
  have s2 : TR u tx E (d + 5) (up2 M 0 3 (t + 1)) (up1 N (3 * 12 + t) (i + 1)) q (i + 1 + 1) _ _ q (i + 1 + 1 + 1) := TR.step (lk_0 (by omega) (by rw [a2]; rfl)) (by omega)
  have z0 : up2 M 0 3 (t + 1) 0 3 = t + 1 := if_pos ⟨rfl, rfl⟩
  have s3 : TR u tx E (d + 5) (up2 M 0 3 (t + 1)) (up1 N (3 * 12 + t) (i + 1)) q (i + 1 + 1 + 1) _ _ q (i + 1 + 1 + 1 + 1) := TR.step (lk_n17 i3 (by rw [a3]; rfl) (by rw [a3]; exact ⟨Nat.zero_le _, h1⟩) ⟨by omega, by rw [z0]; show t + 1 - 1 < 6; omega⟩) (by omega)
  rw [z0, Nat.add_sub_cancel, a3, show tV (nuT (C 5 t 0) [32] 17) = C 5 t 0 from rfl] at s3
  have n0' : NMs E (up1 N (3 * 12 + t) (i + 1)) 0 116 a := n0.up (fun k hk => by omega)
  obtain ⟨M', q', b1, b2, b3, b4, b5⟩ := tl_knows (u := u) (tx := tx) (d := d) n0' ha ht h2 (C 10 t 0) 0 (i + 1 + 1 + 1 + 1) q (up2 (up2 M 0 3 (t + 1)) 8 t (C 5 t 0)) (by rw [up2_ne (by decide), up2_eq, up1_ne (by decide)]; exact g0) (by rw [up2_ne (by decide)]; exact z0) (fun k' hk' => by rw [up2_ne (by decide), up2_ne (by decide)]; exact (k5.2 t (Nat.le_refl _) ht).2 k' hk') x4
  obtain ⟨a4, x5, i4⟩ := drop_hd b2
  have s4 : TR u tx E (d + 5) M' (up1 N (3 * 12 + t) (i + 1)) q' (i + 1 + 1 + 1 + 1 + 3 * C 10 t 0) _ _ q' (i + 1 + 1 + 1 + 1 + 3 * C 10 t 0 + 1) := TR.step (lk_0 (by omega) (by rw [a4]; rfl)) (by omega)
  refine ⟨_, _, _, _, ((((s0.trans s1).trans s2).trans s3).trans b1).trans s4, ?_, x5, by omega⟩
  unfold FI
  rw [b3 0 (by decide), b3 1 (by decide), b3 2 (by decide), b3 3 (by decide), b3 4 (by decide), b3 5 (by decide), b3 6 (by decide), b3 8 (by decide), b3 10 (by decide), b3 11 (by decide), b3 12 (by decide), b3 13 (by decide), b3 14 (by decide), b3 15 (by decide), b3 16 (by decide)]
  simp only [up2_eq, up2_ne, Nat.reduceEqDiff, not_false_eq_true]
  refine ⟨⟨by rw [up1_ne (by decide)]; exact g0, by rw [up1_ne (by decide)]; exact g1, by rw [up1_ne (by decide)]; exact g2, up1_eq, by rw [up1_ne (by decide)]; exact g4, by rw [up1_ne (by decide)]; exact g5⟩, k1, k2, k3, ⟨fun v hv => ?_, fun v hv hv6 => ?_⟩, k7, k9, ?_, n0', n1.up (fun k _ => by omega), n2.up (fun k _ => by omega), n3.new i1 hb1, n4.up (fun k _ => by omega)⟩
  · by_cases z : v = t
    · subst z
      refine ⟨up1_eq, fun k hk => ?_⟩
      have := b4 k hk
      rwa [Nat.zero_add] at this
    · rw [up1_ne z]
      refine ⟨(k5.1 v (by omega)).1, fun k hk => ?_⟩
      rw [b5 _ (by omega), up2_ne (by decide), up2_ne (by decide)]; exact (k5.1 v (by omega)).2 k hk
  · rw [up1_ne (by omega)]
    refine ⟨(k5.2 v (by omega) hv6).1, fun k hk => ?_⟩
    rw [b5 _ (by omega), up2_ne (by decide), up2_ne (by decide)]; exact (k5.2 v (by omega) hv6).2 k hk
  · intro j
    unfold up1
    split
    · omega
    · exact n9 j
/-- a round's line -/
theorem tl_rou (h : FI C E M N a b c e t g) (cp : a ≤ 12 ∧ b ≤ 12 ∧ e ≤ 12) (hb : c ≤ 12) (ht : t < 5) (h0 : C 7 t 0 ≤ 99 ∧ 1 ≤ C 7 t 1 ∧ C 7 t 1 ≤ 9) (h1 : C 7 t 2 ≤ 8) (h2 : ∀ p, p < 8 → C 8 t p < c) (hC4 : ∀ v, v < t → C 7 v 2 ≤ 8) (hE : E.drop i = rouL C t ++ rE) : ∃ M' N' q' i', TR u tx E (d + 5) M N q i M' N' q' i' ∧ FI C E M' N' a b c e (t + 1) g ∧ E.drop i' = rE ∧ i' ≤ E.length := by
  obtain ⟨⟨g0, g1, g2, g3, g4, g5⟩, k1, k2, k3, k5, k7, k9, ⟨n9, n0, n1, n2, n3, n4⟩⟩ := h
  have x0 : E.drop i = kwT 11 [32] :: nmT 113 t [32] 5 :: kwT 12 [32] :: nuT (C 7 t 0) [32] 19 :: kwT 13 [32] :: nuT (C 7 t 1) [32] 20 :: kwT 14 [32] :: (nams 119 10 (C 8 t) (C 7 t 2) 0 ++ (syT 59 [] :: rE)) := by
    rw [hE]; unfold rouL; simp only [List.cons_append, List.append_assoc, List.nil_append]
  obtain ⟨a0, x1, i0⟩ := drop_hd x0
  obtain ⟨a1, x2, i1⟩ := drop_hd x1
  obtain ⟨a2, x3, i2⟩ := drop_hd x2
  obtain ⟨a3, x4, i3⟩ := drop_hd x3
  obtain ⟨a4, x5, i4⟩ := drop_hd x4
  obtain ⟨a5, x6, i5⟩ := drop_hd x5
  obtain ⟨a6, x7, i6⟩ := drop_hd x6
  have s0 : TR u tx E (d + 5) M N q i M N q (i + 1) := TR.step (lk_0 (by omega) (by rw [a0]; rfl)) (by omega)
  have hb1 : tB (E.getD (i + 1) tk0) = [113, 48 + t] := by rw [a1]; rfl
  have s1 : TR u tx E (d + 5) M N q (i + 1) _ _ q (i + 1 + 1) := TR.step (lk_new4 (c := 113) i1 (by rw [a1]; rfl) (by rw [g4]; exact hb1) (by rw [g4]; exact n4) (by omega)) (by omega)
  rw [g4] at s1
  generalize hM1 : up2 M 0 4 (t + 1) = M1 at s1
  generalize hN1 : up1 N (4 * 12 + t) (i + 1) = N1 at s1
  have n2' : NMs E N1 2 119 c := by rw [← hN1]; exact n2.up (fun k hk => by omega)
  have z4 : M1 0 4 = t + 1 := by rw [← hM1]; exact if_pos ⟨rfl, rfl⟩
  have s2 : TR u tx E (d + 5) M1 N1 q (i + 1 + 1) _ _ q (i + 1 + 1 + 1) := TR.step (lk_0 (by omega) (by rw [a2]; rfl)) (by omega)
  have s3 : TR u tx E (d + 5) M1 N1 q (i + 1 + 1 + 1) _ _ q (i + 1 + 1 + 1 + 1) := TR.step (lk_n19 i3 (by rw [a3]; rfl) (by rw [a3]; exact ⟨Nat.zero_le _, h0.1⟩) ⟨by omega, by rw [z4]; show t + 1 - 1 < 5; omega⟩) (by omega)
  rw [z4, Nat.add_sub_cancel, a3, show tV (nuT (C 7 t 0) [32] 19) = C 7 t 0 from rfl] at s3
  generalize hM2 : up2 M1 10 t (C 7 t 0) = M2 at s3
  have y4 : M2 0 4 = t + 1 := by rw [← hM2, up2_ne (by decide)]; exact z4
  have s4 : TR u tx E (d + 5) M2 N1 q (i + 1 + 1 + 1 + 1) _ _ q (i + 1 + 1 + 1 + 1 + 1) := TR.step (lk_0 (by omega) (by rw [a4]; rfl)) (by omega)
  have s5 : TR u tx E (d + 5) M2 N1 q (i + 1 + 1 + 1 + 1 + 1) _ _ q (i + 1 + 1 + 1 + 1 + 1 + 1) := TR.step (lk_n20 i5 (by rw [a5]; rfl) (by rw [a5]; exact ⟨h0.2.1, h0.2.2⟩) ⟨by omega, by rw [y4]; show t + 1 - 1 < 5; omega⟩) (by omega)
  rw [y4, Nat.add_sub_cancel, a5, show tV (nuT (C 7 t 1) [32] 20) = C 7 t 1 from rfl] at s5
  generalize hM3 : up2 M2 11 t (C 7 t 1) = M3 at s5
  have w4 : M3 0 4 = t + 1 := by rw [← hM3, up2_ne (by decide)]; exact y4
  have s6 : TR u tx E (d + 5) M3 N1 q (i + 1 + 1 + 1 + 1 + 1 + 1) _ _ q (i + 1 + 1 + 1 + 1 + 1 + 1 + 1) := TR.step (lk_0 (by omega) (by rw [a6]; rfl)) (by omega)
  have w2 : M3 0 2 = c := by rw [← hM3, up2_ne (by decide), ← hM2, up2_ne (by decide), ← hM1, up2_eq, up1_ne (by decide)]; exact g2
  have w12 : ∀ j, M3 12 j = M 12 j := fun j => by rw [← hM3, up2_ne (by decide), ← hM2, up2_ne (by decide), ← hM1, up2_ne (by decide)]
  have w13 : ∀ j, M3 13 j = M 13 j := fun j => by rw [← hM3, up2_ne (by decide), ← hM2, up2_ne (by decide), ← hM1, up2_ne (by decide)]
  obtain ⟨M', b1, b2, b3, b4, b5, b6, b7⟩ := tl_lists (u := u) (tx := tx) (d := d) (q := q) (F := C 8 t) n2' (by omega) ht h2 (C 7 t 2) 0 (i + 1 + 1 + 1 + 1 + 1 + 1 + 1) M3 (by omega) w2 w4 (by rw [w12]; exact k7.2 t (Nat.le_refl _)) x7
  obtain ⟨a8, x9, i8⟩ := drop_hd b2
  have s8 : TR u tx E (d + 5) M' N1 q (i + 1 + 1 + 1 + 1 + 1 + 1 + 1 + C 7 t 2) _ _ q (i + 1 + 1 + 1 + 1 + 1 + 1 + 1 + C 7 t 2 + 1) := TR.step (lk_0 (by omega) (by rw [a8]; rfl)) (by omega)
  refine ⟨_, _, _, _, (((((((s0.trans s1).trans s2).trans s3).trans s4).trans s5).trans s6).trans b1).trans s8, ?_, x9, by omega⟩
  unfold FI
  rw [b3 0 (by decide) (by decide), b3 1 (by decide) (by decide), b3 2 (by decide) (by decide), b3 3 (by decide) (by decide), b3 4 (by decide) (by decide), b3 5 (by decide) (by decide), b3 6 (by decide) (by decide), b3 8 (by decide) (by decide), b3 9 (by decide) (by decide), b3 10 (by decide) (by decide), b3 11 (by decide) (by decide), b3 14 (by decide) (by decide), b3 15 (by decide) (by decide), b3 16 (by decide) (by decide)]
  subst hM3 hM2 hM1 hN1
  simp only [up2_eq, up2_ne, Nat.reduceEqDiff, not_false_eq_true]
  refine ⟨⟨by rw [up1_ne (by decide)]; exact g0, by rw [up1_ne (by decide)]; exact g1, by rw [up1_ne (by decide)]; exact g2, by rw [up1_ne (by decide)]; exact g3, up1_eq, by rw [up1_ne (by decide)]; exact g5⟩, k1, k2, k3, k5, ⟨fun v hv => ?_, fun v hv => ?_⟩, k9, ?_, n0.up (fun k _ => by omega), n1.up (fun k _ => by omega), n2', n3.up (fun k _ => by omega), n4.new i1 hb1⟩
  · by_cases z : v = t
    · subst z
      exact ⟨up1_eq, up1_eq, by omega, fun p hp => b6 p (Nat.zero_le _) (by omega)⟩
    · rw [b5 v z, w12, up1_ne z, up1_ne z]
      obtain ⟨o1, o2, o3, o4⟩ := k7.1 v (by omega)
      refine ⟨o1, o2, o3, fun p hp => ?_⟩
      have := hC4 v (by omega)
      rw [b7 _ (by omega), w13]; exact o4 p hp
  · rw [b5 v (by omega), w12]; exact k7.2 v (by omega)
  · intro j
    unfold up1
    split
    · omega
    · exact n9 j
theorem tst_hm {m s nn v e c : Nat} (hs : s < e) (hv : v < c) : ∀ t ∈ testL m s nn v, hmT t e c := by
  have hN : ∀ {po : List Nat}, hmT (nmT 115 s po 12) e c := Or.inr (Or.inl ⟨rfl, s, hs, rfl⟩)
  have hW : ∀ {po : List Nat}, hmT (nmT 119 v po 13) e c := Or.inr (Or.inr ⟨rfl, v, hv, rfl⟩)
  have h0 : ∀ {t : Tk}, tR t = 0 → hmT t e c := fun z => Or.inl z
  match m with
  | 0 =>
    intro t ht
    change t ∈ [kwT 23 [32], nmT 115 s [] 12, syT 62 [], nuT (nn) [] 0] at ht
    simp only [List.mem_cons, List.not_mem_nil, or_false] at ht
    rcases ht with rfl | rfl | rfl | rfl
    · exact h0 rfl
    · exact hN
    · exact h0 rfl
    · exact h0 rfl
  | 1 =>
    intro t ht
    change t ∈ [kwT 21 [32], nmT 115 s [] 12, wiT 62 257 [], nuT (nn) [] 0] at ht
    simp only [List.mem_cons, List.not_mem_nil, or_false] at ht
    rcases ht with rfl | rfl | rfl | rfl
    · exact h0 rfl
    · exact hN
    · exact h0 rfl
    · exact h0 rfl
  | 2 =>
    intro t ht
    change t ∈ [kwT 22 [32], nmT 115 s [] 12, syT 61 [], nuT (1) [] 0] at ht
    simp only [List.mem_cons, List.not_mem_nil, or_false] at ht
    rcases ht with rfl | rfl | rfl | rfl
    · exact h0 rfl
    · exact hN
    · exact h0 rfl
    · exact h0 rfl
  | 3 =>
    intro t ht
    change t ∈ [kwT 19 [32], syT 62 [32], nuT (nn) [] 0] at ht
    simp only [List.mem_cons, List.not_mem_nil, or_false] at ht
    rcases ht with rfl | rfl | rfl
    · exact h0 rfl
    · exact h0 rfl
    · exact h0 rfl
  | 4 =>
    intro t ht
    change t ∈ [kwT 20 [], wiT 60 256 [], nuT (nn) [32] 0, kwT 27 [32], kwT 9 [32], nmT 115 s [] 12, syT 62 [], nuT (0) [] 0] at ht
    simp only [List.mem_cons, List.not_mem_nil, or_false] at ht
    rcases ht with rfl | rfl | rfl | rfl | rfl | rfl | rfl | rfl
    · exact h0 rfl
    · exact h0 rfl
    · exact h0 rfl
    · exact h0 rfl
    · exact h0 rfl
    · exact hN
    · exact h0 rfl
    · exact h0 rfl
  | 5 =>
    intro t ht
    change t ∈ [kwT 26 [32], kwT 25 [32], nmT 115 s [32] 12, kwT 28 [32], kwT 5 [32], nmT 119 v [] 13, syT 62 [], nuT (nn) [] 0] at ht
    simp only [List.mem_cons, List.not_mem_nil, or_false] at ht
    rcases ht with rfl | rfl | rfl | rfl | rfl | rfl | rfl | rfl
    · exact h0 rfl
    · exact h0 rfl
    · exact hN
    · exact h0 rfl
    · exact h0 rfl
    · exact hW
    · exact h0 rfl
    · exact h0 rfl
  | 6 =>
    intro t ht
    change t ∈ [syT 91 [], kwT 24 [32], nmT 115 s [] 12, syT 93 [], kwT 27 [32], kwT 23 [32], nmT 115 s [] 12, syT 45 [], kwT 5 [32], nmT 119 v [] 13, syT 47 [], nuT (2) [] 0, syT 60 [], nuT (nn) [] 0] at ht
    simp only [List.mem_cons, List.not_mem_nil, or_false] at ht
    rcases ht with rfl | rfl | rfl | rfl | rfl | rfl | rfl | rfl | rfl | rfl | rfl | rfl | rfl | rfl
    · exact h0 rfl
    · exact h0 rfl
    · exact hN
    · exact h0 rfl
    · exact h0 rfl
    · exact h0 rfl
    · exact hN
    · exact h0 rfl
    · exact h0 rfl
    · exact hW
    · exact h0 rfl
    · exact h0 rfl
    · exact h0 rfl
    · exact h0 rfl
  | 7 =>
    intro t ht
    change t ∈ [nuT (1) [] 0, syT 61 [], nuT (1) [] 0] at ht
    simp only [List.mem_cons, List.not_mem_nil, or_false] at ht
    rcases ht with rfl | rfl | rfl
    · exact h0 rfl
    · exact h0 rfl
    · exact h0 rfl
  | _ + 8 =>
    intro t ht
    change t ∈ [kwT 29 [], syT 40 [], kwT 21 [32], nmT 115 s [] 12, syT 44 [], nuT (nn) [] 0, syT 41 [], syT 42 [], nuT (2) [] 0, syT 62 [], kwT 19 [], syT 47 [], nuT (3) [] 0] at ht
    simp only [List.mem_cons, List.not_mem_nil, or_false] at ht
    rcases ht with rfl | rfl | rfl | rfl | rfl | rfl | rfl | rfl | rfl | rfl | rfl | rfl | rfl
    · exact h0 rfl
    · exact h0 rfl
    · exact h0 rfl
    · exact hN
    · exact h0 rfl
    · exact h0 rfl
    · exact h0 rfl
    · exact h0 rfl
    · exact h0 rfl
    · exact h0 rfl
    · exact h0 rfl
    · exact h0 rfl
    · exact h0 rfl
/-- an order's line -/
theorem tl_ord (h : FI C E M N a b c e f t) (hb : c ≤ 12) (he : e ≤ 6) (ht : t < 20) (h0 : C 9 t 1 < e ∧ C 9 t 4 < e ∧ C 9 t 5 < c) (hE : E.drop i = ordL C t (posM C t) ++ rE) : ∃ M' N' q' i', TR u tx E (d + 5) M N q i M' N' q' i' ∧ FI C E M' N' a b c e f (t + 1) ∧ E.drop i' = rE ∧ i' ≤ E.length := by
  obtain ⟨⟨g0, g1, g2, g3, g4, g5⟩, k1, k2, k3, k5, k7, k9, ⟨n9, n0, n1, n2, n3, n4⟩⟩ := h
  have x0 : E.drop i = orT (15 + C 9 t 0) [32] (posM C t) :: nmT 115 (C 9 t 1) [32] 11 :: (([kwT 18 [32]] ++ testL (C 9 t 2) (C 9 t 4) (C 9 t 3) (C 9 t 5) ++ [syT 59 []]) ++ rE) := by
    rw [hE]; unfold ordL; simp only [List.cons_append, List.append_assoc, List.nil_append]
  obtain ⟨a0, x1, i0⟩ := drop_hd x0
  obtain ⟨a1, x2, i1⟩ := drop_hd x1
  have s0 : TR u tx E (d + 5) M N q i _ _ q (i + 1) := TR.step (lk_ord i0 (by rw [a0]; rfl) (by omega)) (by omega)
  rw [g5, a0, show tK (orT (15 + C 9 t 0) [32] (posM C t)) = 15 + C 9 t 0 from rfl, show tV (orT (15 + C 9 t 0) [32] (posM C t)) = posM C t from rfl] at s0
  generalize hM1 : up2 (up2 (up2 M 14 t (15 + C 9 t 0)) 16 t (posM C t)) 0 5 (t + 1) = M1 at s0
  have z5 : M1 0 5 = t + 1 := by rw [← hM1]; exact if_pos ⟨rfl, rfl⟩
  have z3 : M1 0 3 = e := by rw [← hM1, up2_eq, up1_ne (by decide), up2_ne (by decide), up2_ne (by decide)]; exact g3
  have z2 : M1 0 2 = c := by rw [← hM1, up2_eq, up1_ne (by decide), up2_ne (by decide), up2_ne (by decide)]; exact g2
  have s1 : TR u tx E (d + 5) M1 N q (i + 1) _ _ q (i + 1 + 1) := TR.step (lk_osp (c := 115) (m := C 9 t 1) i1 (by rw [a1]; rfl) (by rw [a1]; rfl) (by rw [z3]; exact n3) (by omega) (by omega) ⟨by omega, by rw [z5]; show t + 1 - 1 < 20; omega⟩) (by omega)
  rw [z5, Nat.add_sub_cancel] at s1
  have s2 := tr_hm (u := u) (tx := tx) (d := d) (q := q) (M := up2 M1 15 t (C 9 t 1)) (N := N) (e := e) (c := c) (by rw [up2_ne (by decide)]; exact z3) (by rw [up2_ne (by decide)]; exact z2) n3 n2 (by omega) hb _ (i + 1 + 1) x2 (fun tk htk => by
    rw [List.mem_append, List.mem_append] at htk
    rcases htk with (htk | htk) | htk
    · rw [List.mem_singleton] at htk; rw [htk]; exact Or.inl rfl
    · exact tst_hm h0.2.1 h0.2.2 tk htk
    · rw [List.mem_singleton] at htk; rw [htk]; exact Or.inl rfl)
  have L := congrArg List.length x2
  rw [List.length_append, List.length_drop] at L
  have L2 : 1 ≤ ([kwT 18 [32]] ++ testL (C 9 t 2) (C 9 t 4) (C 9 t 3) (C 9 t 5) ++ [syT 59 []]).length := by rw [List.length_append, List.length_append]; simp only [List.length_cons]; omega
  refine ⟨_, _, _, _, (s0.trans s1).trans s2.1, ?_, s2.2, by omega⟩
  subst hM1
  unfold FI
  simp only [up2_eq, up2_ne, Nat.reduceEqDiff, not_false_eq_true]
  refine ⟨⟨by rw [up1_ne (by decide)]; exact g0, by rw [up1_ne (by decide)]; exact g1, by rw [up1_ne (by decide)]; exact g2, by rw [up1_ne (by decide)]; exact g3, by rw [up1_ne (by decide)]; exact g4, up1_eq⟩, k1, k2, k3, k5, k7, fun v hv => ?_, n9, n0, n1, n2, n3, n4⟩
  by_cases z : v = t
  · subst z
    exact ⟨up1_eq, up1_eq, up1_eq⟩
  · rw [up1_ne z, up1_ne z, up1_ne z]; exact k9 v (by omega)
end
