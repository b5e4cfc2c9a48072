/-! ===== the law's bee's own numbers keep to the model's ===== -/
section
variable {d B σ : Nat} {w : MW} {C : CD} {M : MD}
theorem sok_le {B' : Nat} (h : SOk C B M) (hle : B ≤ B') : SOk C B' M := sok_of h hle (fun _ _ _ => rfl) (fun _ => rfl) (fun _ _ => rfl)
theorem sok_or : ∀ (n o B : Nat) (M : MD), SOk C B M → SOk C (B + n) (orM C n o M).2
  | 0, _, _, _, h => h
  | n + 1, o, B, M, h => by
    rw [orM]
    split
    · exact sok_le (sok_or n (o + 1) (B + 1) _ (sok_hint h)) (by omega)
    · split
      · exact sok_le h (by omega)
      · exact sok_le (sok_or n (o + 1) B M h) (by omega)
theorem right_48 {g i j s v : Nat} (hg : g = 4 ∨ g = 8) : rightM M s v g i j = M g i j := by
  unfold rightM
  rw [mu_n (by omega), mu_n (by omega), mu_n (by omega), mu_n (by omega), mu_n (by omega)]
theorem wrong_48 {g i j s v : Nat} (hg : g = 4 ∨ g = 8) : wrongM M s v g i j = M g i j := by
  unfold wrongM
  split
  · rw [mu_n (by omega), mu_n (by omega), mu_n (by omega), mu_n (by omega), mu_n (by omega), mu_n (by omega)]
  · rw [mu_n (by omega), mu_n (by omega), mu_n (by omega), mu_n (by omega)]
theorem outcome_48 {g i j s v : Nat} (hg : g = 4 ∨ g = 8) : outcomeM C M s v g i j = M g i j := by
  unfold outcomeM
  split
  · rw [right_48 hg, hearM_o _ _ _ _ _ (by omega), mu_n (by omega)]
  · split
    · split
      · rw [right_48 hg, mu_n (by omega), mu_n (by omega)]
      · rw [wrong_48 hg, mu_n (by omega), mu_n (by omega)]
    · rw [wrong_48 hg]
theorem mod_up {a n : Nat} (hn : 0 < n) : (a + 1) % n = if a % n + 1 < n then a % n + 1 else 0 := by
  rw [← Nat.mod_add_mod]
  have := Nat.mod_lt a hn
  split
  · exact Nat.mod_eq_of_lt (by assumption)
  · rw [show a % n + 1 = n by omega, Nat.mod_self]
theorem sok_spell (hk : CfOk C) (hm : MOk C B M) (h : SOk C B M) (hg : ¬ M 0 0 4 = NEG) : SOk C (B + 1) (spellM C M) := by
  obtain ⟨a1, a2, a3, a4⟩ := h.2.1 hg
  obtain ⟨b1, b2, b3, b4⟩ := hm.who hg
  have z4 : spellM C M 0 0 4 = M 0 0 4 := spellM_z (by decide)
  have z1 : spellM C M 0 0 1 = M 0 0 1 := spellM_z (by decide)
  have z2 : spellM C M 0 0 2 = M 0 0 2 := spellM_z (by decide)
  have z3 : spellM C M 0 0 3 = if M 0 0 3 + 1 < C 7 (M 0 0 1) 2 then M 0 0 3 + 1 else 0 := by unfold spellM; rw [mu_n (by omega), mu_s]
  have y3 : spellM C M 8 0 3 = M 8 0 3 + 1 := by unfold spellM; rw [mu_s]
  have y : ∀ j, ¬ j = 3 → spellM C M 8 0 j = M 8 0 j := fun j hj => by unfold spellM; rw [mu_n (by omega), mu_n (by omega), outcome_48 (Or.inr rfl)]
  unfold SOk
  rw [z4, z1, z2, z3, y3, y 1 (by decide), y 2 (by decide), y 4 (by decide)]
  refine ⟨h.1, fun _ => ⟨a1, a2, a3, ?_⟩, by have := h.2.2.1; omega, fun s k h1 h2 => ?_⟩
  · rw [mod_up (by omega), a4]
  · have : spellM C M 4 s k = M 4 s k := by unfold spellM; rw [mu_n (by omega), mu_n (by omega), outcome_48 (Or.inl rfl)]
    rw [this]
    exact h.2.2.2 s k h1 h2
theorem who_nx (M : MD) : ∀ n s, ¬ nxM M (n + 1) s = NEG → whoM M n s = nxM M (n + 1) s
  | 0, s, h => by
    rw [nxM] at h ⊢
    by_cases e : M 3 s 0 = 0
    · rw [if_pos e] at h; exact absurd rfl h
    · rw [if_neg e]; rfl
  | n + 1, s, h => by
    rw [nxM] at h ⊢
    rw [whoM]
    by_cases e : M 3 s 0 = 0
    · rw [if_pos e] at h ⊢
      rw [if_pos e]
      exact who_nx M n (s + 1) h
    · rw [if_neg e, if_neg e]
theorem sok_over (hb : M 8 0 3 ≤ B) (h4 : ∀ s k, s < C 0 0 3 → k < C 0 0 0 → M 4 s k ≤ 20) (y : Nat) : SOk C B (mu (overM M) 8 0 4 y) := by
  have z4 : mu (overM M) 8 0 4 y 0 0 4 = NEG := by unfold overM; rw [mu_n (by omega), mu_n (by omega), mu_s]
  have y1 : mu (overM M) 8 0 4 y 8 0 1 = NEG := by unfold overM; rw [mu_n (by omega), mu_s]
  have y3 : mu (overM M) 8 0 4 y 8 0 3 = M 8 0 3 := by unfold overM; rw [mu_n (by omega), mu_n (by omega), mu_n (by omega)]
  refine ⟨by rw [z4, y1], fun q => absurd z4 q, by rw [y3]; exact hb, fun s k h1 h2 => ?_⟩
  have : mu (overM M) 8 0 4 y 4 s k = M 4 s k := by unfold overM; rw [mu_n (by omega), mu_n (by omega), mu_n (by omega)]
  rw [this]
  exact h4 s k h1 h2
theorem sok_start (hS : C 0 0 3 ≤ 6) (h2 : 2 ≤ leftM C M) (hq : M 0 0 1 < 6) (e1 : M 8 0 1 = M 0 0 1) (e2 : M 8 0 2 = M 0 0 2) (e3 : M 8 0 3 % C 7 (M 0 0 1) 2 = M 0 0 3) (hb : M 8 0 3 ≤ B) (h4 : ∀ s k, s < C 0 0 3 → k < C 0 0 0 → M 4 s k ≤ 20) : SOk C B (mu (startM C M) 8 0 4 (whoM (startM C M) (C 0 0 3 - 1) 0)) := by
  obtain ⟨n1, n2⟩ := nextIn_left C M h2
  have hn : ¬ nxM M (C 0 0 3 - 0) 0 = NEG := by
    have : nxM M (C 0 0 3 - 0) 0 < C 0 0 3 := n1
    show ¬ _ = 4294967295
    omega
  have hw : whoM (startM C M) (C 0 0 3 - 1) 0 = nextInM C M 0 := by
    have e : whoM (startM C M) (C 0 0 3 - 1) 0 = whoM M (C 0 0 3 - 1) 0 := whoM_ag _ _ (fun i _ => by unfold startM; rw [mu_n (by omega)])
    rw [e]
    have := who_nx M (C 0 0 3 - 1) 0 (by rw [show C 0 0 3 - 1 + 1 = C 0 0 3 - 0 by omega]; exact hn)
    rw [this, show C 0 0 3 - 1 + 1 = C 0 0 3 - 0 by omega]
    rfl
  rw [hw]
  have z4 : mu (startM C M) 8 0 4 (nextInM C M 0) 0 0 4 = nextInM C M 0 := by unfold startM; rw [mu_n (by omega), mu_s]
  have z : ∀ j, ¬ j = 4 → mu (startM C M) 8 0 4 (nextInM C M 0) 0 0 j = M 0 0 j := fun j hj => by unfold startM; rw [mu_n (by omega), mu_n (by omega)]
  have y : ∀ j, ¬ j = 4 → mu (startM C M) 8 0 4 (nextInM C M 0) 8 0 j = M 8 0 j := fun j hj => by unfold startM; rw [mu_n (by omega), mu_n (by omega)]
  have y4 : mu (startM C M) 8 0 4 (nextInM C M 0) 8 0 4 = nextInM C M 0 := mu_s _ _ _ _ _
  unfold SOk
  rw [z4, z 1 (by decide), z 2 (by decide), z 3 (by decide), y 1 (by decide), y 2 (by decide), y 3 (by decide), y4]
  refine ⟨⟨fun q => absurd q hn, fun q => ?_⟩, fun _ => ⟨e1, e2, rfl, e3⟩, hb, fun s k h1 h2 => ?_⟩
  · rw [e1] at q
    have : M 0 0 1 = 4294967295 := q
    omega
  · have : mu (startM C M) 8 0 4 (nextInM C M 0) 4 s k = M 4 s k := by unfold startM; rw [mu_n (by omega), mu_n (by omega)]
    rw [this]
    exact h4 s k h1 h2
theorem lapM_z (M : MD) (j : Nat) (hj : j = 1 ∨ j = 3) : lapM M 0 0 j = M 0 0 j := by
  unfold lapM
  rw [mu_n (by omega), mu_n (by omega), mu_n (by omega), backM_n 6 M (by omega)]
theorem lapM_2 (M : MD) : lapM M 0 0 2 = M 0 0 2 + 1 := by
  unfold lapM
  rw [mu_n (by omega), mu_s]
theorem lapM_8 (M : MD) {g i j : Nat} (h : (g = 8 ∧ ¬ j = 2) ∨ g = 4) : lapM M g i j = M g i j := by
  unfold lapM
  rw [mu_n (by omega), mu_n (by omega), mu_n (by omega), backM_n 6 M (by omega)]
theorem lapM_82 (M : MD) : lapM M 8 0 2 = M 8 0 2 + 1 := by
  unfold lapM
  rw [mu_s]
theorem sok_endLap (hS : C 0 0 3 ≤ 6) (hQ : C 0 0 4 ≤ 5) (hq : M 0 0 1 < C 0 0 4) (e1 : M 8 0 1 = M 0 0 1) (e2 : M 8 0 2 = M 0 0 2) (e3 : M 8 0 3 % C 7 (M 0 0 1) 2 = M 0 0 3) (hb : M 8 0 3 ≤ B) (h4 : ∀ s k, s < C 0 0 3 → k < C 0 0 0 → M 4 s k ≤ 20) : SOk C B (endLapM C M) := by
  have g4 : ∀ s k, s < C 0 0 3 → k < C 0 0 0 → lapM M 4 s k ≤ 20 := fun s k h1 h2 => by rw [lapM_8 M (Or.inr rfl)]; exact h4 s k h1 h2
  have r4 : ∀ s k, s < C 0 0 3 → k < C 0 0 0 → roundEndM C (lapM M) 4 s k ≤ 20 := fun s k h1 h2 => by rw [rnd_z k (by decide) s]; exact g4 s k h1 h2
  have b8 : lapM M 8 0 3 = M 8 0 3 := lapM_8 M (by omega)
  unfold endLapM endLap0M
  by_cases c1 : leftM C (lapM M) < 2
  · rw [if_pos c1]
    exact sok_over (by rw [b8]; exact hb) g4 _
  · rw [if_neg c1]
    by_cases c2 : C 7 (M 0 0 1) 1 ≤ M 0 0 2 + 1
    · rw [if_pos c2]
      by_cases c3 : leftM C (roundEndM C (lapM M)) < 2 ∨ C 0 0 4 ≤ M 0 0 1 + 1
      · rw [if_pos c3]
        exact sok_over (by rw [mu_s]; omega) (fun s k h1 h2 => by rw [mu_n (by omega), mu_n (by omega)]; exact r4 s k h1 h2) _
      · rw [if_neg c3]
        have n1 : nextRoundM (roundEndM C (lapM M)) 0 0 1 = M 0 0 1 + 1 := by
          unfold nextRoundM
          rw [mu_n (by omega), mu_n (by omega), mu_n (by omega), mu_n (by omega), mu_n (by omega), mu_s, rnd_z 1 (by decide) 0, lapM_z M 1 (Or.inl rfl)]
        have n2 : nextRoundM (roundEndM C (lapM M)) 0 0 2 = 0 := by
          unfold nextRoundM
          rw [mu_n (by omega), mu_n (by omega), mu_n (by omega), mu_n (by omega), mu_s]
        have n3 : nextRoundM (roundEndM C (lapM M)) 0 0 3 = 0 := by
          unfold nextRoundM
          rw [mu_n (by omega), mu_n (by omega), mu_n (by omega), mu_s]
        have m1 : nextRoundM (roundEndM C (lapM M)) 8 0 1 = M 8 0 1 + 1 := by
          unfold nextRoundM
          rw [mu_n (by omega), mu_n (by omega), mu_s, rnd_z 1 (by decide) 0, lapM_8 M (by omega)]
        have m2 : nextRoundM (roundEndM C (lapM M)) 8 0 2 = 0 := by
          unfold nextRoundM
          rw [mu_n (by omega), mu_s]
        have m3 : nextRoundM (roundEndM C (lapM M)) 8 0 3 = 0 := by
          unfold nextRoundM
          rw [mu_s]
        have hl : leftM C (nextRoundM (roundEndM C (lapM M))) = leftM C (roundEndM C (lapM M)) := by
          unfold leftM
          have : (fun s => nextRoundM (roundEndM C (lapM M)) 3 s 0) = fun s => roundEndM C (lapM M) 3 s 0 := funext fun s => by
            unfold nextRoundM
            rw [mu_n (by omega), mu_n (by omega), mu_n (by omega), mu_n (by omega), mu_n (by omega), mu_n (by omega)]
          rw [this]
        exact sok_start hS (by omega) (by omega) (by omega) (by omega) (by rw [m3, n3, Nat.zero_mod]) (by omega) (fun s k h1 h2 => by
          unfold nextRoundM
          rw [mu_n (by omega), mu_n (by omega), mu_n (by omega), mu_n (by omega), mu_n (by omega), mu_n (by omega)]
          exact r4 s k h1 h2)
    · rw [if_neg c2]
      have l1 := lapM_z M 1 (Or.inl rfl)
      have l3 := lapM_z M 3 (Or.inr rfl)
      have l2 := lapM_2 M
      have k1 : lapM M 8 0 1 = M 8 0 1 := lapM_8 M (by omega)
      have k2 := lapM_82 M
      exact sok_start hS (by omega) (by omega) (by omega) (by omega) (by rw [l1, l3, b8]; exact e3) (by omega) g4
theorem sok_endTurn (hk : CfOk C) (hm : MOk C B M) (h : SOk C B M) (hg : ¬ M 0 0 4 = NEG) : SOk C B (endTurnM C M) := by
  obtain ⟨a1, a2, a3, a4⟩ := h.2.1 hg
  obtain ⟨b1, b2, b3, b4⟩ := hm.who hg
  have hk1 := hk.1
  unfold endTurnM
  split
  · have z : ∀ j, (j = 1 ∨ j = 2 ∨ j = 3) → mu (mu (mu M 0 0 0 (M 0 0 0 + 1)) 0 0 5 0) 0 0 4 NEG 0 0 j = M 0 0 j := fun j hj => by rw [mu_n (by omega), mu_n (by omega), mu_n (by omega)]
    have y : ∀ j, mu (mu (mu M 0 0 0 (M 0 0 0 + 1)) 0 0 5 0) 0 0 4 NEG 8 0 j = M 8 0 j := fun j => by rw [mu_n (by omega), mu_n (by omega), mu_n (by omega)]
    have z1 := z 1 (by omega)
    have z2 := z 2 (by omega)
    have z3 := z 3 (by omega)
    have y1 := y 1
    have y2 := y 2
    have y3 := y 3
    exact sok_endLap (by omega) (by omega) (by omega) (by omega) (by omega) (by rw [z1, z3, y3]; exact a4) (by have := h.2.2.1; omega) (fun s k h1 h2 => by rw [mu_n (by omega), mu_n (by omega), mu_n (by omega)]; exact h.2.2.2 s k h1 h2)
  · rename_i e
    have hy1 : ¬ M 8 0 1 = NEG := fun q => hg (h.1.mpr q)
    generalize hx : nextInM C M (M 0 0 4 + 1) = x at e ⊢
    have z : ∀ j, (j = 1 ∨ j = 2 ∨ j = 3) → mu (mu (mu (mu M 0 0 0 (M 0 0 0 + 1)) 0 0 5 0) 0 0 4 x) 8 0 4 x 0 0 j = M 0 0 j := fun j hj => by rw [mu_n (by omega), mu_n (by omega), mu_n (by omega), mu_n (by omega)]
    have z4 : mu (mu (mu (mu M 0 0 0 (M 0 0 0 + 1)) 0 0 5 0) 0 0 4 x) 8 0 4 x 0 0 4 = x := by rw [mu_n (by omega), mu_s]
    have y : ∀ j, ¬ j = 4 → mu (mu (mu (mu M 0 0 0 (M 0 0 0 + 1)) 0 0 5 0) 0 0 4 x) 8 0 4 x 8 0 j = M 8 0 j := fun j hj => by rw [mu_n (by omega), mu_n (by omega), mu_n (by omega), mu_n (by omega)]
    have y4 : mu (mu (mu (mu M 0 0 0 (M 0 0 0 + 1)) 0 0 5 0) 0 0 4 x) 8 0 4 x 8 0 4 = x := mu_s _ _ _ _ _
    unfold SOk
    rw [z4, z 1 (by omega), z 2 (by omega), z 3 (by omega), y 1 (by decide), y 2 (by decide), y 3 (by decide), y4]
    refine ⟨⟨fun q => absurd q e, fun q => absurd q hy1⟩, fun _ => ⟨a1, a2, rfl, a4⟩, h.2.2.1, fun s k h1 h2 => ?_⟩
    rw [mu_n (by omega), mu_n (by omega), mu_n (by omega), mu_n (by omega)]
    exact h.2.2.2 s k h1 h2
end
