/-! ===== what holds of a bee over a turn ===== -/
section
variable {C : CD} {B e a : Nat} {M M' : MD}
def iv (C : CD) (M : MD) : Prop := ivS C 0 0 M ∧ ivP M ∧ onOk M
theorem word_lt (hk : CfOk C) (hm : MOk C B M) (hn : ¬ M 0 0 4 = NEG) : wordM C M < C 0 0 2 := by
  obtain ⟨hs, hq, hp, hl⟩ := hm.who hn
  exact (hk.2.2.2.2.2.1 _ hq).2.2.2.2.2 _ hp
theorem or_word (hm : MOk C B M) (n o : Nat) : wordM C (orM C n o M).2 = wordM C M := by
  unfold wordM
  rw [(orM_ok n o B M hm).2.1 1 (by decide), (orM_ok n o B M hm).2.1 3 (by decide)]
theorem iv_turn (hk : CfOk C) (hm : MOk C B M) (hn : ¬ M 0 0 4 = NEG) (h : iv C M) : iv C (turnM C M) := by
  obtain ⟨h1, h2, h3⟩ := h
  obtain ⟨hs, hq, hp, hl⟩ := hm.who hn
  obtain ⟨o1, o2, o3⟩ := orM_ok (C 0 0 5) 0 B M hm
  have e4 := o2 4 (by decide)
  have hn2 : ¬ (orM C (C 0 0 5) 0 M).2 0 0 4 = NEG := by rw [e4]; exact hn
  have i0 : (orM C (C 0 0 5) 0 M).2 3 (M 0 0 4) 0 = 1 := by rw [orM_o (by omega)]; exact h3 hn
  obtain ⟨M1, e, ⟨rfl, g⟩ | ⟨rfl, g⟩⟩ := turn_eq C M
  · rw [e]
    exact ⟨ivS_endTurn (ivS_pass (ivS_or hs _ _ h1)), ivP_endTurn (ivP_pass (ivP_or _ _ h2)), on_endTurn (passM_ok o1).i (by rw [passM_z, e4]; exact hs)⟩
  · rw [e]
    exact ⟨ivS_endTurn (ivS_spell hk (ivS_or hs _ _ h1) (by rw [e4]; exact hs) (word_lt hk o1 hn2) (o1.2.2.2.2.2.1 _).2.2), ivP_endTurn (ivP_spell (ivP_or _ _ h2) (by rw [e4]; exact i0)), on_endTurn (spellM_ok hk o1 hn2).i (by rw [spellM_z (by decide), e4]; exact hs)⟩
theorem iv_play (hk : CfOk C) : ∀ (n B : Nat) (M : MD), MOk C B M → iv C M → iv C (playM C n M)
  | 0, _, _, _, h => h
  | n + 1, B, M, hm, h => by
    rw [playM]
    split
    · exact h
    · rename_i g
      exact iv_play hk n _ _ (turnM_ok hk hm g) (iv_turn hk hm g h)
theorem iv_hint (hm : MOk C B M) (hc : canHintM M = true) (h : iv C M) : iv C (hintM M) := by
  obtain ⟨q1, q2, q3⟩ := canHint_and.mp hc
  refine ⟨ivS_hint h.1 (hm.who q1).1, ivP_hint h.2.1, fun q => ?_⟩
  rw [hintM_z M (by decide)] at q ⊢
  rw [hintM_3 (by decide) (by decide)]
  exact h.2.2 q
theorem iv_skip (hm : MOk C B M) (hc : canPassM M = true) (h : iv C M) : iv C (endTurnM C (passM M)) := by
  obtain ⟨q1, q2⟩ := canPass_and.mp hc
  exact ⟨ivS_endTurn (ivS_pass h.1), ivP_endTurn (ivP_pass h.2.1), on_endTurn (passM_ok hm).i (by rw [passM_z]; exact (hm.who q1).1)⟩
theorem iv_same (h : iv C M) (e3 : ∀ s j, ¬ j = 1 → M' 3 s j = M 3 s j) (eo : ∀ g i j, g < 3 → M' g i j = M g i j) : iv C M' := by
  refine ⟨h.1.same (fun s j q1 q2 => e3 s j (by omega)) (fun v j => eo 2 v j (by decide)) (fun j => eo 1 0 j (by decide)) (eo 0 0 0 (by decide)), h.2.1.same (fun s j q => e3 s j (by omega)), fun q => ?_⟩
  rw [eo 0 0 4 (by decide)] at q ⊢
  rw [e3 _ 0 (by decide)]
  exact h.2.2 q
theorem iv_learn (h : iv C M) (s k x : Nat) : iv C (mu M 4 s k x) := iv_same h (fun s j q => mu_n (by omega)) (fun g i j q => mu_n (by omega))
theorem iv_award (h : iv C M) (s x : Nat) : iv C (mu M 3 s 1 x) := iv_same h (fun s j q => mu_n (by omega)) (fun g i j q => mu_n (by omega))
/-! what she has heard, how strong she is -/
theorem turn_45 (C : CD) (M : MD) {g i j : Nat} (hg : g = 4 ∨ g = 5) : ∃ M1, turnM C M g i j = M1 g i j ∧ (M1 = (orM C (C 0 0 5) 0 M).2 ∨ M1 = outcomeM C (orM C (C 0 0 5) 0 M).2 ((orM C (C 0 0 5) 0 M).2 0 0 4) (wordM C (orM C (C 0 0 5) 0 M).2)) := by
  obtain ⟨M1, e, ⟨rfl, -⟩ | ⟨rfl, -⟩⟩ := turn_eq C M
  · refine ⟨_, ?_, Or.inl rfl⟩
    rw [e, kp_endTurn.2.1 g i j (by omega), mu_n (by omega)]
    unfold passM
    rw [mu_n (by omega), mu_n (by omega)]
  · refine ⟨_, ?_, Or.inr rfl⟩
    rw [e, kp_endTurn.2.1 g i j (by omega), mu_n (by omega)]
    unfold spellM
    rw [mu_n (by omega), mu_n (by omega)]
theorem turn_4 (C : CD) (M : MD) (s k : Nat) : turnM C M 4 s k = M 4 s k := by
  obtain ⟨M1, e, rfl | rfl⟩ := turn_45 C M (g := 4) (i := s) (j := k) (Or.inl rfl)
  · rw [e]; exact orM_o (by omega) _ _ M
  · rw [e, outcome_48 (Or.inl rfl)]; exact orM_o (by omega) _ _ M
theorem out_5 (M : MD) (s v : Nat) : (∀ i j, outcomeM C M s v 5 i j = M 5 i j) ∨ ∀ i j, outcomeM C M s v 5 i j = hearM C s v (C 3 v 0) M 5 i j := by
  unfold outcomeM
  split
  · refine Or.inr fun i j => ?_
    unfold rightM
    rw [mu_n (by omega), mu_n (by omega), mu_n (by omega), mu_n (by omega), mu_n (by omega)]
    exact hearM_5 C s v _ (fun i j => mu_n (by omega)) i j
  · refine Or.inl fun i j => ?_
    split
    · split
      · unfold rightM
        rw [mu_n (by omega), mu_n (by omega), mu_n (by omega), mu_n (by omega), mu_n (by omega), mu_n (by omega), mu_n (by omega)]
      · rw [wrong_o (by omega), mu_n (by omega), mu_n (by omega)]
    · rw [wrong_o (by omega)]
theorem turn_5 (hm : MOk C B M) : (∀ s r, turnM C M 5 s r = M 5 s r) ∨ ∀ s r, turnM C M 5 s r = hearM C (M 0 0 4) (wordM C M) (C 3 (wordM C M) 0) M 5 s r := by
  have e4 := (orM_ok (C 0 0 5) 0 B M hm).2.1 4 (by decide)
  have ew := or_word hm (C 0 0 5) 0
  have e5 : ∀ i j, (orM C (C 0 0 5) 0 M).2 5 i j = M 5 i j := fun i j => orM_o (by omega) _ _ M
  obtain ⟨M1, e, ⟨rfl, -⟩ | ⟨rfl, -⟩⟩ := turn_eq C M
  · refine Or.inl fun s r => ?_
    rw [e, kp_endTurn.2.1 5 s r (by omega), mu_n (by omega)]
    unfold passM
    rw [mu_n (by omega), mu_n (by omega), e5]
  · have q : ∀ s r, turnM C M 5 s r = outcomeM C (orM C (C 0 0 5) 0 M).2 (M 0 0 4) (wordM C M) 5 s r := fun s r => by
      rw [e, kp_endTurn.2.1 5 s r (by omega), mu_n (by omega)]
      unfold spellM
      rw [mu_n (by omega), mu_n (by omega), e4, ew]
    rcases out_5 (C := C) (orM C (C 0 0 5) 0 M).2 (M 0 0 4) (wordM C M) with g | g
    · exact Or.inl fun s r => by rw [q, g, e5]
    · exact Or.inr fun s r => by rw [q, g]; exact hearM_5 C _ _ _ e5 s r
theorem hear_ge (C : CD) (M : MD) (s v : Nat) (k r : Nat) : ∀ n, M 5 k r ≤ hearM C s v n M 5 k r
  | 0 => Nat.le_refl _
  | n + 1 => by
    have ih := hear_ge C M s v k r n
    rw [hearM, mu_at]
    split
    · rename_i g
      obtain ⟨-, rfl, rfl⟩ := g
      omega
    · exact ih
theorem turn_5ge (hm : MOk C B M) (k r : Nat) : M 5 k r ≤ turnM C M 5 k r := by
  rcases turn_5 hm with g | g
  · rw [g]; exact Nat.le_refl _
  · rw [g]; exact hear_ge C M _ _ k r _
def hsM (C : CD) (M : MD) (k : Nat) : Nat := su (C 0 0 1) (fun r => M 5 k r)
theorem su_m5 {n s j x : Nat} (hj : j < n) : su n (fun r => mu M 5 s j x 5 s r) + M 5 s j = su n (fun r => M 5 s r) + x := by
  have := su_upd (x := x) (f := fun r => M 5 s r) hj
  rw [← this]
  congr 1
  refine su_ext fun r _ => ?_
  by_cases q : r = j
  · subst q; rw [mu_s, if_pos rfl]
  · rw [mu_n (by omega), if_neg q]
theorem hear_sum (C : CD) (M : MD) (s v k : Nat) : ∀ n, (∀ p, p < n → C 4 v p < C 0 0 1) → hsM C (hearM C s v n M) k = hsM C M k + if k = s then n else 0
  | 0, _ => by rw [hearM]; split <;> rfl
  | n + 1, h => by
    have ih := hear_sum C M s v k n (fun p hp => h p (by omega))
    rw [hearM]
    by_cases g : k = s
    · subst g
      have q := su_m5 (M := hearM C k v n M) (s := k) (x := hearM C k v n M 5 k (C 4 v n) + 1) (h n (by omega))
      rw [if_pos rfl] at ih ⊢
      unfold hsM at ih ⊢
      omega
    · rw [if_neg g] at ih ⊢
      rw [← ih]
      exact su_ext fun r _ => mu_n (by omega)
theorem turn_hs (hk : CfOk C) (hm : MOk C B M) (hn : ¬ M 0 0 4 = NEG) (k : Nat) : hsM C (turnM C M) k = hsM C M k ∨ hsM C (turnM C M) k = hsM C M k + if k = M 0 0 4 then C 3 (wordM C M) 0 else 0 := by
  rcases turn_5 hm with g | g
  · exact Or.inl (su_ext fun r _ => g k r)
  · refine Or.inr ?_
    rw [← hear_sum C M (M 0 0 4) (wordM C M) k _ (hk.2.2.2.1 _ (word_lt hk hm hn)).2.2]
    exact su_ext fun r _ => g k r
theorem sp_ge (hm : MOk C B M) (s v p : Nat) : spM C M s v p ≤ spM C (turnM C M) s v p := by
  unfold spM
  rw [turn_4]
  have := turn_5ge hm s (C 4 v p)
  omega
theorem least_ge (hm : MOk C B M) (s v : Nat) : ∀ n, leastM C M s v n ≤ leastM C (turnM C M) s v n
  | 0 => Nat.le_refl _
  | n + 1 => by
    have ih := least_ge hm s v n
    have h0 := sp_ge hm s v 0
    have h1 := sp_ge hm s v n
    rw [leastM, leastM]
    split <;> omega
theorem strong_turn (hm : MOk C B M) {s v : Nat} (hx : ¬ (s = M 0 0 4 ∧ v = wordM C M)) : strongM C M s v ≤ strongM C (turnM C M) s v := by
  have := least_ge hm s v (C 3 v 0)
  unfold strongM
  rw [if_neg hx]
  omega
/-! a round that begins -/
theorem end_round {N : MD} (h : ¬ endTurnM C N 0 0 4 = NEG) (hr : N 0 0 1 < endTurnM C N 0 0 1) : 2 ≤ leftM C (endTurnM C N) ∧ ∀ s, s < 6 → endTurnM C N 3 s 2 = 0 := by
  have l8 : ∀ (X : MD) (y : Nat), leftM C (mu X 8 0 4 y) = leftM C X := fun X y => su_ext fun s _ => mu_n (by omega)
  unfold endTurnM at h hr ⊢
  split at h
  · rename_i g
    rw [if_pos g] at hr ⊢
    unfold endLapM at h hr ⊢
    rw [mu_n (by omega)] at h
    rw [mu_n (by omega)] at hr
    rw [l8]
    have f1 : mu (mu (mu N 0 0 0 (N 0 0 0 + 1)) 0 0 5 0) 0 0 4 NEG 0 0 1 = N 0 0 1 := by rw [mu_n (by omega), mu_n (by omega), mu_n (by omega)]
    generalize mu (mu (mu N 0 0 0 (N 0 0 0 + 1)) 0 0 5 0) 0 0 4 NEG = X at h hr f1 ⊢
    have ov : ∀ Y : MD, overM Y 0 0 4 = NEG := fun Y => by unfold overM; rw [mu_n (by omega), mu_s]
    unfold endLap0M at h hr ⊢
    split at h
    · exact absurd (ov _) h
    · rename_i g1
      rw [if_neg g1] at hr ⊢
      split at h
      · rename_i g2
        rw [if_pos g2] at hr ⊢
        split at h
        · exact absurd (ov _) h
        · rename_i g3
          rw [if_neg g3]
          refine ⟨?_, fun s hs => ?_⟩
          · have : leftM C (startM C (nextRoundM (roundEndM C (lapM X)))) = leftM C (roundEndM C (lapM X)) := by
              rw [← left_next]
              exact su_ext fun s _ => mu_n (by omega)
            rw [this]
            omega
          · rw [mu_n (by omega)]
            unfold startM
            rw [mu_n (by omega), next_3]
            unfold roundEndM
            exact clearM_s 6 _ hs
      · rename_i g2
        rw [if_neg g2] at hr
        unfold startM at hr
        rw [mu_n (by omega), lap_1] at hr
        omega
  · rename_i g
    rw [if_neg g] at hr
    rw [mu_n (by omega), mu_n (by omega), mu_n (by omega), mu_n (by omega)] at hr
    omega
theorem turn_round (hm : MOk C B M) (h : ¬ turnM C M 0 0 4 = NEG) (hr : M 0 0 1 < turnM C M 0 0 1) : 2 ≤ leftM C (turnM C M) ∧ ∀ s, s < 6 → turnM C M 3 s 2 = 0 := by
  have e1 := (orM_ok (C 0 0 5) 0 B M hm).2.1 1 (by decide)
  obtain ⟨M1, e, ⟨rfl, -⟩ | ⟨rfl, -⟩⟩ := turn_eq C M
  · rw [e] at h hr ⊢
    exact end_round h (by rw [passM_z, e1]; exact hr)
  · rw [e] at h hr ⊢
    exact end_round h (by rw [spellM_z (by decide), e1]; exact hr)
/-! what is told of the end -/
theorem until_z (C : CD) (s n i : Nat) (M : MD) (h : M 3 s 0 = 0) : untilM C s n i M = i := by
  cases n with
  | zero => rw [untilM, if_pos h]
  | succ n => rw [untilM, if_pos h]
theorem until_ge (C : CD) (s : Nat) : ∀ n i (M : MD), i + n < NEG → untilM C s n i M = NEG ∨ (i ≤ untilM C s n i M ∧ untilM C s n i M ≤ i + n)
  | 0, i, M, h => by
    rw [untilM]
    split
    · right; omega
    · left; rfl
  | n + 1, i, M, h => by
    rw [untilM]
    split
    · right; omega
    · split
      · left; rfl
      · rcases until_ge C s n (i + 1) (turnM C M) (by omega) with g | g
        · left; exact g
        · right; omega
theorem until_shift (C : CD) (s : Nat) : ∀ n i (M : MD), i + n + 1 < NEG → untilM C s n (i + 1) M = if untilM C s n i M = NEG then NEG else untilM C s n i M + 1
  | 0, i, M, h => by
    rw [untilM, untilM]
    by_cases g : M 3 s 0 = 0
    · rw [if_pos g, if_pos g, if_neg (by omega)]
    · rw [if_neg g, if_neg g, if_pos rfl]
  | n + 1, i, M, h => by
    rw [untilM, untilM]
    by_cases g : M 3 s 0 = 0
    · rw [if_pos g, if_pos g, if_neg (by omega)]
    · rw [if_neg g, if_neg g]
      by_cases g2 : M 0 0 4 = NEG
      · rw [if_pos g2, if_pos g2, if_pos rfl]
      · rw [if_neg g2, if_neg g2]
        exact until_shift C s n (i + 1) (turnM C M) (by omega)
theorem until_more (C : CD) (s : Nat) : ∀ n i (M : MD), ¬ untilM C s n i M = NEG → untilM C s (n + 1) i M = untilM C s n i M
  | 0, i, M, h => by
    by_cases g : M 3 s 0 = 0
    · rw [until_z C s _ _ _ g, until_z C s _ _ _ g]
    · rw [untilM, if_neg g] at h
      exact absurd rfl h
  | n + 1, i, M, h => by
    rw [untilM] at h
    show (if M 3 s 0 = 0 then i else if M 0 0 4 = NEG then NEG else untilM C s (n + 1) (i + 1) (turnM C M)) = (if M 3 s 0 = 0 then i else if M 0 0 4 = NEG then NEG else untilM C s n (i + 1) (turnM C M))
    by_cases g : M 3 s 0 = 0
    · rw [if_pos g, if_pos g]
    · rw [if_neg g] at h
      rw [if_neg g, if_neg g]
      by_cases g2 : M 0 0 4 = NEG
      · rw [if_pos g2, if_pos g2]
      · rw [if_neg g2] at h
        rw [if_neg g2, if_neg g2]
        exact until_more C s n (i + 1) (turnM C M) h
theorem until_turn (C : CD) (M : MD) {s : Nat} (hn : ¬ M 0 0 4 = NEG) (h0 : 0 < untilM C s 10000 0 M) (h1 : ¬ untilM C s 10000 0 M = NEG) : untilM C s 10000 0 (turnM C M) + 1 = untilM C s 10000 0 M := by
  have g : ¬ M 3 s 0 = 0 := fun g => by rw [until_z C s _ _ _ g] at h0; omega
  have e : untilM C s 10000 0 M = untilM C s 9999 (0 + 1) (turnM C M) := by
    show untilM C s (9999 + 1) 0 M = _
    rw [untilM, if_neg g, if_neg hn]
  rw [e, until_shift C s 9999 0 _ (by decide)] at h1 ⊢
  by_cases q : untilM C s 9999 0 (turnM C M) = NEG
  · rw [if_pos q] at h1; exact absurd rfl h1
  · rw [if_neg q]
    have := until_more C s 9999 0 (turnM C M) q
    rw [← this]
theorem until_0 (C : CD) (M : MD) {s : Nat} : untilM C s 10000 0 M = 0 ↔ M 3 s 0 = 0 := by
  constructor
  · intro h
    refine Classical.byContradiction fun g => ?_
    have e : untilM C s (9999 + 1) 0 M = 0 := h
    rw [untilM, if_neg g] at e
    by_cases q : M 0 0 4 = NEG
    · rw [if_pos q] at e; exact absurd e (by decide)
    · rw [if_neg q] at e
      have hN : NEG = 4294967295 := rfl
      rcases until_ge C s 9999 (0 + 1) (turnM C M) (by decide) with w | w
      · omega
      · omega
  · intro h; exact until_z C s _ _ _ h
theorem win_turn (hk : CfOk C) (hm : MOk C B M) (hn : ¬ M 0 0 4 = NEG) : winnerM C (turnM C M) = winnerM C M := by
  have e1 : playM C 10000 M = playM C 9999 (turnM C M) := by
    show playM C (9999 + 1) M = _
    rw [playM, if_neg hn]
  have e2 : playM C 10000 (turnM C M) = playM C 9999 (turnM C M) := play_more hk (turnM_ok hk hm hn) (by omega)
  unfold winnerM
  rw [e1, e2]
/-! ranks -/
theorem ahead_irr (M : MD) (s : Nat) : aheadM M s s = false := by
  unfold aheadM
  rw [if_pos rfl, if_pos rfl]
  exact decide_eq_false (by omega)
theorem ahead_iff (hi : ∀ s, M 3 s 0 ≤ 1) (s o : Nat) : aheadM M s o = true ↔ (M 3 o 0 < M 3 s 0) ∨ (M 3 s 0 = M 3 o 0 ∧ (M 3 o 1 < M 3 s 1 ∨ (M 3 s 1 = M 3 o 1 ∧ s < o))) := by
  have h1 := hi s
  have h2 := hi o
  unfold aheadM
  split
  · split
    · rw [decide_eq_true_eq]; omega
    · rw [decide_eq_true_eq]; omega
  · rw [decide_eq_true_eq]; omega
theorem su_lt {n i : Nat} {f g : Nat → Nat} (h : ∀ j, j < n → f j ≤ g j) (hi : i < n) (hl : f i < g i) : su n f < su n g := by
  induction n with
  | zero => omega
  | succ n ih =>
    rw [su, su]
    by_cases q : i = n
    · subst q
      have := su_mono (n := i) (fun j hj => h j (by omega))
      omega
    · have := ih (fun j hj => h j (by omega)) (by omega)
      have := h n (by omega)
      omega
theorem rank_lt (hi : ∀ s, M 3 s 0 ≤ 1) {s o : Nat} (hs : s < C 0 0 3) (h : aheadM M s o = true) : rankM C M s < rankM C M o := by
  refine su_lt (i := s) (fun j _ => ?_) hs ?_
  · by_cases g : aheadM M j s = true
    · have : aheadM M j o = true := by
        have q1 := (ahead_iff hi _ _).mp g
        have q2 := (ahead_iff hi _ _).mp h
        exact (ahead_iff hi _ _).mpr (by omega)
      rw [if_pos g, if_pos this]
      exact Nat.le_refl _
    · rw [if_neg g]; omega
  · rw [ahead_irr, if_neg (by decide), if_pos h]
    omega
theorem rank_ah (hi : ∀ s, M 3 s 0 ≤ 1) {s o : Nat} (hs : s < C 0 0 3) (ho : o < C 0 0 3) (h : rankM C M s < rankM C M o) : aheadM M s o = true := by
  refine Classical.byContradiction fun g => ?_
  have g2 : ¬ ((M 3 o 0 < M 3 s 0) ∨ (M 3 s 0 = M 3 o 0 ∧ (M 3 o 1 < M 3 s 1 ∨ (M 3 s 1 = M 3 o 1 ∧ s < o)))) := fun q => g ((ahead_iff hi _ _).mpr q)
  by_cases q : s = o
  · subst q; omega
  · have : aheadM M o s = true := (ahead_iff hi _ _).mpr (by omega)
    have := rank_lt (C := C) hi ho this
    omega
theorem rank_ne (hi : ∀ s, M 3 s 0 ≤ 1) {s o : Nat} (hs : s < C 0 0 3) (ho : o < C 0 0 3) (h : ¬ s = o) : ¬ rankM C M s = rankM C M o := by
  intro e
  by_cases g : (M 3 o 0 < M 3 s 0) ∨ (M 3 s 0 = M 3 o 0 ∧ (M 3 o 1 < M 3 s 1 ∨ (M 3 s 1 = M 3 o 1 ∧ s < o)))
  · have := rank_lt (C := C) hi hs ((ahead_iff hi _ _).mpr g)
    omega
  · have := rank_lt (C := C) (s := o) (o := s) hi ho ((ahead_iff hi _ _).mpr (by omega))
    omega
theorem su_one (n : Nat) : su n (fun _ => 1) = n := by
  induction n with
  | zero => rfl
  | succ n ih => rw [su, ih]
theorem rank_b {s : Nat} (hs : s < C 0 0 3) : rankM C M s < C 0 0 3 := by
  have : rankM C M s < su (C 0 0 3) (fun _ => 1) := by
    refine su_lt (i := s) (fun j _ => ?_) hs ?_
    · split <;> omega
    · rw [ahead_irr, if_neg (by decide)]; omega
  rw [su_one] at this
  exact this
/-- the ranks that were seen, as bits -/
def rkB (C : CD) (M : MD) : Nat → Int32
  | 0 => nI 0
  | n + 1 => rkB C M n ||| (nI 1 <<< (nI (rankM C M n) &&& 31))
theorem rkB_all (hi : ∀ s, M 3 s 0 ≤ 1) (h2 : 2 ≤ C 0 0 3) (h4 : C 0 0 3 ≤ 4) : rkB C M (C 0 0 3) = (nI 1 <<< (nI (C 0 0 3) &&& 31)) - nI 1 := by
  have k2 : ∀ a, a < 2 → ∀ b, b < 2 → ¬ a = b → (nI 0 ||| (nI 1 <<< (nI a &&& 31))) ||| (nI 1 <<< (nI b &&& 31)) = (nI 1 <<< (nI 2 &&& 31)) - nI 1 := by decide +kernel
  have k3 : ∀ a, a < 3 → ∀ b, b < 3 → ∀ c, c < 3 → (a = b ∨ a = c ∨ b = c) ∨ ((nI 0 ||| (nI 1 <<< (nI a &&& 31))) ||| (nI 1 <<< (nI b &&& 31))) ||| (nI 1 <<< (nI c &&& 31)) = (nI 1 <<< (nI 3 &&& 31)) - nI 1 := by decide +kernel
  have k4 : ∀ a, a < 4 → ∀ b, b < 4 → ∀ c, c < 4 → ∀ d, d < 4 → (a == b || a == c || a == d || b == c || b == d || c == d || (((nI 0 ||| (nI 1 <<< (nI a &&& 31))) ||| (nI 1 <<< (nI b &&& 31))) ||| (nI 1 <<< (nI c &&& 31))) ||| (nI 1 <<< (nI d &&& 31)) == (nI 1 <<< (nI 4 &&& 31)) - nI 1) = true := by decide +kernel
  have b : ∀ s, s < C 0 0 3 → rankM C M s < C 0 0 3 := fun s hs => rank_b hs
  have ne : ∀ s o, s < C 0 0 3 → o < C 0 0 3 → ¬ s = o → ¬ rankM C M s = rankM C M o := fun s o hs ho => rank_ne hi hs ho
  rcases (show C 0 0 3 = 2 ∨ C 0 0 3 = 3 ∨ C 0 0 3 = 4 by omega) with e | e | e <;> rw [e] at b ne ⊢
  · exact k2 _ (b 0 (by decide)) _ (b 1 (by decide)) (ne 0 1 (by decide) (by decide) (by decide))
  · have n1 := ne 0 1 (by decide) (by decide) (by decide)
    have n2 := ne 0 2 (by decide) (by decide) (by decide)
    have n3 := ne 1 2 (by decide) (by decide) (by decide)
    rcases k3 _ (b 0 (by decide)) _ (b 1 (by decide)) _ (b 2 (by decide)) with q | q
    · omega
    · exact q
  · have n1 := ne 0 1 (by decide) (by decide) (by decide)
    have n2 := ne 0 2 (by decide) (by decide) (by decide)
    have n3 := ne 0 3 (by decide) (by decide) (by decide)
    have n4 := ne 1 2 (by decide) (by decide) (by decide)
    have n5 := ne 1 3 (by decide) (by decide) (by decide)
    have n6 := ne 2 3 (by decide) (by decide) (by decide)
    have q := k4 _ (b 0 (by decide)) _ (b 1 (by decide)) _ (b 2 (by decide)) _ (b 3 (by decide))
    simp only [Bool.or_eq_true, beq_iff_eq] at q
    rcases q with q | q
    · omega
    · exact q
end
