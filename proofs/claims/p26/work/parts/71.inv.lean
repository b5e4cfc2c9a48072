/-! ===== what holds of a bee at any time: the end of a turn ===== -/
section
variable {C : CD} {B e a : Nat} {M M' : MD}
/-- what the end of a turn keeps -/
def kp (M M' : MD) : Prop := (∀ s j, j = 1 ∨ (3 ≤ j ∧ j ≤ 7) → M' 3 s j = M 3 s j) ∧ (∀ g i j, g = 1 ∨ g = 2 ∨ g = 4 ∨ g = 5 → M' g i j = M g i j) ∧ M' 0 0 0 = M 0 0 0 ∧ (ivP M → ivP M')
theorem kp.refl (M : MD) : kp M M := ⟨fun _ _ _ => rfl, fun _ _ _ _ => rfl, rfl, fun h => h⟩
theorem kp.trans {M1 M2 M3 : MD} (h : kp M1 M2) (k : kp M2 M3) : kp M1 M3 := ⟨fun s j q => (k.1 s j q).trans (h.1 s j q), fun g i j q => (k.2.1 g i j q).trans (h.2.1 g i j q), k.2.2.1.trans h.2.2.1, fun q => k.2.2.2 (h.2.2.2 q)⟩
theorem kp.iv (h : kp M M') (k : ivS C e a M) : ivS C e a M' := k.same (fun s j q1 q2 => h.1 s j (by omega)) (fun v j => h.2.1 2 v j (by decide)) (fun j => h.2.1 1 0 j (by decide)) h.2.2.1
theorem kp_z {g j x : Nat} (h : (g = 0 ∧ ¬ j = 0) ∨ g = 8) : kp M (mu M g 0 j x) := ⟨fun s i q => mu_n (by omega), fun g' i j' q => mu_n (by omega), mu_n (by omega), fun k => k.same fun s i q => mu_n (by omega)⟩
theorem kp_back : kp M (backM 6 M) := by
  refine ⟨fun s j q => backM_n 6 M (by omega), fun g i j q => backM_n 6 M (by omega), backM_n 6 M (by omega), fun k s => ?_⟩
  have q := k s
  rw [backM_n 6 M (j := 3) (by omega)]
  by_cases g : s < 6
  · rw [backM_0 6 M g, backM_2 6 M g]
    split
    · exact ⟨by omega, by omega, q.2.2⟩
    · exact q
  · rw [backM_n 6 M (by omega), backM_n 6 M (by omega)]
    exact q
theorem kp_pay {toll : Nat} : kp M (payM toll 6 M) := by
  refine ⟨fun s j q => payM_n toll 6 M (by omega), fun g i j q => payM_n toll 6 M (by omega), payM_n toll 6 M (by omega), fun k s => ?_⟩
  have q := k s
  rw [payM_n toll 6 M (j := 3) (by omega), payM_n toll 6 M (j := 2) (by omega)]
  by_cases g : s < 6
  · rw [payM_s toll 6 M g]
    refine ⟨q.1, fun w => ?_, q.2.2⟩
    split at w
    · rename_i t; exact q.2.1 t.1
    · omega
  · rw [payM_n toll 6 M (by omega)]
    exact q
theorem kp_clear : kp M (clearM 6 M) := by
  refine ⟨fun s j q => clearM_n 6 M (by omega), fun g i j q => clearM_n 6 M (by omega), clearM_n 6 M (by omega), fun k s => ?_⟩
  have q := k s
  rw [clearM_n 6 M (j := 3) (by omega), clearM_n 6 M (j := 0) (by omega)]
  by_cases g : s < 6
  · rw [clearM_s 6 M g]
    exact ⟨by omega, fun _ => by omega, q.2.2⟩
  · rw [clearM_n 6 M (by omega)]
    exact q
theorem kp_rnd : kp M (roundEndM C M) := by
  unfold roundEndM
  split
  · exact kp_pay.trans kp_clear
  · exact kp_clear
theorem kp_lap : kp M (lapM M) := by
  unfold lapM
  exact ((kp_back.trans (kp_z (by omega))).trans (kp_z (by omega))).trans (kp_z (by omega))
theorem kp_over : kp M (overM M) := by
  unfold overM
  exact (kp_z (by omega)).trans (kp_z (by omega))
theorem kp_start : kp M (startM C M) := kp_z (by omega)
theorem kp_next : kp M (nextRoundM M) := by
  unfold nextRoundM
  exact (((((kp_z (by omega)).trans (kp_z (by omega))).trans (kp_z (by omega))).trans (kp_z (by omega))).trans (kp_z (by omega))).trans (kp_z (by omega))
theorem kp_endLap0 : kp M (endLap0M C M) := by
  unfold endLap0M
  split
  · exact kp_lap.trans kp_over
  · split
    · split
      · exact (((kp_lap.trans kp_rnd).trans (kp_z (by omega))).trans (kp_z (by omega))).trans kp_over
      · exact ((kp_lap.trans kp_rnd).trans kp_next).trans kp_start
    · exact kp_lap.trans kp_start
theorem kp_endLap : kp M (endLapM C M) := by
  unfold endLapM
  exact kp_endLap0.trans (kp_z (by omega))
theorem kp_endTurn : kp (mu M 0 0 0 (M 0 0 0 + 1)) (endTurnM C M) := by
  unfold endTurnM
  split
  · exact ((kp_z (by omega)).trans (kp_z (by omega))).trans kp_endLap
  · exact ((kp_z (by omega)).trans (kp_z (by omega))).trans (kp_z (by omega))
theorem ivS_endTurn (h : ivS C 1 0 M) : ivS C 0 0 (endTurnM C M) := by
  refine kp_endTurn.iv ?_
  obtain ⟨h1, h2, h3, h4, h5, h6, h7, h8, h9⟩ := h
  have e1 : ∀ g i j, ¬ g = 0 → mu M 0 0 0 (M 0 0 0 + 1) g i j = M g i j := fun g i j q => mu_n (by omega)
  unfold ivS
  rw [s3_ext (fun u => e1 3 u 4 (by decide)), s3_ext (fun u => e1 3 u 5 (by decide)), s3_ext (fun u => e1 3 u 6 (by decide)), s3_ext (fun u => e1 3 u 7 (by decide)), s2_ext (fun u => e1 2 u 0 (by decide)), s2_ext (fun u => e1 2 u 1 (by decide)), e1 1 0 0 (by decide), e1 1 0 1 (by decide), e1 1 0 2 (by decide), e1 1 0 3 (by decide), e1 1 0 4 (by decide), e1 1 0 5 (by decide), mu_s]
  refine ⟨h1, h2, h3, h4, h5, fun u => ?_, by omega, h8, h9⟩
  rw [e1 2 u 1 (by decide), e1 2 u 0 (by decide)]
  exact h6 u
theorem ivP_endTurn (h : ivP M) : ivP (endTurnM C M) := kp_endTurn.2.2.2 (h.same fun s j q => mu_n (by omega))
/-- who is on turn is in -/
def onOk (M : MD) : Prop := ¬ M 0 0 4 = NEG → M 3 (M 0 0 4) 0 = 1
theorem on_start (hi : ∀ s, M 3 s 0 ≤ 1) (h2 : 2 ≤ leftM C M) : onOk (startM C M) := by
  intro _
  have q := nextIn_left C M h2
  unfold startM
  rw [mu_s, mu_n (by omega)]
  have := hi (nextInM C M 0)
  omega
theorem on_over : onOk (overM M) := fun q => by
  refine absurd ?_ q
  unfold overM
  rw [mu_n (by omega), mu_s]
theorem next_3 {s j : Nat} : nextRoundM M 3 s j = M 3 s j := by
  unfold nextRoundM
  rw [mu_n (by omega), mu_n (by omega), mu_n (by omega), mu_n (by omega), mu_n (by omega), mu_n (by omega)]
theorem left_next : leftM C (nextRoundM M) = leftM C M := su_ext fun s _ => next_3
theorem on_endLap0 (hi : ∀ s, M 3 s 0 ≤ 1) : onOk (endLap0M C M) := by
  unfold endLap0M
  split
  · exact on_over
  · split
    · split
      · exact on_over
      · rename_i g
        refine on_start (fun s => ?_) ?_
        · rw [next_3]; exact rnd_i (lap_i hi) s
        · rw [left_next]; omega
    · refine on_start (lap_i hi) ?_
      omega
theorem on_8 {j x : Nat} (h : onOk M) : onOk (mu M 8 0 j x) := fun q => by
  rw [mu_n (by omega)] at q ⊢
  rw [mu_n (by omega)]
  exact h q
theorem on_endTurn (hi : ∀ s, M 3 s 0 ≤ 1) (hs : M 0 0 4 < C 0 0 3) : onOk (endTurnM C M) := by
  unfold endTurnM
  split
  · unfold endLapM
    exact on_8 (on_endLap0 (fun s => by rw [mu_n (by omega), mu_n (by omega), mu_n (by omega)]; exact hi s))
  · rename_i g
    refine on_8 fun q => ?_
    rcases nextIn_spec C M (s := M 0 0 4 + 1) (by omega) with ⟨g1, -⟩ | ⟨g1, g2, g3⟩
    · exact absurd g1 g
    · rw [mu_s, mu_n (by omega), mu_n (by omega), mu_n (by omega)]
      have := hi (nextInM C M (M 0 0 4 + 1))
      omega
/-! how long a bee may last -/
def msM (C : CD) (M : MD) : Nat := if M 0 0 4 = NEG then 0 else (C 0 0 4 - M 0 0 1) * 100 + (9 - M 0 0 2) * 7 + (6 - M 0 0 4)
theorem ms_8 {j x : Nat} : msM C (mu M 8 0 j x) = msM C M := by
  unfold msM
  rw [mu_n (by omega), mu_n (by omega), mu_n (by omega)]
theorem ms_over : msM C (overM M) = 0 := by
  unfold msM
  rw [if_pos]
  unfold overM
  rw [mu_n (by omega), mu_s]
theorem ms_start (h2 : 2 ≤ leftM C M) : msM C (startM C M) ≤ (C 0 0 4 - M 0 0 1) * 100 + (9 - M 0 0 2) * 7 + 6 := by
  unfold msM startM
  rw [mu_s, mu_n (by omega), mu_n (by omega)]
  split <;> omega
theorem next_1 : nextRoundM M 0 0 1 = M 0 0 1 + 1 := by unfold nextRoundM; rw [mu_n (by omega), mu_n (by omega), mu_n (by omega), mu_n (by omega), mu_n (by omega), mu_s]
theorem next_2 : nextRoundM M 0 0 2 = 0 := by unfold nextRoundM; rw [mu_n (by omega), mu_n (by omega), mu_n (by omega), mu_n (by omega), mu_s]
theorem ms_endLap0 (hq : M 0 0 1 < C 0 0 4) (hl : M 0 0 2 < C 7 (M 0 0 1) 1) (h9 : C 7 (M 0 0 1) 1 ≤ 9) : msM C (endLap0M C M) < (C 0 0 4 - M 0 0 1) * 100 + (9 - M 0 0 2) * 7 := by
  have z1 : roundEndM C (lapM M) 0 0 1 = M 0 0 1 := by rw [rnd_z 1 (by decide) 0, lap_1]
  unfold endLap0M
  split
  · rw [ms_over]; omega
  · rename_i g0
    split
    · split
      · rw [ms_over]; omega
      · rename_i g1 g2
        refine Nat.lt_of_le_of_lt (ms_start ?_) ?_
        · rw [left_next]; omega
        · rw [next_1, next_2, z1]; omega
    · rename_i g1
      refine Nat.lt_of_le_of_lt (ms_start (by omega)) ?_
      rw [lap_1, lapM_2]
      omega
theorem ms_endTurn (hk : CfOk C) (hm : MOk C B M) (hn : ¬ M 0 0 4 = NEG) : msM C (endTurnM C M) < msM C M := by
  obtain ⟨hs, hq, hp, hl⟩ := hm.who hn
  have hk1 := hk.1
  have h9 := (hk.2.2.2.2.2.1 _ hq).2.2.1
  have e0 : msM C M = (C 0 0 4 - M 0 0 1) * 100 + (9 - M 0 0 2) * 7 + (6 - M 0 0 4) := if_neg hn
  rw [e0]
  unfold endTurnM
  split
  · unfold endLapM
    rw [ms_8]
    have := ms_endLap0 (C := C) (M := mu (mu (mu M 0 0 0 (M 0 0 0 + 1)) 0 0 5 0) 0 0 4 NEG) (by rw [mu_n (by omega), mu_n (by omega), mu_n (by omega)]; exact hq) (by rw [mu_n (by omega), mu_n (by omega), mu_n (by omega), mu_n (by omega), mu_n (by omega), mu_n (by omega)]; exact hl) (by rw [mu_n (by omega), mu_n (by omega), mu_n (by omega)]; exact h9)
    rw [mu_n (j := 4) (c := 1) (by omega), mu_n (j := 5) (c := 1) (by omega), mu_n (j := 0) (c := 1) (by omega), mu_n (j := 4) (c := 2) (by omega), mu_n (j := 5) (c := 2) (by omega), mu_n (j := 0) (c := 2) (by omega)] at this
    omega
  · rename_i g
    rw [ms_8]
    rcases nextIn_spec C M (s := M 0 0 4 + 1) (by omega) with ⟨g1, -⟩ | ⟨g1, g2, g3⟩
    · exact absurd g1 g
    · unfold msM
      rw [mu_s, if_neg g, mu_n (by omega), mu_n (by omega), mu_n (by omega), mu_n (by omega), mu_n (by omega), mu_n (by omega)]
      omega
theorem turn_eq (C : CD) (M : MD) : ∃ M1, turnM C M = endTurnM C M1 ∧ (M1 = passM (orM C (C 0 0 5) 0 M).2 ∧ (orM C (C 0 0 5) 0 M).1 = true ∨ M1 = spellM C (orM C (C 0 0 5) 0 M).2 ∧ ¬ (orM C (C 0 0 5) 0 M).1 = true) := by
  unfold turnM
  split
  · rename_i g; exact ⟨_, rfl, Or.inl ⟨rfl, g⟩⟩
  · rename_i g; exact ⟨_, rfl, Or.inr ⟨rfl, g⟩⟩
theorem ms_z (h : ∀ j, j = 1 ∨ j = 2 ∨ j = 4 → M' 0 0 j = M 0 0 j) : msM C M' = msM C M := by
  unfold msM
  rw [h 1 (by decide), h 2 (by decide), h 4 (by decide)]
theorem ms_turn (hk : CfOk C) (hm : MOk C B M) (hn : ¬ M 0 0 4 = NEG) : msM C (turnM C M) < msM C M := by
  obtain ⟨o1, o2, o3⟩ := orM_ok (C 0 0 5) 0 B M hm
  have hn2 : ¬ (orM C (C 0 0 5) 0 M).2 0 0 4 = NEG := by rw [o2 4 (by decide)]; exact hn
  have e0 : msM C (orM C (C 0 0 5) 0 M).2 = msM C M := ms_z fun j q => o2 j (by omega)
  obtain ⟨M1, e, ⟨rfl, -⟩ | ⟨rfl, -⟩⟩ := turn_eq C M
  · rw [e, ← e0, ← ms_z (C := C) (M := (orM C (C 0 0 5) 0 M).2) (M' := passM (orM C (C 0 0 5) 0 M).2) (fun j _ => passM_z _ j)]
    exact ms_endTurn hk (passM_ok o1) (by rw [passM_z]; exact hn2)
  · rw [e, ← e0, ← ms_z (C := C) (M := (orM C (C 0 0 5) 0 M).2) (M' := spellM C (orM C (C 0 0 5) 0 M).2) (fun j q => spellM_z (by omega))]
    exact ms_endTurn hk (spellM_ok hk o1 hn2) (by rw [spellM_z (by decide)]; exact hn2)
theorem play_stop (n : Nat) (h : M 0 0 4 = NEG) : playM C n M = M := by
  cases n with
  | zero => rfl
  | succ n => rw [playM, if_pos h]
theorem play_over (hk : CfOk C) : ∀ (n B : Nat) (M : MD), MOk C B M → msM C M ≤ n → playM C n M 0 0 4 = NEG
  | 0, B, M, hm, h => by
    rw [playM]
    refine Classical.byContradiction fun q => ?_
    have := ms_turn hk hm q
    omega
  | n + 1, B, M, hm, h => by
    rw [playM]
    split
    · rename_i g; exact g
    · rename_i g
      have := ms_turn hk hm g
      exact play_over hk n _ _ (turnM_ok hk hm g) (by omega)
theorem ms_le (hk : CfOk C) (hm : MOk C B M) : msM C M ≤ 600 := by
  have hk1 := hk.1
  unfold msM
  split
  · omega
  · omega
theorem play_more (hk : CfOk C) (hm : MOk C B M) {n : Nat} (hn : 600 ≤ n) : playM C (n + 1) M = playM C n M := by
  have key : ∀ (n : Nat) (M : MD), playM C n M 0 0 4 = NEG → playM C (n + 1) M = playM C n M := by
    intro n
    induction n with
    | zero => intro M h; exact play_stop 1 h
    | succ n ih =>
      intro M h
      show (if M 0 0 4 = NEG then M else playM C (n + 1) (turnM C M)) = (if M 0 0 4 = NEG then M else playM C n (turnM C M))
      rw [playM] at h
      split
      · rfl
      · rename_i g
        rw [if_neg g] at h
        exact ih _ h
  exact key n M (play_over hk n B M hm (Nat.le_trans (ms_le hk hm) hn))
end
