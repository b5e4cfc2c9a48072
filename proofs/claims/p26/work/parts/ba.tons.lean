/-! ===== the law's own list: all tongues are written ===== -/
/-- as kpW, but for one cell -/
def kpE (e : Nat) (w w' : MW) : Prop := mSz w ≤ mSz w' ∧ ∀ c, 276 ≤ c → c < mSz w → ¬ c = e → ¬ mTg w c = 12 → ¬ mTg w c = 51 → ¬ mTg w c = 11 → mTg w' c = mTg w c ∧ mLn w' c = mLn w c ∧ mI w' c = mI w c ∧ mR w' c = mR w c
section
variable {d T e : Nat} {u w w' w1 : MW}
theorem kpE.refl : kpE e w w := ⟨Nat.le_refl _, fun _ _ _ _ _ _ _ => ⟨rfl, rfl, rfl, rfl⟩⟩
theorem kpE.trans (h : kpE e w w1) (g : kpE e w1 w') : kpE e w w' := by
  refine ⟨Nat.le_trans h.1 g.1, fun c q1 q2 q3 n1 n2 n3 => ?_⟩
  obtain ⟨a1, a2, a3, a4⟩ := h.2 c q1 q2 q3 n1 n2 n3
  obtain ⟨b1, b2, b3, b4⟩ := g.2 c q1 (Nat.lt_of_lt_of_le q2 h.1) q3 (by rw [a1]; exact n1) (by rw [a1]; exact n2) (by rw [a1]; exact n3)
  exact ⟨b1.trans a1, b2.trans a2, b3.trans a3, b4.trans a4⟩
theorem kpW.ofI {k : Nat} {x : Int32} (h : kpW (wI w e k x) w') : kpE e w w' := ⟨h.1, fun c q1 q2 q3 n1 n2 n3 => by
  obtain ⟨a1, a2, a3, a4⟩ := h.2 c q1 q2 n1 n2 n3
  exact ⟨a1, a2, a3.trans (funext fun j => by rw [miI, if_neg (fun z => q3 z.1)]), a4⟩⟩
theorem wr_tons (h1 : mTg u 1 = 50) (l1 : mLn u 1 < 2147483648) (hT : T ≤ 3) : ∀ (m t k : Nat) (w : MW) (tx : List Nat), t + m = T → WS u w tx k → tx.length ≤ 25 * t → mTg w 278 = 10 → mR w 278 8 = some e → mTg w e = 50 → mLn w e = T → 280 ≤ e ∧ e < mSz w → (∀ j, j < t → mI w e j = nI (CS (ce u 1) 1 j 0)) →
    ∃ w', mX (d + 7) 167 27 [.ref 1, .ref 276, .ref 278, .int (nI t), mJ, mJ, mJ, mJ, mJ] [] w = mX (d + 7) 167 104 [.ref 1, .ref 276, .ref 278, mJ, mJ, mJ, mJ, mJ, mJ] [] w' ∧ WS u w' (tx ++ flat (secL (tonL (CS (ce u 1))) m t)) (k + 5 * m) ∧ kpE e w w' ∧ mTg w' e = 50 ∧ mLn w' e = T ∧ ∀ j, j < T → mI w' e j = nI (CS (ce u 1) 1 j 0) := by
  intro m
  induction m with
  | zero =>
    intro t k w tx ht h hl hσ r8 te le he hv
    have g8 : gR w 278 8 = e := gR_of r8
    refine ⟨w, ?_, ?_, kpE.refl, te, le, fun j hj => hv j (by omega)⟩
    · rw [b_167_27 hσ (by rw [g8, r8]) (by rw [g8, te]; decide), g8, le, ijle (by omega) (by omega), if_pos (by omega)]
    · rw [show flat (secL (tonL (CS (ce u 1))) 0 t) = [] from rfl, List.append_nil]
      exact h
  | succ m ih =>
    intro t k w tx ht h hl hσ r8 te le he hv
    have hz : 278 < mSz w := by omega
    obtain ⟨w1, e1, a1, b1⟩ := wr_ton (d := d) (T := T) (t := t) h (by omega) h1 l1 hσ r8 te le (by omega) hT he
    have c2 := b1.2 278 (by decide) hz (by rw [mTg_wI, hσ]; decide) (by rw [mTg_wI, hσ]; decide) (by rw [mTg_wI, hσ]; decide)
    have ce0 := b1.2 e (by omega) he.2 (by rw [mTg_wI, te]; decide) (by rw [mTg_wI, te]; decide) (by rw [mTg_wI, te]; decide)
    have tl : fl (tonL (CS (ce u 1)) t) ≤ 25 := fl_ton
    have tl2 : (flat (tonL (CS (ce u 1)) t)).length ≤ 25 := tl
    obtain ⟨w2, e2, a2, b2, t2, l2, v2⟩ := ih (t + 1) (k + 5) w1 (tx ++ flat (tonL (CS (ce u 1)) t)) (by omega) a1 (by rw [List.length_append]; omega) (c2.1.trans hσ) (by rw [c2.2.2.2]; exact r8) (ce0.1.trans te) (ce0.2.1.trans le) ⟨he.1, Nat.lt_of_lt_of_le he.2 b1.1⟩ (fun j hj => by
      rw [ce0.2.2.1, miI]
      by_cases z : j = t
      · subst z; rw [if_pos ⟨rfl, rfl⟩]
      · rw [if_neg (fun q => z q.2)]; exact hv j (by omega))
    refine ⟨w2, e1.trans e2, ?_, b1.ofI.trans b2, t2, l2, v2⟩
    rw [show flat (secL (tonL (CS (ce u 1))) (m + 1) t) = flat (tonL (CS (ce u 1)) t ++ secL (tonL (CS (ce u 1))) m (t + 1)) from rfl, flat_app, ← List.append_assoc]
    rw [show k + 5 * (m + 1) = k + 5 + 5 * m by omega]
    exact a2
end
