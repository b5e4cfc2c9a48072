/-! ===== ROWS OVER A WORLD: stores into rows, new cells, copies ===== -/
section MR2
variable {p : Program} {l : Launch} {e : Env} {R : Room} {s : State} {m : MethodId} {args : Array Value} {below : List Frame} {meth : Method} {c : Code} {H : Heap} {locs : List Loc} {cells slots : Nat} {Q : State → Prop}
variable {cc : ByteArray} {pc : Nat} {ls : Array Slot} {rest : List Value} {s0 : State} {D : va_G} {aC : Nat → ClassId} {av : Nat → Value} {ex : Nat → Nat} {w : MW} {nw : List Cond} {stab : List (String × Nat × String × Nat)} {sio : Value} {dg : Nat × Nat}
theorem mI_wI (w : MW) (c k : Nat) (x : Int32) (a b : Nat) : mI (wI w c k x) a b = if a = c ∧ b = k then x else mI w a b := rfl
theorem mR_wR (w : MW) (c k : Nat) (x : Option Nat) (a b : Nat) : mR (wR w c k x) a b = if a = c ∧ b = k then x else mR w a b := rfl
/-- one row of ours changed: the new cell is the row with the new contents -/
theorem m_rowSet (hR : mRep s0 D aC av ex w H) {cn t : Nat} (hc : cn < mSz w) (hcE : mE ≤ cn) (ht : mTg w cn = t) (h5 : t = 50 ∨ t = 51) {w' : MW} (hz : mSz w' = mSz w) (hT : mTg w' = mTg w) (hL : mLn w' = mLn w) (hoo : ∀ q, q ≠ cn → mI w' q = mI w q ∧ mR w' q = mR w q)
    (hfit : t = 51 → ∀ j, fits .byte (.int (mI w' cn j)) = true) {H1 : Heap} (e1 : H1[s0.heap.size + (cn - mE)]? = some (arrV (aC t) (mLn w cn) (fun j => .int (mI w' cn j)))) (e2 : H1.size = H.size) (e3 : ∀ q, q ≠ s0.heap.size + (cn - mE) → H1[q]? = H[q]?) : mRep s0 D aC av ex w' H1 := by
  refine hR.set hcE hz hT hL hoo e2 e3 ⟨fun g => ?_, fun _ => ?_, fun g => ?_, fun g => ?_⟩
  · rw [hT, ht] at g; omega
  · rw [hT, hL, ht]; exact e1
  · rw [hT, ht] at g; exact hfit g
  · rw [hT, ht] at g; omega
theorem m_own (hR : mRep s0 D aC av ex w H) {cn t : Nat} (hc : cn < mSz w) (hcE : mE ≤ cn) (ht : mTg w cn = t) (h5 : t = 50 ∨ t = 51) : H[s0.heap.size + (cn - mE)]? = some (arrV (aC t) (mLn w cn) (fun j => .int (mI w cn j))) := by
  have e1 := (hR.2.2.2.2 cn hcE hc).2.1 (by rw [ht]; exact h5)
  rw [ht] at e1
  exact e1
theorem m_iast (hexec : p.tables.exec = Jvm.exec) (hb : c.code = cc) (hk : mKN s0 D aC nw stab sio dg ex s) (hR : mRep s0 D aC av ex w H) (hS : va_S (mA s0) s.heap H locs) {cn : Nat} (hc : cn < mSz w) (hcE : mE ≤ cn) (ht : mTg w cn = 50) {i x : Int32} (hin : mIn i (mLn w cn)) (hdg : decode cc pc = .ok (.iastore, 1))
    (kk : ∀ (H1 : Heap) (locs1 : List Loc), mRep s0 D aC av ex (wI w cn i.toNatClampNeg x) H1 → va_S (mA s0) s.heap H1 locs1 → W p l e R s m args below meth c H1 locs1 cells slots Q (F0 m (pc + 1) ls rest)) : W p l e R s m args below meth c H locs cells slots Q (F0 m pc ls (.int x :: .int i :: .ref (s0.heap.size + (cn - mE)) :: rest)) := by
  have e0 := m_own hR hc hcE ht (Or.inl rfl)
  refine W.iast hexec hb e0 (State.isArrayOf_alike hk.1 ((hk.2.2.2.2.1 50 (by omega) (by omega)).1 _ _)) (fun q => by cases q) (by rw [arrV_size]; exact fun q => by rcases q with q | q; exact hin.1 q; have := hin.2; omega) rfl rfl hdg fun H1 e z oq => ?_
  refine kk H1 _ (m_rowSet hR hc hcE ht (Or.inl rfl) (w' := wI w cn i.toNatClampNeg x) rfl rfl rfl (fun q hq => ⟨?_, rfl⟩) (fun h => by omega) ?_ z oq) (hS.put z oq (Nat.le_add_right _ _))
  · funext b; rw [mI_wI, if_neg (fun h => hq h.1)]
  · rw [e, arrV_store]
    congr 2
    funext q
    rw [mI_wI]
    by_cases hq : q = i.toNatClampNeg
    · subst hq; simp [updV]
    · simp [updV, hq]
theorem m_fb (x : Int32) : fits .byte (.int x.toInt8.toInt32) = true := pk_fb x
theorem m_bast (hexec : p.tables.exec = Jvm.exec) (hb : c.code = cc) (hk : mKN s0 D aC nw stab sio dg ex s) (hR : mRep s0 D aC av ex w H) (hS : va_S (mA s0) s.heap H locs) {cn : Nat} (hc : cn < mSz w) (hcE : mE ≤ cn) (ht : mTg w cn = 51) {i x : Int32} (hin : mIn i (mLn w cn)) (hdg : decode cc pc = .ok (.bastore, 1))
    (kk : ∀ (H1 : Heap) (locs1 : List Loc), mRep s0 D aC av ex (wI w cn i.toNatClampNeg x.toInt8.toInt32) H1 → va_S (mA s0) s.heap H1 locs1 → W p l e R s m args below meth c H1 locs1 cells slots Q (F0 m (pc + 1) ls rest)) : W p l e R s m args below meth c H locs cells slots Q (F0 m pc ls (.int x :: .int i :: .ref (s0.heap.size + (cn - mE)) :: rest)) := by
  have e0 := m_own hR hc hcE ht (Or.inr rfl)
  have hf0 := (hR.2.2.2.2 cn hcE hc).2.2.1 ht
  refine W.bast hexec hb e0 (State.isArrayOf_alike hk.1 ((hk.2.2.2.2.1 51 (by omega) (by omega)).1 _ _)) (fun q => by cases q) (by rw [arrV_size]; exact fun q => by rcases q with q | q; exact hin.1 q; have := hin.2; omega) rfl rfl hdg fun H1 e z oq => ?_
  refine kk H1 _ (m_rowSet hR hc hcE ht (Or.inr rfl) (w' := wI w cn i.toNatClampNeg x.toInt8.toInt32) rfl rfl rfl (fun q hq => ⟨?_, rfl⟩) (fun _ j => ?_) ?_ z oq) (hS.put z oq (Nat.le_add_right _ _))
  · funext b; rw [mI_wI, if_neg (fun h => hq h.1)]
  · rw [mI_wI]
    split
    · exact m_fb x
    · exact hf0 j
  · rw [e, arrV_store]
    congr 2
    funext q
    rw [mI_wI]
    by_cases hq : q = i.toNatClampNeg
    · subst hq; simp [updV]; try rfl
    · simp [updV, hq]
/-- a reference is put into a row: an object of the row's class, or a row of numbers into a row of rows -/
theorem m_aast (hexec : p.tables.exec = Jvm.exec) (hb : c.code = cc) (hk : mKN s0 D aC nw stab sio dg ex s) (hR : mRep s0 D aC av ex w H) (hS : va_S (mA s0) s.heap H locs) (hav : mAv av s0 ex) (ho4 : mOkc 4) (ho11 : mOkc 11) {cn cv t : Nat} (hc : cn < mSz w) (ht : mTg w cn = t) (hv : cv < mSz w) (hcv : t = 52 ∧ mTg w cv = 50 ∧ mE ≤ cv ∨ t = 53 ∧ mTg w cv = 4 ∨ t = 54 ∧ mTg w cv = 11) {i : Int32} (hin : mIn i (mLn w cn)) (hdg : decode cc pc = .ok (.aastore, 1))
    (kk : ∀ (H1 : Heap) (locs1 : List Loc), mRep s0 D aC av ex (wR w cn i.toNatClampNeg (some cv)) H1 → va_S (mA s0) s.heap H1 locs1 → W p l e R s m args below meth c H1 locs1 cells slots Q (F0 m (pc + 1) ls rest)) : W p l e R s m args below meth c H locs cells slots Q (F0 m pc ls (.ref (mAd s0.heap.size ex cv) :: .int i :: .ref (mAd s0.heap.size ex cn) :: rest)) := by
  have h5 : t = 52 ∨ t = 53 ∨ t = 54 := by omega
  obtain ⟨hcE, e0⟩ := m_rowq hk hR hc ht h5
  rw [mAd_new hcE]
  obtain ⟨kA, comp, k1, k2, k3⟩ := hk.2.2.2.2.2.1 t (by omega) (by omega)
  obtain ⟨kA', hkA', ekA⟩ := hk.1.2.2 _ _ k1
  have k3' : s.vm.findClass (if t = 52 then "[I" else if t = 53 then RX4 else RJ0) = some comp := by rw [hk.1.findClass]; exact k3
  have hcv0 : ¬ cv = 0 := by
    intro q
    subst q
    have hx := (hR.2.2.2.1 0 (by decide)).2.2.2.2 rfl
    rcases hcv with ⟨-, -, h⟩ | ⟨-, h⟩ | ⟨-, h⟩
    · exact absurd h (by decide)
    · omega
    · omega
  have key : ∃ (cellV : Cell) (kv : Class), H[mAd s0.heap.size ex cv]? = some cellV ∧ (∀ q, cellV.vm ≠ .statics q) ∧ s.vm.classes[cellV.cls]? = some kv ∧ cellV.cls = comp := by
    rcases hcv with ⟨e52, h50, hE⟩ | ⟨e53, h4⟩ | ⟨e54, h11⟩
    · have e1 := m_own hR hv hE h50 (Or.inl rfl)
      have hA := hk.2.2.2.2.1 50 (by omega) (by omega)
      have hn : s.vm.findClass "[I" = some (aC 50) := by rw [hk.1.findClass]; exact hA.2
      subst e52
      have hcomp : comp = aC 50 := Option.some.inj (k3'.symm.trans hn)
      obtain ⟨-, k9, hk9, -⟩ := State.isArrayOf_alike hk.1 (hA.1 0 (fun _ => .null))
      exact ⟨arrV (aC 50) (mLn w cv) (fun j => .int (mI w cv j)), k9, (by rw [mAd_new hE]; exact e1), (fun q h => by cases h), hk9, hcomp.symm⟩
    · have hE : mE ≤ cv := by
        rcases Nat.lt_or_ge cv mE with h | h
        · have := ((hR.2.2.2.1 cv h).1 (by omega)).1; omega
        · exact h
      obtain ⟨cell, q1, q2, q3, -⟩ := (hR.2.2.2.2 cv hE hv).1 (by omega)
      rw [h4] at q2
      have hcl := (m_slot hk ho4 (k := 0) (by decide)).2
      obtain ⟨hf, kC, hkC, -⟩ := hcl
      subst e53
      have hcomp : comp = D.1 4 := Option.some.inj (k3'.symm.trans hf)
      exact ⟨cell, kC, by rw [mAd_new hE]; exact q1, (fun q h => by rw [q3] at h; cases h), by rw [q2]; exact hkC, by rw [q2, hcomp]⟩
    · have hcl := (m_slot hk ho11 (k := 0) (by decide)).2
      obtain ⟨hf, kC, hkC, -⟩ := hcl
      subst e54
      have hcomp : comp = D.1 11 := Option.some.inj (k3'.symm.trans hf)
      rcases Nat.lt_or_ge cv mE with h | h
      · obtain ⟨-, cell, q1, q2, q3, -⟩ := (hR.2.2.2.1 cv h).1 (by omega)
        refine ⟨cell, kC, ?_, (fun q h => by rw [h] at q3; cases q3), by rw [q2]; exact hkC, by rw [q2, hcomp]⟩
        rw [mAd_old h, hR.2.2.1 _ (Array.getElem?_eq_some_iff.mp q1).1]; exact q1
      · obtain ⟨cell, q1, q2, q3, -⟩ := (hR.2.2.2.2 cv h hv).1 (by omega)
        rw [h11] at q2
        exact ⟨cell, kC, by rw [mAd_new h]; exact q1, (fun q h => by rw [q3] at h; cases h), by rw [q2]; exact hkC, by rw [q2, hcomp]⟩
  obtain ⟨cellV, kv, g1, g2, g3, g4⟩ := key
  refine W.aast hexec hb e0 (fun q h => by cases h) (fun h => by cases h) hkA' (by rw [ekA]; exact k2) (by rcases h5 with r | r | r <;> subst r <;> rfl) (by rw [← g4]; exact g3) ⟨hin.1, by rw [arrV_size]; exact hin.2⟩ g1 g2 g3 (by rw [g4]; exact va_asg _ _) rfl rfl hdg fun H1 e z oq => ?_
  refine kk H1 _ (hR.set hcE (w' := wR w cn i.toNatClampNeg (some cv)) rfl rfl rfl (fun q hq => ⟨rfl, ?_⟩) z oq ⟨fun g => ?_, fun g => ?_, fun g => ?_, fun _ => ?_⟩) (hS.put z oq (Nat.le_add_right _ _))
  · funext b; rw [mR_wR, if_neg (fun h => hq h.1)]
  · have : mTg w cn < 13 := g
    omega
  · have : mTg w cn = 50 ∨ mTg w cn = 51 := g
    omega
  · have : mTg w cn = 51 := g
    omega
  · show H1[_]? = some (arrV (aC (mTg w cn)) (mLn w cn) _)
    rw [e, arrV_store, ht]
    congr 2
    funext q
    rw [mR_wR]
    by_cases hq : q = i.toNatClampNeg
    · subst hq; simp [updV, rv, lf, hav.1 cv hcv0]
    · simp [updV, hq]
end MR2
