/-! ===== ROWS OVER A WORLD: copies of rows, statics, constants ===== -/
section MR4
variable {p : Program} {l : Launch} {e : Env} {R : Room} {s : State} {m : MethodId} {args : Array Value} {below : List Frame} {meth : Method} {c : Code} {H : Heap} {locs : List Loc} {cells slots : Nat} {Q : State → Prop}
variable {cc : ByteArray} {pc : Nat} {ls : Array Slot} {rest : List Value} {s0 : State} {D : va_G} {aC : Nat → ClassId} {av : Nat → Value} {ex : Nat → Nat} {w : MW} {nw : List Cond} {stab : List (String × Nat × String × Nat)} {sio : Value} {dg : Nat × Nat}
theorem mI_wC (w : MW) (src sp dst dp n a b : Nat) : mI (wC w src sp dst dp n) a b = if a = dst then va_cpy (mI w src) (mI w dst) sp dp n b else mI w a b := rfl
theorem m_nn {z : Int32} (hz : ¬ z < 0) : z.toInt = (z.toNatClampNeg : Int) := by
  have hz0 : (0 : Int) ≤ z.toInt := by
    have := Int32.not_lt.mp hz
    simpa using Int32.le_iff_toInt_le.mp this
  show z.toInt = ((z.toInt.toNat : Nat) : Int)
  omega
theorem m_copy (hexec : p.tables.exec = Jvm.exec) (hb : c.code = cc) (hml : c.maxLocals = ls.size) (hk : mKN s0 D aC nw stab sio dg ex s) (hR : mRep s0 D aC av ex w H) (hS : va_S (mA s0) s.heap H locs) {own : String} {index : Nat} (hown : s.vm.findClass own = some m.cls) (hlink : (Cond.methodLink own index arraycopyName).before args s = true) (hnat : (Cond.native arraycopyName).before args s = true) (hstat : (Cond.static arraycopyName).before args s = true) (hini : (Cond.initialized "java/lang/System").before args s = true)
    {cs cd t : Nat} (hcs : cs < mSz w) (hts : mTg w cs = t) (hcd : cd < mSz w) (htd : mTg w cd = t) (h5 : t = 50 ∨ t = 51) (hcE : mE ≤ cd)
    {sp dp n : Int32} (h1 : ¬ sp < 0) (h2 : ¬ dp < 0) (h3 : ¬ n < 0) (h4 : sp.toNatClampNeg + n.toNatClampNeg ≤ mLn w cs) (h6 : dp.toNatClampNeg + n.toNatClampNeg ≤ mLn w cd)
    (hframes : 1 ≤ R.frames) (hlocals : (rest.map fun v => v.category).sum + (nativeFrameWords "java/lang/System" "arraycopy" 5 + 11) ≤ R.locals) (hdg : decode cc pc = .ok (.invokestatic index, 3))
    (kk : ∀ (H1 : Heap) (locs1 : List Loc), mRep s0 D aC av ex (wC w cs sp.toNatClampNeg cd dp.toNatClampNeg n.toNatClampNeg) H1 → va_S (mA s0) s.heap H1 locs1 → W p l e R s m args below meth c H1 locs1 cells slots Q (F0 m (pc + 3) ls rest)) : W p l e R s m args below meth c H locs cells slots Q (F0 m pc ls (.int n :: .int dp :: .ref (s0.heap.size + (cd - mE)) :: .int sp :: .ref (mAd s0.heap.size ex cs) :: rest)) := by
  obtain ⟨cS, e1, e2, e3, e4, e5, e6⟩ := m_row hk hR hcs hts h5
  have d1 := m_own hR hcd hcE htd h5
  obtain ⟨g1, k0, hk0, cm0, hkk0⟩ := e2
  obtain ⟨-, k1, hk1, cm1, hkk1⟩ := State.isArrayOf_alike hk.1 ((hk.2.2.2.2.1 t (by omega) (by omega)).1 (mLn w cd) (fun j => .int (mI w cd j)))
  have hfit : ∀ j, fits (mEl t) (.int (mI w cs j)) = true := by
    intro j
    rcases h5 with r | r <;> subst r
    · rfl
    · rcases Nat.lt_or_ge cs mE with h | h
      · exact (hR.2.2.2.1 cs h).2.2.1 hts j
      · exact (hR.2.2.2.2 cs h hcs).2.2.1 hts j
  have hrk : refKind (mEl t) = false := by rcases h5 with r | r <;> subst r <;> rfl
  have hsl : ∀ j, j < mLn w cs → cS.slots.getD j .null = .int (mI w cs j) := by
    intro j hj
    rw [Array.getD_eq_getD_getElem?, e6 j hj]
    rfl
  intro T hT X
  obtain ⟨vm', X', step⟩ := X.arraycopy hexec hown hlink hnat hstat hini (src := mAd s0.heap.size ex cs) (dst := s0.heap.size + (cd - mE)) (cs := cS) (cd := arrV (aC t) (mLn w cd) (fun j => .int (mI w cd j))) (srcPos := sp) (destPos := dp) (n := n) (by rw [hT]; exact e1) (by rw [hT]; exact d1)
    (fun _ h => g1 _ h) (fun _ h => by cases h) (fun h => e3 h) (fun h => by cases h) hk0 hk1 hkk0 hkk1 (by simp [hrk]) h1 h2 h3
    (by rw [m_nn h1, m_nn h3]; omega)
    (by rw [m_nn h2, m_nn h3, arrV_size]; omega)
    (fun vm₁ _ i hi => by
      rw [hsl _ (by omega)]
      exact ⟨hfit _, trivial⟩)
    (g := F0 m pc ls (.int n :: .int dp :: .ref (s0.heap.size + (cd - mE)) :: .int sp :: .ref (mAd s0.heap.size ex cs) :: rest)) rfl (by rw [hml]) (rest := rest) rfl (by rw [hb]; exact hdg) hframes (by show 2 * 0 + _ + _ ≤ _; omega)
  have hst : cS.stretch sp.toNatClampNeg n.toNatClampNeg = (arrV (aC t) (mLn w cs) (fun j => .int (mI w cs j))).stretch sp.toNatClampNeg n.toNatClampNeg := by
    unfold Cell.stretch
    apply List.map_congr_left
    intro i hi
    have hi' := List.mem_range.mp hi
    rw [hsl _ (by omega), Array.getD_eq_getD_getElem?, arrV_read _ _ (by omega)]
    rfl
  have ec : copied cS (arrV (aC t) (mLn w cd) (fun j => .int (mI w cd j))) sp dp n = arrV (aC t) (mLn w cd) (fun j => .int (va_cpy (mI w cs) (mI w cd) sp.toNatClampNeg dp.toNatClampNeg n.toNatClampNeg j)) := by
    have h := va_copied (fun z : Int32 => Value.int z) (aC t) (aC t) (n0 := mLn w cs) (n1 := mLn w cd) (dp := dp.toNatClampNeg) (mI w cs) (mI w cd) h4
    rw [← hst] at h
    exact h
  rw [ec] at X' step
  have hl : s0.heap.size + (cd - mE) < H.size := (Array.getElem?_eq_some_iff.mp d1).1
  generalize hN : arrV (aC t) (mLn w cd) (fun j => .int (va_cpy (mI w cs) (mI w cd) sp.toNatClampNeg dp.toNatClampNeg n.toNatClampNeg j)) = nc at X' step
  have hheap : ((T.setVm vm').setCell (s0.heap.size + (cd - mE)) nc).heap = H.setIfInBounds (s0.heap.size + (cd - mE)) nc := by rw [← hT]; rfl
  have oq : ∀ q : Nat, q ≠ s0.heap.size + (cd - mE) → (H.setIfInBounds (s0.heap.size + (cd - mE)) nc)[q]? = H[q]? := fun q hq => by simp [Array.getElem?_setIfInBounds, Ne.symm hq]
  have hrep : mRep s0 D aC av ex (wC w cs sp.toNatClampNeg cd dp.toNatClampNeg n.toNatClampNeg) (H.setIfInBounds (s0.heap.size + (cd - mE)) nc) := by
    refine m_rowSet hR hcd hcE htd h5 (w' := wC w cs sp.toNatClampNeg cd dp.toNatClampNeg n.toNatClampNeg) rfl rfl rfl (fun q hq => ⟨?_, rfl⟩) (fun h51 j => ?_) ?_ (by simp) oq
    · funext b; rw [mI_wC, if_neg hq]
    · rw [mI_wC, if_pos rfl]
      unfold va_cpy
      split
      · have h9 := hfit (sp.toNatClampNeg + (j - dp.toNatClampNeg))
        rw [h51] at h9
        exact h9
      · exact (hR.2.2.2.2 cd hcE hcd).2.2.1 (by rw [htd]; exact h51) j
    · rw [Array.getElem?_setIfInBounds, if_pos rfl, if_pos hl, ← hN]
      congr 2
      funext j
      rw [mI_wC, if_pos rfl]
  obtain ⟨t', a1, b1⟩ := kk _ _ hrep ⟨by simp; exact hS.1, fun q g1 g2 => by
      rw [oq q (fun e => g2 (by rw [e]; exact Nat.le_add_right _ _))]
      exact hS.2.1 q g1 g2, fun q hq => by
      rcases List.mem_append.mp hq with h | h
      · exact hS.2.2 q h
      · obtain ⟨z, -, hz⟩ := List.mem_map.mp h
        rw [← hz]
        exact Nat.le_add_right _ _⟩ _ hheap X'
  exact ⟨t', step t' a1, b1⟩
theorem wK_old (w : MW) (cs q : Nat) (h : q ≠ mSz w) : mTg (wK w cs) q = mTg w q ∧ mLn (wK w cs) q = mLn w q ∧ mI (wK w cs) q = mI w q ∧ mR (wK w cs) q = mR w q :=
  ⟨if_neg h, if_neg h, by funext b; exact if_neg h, by funext b; exact if_neg h⟩
/-- a clone of a row of bytes of ours -/
theorem m_clone (hexec : p.tables.exec = Jvm.exec) (hb : c.code = cc) (hml : c.maxLocals = ls.size) (hk : mKN s0 D aC nw stab sio dg ex s) (hR : mRep s0 D aC av ex w H) (hS : va_S (mA s0) s.heap H locs) {own : String} {index : Nat} (hown : s.vm.findClass own = some m.cls)
    (hlink : (Cond.methodLink own index ⟨"[B", "clone", "()Ljava/lang/Object;"⟩).before args s = true) (hsame : (Cond.sameMethod "[B" "java/lang/Object" "clone" "()Ljava/lang/Object;").before args s = true)
    (hnat : (Cond.native ⟨"java/lang/Object", "clone", "()Ljava/lang/Object;"⟩).before args s = true) (hinst : (Cond.instanceMethod ⟨"java/lang/Object", "clone", "()Ljava/lang/Object;"⟩).before args s = true)
    (hsel : (Cond.selects "[B" ⟨"[B", "clone", "()Ljava/lang/Object;"⟩ ⟨"java/lang/Object", "clone", "()Ljava/lang/Object;"⟩).before args s = true) (hcl : (Cond.castable "[B" "java/lang/Cloneable").before args s = true)
    {cs : Nat} (hcs : cs < mSz w) (hcE : mE ≤ cs) (hts : mTg w cs = 51)
    (hframes : 1 ≤ R.frames) (hlocals : (rest.map fun v => v.category).sum + 14 ≤ R.locals) (hcells : cells + 1 ≤ R.cells) (hslots : slots + mLn w cs ≤ R.slots) (hdg : decode cc pc = .ok (.invokevirtual index, 3))
    (kk : ∀ (H1 : Heap), mRep s0 D aC av ex (wK w cs) H1 → va_S (mA s0) s.heap H1 locs → W p l e R s m args below meth c H1 locs (cells + 1) (slots + mLn w cs) Q (F0 m (pc + 3) ls (.ref (s0.heap.size + (mSz w - mE)) :: rest))) : W p l e R s m args below meth c H locs cells slots Q (F0 m pc ls (.ref (s0.heap.size + (cs - mE)) :: rest)) := by
  have e0 := m_own hR hcs hcE hts (Or.inr rfl)
  have hf0 := (hR.2.2.2.2 cs hcE hcs).2.2.1 hts
  have hnm : s.vm.findClass "[B" = some (aC 51) := by rw [hk.1.findClass]; exact (hk.2.2.2.2.1 51 (by omega) (by omega)).2
  obtain ⟨c0, t0', f1, f2, f3⟩ := Cond.castable_spec hcl
  cases hnm.symm.trans f1
  intro T hT X
  have hcellT : T.heap[s0.heap.size + (cs - mE)]? = some (arrV (aC 51) (mLn w cs) (fun j => .int (mI w cs j))) := by rw [hT]; exact e0
  have hA51 := State.isArrayOf_alike hk.1 ((hk.2.2.2.2.1 51 (by omega) (by omega)).1 0 (fun _ => .null))
  obtain ⟨-, kA, hkA, comp, hkind⟩ := State.isArrayOf_alike X.warmed.alike hA51
  obtain ⟨-, kS, hkS, compS, hkindS⟩ := hA51
  obtain ⟨vm', X', st⟩ := X.cloneArray hexec hown hlink hsame hnat hinst hsel (a := s0.heap.size + (cs - mE)) (cell := arrV (aC 51) (mLn w cs) (fun j => .int (mI w cs j))) hcellT (fun k h => by cases h) (fun h => by cases h) hnm f2 f3
    (fun i v hv => by
      have hk' : T.vm.classes[aC 51]? = some kA := hkA
      have hv2 : fits .byte v = true := by
        have hi : i < mLn w cs := by
          have := (Array.getElem?_eq_some_iff.mp hv).1
          rwa [arrV_size] at this
        rw [arrV_read _ _ hi] at hv
        cases hv
        exact hf0 i
      show T.fitsSlot (aC 51) _ _ _ = true
      have hkind' : kA.kind = .array comp .byte := hkind
      simpa [State.fitsSlot, State.slotType?, hk', hkind'] using hv2)
    (g := F0 m pc ls (.ref (s0.heap.size + (cs - mE)) :: rest)) rfl (by rw [hml]) rfl (by rw [hb]; exact hdg) hframes (by show 2 * 0 + _ + 14 ≤ _; omega) hcells (by rw [arrV_size]; exact hslots) (hloader := Vm.clonesLoader_of_array hkS hkindS)
  have hce : ({ cls := (arrV (aC 51) (mLn w cs) (fun j => .int (mI w cs j))).cls, slots := (arrV (aC 51) (mLn w cs) (fun j => .int (mI w cs j))).slots } : Cell) = arrV (aC 51) (mLn w cs) (fun j => .int (mI w cs j)) := rfl
  rw [hce, arrV_size] at X'
  generalize hH1 : H.push (arrV (aC 51) (mLn w cs) (fun j => .int (mI w cs j))) = H1
  have z1 : H1.size = H.size + 1 := by rw [← hH1, Array.size_push]
  have e1 : H1[H.size]? = some (arrV (aC 51) (mLn w cs) (fun j => .int (mI w cs j))) := by rw [← hH1, Array.getElem?_push_size]
  have o1 : ∀ q : Nat, q < H.size → H1[q]? = H[q]? := fun q hq => by rw [← hH1, Array.getElem?_push, if_neg (Nat.ne_of_lt hq)]
  have eT : mTg (wK w cs) (mSz w) = 51 := (if_pos rfl).trans hts
  have eL : mLn (wK w cs) (mSz w) = mLn w cs := if_pos rfl
  have eI : ∀ j, mI (wK w cs) (mSz w) j = mI w cs j := fun j => if_pos rfl
  obtain ⟨t, b1, b2⟩ := kk H1 (hR.push (w' := wK w cs) rfl (fun q hq => wK_old w cs q hq) z1 o1 ⟨fun g => by rw [eT] at g; omega, fun _ => by
      rw [eT, eL, e1]
      congr 2
      funext j
      rw [eI], fun _ j => by rw [eI]; exact hf0 j, fun g => by rw [eT] at g; omega⟩) (m_grow hS z1 o1)
    ((T.setVm vm').pushCell (arrV (aC 51) (mLn w cs) (fun j => .int (mI w cs j)))) (by rw [← hH1, ← hT]; rfl) X'
  refine ⟨t, st t ?_, b2⟩
  rw [hce, hT, hR.2.1]
  exact b1
/-- a static field that nobody writes -/
theorem m_gets (hexec : p.tables.exec = Jvm.exec) (hb : c.code = cc) (hk : mKN s0 D aC nw stab sio dg ex s) (hR0 : ∀ q, q < s0.heap.size → H[q]? = s0.heap[q]?) {C n d own : String} {v : Value} {index : Nat} (hZ : va_Z C n d v (mA s0) s0 s0.heap) (hown : s.vm.findClass own = some m.cls) (hlink : (Cond.fieldLink own index C n d).before args s = true) (hdg : decode cc pc = .ok (.getstatic index, 3))
    (kk : W p l e R s m args below meth c H locs cells slots Q (F0 m (pc + 3) ls (v :: rest))) : W p l e R s m args below meth c H locs cells slots Q (F0 m pc ls rest) := by
  have hZ' := va_Z.moved hk.1 hZ
  obtain ⟨cf, kf, fi, f, a, cell, h1, h2, h3, h4, h5, h6, h7, h8⟩ := hZ'
  exact W.gets hexec hb hown hlink h1 h2 h3 h4 (by rw [hR0 a (Array.getElem?_eq_some_iff.mp h5).1]; exact h5) (fun e => by rw [e] at h6; cases h6) h7 rfl hdg kk
/-- a cast of a row of bytes -/
theorem m_cast (hexec : p.tables.exec = Jvm.exec) (hb : c.code = cc) (hk : mKN s0 D aC nw stab sio dg ex s) (hR : mRep s0 D aC av ex w H) {own : String} {index : Nat} (hown : s.vm.findClass own = some m.cls) (hlink : (Cond.classLink own index "[B").before args s = true) {cn : Nat} (hc : cn < mSz w) (hcE : mE ≤ cn) (ht : mTg w cn = 51) (hdg : decode cc pc = .ok (.checkcast index, 3))
    (kk : W p l e R s m args below meth c H locs cells slots Q (F0 m (pc + 3) ls (.ref (s0.heap.size + (cn - mE)) :: rest))) : W p l e R s m args below meth c H locs cells slots Q (F0 m pc ls (.ref (s0.heap.size + (cn - mE)) :: rest)) := by
  have e0 := m_own hR hc hcE ht (Or.inr rfl)
  have hnm : s.vm.findClass "[B" = some (aC 51) := by rw [hk.1.findClass]; exact (hk.2.2.2.2.1 51 (by omega) (by omega)).2
  intro T hT X
  obtain ⟨vm', X', st⟩ := X.checkcastYes hexec hown hlink (by rw [hT]; exact e0) rfl hnm (va_asg _ _) (g := F0 m pc ls (.ref (s0.heap.size + (cn - mE)) :: rest)) rfl rfl (by rw [hb]; exact hdg)
  obtain ⟨t, a1, b1⟩ := kk (T.setVm vm') hT X'
  exact ⟨t, st t a1, b1⟩
end MR4
