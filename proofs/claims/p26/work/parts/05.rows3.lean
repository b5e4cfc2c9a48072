/-! ===== ROWS OVER A WORLD: new cells ===== -/
section MR3
variable {p : Program} {l : Launch} {e : Env} {R : Room} {s : State} {m : MethodId} {args : Array Value} {below : List Frame} {meth : Method} {c : Code} {H : Heap} {locs : List Loc} {cells slots : Nat} {Q : State → Prop}
variable {cc : ByteArray} {pc : Nat} {ls : Array Slot} {rest : List Value} {s0 : State} {D : va_G} {aC : Nat → ClassId} {av : Nat → Value} {ex : Nat → Nat} {w : MW} {nw : List Cond} {stab : List (String × Nat × String × Nat)} {sio : Value} {dg : Nat × Nat}
theorem mTg_wN (w : MW) (t n k a : Nat) : mTg (wN w t n k) a = if a = mSz w then t else mTg w a := rfl
theorem mLn_wN (w : MW) (t n k a : Nat) : mLn (wN w t n k) a = if a = mSz w then n else mLn w a := rfl
theorem mI_wN (w : MW) (t n k a b : Nat) : mI (wN w t n k) a b = if a = mSz w then 0 else mI w a b := rfl
theorem mR_wN (w : MW) (t n k a b : Nat) : mR (wN w t n k) a b = if a = mSz w then none else mR w a b := rfl
theorem mSz_wN (w : MW) (t n k : Nat) : mSz (wN w t n k) = mSz w + 1 := rfl
theorem mSl_wN (w : MW) (t n k : Nat) : mSl (wN w t n k) = mSl w + k := rfl
theorem wN_old (w : MW) (t n k q : Nat) (h : q ≠ mSz w) : mTg (wN w t n k) q = mTg w q ∧ mLn (wN w t n k) q = mLn w q ∧ mI (wN w t n k) q = mI w q ∧ mR (wN w t n k) q = mR w q :=
  ⟨by rw [mTg_wN, if_neg h], by rw [mLn_wN, if_neg h], by funext b; rw [mI_wN, if_neg h], by funext b; rw [mR_wN, if_neg h]⟩
theorem m_grow {H1 : Heap} (hS : va_S (mA s0) s.heap H locs) (z : H1.size = H.size + 1) (o : ∀ q, q < H.size → H1[q]? = H[q]?) : va_S (mA s0) s.heap H1 locs :=
  ⟨Nat.le_trans hS.1 (by omega), fun x h1 h2 => (o x (Nat.lt_of_lt_of_le h1 hS.1)).trans (hS.2.1 x h1 h2), hS.2.2⟩
/-- the default of a field, as a world tells it -/
theorem m_dflt (av : Nat → Value) (ci k : Nat) (hci : ci < 13) (hk : k < mNf ci) : defaultValue (mTy ci k) = if mRef ci k = true then Value.null else .int 0 := by
  have h : ∀ ci, ci < 13 → ∀ k, k < 18 → k < mNf ci → defaultValue (mTy ci k) = if mRef ci k = true then Value.null else .int 0 := by decide +kernel
  have hn : ∀ ci, ci < 13 → mNf ci ≤ 18 := by decide +kernel
  exact h ci hci k (Nat.lt_of_lt_of_le hk (hn ci hci)) hk
theorem m_new (hexec : p.tables.exec = Jvm.exec) (hb : c.code = cc) (hts : ∀ w ∈ gwl, w.before args s = true) (hk : mKN s0 D aC nw stab sio dg ex s) (hR : mRep s0 D aC av ex w H) (hS : va_S (mA s0) s.heap H locs) {own : String} {index ci : Nat} (hown : s.vm.findClass own = some m.cls) (ho : mOkc ci) (hci : ci < 13)
    (hlink : (Cond.classLink own index (mC ci).1).before args s = true) (hcells : cells + 1 ≤ R.cells) (hslots : slots + mNf ci ≤ R.slots) (hdg : decode cc pc = .ok (.new index, 3))
    (kk : ∀ (H1 : Heap), mRep s0 D aC av ex (wN w ci 0 (mNf ci)) H1 → va_S (mA s0) s.heap H1 locs → W p l e R s m args below meth c H1 locs (cells + 1) (slots + mNf ci) Q (F0 m (pc + 3) ls (.ref (s0.heap.size + (mSz w - mE)) :: rest))) : W p l e R s m args below meth c H locs cells slots Q (F0 m pc ls rest) := by
  have hKn := u_Kn_moved hk.1 (hk.2.2.2.1 ci _ ho.1)
  refine W.newcK hexec hb hown hlink (hts _ ho.2.2.2.2.1) (hts _ ho.2.2.2.2.2) rfl hdg hcells hslots hKn.2.1 hR.2.1 fun H1 kC hkC e1 z1 o1 => ?_
  have o2 : ∀ q, q < H.size → H1[q]? = H[q]? := fun q hq => o1 q (by rw [← hR.2.1]; exact hq)
  have z2 : H1.size = H.size + 1 := by rw [hR.2.1]; exact z1
  refine kk H1 (hR.push (w' := wN w ci 0 (mNf ci)) rfl (fun q hq => wN_old _ _ _ _ _ hq) z2 o2 ⟨fun _ => ?_, fun g => ?_, fun g => ?_, fun g => ?_⟩) (m_grow hS z2 o2)
  · have et : mTg (wN w ci 0 (mNf ci)) (mSz w) = ci := by rw [mTg_wN, if_pos rfl]
    rw [et, hR.2.1]
    refine (u_born (mTy ci) hts ho.2.2.2.1 hKn hkC e1 ho.2.1).to fun k hkN => ?_
    rw [m_dflt av ci k hci hkN]
    simp only [mFv, et, mI_wN, mR_wN, if_true, rv, lf]
  · rw [mTg_wN, if_pos rfl] at g; omega
  · rw [mTg_wN, if_pos rfl] at g; omega
  · rw [mTg_wN, if_pos rfl] at g; omega
/-- a new row of numbers -/
theorem m_newa (hexec : p.tables.exec = Jvm.exec) (hb : c.code = cc) (hts : ∀ w ∈ gwl, w.before args s = true) (hk : mKN s0 D aC nw stab sio dg ex s) (hR : mRep s0 D aC av ex w H) (hS : va_S (mA s0) s.heap H locs) {t : Nat} {at_ : ArrayType} (hat : t = 50 ∧ at_ = .int ∨ t = 51 ∧ at_ = .byte) (harr : Cond.arrayClass (newarray.typeOf at_) ∈ gwl)
    {n : Int32} (hn : ¬ n < 0) (hb9 : n.toNatClampNeg ≤ 134217728) (hcells : cells + 1 ≤ R.cells) (hslots : slots + n.toNatClampNeg ≤ R.slots) (hdg : decode cc pc = .ok (.newarray at_, 2))
    (kk : ∀ (H1 : Heap), mRep s0 D aC av ex (wN w t n.toNatClampNeg n.toNatClampNeg) H1 → va_S (mA s0) s.heap H1 locs → W p l e R s m args below meth c H1 locs (cells + 1) (slots + n.toNatClampNeg) Q (F0 m (pc + 2) ls (.ref (s0.heap.size + (mSz w - mE)) :: rest))) : W p l e R s m args below meth c H locs cells slots Q (F0 m pc ls (.int n :: rest)) := by
  refine va_newaK hexec hb (hts _ harr) rfl hdg rfl hn rfl (by rcases hat with ⟨-, rfl⟩ | ⟨-, rfl⟩ <;> simp only [newarray.typeOf, componentBytes] <;> omega) hcells hslots hR.2.1 fun H1 cA e1 z1 o1 hAr hNm => ?_
  have o2 : ∀ q, q < H.size → H1[q]? = H[q]? := fun q hq => o1 q (by rw [← hR.2.1]; exact hq)
  have z2 : H1.size = H.size + 1 := by rw [hR.2.1]; exact z1
  have hcA : cA = aC t := by
    have h9 := (hk.2.2.2.2.1 t (by omega) (by omega)).2
    rw [← hk.1.findClass] at h9
    rcases hat with ⟨rfl, rfl⟩ | ⟨rfl, rfl⟩
    · exact Option.some.inj (hNm.symm.trans h9)
    · exact Option.some.inj (hNm.symm.trans h9)
  have et : mTg (wN w t n.toNatClampNeg n.toNatClampNeg) (mSz w) = t := by rw [mTg_wN, if_pos rfl]
  refine kk H1 (hR.push (w' := wN w t n.toNatClampNeg n.toNatClampNeg) rfl (fun q hq => wN_old _ _ _ _ _ hq) z2 o2 ⟨fun g => ?_, fun _ => ?_, fun _ j => ?_, fun g => ?_⟩) (m_grow hS z2 o2)
  · rw [et] at g; omega
  · rw [et, hR.2.1, e1, hcA, mLn_wN, if_pos rfl]
    congr 2
    funext j
    rw [mI_wN, if_pos rfl]
    rcases hat with ⟨-, rfl⟩ | ⟨-, rfl⟩ <;> rfl
  · rw [mI_wN, if_pos rfl]; rfl
  · rw [et] at g; omega
/-- a new row of references, empty -/
theorem m_newq (hexec : p.tables.exec = Jvm.exec) (hb : c.code = cc) (hk : mKN s0 D aC nw stab sio dg ex s) (hR : mRep s0 D aC av ex w H) (hS : va_S (mA s0) s.heap H locs) {own : String} {index t : Nat} (h5 : t = 52 ∨ t = 53 ∨ t = 54) (hown : s.vm.findClass own = some m.cls)
    (hlink : (Cond.classLink own index (if t = 52 then "[I" else if t = 53 then RX4 else RJ0)).before args s = true) (hover : (Cond.arrayOver (mEl t)).before args s = true)
    {n : Int32} (hn : ¬ n < 0) (hb9 : n.toNatClampNeg ≤ 134217728) (hcells : cells + 1 ≤ R.cells) (hslots : slots + n.toNatClampNeg ≤ R.slots) (hdg : decode cc pc = .ok (.anewarray index, 3))
    (kk : ∀ (H1 : Heap), mRep s0 D aC av ex (wN w t n.toNatClampNeg n.toNatClampNeg) H1 → va_S (mA s0) s.heap H1 locs → W p l e R s m args below meth c H1 locs (cells + 1) (slots + n.toNatClampNeg) Q (F0 m (pc + 3) ls (.ref (s0.heap.size + (mSz w - mE)) :: rest))) : W p l e R s m args below meth c H locs cells slots Q (F0 m pc ls (.int n :: rest)) := by
  have fin : ∀ (cA : ClassId), s.vm.findClass ("[" ++ (mEl t).toString) = some cA → W p l e R s m args below meth c (H.push { cls := cA, slots := Array.replicate n.toNatClampNeg .null, vm := .none }) locs (cells + 1) (slots + n.toNatClampNeg) Q (F0 m (pc + 3) ls (.ref H.size :: rest)) := by
    intro cA hNm
    generalize hH1 : H.push ({ cls := cA, slots := Array.replicate n.toNatClampNeg .null, vm := .none } : Cell) = H1
    have z1 : H1.size = H.size + 1 := by rw [← hH1, Array.size_push]
    have e1 : H1[H.size]? = some (arrV cA n.toNatClampNeg (fun _ => .null)) := by rw [← hH1, Array.getElem?_push_size, ← arrV_new]
    have o1 : ∀ q : Nat, q < H.size → H1[q]? = H[q]? := fun q hq => by rw [← hH1, Array.getElem?_push, if_neg (Nat.ne_of_lt hq)]
    have hcA : cA = aC t := by
      have h9 := (hk.2.2.2.2.1 t (by omega) (by omega)).2
      rw [← hk.1.findClass] at h9
      exact Option.some.inj (hNm.symm.trans h9)
    have et : mTg (wN w t n.toNatClampNeg n.toNatClampNeg) (mSz w) = t := by rw [mTg_wN, if_pos rfl]
    have h := kk H1 (hR.push (w' := wN w t n.toNatClampNeg n.toNatClampNeg) rfl (fun q hq => wN_old _ _ _ _ _ hq) z1 o1 ⟨fun g => by rw [et] at g; omega, fun g => by rw [et] at g; omega, fun g => by rw [et] at g; omega, fun _ => by
      rw [et, e1, hcA, mLn_wN, if_pos rfl]
      congr 2
      funext j
      rw [mR_wN, if_pos rfl]
      rfl⟩) (m_grow hS z1 o1)
    rw [← hR.2.1] at h
    exact h
  rcases h5 with r | r | r
  · subst r
    exact W.anewA (t := .int) hexec hb hown hlink hover rfl hdg rfl hn (by omega) hcells hslots fun cA kA comp f1 f2 f3 f4 => fin cA f1
  · subst r
    exact W.anew (C := RX4) hexec hb hown hlink hover rfl hdg rfl hn (by omega) hcells hslots fun cA kA comp f1 f2 f3 f4 => fin cA f1
  · subst r
    exact W.anew (C := RJ0) hexec hb hown hlink hover rfl hdg rfl hn (by omega) hcells hslots fun cA kA comp f1 f2 f3 f4 => fin cA f1
end MR3
