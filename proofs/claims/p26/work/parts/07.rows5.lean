/-! ===== ROWS OVER A WORLD: rows of rows, throws ===== -/
/-- the array class over int[] is there -/
def m_AOI (U : State) : Prop := (Cond.arrayOver (.array .int)).before #[] U = true
theorem m_AOI.moved {u U : State} (hvm : u.vm.Alike U.vm) (h : m_AOI u) : m_AOI U := by
  have h0 : ∃ comp c k, u.vm.findClass (FieldType.array .int).toString = some comp ∧ (u.vm.classes.findIdx? fun (x : Class) => match x.kind with | .array component _ => component == comp | _ => false) = some c ∧ u.vm.classes[c]? = some k ∧ k.kind = .array comp (.array .int) ∧ u.vm.findClass ("[" ++ (FieldType.array .int).toString) = some c := by
    unfold m_AOI Cond.before at h
    simp only [Cond.holds, Cond.value, beq_iff_eq] at h
    cases hc : u.vm.findClass (FieldType.array .int).toString with
    | none => simp [hc] at h
    | some comp =>
      simp only [hc, Option.bind_some, Option.bind_eq_some_iff, Option.map_eq_some_iff] at h
      obtain ⟨c, hi, k, hk, hb⟩ := h
      obtain ⟨hlt, hp, -⟩ := Array.findIdx?_eq_some_iff_getElem.mp hi
      have hkk : u.vm.classes[c] = k := (Array.getElem?_eq_some_iff.mp hk).2
      rw [hkk] at hp
      cases hkind : k.kind with
      | array component ty =>
        rw [hkind] at hb hp
        simp at hb hp
        exact ⟨comp, c, k, rfl, hi, hk, by rw [hkind, hp, hb.1], hb.2⟩
      | _ => rw [hkind] at hb; simp at hb
  obtain ⟨comp, c, k, h1, h2, h3, h4, h5⟩ := h0
  obtain ⟨k', hk', he⟩ := hvm.2.2 _ _ h3
  have hi : (U.vm.classes.findIdx? fun (x : Class) => match x.kind with | .array component _ => component == comp | _ => false) = some c := by
    have q1 := va_idx_bare U.vm comp
    have q2 := va_idx_bare u.vm comp
    have q3 : U.vm.bare = u.vm.bare := by first | exact hvm.bare_eq | exact hvm.bare_eq.symm
    rw [q3] at q1
    exact (q1.symm.trans q2).trans h2
  have hkind : k'.kind = .array comp (.array .int) := by rw [he]; exact h4
  have f1 : U.vm.findClass (FieldType.array .int).toString = some comp := by rw [hvm.findClass]; exact h1
  have f2 : U.vm.findClass ("[" ++ (FieldType.array .int).toString) = some c := by rw [hvm.findClass]; exact h5
  unfold m_AOI Cond.before Cond.holds
  simp only [Cond.value]
  rw [f1, Option.bind_some]
  refine (congrArg (fun o : Option Nat => (o.bind (fun c => (U.vm.classes[c]?).map fun (k : Class) => match k.kind with | .array _ ty => decide (ty = FieldType.array .int) && decide (U.vm.findClass ("[" ++ (FieldType.array .int).toString) = some c) | _ => false) == some true)) hi).trans ?_
  simp [hk', hkind, f2]
theorem m_outer (c : ClassId) (N h0 : Nat) : ∀ i, i ≤ N → Jvm.Free.Multi.outerC c N h0 i = arrV c N (fun j => if j < i then .ref (h0 + 1 + j) else .null)
  | 0, _ => by
    show ({ cls := c, slots := Array.replicate N .null, vm := .none } : Cell) = _
    rw [arrV_new]
    congr 1
  | i + 1, h => by
    show (Jvm.Free.Multi.outerC c N h0 i).setSlot i (.ref (h0 + 1 + i)) = _
    rw [m_outer c N h0 i (by omega), arrV_store]
    congr 1
    funext j
    by_cases hj : j = i
    · subst hj; simp [updV]
    · simp only [updV, if_neg hj]
      by_cases h1 : j < i
      · rw [if_pos h1, if_pos (by omega)]
      · rw [if_neg h1, if_neg (by omega)]
section MR5
variable {p : Program} {l : Launch} {e : Env} {R : Room} {s : State} {m : MethodId} {args : Array Value} {below : List Frame} {meth : Method} {c : Code} {H : Heap} {locs : List Loc} {cells slots : Nat} {Q : State → Prop}
variable {cc : ByteArray} {pc : Nat} {ls : Array Slot} {rest : List Value} {s0 : State} {D : va_G} {aC : Nat → ClassId} {av : Nat → Value} {ex : Nat → Nat} {w : MW} {nw : List Cond} {stab : List (String × Nat × String × Nat)} {sio : Value} {dg : Nat × Nat}
theorem m_mul (hexec : p.tables.exec = Jvm.exec) (hb : c.code = cc) (hts : ∀ w ∈ gwl, w.before args s = true) (hk : mKN s0 D aC nw stab sio dg ex s) (hR : mRep s0 D aC av ex w H) (hS : va_S (mA s0) s.heap H locs) (hav : mAv av s0 ex) {own : String} {index : Nat} (hown : s.vm.findClass own = some m.cls)
    (hlink : (Cond.classLink own index ("[" ++ (FieldType.array .int).toString)).before args s = true) (hover : m_AOI s) (harr : Cond.arrayClass .int ∈ gwl)
    {n k : Int32} (hn : ¬ n < 0) (hk9 : ¬ k < 0) (hb1 : n.toNatClampNeg ≤ 134217728) (hb2 : k.toNatClampNeg ≤ 134217728) (hcells : cells + (1 + n.toNatClampNeg) ≤ R.cells) (hslots : slots + (n.toNatClampNeg + n.toNatClampNeg * k.toNatClampNeg) ≤ R.slots) (hdg : decode cc pc = .ok (.multianewarray index 2, 4))
    (kk : ∀ (H1 : Heap), mRep s0 D aC av ex (wM w n.toNatClampNeg k.toNatClampNeg) H1 → va_S (mA s0) s.heap H1 locs → W p l e R s m args below meth c H1 locs (cells + (1 + n.toNatClampNeg)) (slots + (n.toNatClampNeg + n.toNatClampNeg * k.toNatClampNeg)) Q (F0 m (pc + 4) ls (.ref (s0.heap.size + (mSz w - mE)) :: rest))) : W p l e R s m args below meth c H locs cells slots Q (F0 m pc ls (.int k :: .int n :: rest)) := by
  intro T hT X
  obtain ⟨vm₁, cA, comp, -, fA, fC, -, -, X', step⟩ := X.multianewarray2F (ty := .int) hexec hown hlink hover (hts _ harr) (g := F0 m pc ls (.int k :: .int n :: rest)) rfl (by rw [hb]; exact hdg) rfl hn hk9 (by omega) (by simp only [componentBytes]; omega) (by omega) rfl rfl hcells hslots
  have hcA : cA = aC 52 := by
    have h9 := (hk.2.2.2.2.1 52 (by omega) (by omega)).2
    rw [← hk.1.findClass] at h9
    exact Option.some.inj (fA.symm.trans h9)
  have hco : comp = aC 50 := by
    have h9 := (hk.2.2.2.2.1 50 (by omega) (by omega)).2
    rw [← hk.1.findClass] at h9
    exact Option.some.inj (fC.symm.trans h9)
  subst hcA
  subst hco
  have hTh : (T.setVm vm₁).heap = H := hT
  obtain ⟨f1, f2, -, -⟩ := Jvm.Free.Multi.fill_facts (T.setVm vm₁) (aC 52) (aC 50) n.toNatClampNeg k.toNatClampNeg (defaultValue .int) n.toNatClampNeg
  have hold : ∀ x : Nat, x < H.size → (Jvm.Free.Multi.fill (T.setVm vm₁) (aC 52) (aC 50) n.toNatClampNeg k.toNatClampNeg (defaultValue .int) n.toNatClampNeg).heap[x]? = H[x]? := fun x hx => by
    have := Jvm.Free.Multi.fill_old (T.setVm vm₁) (aC 52) (aC 50) n.toNatClampNeg k.toNatClampNeg (defaultValue .int) (a := x) (by rw [hTh]; exact hx) n.toNatClampNeg
    rw [hTh] at this
    exact this
  have hrow : ∀ j : Nat, j < n.toNatClampNeg → (Jvm.Free.Multi.fill (T.setVm vm₁) (aC 52) (aC 50) n.toNatClampNeg k.toNatClampNeg (defaultValue .int) n.toNatClampNeg).heap[H.size + 1 + j]? = some (arrV (aC 50) k.toNatClampNeg (fun _ => .int 0)) := fun j hj => by
    have := Jvm.Free.Multi.fill_inner (T.setVm vm₁) (aC 52) (aC 50) n.toNatClampNeg k.toNatClampNeg (defaultValue .int) n.toNatClampNeg j hj
    rw [hTh] at this
    rw [this, ← arrV_new]
    rfl
  rw [hTh] at f1 f2
  rw [m_outer _ _ _ _ (Nat.le_refl _)] at f2
  generalize hF : (Jvm.Free.Multi.fill (T.setVm vm₁) (aC 52) (aC 50) n.toNatClampNeg k.toNatClampNeg (defaultValue .int) n.toNatClampNeg) = F at X' step f1 f2 hold hrow
  obtain ⟨a1, a2, a3, a4, a5⟩ := hR
  have hrep : mRep s0 D aC av ex (wM w n.toNatClampNeg k.toNatClampNeg) F.heap := by
    have eo : ∀ q, q < mSz w → mTg (wM w n.toNatClampNeg k.toNatClampNeg) q = mTg w q ∧ mLn (wM w n.toNatClampNeg k.toNatClampNeg) q = mLn w q ∧ mI (wM w n.toNatClampNeg k.toNatClampNeg) q = mI w q ∧ mR (wM w n.toNatClampNeg k.toNatClampNeg) q = mR w q := by
      intro q hq
      have h1 : q < w.1 := hq
      refine ⟨?_, ?_, ?_, ?_⟩
      · show (if q = w.1 then 52 else if w.1 < q ∧ q < w.1 + 1 + n.toNatClampNeg then 50 else mTg w q) = _
        rw [if_neg (by omega), if_neg (by omega)]
      · show (if q = w.1 then _ else if w.1 < q ∧ q < w.1 + 1 + n.toNatClampNeg then _ else mLn w q) = _
        rw [if_neg (by omega), if_neg (by omega)]
      · funext b
        show (if w.1 ≤ q ∧ q < w.1 + 1 + n.toNatClampNeg then 0 else mI w q b) = _
        rw [if_neg (by omega)]
      · funext b
        show (if q = w.1 then _ else if w.1 < q ∧ q < w.1 + 1 + n.toNatClampNeg then none else mR w q b) = _
        rw [if_neg (by omega), if_neg (by omega)]
    have hz : mSz (wM w n.toNatClampNeg k.toNatClampNeg) = mSz w + 1 + n.toNatClampNeg := rfl
    refine ⟨by omega, by rw [f1, hz, a2]; omega, fun q g => by rw [hold q (by omega)]; exact a3 q g, fun q g => ?_, fun q g1 g2 => ?_⟩
    · obtain ⟨b1, b2, b3, b4⟩ := eo q (by omega)
      exact (a4 q g).congr b1 b2 b3 b4
    · rcases Nat.lt_trichotomy q (mSz w) with hq | hq | hq
      · obtain ⟨b1, b2, b3, b4⟩ := eo q hq
        exact (a5 q g1 hq).congr b1 b2 b3 b4 (hold _ (by omega))
      · subst hq
        have et : mTg (wM w n.toNatClampNeg k.toNatClampNeg) (mSz w) = 52 := if_pos rfl
        have el : mLn (wM w n.toNatClampNeg k.toNatClampNeg) (mSz w) = n.toNatClampNeg := if_pos rfl
        refine ⟨fun g => by rw [et] at g; omega, fun g => by rw [et] at g; omega, fun g => by rw [et] at g; omega, fun _ => ?_⟩
        rw [et, el, ← a2, f2]
        congr 2
        funext j
        have er : mR (wM w n.toNatClampNeg k.toNatClampNeg) (mSz w) j = if j < n.toNatClampNeg then some (w.1 + 1 + j) else none := if_pos rfl
        rw [er]
        by_cases hj : j < n.toNatClampNeg
        · rw [if_pos hj, if_pos hj]
          show _ = av (w.1 + 1 + j)
          have hw : mE ≤ w.1 := a1
          rw [m_loc hav (by omega), a2]
          exact congrArg Value.ref (show s0.heap.size + (w.1 - mE) + 1 + j = s0.heap.size + (w.1 + 1 + j - mE) by omega)
        · rw [if_neg hj, if_neg hj]; rfl
      · have hq9 : q < w.1 + 1 + n.toNatClampNeg := g2
        have hq8 : w.1 < q := hq
        have et : mTg (wM w n.toNatClampNeg k.toNatClampNeg) q = 50 := by
          show (if q = w.1 then 52 else if w.1 < q ∧ q < w.1 + 1 + n.toNatClampNeg then 50 else mTg w q) = _
          rw [if_neg (by omega), if_pos ⟨hq8, hq9⟩]
        have el : mLn (wM w n.toNatClampNeg k.toNatClampNeg) q = k.toNatClampNeg := by
          show (if q = w.1 then _ else if w.1 < q ∧ q < w.1 + 1 + n.toNatClampNeg then _ else mLn w q) = _
          rw [if_neg (by omega), if_pos ⟨hq8, hq9⟩]
        have ei : ∀ j, mI (wM w n.toNatClampNeg k.toNatClampNeg) q j = 0 := fun j => by
          show (if w.1 ≤ q ∧ q < w.1 + 1 + n.toNatClampNeg then 0 else mI w q j) = _
          rw [if_pos ⟨by omega, hq9⟩]
        refine ⟨fun g => by rw [et] at g; omega, fun _ => ?_, fun g => by rw [et] at g; omega, fun g => by rw [et] at g; omega⟩
        rw [et, el]
        have h1 := hrow (q - w.1 - 1) (by omega)
        have h2 : H.size + 1 + (q - w.1 - 1) = s0.heap.size + (q - mE) := by
          rw [a2]
          show s0.heap.size + (w.1 - mE) + 1 + (q - w.1 - 1) = _
          have hw : mE ≤ w.1 := a1
          omega
        rw [← h2, h1]
        congr 2
        funext j
        rw [ei]
  have hS1 : va_S (mA s0) s.heap F.heap locs := ⟨Nat.le_trans hS.1 (by rw [f1]; omega), fun x h1 h2 => (hold x (Nat.lt_of_lt_of_le h1 hS.1)).trans (hS.2.1 x h1 h2), hS.2.2⟩
  have e1 : cells + 1 + n.toNatClampNeg = cells + (1 + n.toNatClampNeg) := by omega
  have e2 : slots + n.toNatClampNeg + n.toNatClampNeg * k.toNatClampNeg = slots + (n.toNatClampNeg + n.toNatClampNeg * k.toNatClampNeg) := by omega
  rw [e1, e2] at X'
  obtain ⟨t, b1, b2⟩ := kk F.heap hrep hS1 F rfl X'
  refine ⟨t, step t ?_, b2⟩
  rw [hT, a2]
  exact b1
end MR5
