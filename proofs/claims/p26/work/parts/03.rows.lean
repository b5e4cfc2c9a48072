/-! ===== ROWS OVER A WORLD: what the instructions that touch the heap do to it ===== -/
def gwl : List Cond := mTbl.filter goodWord
theorem gw_in {w : Cond} (h : w ∈ mTbl) (g : goodWord w = true) : w ∈ gwl := List.mem_filter.mpr ⟨h, g⟩
abbrev mA (s0 : State) : Nat → Prop := fun q => s0.heap.size ≤ q
def mOkc (ci : Nat) : Prop := mCl[ci]? = some (mC ci) ∧ (∀ k, k < mNf ci → parseFieldDescriptor ((mC ci).2.1 k).2.2.1 = some (mTy ci k)) ∧ (∀ a, a < mNf ci → ∀ b, b < mNf ci → a ≠ b → ((mC ci).2.1 a).2.1 ≠ ((mC ci).2.1 b).2.1) ∧
  (∀ w ∈ u_ws (mC ci).1 (mC ci).2.1 (mNf ci), w ∈ gwl) ∧ Cond.instantiable (mC ci).1 (mNf ci) ∈ gwl ∧ Cond.initialized (mC ci).1 ∈ gwl
def mLk (own : String) (index ci k : Nat) (args : Array Value) (s : State) : Prop :=
  (Cond.fieldLink own index ((mC ci).2.1 k).1 ((mC ci).2.1 k).2.1 ((mC ci).2.1 k).2.2.1).before args s = true ∨ ∃ host, va_Nw (.fieldLinkNest own index ((mC ci).2.1 k).1 ((mC ci).2.1 k).2.1 ((mC ci).2.1 k).2.2.1 host) s
def mAv (av : Nat → Value) (s0 : State) (ex : Nat → Nat) : Prop := (∀ c, c ≠ 0 → av c = .ref (mAd s0.heap.size ex c)) ∧ (av 0 = .null ∨ ∃ a, av 0 = .ref a) ∧ ∀ c, c < mE → ex c < s0.heap.size
theorem mAv.ref {av : Nat → Value} {s0 : State} {ex : Nat → Nat} (h : mAv av s0 ex) (a : Nat) : av a = .null ∨ ∃ x, av a = .ref x := by
  by_cases e : a = 0
  · subst e; exact h.2.1
  · exact Or.inr ⟨_, h.1 a e⟩
theorem mAv.lf {av : Nat → Value} {s0 : State} {ex : Nat → Nat} (h : mAv av s0 ex) (o : Option Nat) : lf av (rv o) = .null ∨ ∃ x, lf av (rv o) = .ref x := by
  cases o with
  | none => exact Or.inl rfl
  | some a => exact h.ref a
theorem mAd_old {b : Nat} {ex : Nat → Nat} {c : Nat} (h : c < mE) : mAd b ex c = ex c := if_pos h
theorem mAd_new {b : Nat} {ex : Nat → Nat} {c : Nat} (h : mE ≤ c) : mAd b ex c = b + (c - mE) := if_neg (by omega)
section MR
variable {p : Program} {l : Launch} {e : Env} {R : Room} {s : State} {m : MethodId} {args : Array Value} {below : List Frame} {meth : Method} {c : Code} {H : Heap} {locs : List Loc} {cells slots : Nat} {Q : State → Prop}
variable {cc : ByteArray} {pc : Nat} {ls : Array Slot} {rest : List Value} {s0 : State} {D : va_G} {aC : Nat → ClassId} {av : Nat → Value} {ex : Nat → Nat} {w : MW} {nw : List Cond} {stab : List (String × Nat × String × Nat)} {sio : Value} {dg : Nat × Nat}
theorem m_slot (hk : mKN s0 D aC nw stab sio dg ex s) {ci k : Nat} (ho : mOkc ci) (hkN : k < mNf ci) : SlotIs s ((mC ci).2.1 k).1 ((mC ci).2.1 k).2.1 ((mC ci).2.1 k).2.2.1 (D.2 ci k) ∧ ClassAt s (mC ci).1 (D.1 ci) := by
  have h := u_Kn_moved hk.1 (hk.2.2.2.1 ci _ ho.1)
  exact ⟨h.1 k hkN, h.2⟩
/-- a field is read -/
theorem m_getf (hexec : p.tables.exec = Jvm.exec) (hb : c.code = cc) (hts : ∀ w ∈ gwl, w.before args s = true) (hk : mKN s0 D aC nw stab sio dg ex s) (hR : mRep s0 D aC av ex w H) {own : String} {index ci k cn : Nat} (hown : s.vm.findClass own = some m.cls) (ho : mOkc ci) (hci : ci < 13) (hkN : k < mNf ci)
    (hlink : mLk own index ci k args s) (hc : cn < mSz w) (ht : mTg w cn = ci) (h11 : ci = 11 → k < 2) (hdg : decode cc pc = .ok (.getfield index, 3))
    (kk : W p l e R s m args below meth c H locs cells slots Q (F0 m (pc + 3) ls (mFv av w cn k :: rest))) : W p l e R s m args below meth c H locs cells slots Q (F0 m pc ls (.ref (mAd s0.heap.size ex cn) :: rest)) := by
  obtain ⟨⟨cf, kf, fi, f, hi, hsl⟩, hcl, kC, hkC, hkind⟩ := m_slot hk ho hkN
  have hst : f.isStatic = false := (u_facts hcl hkC (u_lays hts ho.2.2.2.1 hkN) hi).1
  have key : ∃ cell : Cell, H[mAd s0.heap.size ex cn]? = some cell ∧ cell.vm ≠ .unknown ∧ cell.slots[f.slot]? = some (mFv av w cn k) := by
    obtain ⟨a1, a2, a3, a4, a5⟩ := hR
    by_cases h : cn < mE
    · rw [mAd_old h]
      obtain ⟨e1, cell, e2, e3, e4, e5, e6⟩ := (a4 cn h).1 (by omega)
      refine ⟨cell, ?_, e5, ?_⟩
      · rw [a3 _ (Array.getElem?_eq_some_iff.mp e2).1]; exact e2
      · rw [hsl, ← ht, e1]; exact e6 k (h11 (by omega))
    · rw [mAd_new (by omega)]
      obtain ⟨cell, e1, e2, e3, e4⟩ := (a5 cn (by omega) hc).1 (by omega)
      rw [ht] at e4
      exact ⟨cell, e1, (by rw [e3]; exact fun q => by cases q), (by rw [hsl]; exact e4 k hkN)⟩
  obtain ⟨cell, q1, q2, q3⟩ := key
  rcases hlink with h | ⟨host, h⟩
  · exact W.getf hexec hb hown h hi hst q1 q2 q3 rfl rfl hdg kk
  · exact va_Wgetf hexec hb hown (va_Nw.use rfl h) hi hst q1 q2 q3 rfl rfl hdg kk
theorem m_loc (h : mAv av s0 ex) {cn : Nat} (hc : mE ≤ cn) : av cn = .ref (s0.heap.size + (cn - mE)) := by
  rw [h.1 cn (by intro q; subst q; exact absurd hc (by decide)), mAd_new hc]
/-- a field is written -/
theorem m_putf (hexec : p.tables.exec = Jvm.exec) (hb : c.code = cc) (hts : ∀ w ∈ gwl, w.before args s = true) (hk : mKN s0 D aC nw stab sio dg ex s) (hR : mRep s0 D aC av ex w H) (hS : va_S (mA s0) s.heap H locs) {own : String} {index ci k cn : Nat} (hown : s.vm.findClass own = some m.cls) (ho : mOkc ci) (hci : ci < 13) (hkN : k < mNf ci)
    (hlink : mLk own index ci k args s) (hfin : ((mC ci).2.1 k).2.2.2 = false ∨ (((mC ci).2.1 k).2.2.2 = true ∧ meth.name = "<init>" ∧ ((mC ci).2.1 k).1 = own ∧ (Cond.fieldLink own index ((mC ci).2.1 k).1 ((mC ci).2.1 k).2.1 ((mC ci).2.1 k).2.2.1).before args s = true)) (hc : cn < mSz w) (hcE : mE ≤ cn) (ht : mTg w cn = ci) {v : Value} (hn : narrow (mTy ci k) v = v) (hfit : fits (mTy ci k) v = true)
    {w' : MW} (hz : mSz w' = mSz w) (hT : mTg w' = mTg w) (hL : mLn w' = mLn w) (hoo : ∀ q, q ≠ cn → mI w' q = mI w q ∧ mR w' q = mR w q) (hv : ∀ j, j < mNf ci → updV (mFv av w cn) k v j = mFv av w' cn j) (hdg : decode cc pc = .ok (.putfield index, 3))
    (kk : ∀ (H1 : Heap) (locs1 : List Loc), mRep s0 D aC av ex w' H1 → va_S (mA s0) s.heap H1 locs1 → W p l e R s m args below meth c H1 locs1 cells slots Q (F0 m (pc + 3) ls rest)) : W p l e R s m args below meth c H locs cells slots Q (F0 m pc ls (v :: .ref (s0.heap.size + (cn - mE)) :: rest)) := by
  obtain ⟨⟨cf, kf, fi, f, hi, hsl⟩, hfc, kC, hkC, hkind⟩ := m_slot hk ho hkN
  have hst : f.isStatic = false := (u_facts hfc hkC (u_lays hts ho.2.2.2.1 hkN) hi).1
  have hap : ∀ x y, x < mNf ci → y < mNf ci → x ≠ y → (D.2 ci) x ≠ (D.2 ci) y := by
    intro x y hx hy hne
    obtain ⟨⟨_, _, _, fa, hia, ea⟩, -⟩ := m_slot hk ho hx
    obtain ⟨⟨_, _, _, fb, hib, eb⟩, -⟩ := m_slot hk ho hy
    rw [← ea, ← eb]
    refine u_apart (u_lays hts ho.2.2.2.1 hx) (u_lays hts ho.2.2.2.1 hy) hia hib ?_
    rw [(State.fieldFound?_type hia (ho.2.1 x hx)).1, (State.fieldFound?_type hib (ho.2.1 y hy)).1]
    exact ho.2.2.1 x hx y hy hne
  obtain ⟨cell, q1, q2, q3, q4⟩ := (hR.2.2.2.2 cn hcE hc).1 (by omega)
  rw [ht] at q2 q4
  have fin : ∀ (H1 : Heap) (locs1 : List Loc), H1[s0.heap.size + (cn - mE)]? = some (cell.setSlot f.slot v) → H1.size = H.size → (∀ q, q ≠ s0.heap.size + (cn - mE) → H1[q]? = H[q]?) → va_S (mA s0) s.heap H1 locs1 → W p l e R s m args below meth c H1 locs1 cells slots Q (F0 m (pc + 3) ls rest) := by
    intro H1 locs1 e1 e2 e3 e4
    refine kk H1 locs1 (hR.set hcE hz hT hL hoo e2 e3 ?_) e4
    refine ⟨fun _ => ?_, fun g => ?_, fun g => ?_, fun g => ?_⟩
    · rw [hT, ht]
      rw [hsl] at e1
      exact (t_OB.to (V := updV (mFv av w cn) k v) ⟨_, e1, q2, q3, t_set q4 hap hkN v⟩ hv)
    · rw [hT, ht] at g; omega
    · rw [hT, ht] at g; omega
    · rw [hT, ht] at g; omega
  have hA : mA s0 (s0.heap.size + (cn - mE)) := Nat.le_add_right _ _
  have hls : f.slot < cell.slots.size := by rw [hsl]; exact k2_hasslot (q4 k hkN)
  have hlay := hts _ (ho.2.2.2.1 _ (u_in_lay hkN))
  unfold u_lay at hlay
  rcases hfin with hf | ⟨hf, hin2, hdecl, hl⟩
  · rw [if_neg (by rw [hf]; decide)] at hlay
    have h6 := u_store hfc hkC hkind hlay hi (ho.2.1 k hkN) hn hfit
    rcases hlink with h | ⟨host, h⟩
    · exact W.putK hexec hb (f := f) ⟨hown, h, ⟨_, _, _, hi⟩, hst⟩ (by rw [q2]; exact h6) q1 q3 hls rfl rfl hdg fun H' e1 e2 e3 => fin H' _ e1 e2 e3 (hS.put e2 e3 hA)
    · exact va_WputK hexec hb (f := f) hown (va_Nw.use rfl h) hi hst (by rw [q2]; exact h6) q1 q3 hls rfl rfl hdg fun H' e1 e2 e3 => fin H' _ e1 e2 e3 (hS.put e2 e3 hA)
  · rw [if_pos hf] at hlay
    have hcf : m.cls = cf := by
      obtain ⟨_, _, c', _, _, _, -, -, hf', -, -, -, hown2, -⟩ := Cond.laysFinal_spec hlay
      have e1 : c' = cf := by have := hi.symm.trans hf'; simp at this; exact this.1.symm
      rw [hdecl] at hown2
      rw [← e1]; exact Option.some.inj (hown.symm.trans hown2)
    have h6 := u_fits hfc hkC hkind (Or.inr hlay) hi (ho.2.1 k hkN) hn hfit
    exact W.putFinK hexec hb hown hl hi hst hcf hin2 (by rw [q2]; exact h6) q1 q3 hls rfl rfl hdg fun H' e1 e2 e3 => fin H' _ e1 e2 e3 (hS.put e2 e3 hA)
/-- a row of numbers: what its cell is -/
theorem m_row (hk : mKN s0 D aC nw stab sio dg ex s) (hR : mRep s0 D aC av ex w H) {cn t : Nat} (hc : cn < mSz w) (ht : mTg w cn = t) (h5 : t = 50 ∨ t = 51) :
    ∃ cell : Cell, H[mAd s0.heap.size ex cn]? = some cell ∧ s.isArrayOf cell (mEl t) ∧ cell.vm ≠ .unknown ∧ mLn w cn ≤ cell.slots.size ∧ cell.slots.size.toInt32 = Int32.ofNat (mLn w cn) ∧ ∀ j, j < mLn w cn → cell.slots[j]? = some (.int (mI w cn j)) := by
  obtain ⟨a1, a2, a3, a4, a5⟩ := hR
  by_cases h : cn < mE
  · rw [mAd_old h]
    obtain ⟨cell, e1, e2, e3, e4, e5, e6, e7⟩ := (a4 cn h).2.1 (by rw [ht]; exact h5)
    rw [ht] at e2
    exact ⟨cell, by rw [a3 _ (Array.getElem?_eq_some_iff.mp e1).1]; exact e1, State.isArrayOf_alike hk.1 e2, e3, e4, e5, e6⟩
  · rw [mAd_new (by omega)]
    have e1 := (a5 cn (by omega) hc).2.1 (by rw [ht]; exact h5)
    rw [ht] at e1
    exact ⟨arrV (aC t) (mLn w cn) (fun j => .int (mI w cn j)), e1, State.isArrayOf_alike hk.1 ((hk.2.2.2.2.1 t (by omega) (by omega)).1 _ _), (fun q => by cases q), (by rw [arrV_size]; exact Nat.le_refl _), (by rw [arrV_size] <;> rfl), fun j hj => by rw [arrV_read _ _ hj]⟩
/-- an index that is in the row -/
abbrev mIn (i : Int32) (n : Nat) : Prop := ¬ i < 0 ∧ i.toNatClampNeg < n
theorem m_iald (hexec : p.tables.exec = Jvm.exec) (hb : c.code = cc) (hk : mKN s0 D aC nw stab sio dg ex s) (hR : mRep s0 D aC av ex w H) {cn : Nat} (hc : cn < mSz w) (ht : mTg w cn = 50) {i : Int32} (hin : mIn i (mLn w cn)) (hdg : decode cc pc = .ok (.iaload, 1))
    (kk : W p l e R s m args below meth c H locs cells slots Q (F0 m (pc + 1) ls (.int (mI w cn i.toNatClampNeg) :: rest))) : W p l e R s m args below meth c H locs cells slots Q (F0 m pc ls (.int i :: .ref (mAd s0.heap.size ex cn) :: rest)) := by
  obtain ⟨cell, e1, e2, e3, e4, e5, e6⟩ := m_row hk hR hc ht (Or.inl rfl)
  exact W.iald hexec hb e1 e2 e3 (fun q => by rcases q with q | q; exact hin.1 q; have := hin.2; omega) (e6 _ hin.2) rfl rfl hdg kk
theorem m_bald (hexec : p.tables.exec = Jvm.exec) (hb : c.code = cc) (hk : mKN s0 D aC nw stab sio dg ex s) (hR : mRep s0 D aC av ex w H) {cn : Nat} (hc : cn < mSz w) (ht : mTg w cn = 51) {i : Int32} (hin : mIn i (mLn w cn)) (hdg : decode cc pc = .ok (.baload, 1))
    (kk : W p l e R s m args below meth c H locs cells slots Q (F0 m (pc + 1) ls (.int (mI w cn i.toNatClampNeg) :: rest))) : W p l e R s m args below meth c H locs cells slots Q (F0 m pc ls (.int i :: .ref (mAd s0.heap.size ex cn) :: rest)) := by
  obtain ⟨cell, e1, e2, e3, e4, e5, e6⟩ := m_row hk hR hc ht (Or.inr rfl)
  exact W.bald hexec hb e1 e2 e3 (fun q => by rcases q with q | q; exact hin.1 q; have := hin.2; omega) (e6 _ hin.2) rfl rfl hdg kk
/-- a row of references: what its cell is -/
theorem m_rowq (hk : mKN s0 D aC nw stab sio dg ex s) (hR : mRep s0 D aC av ex w H) {cn t : Nat} (hc : cn < mSz w) (ht : mTg w cn = t) (h5 : t = 52 ∨ t = 53 ∨ t = 54) : mE ≤ cn ∧ H[s0.heap.size + (cn - mE)]? = some (arrV (aC t) (mLn w cn) (fun j => lf av (rv (mR w cn j)))) := by
  obtain ⟨a1, a2, a3, a4, a5⟩ := hR
  have h : mE ≤ cn := by
    rcases Nat.lt_or_ge cn mE with h | h
    · exact absurd (by rw [ht]; exact h5) (a4 cn h).2.2.2.1
    · exact h
  have e1 := (a5 cn h hc).2.2.2 (by rw [ht]; exact h5)
  rw [ht] at e1
  exact ⟨h, e1⟩
theorem m_aald (hexec : p.tables.exec = Jvm.exec) (hb : c.code = cc) (hk : mKN s0 D aC nw stab sio dg ex s) (hR : mRep s0 D aC av ex w H) {cn t : Nat} (hc : cn < mSz w) (ht : mTg w cn = t) (h5 : t = 52 ∨ t = 53 ∨ t = 54) {i : Int32} (hin : mIn i (mLn w cn)) (hdg : decode cc pc = .ok (.aaload, 1))
    (kk : W p l e R s m args below meth c H locs cells slots Q (F0 m (pc + 1) ls (lf av (rv (mR w cn i.toNatClampNeg)) :: rest))) : W p l e R s m args below meth c H locs cells slots Q (F0 m pc ls (.int i :: .ref (mAd s0.heap.size ex cn) :: rest)) := by
  obtain ⟨h, e1⟩ := m_rowq hk hR hc ht h5
  rw [mAd_new h]
  refine W.aald (ty := mEl t) hexec hb e1 (State.isArrayOf_alike hk.1 ((hk.2.2.2.2.1 t (by omega) (by omega)).1 _ _)) (by rcases h5 with r | r | r <;> subst r <;> rfl) (fun q => by cases q) (fun q => ?_) (by rw [arrV_read _ _ hin.2]) rfl rfl hdg kk
  rw [arrV_size] at q
  rcases q with q | q
  · exact hin.1 q
  · have := hin.2; omega
theorem m_alen (hexec : p.tables.exec = Jvm.exec) (hb : c.code = cc) (hk : mKN s0 D aC nw stab sio dg ex s) (hR : mRep s0 D aC av ex w H) {cn : Nat} (hc : cn < mSz w) (ht : 50 ≤ mTg w cn ∧ mTg w cn < 55) (hdg : decode cc pc = .ok (.arraylength, 1))
    (kk : W p l e R s m args below meth c H locs cells slots Q (F0 m (pc + 1) ls (.int (Int32.ofNat (mLn w cn)) :: rest))) : W p l e R s m args below meth c H locs cells slots Q (F0 m pc ls (.ref (mAd s0.heap.size ex cn) :: rest)) := by
  by_cases h : mTg w cn = 50 ∨ mTg w cn = 51
  · obtain ⟨cell, e1, e2, e3, e4, e5, e6⟩ := m_row hk hR hc rfl h
    exact W.alen hexec hb e1 e2 e5 rfl rfl hdg kk
  · obtain ⟨h', e1⟩ := m_rowq hk hR hc rfl (by omega)
    rw [mAd_new h']
    exact W.alen (ty := mEl (mTg w cn)) hexec hb e1 (State.isArrayOf_alike hk.1 ((hk.2.2.2.2.1 _ ht.1 ht.2).1 _ _)) (n := Int32.ofNat (mLn w cn)) (by rw [arrV_size] <;> rfl) rfl rfl hdg kk
end MR
