/-! ===== .. instruction by instruction ===== -/
/-- all that is known at a method's start of the tables -/
def mKX (s0 : State) (D : va_G) (aC : Nat → ClassId) (sio : Value) (dg : Nat × Nat) (ex : Nat → Nat) (U : State) : Prop := mKN s0 D aC nwl sTab sio dg ex U ∧ va_AO RX4 U ∧ va_AO RJ0 U ∧ m_AOI U
theorem mWd_gw {z : Nat} {w : Cond} (h : mWd z w = true) : w ∈ gwl := by
  unfold mWd at h
  simp only [Bool.and_eq_true, decide_eq_true_eq] at h
  exact gw_in (List.mem_of_getElem? h.1) h.2
def mRowsOk : Prop := ∀ k, k < mInf.length → ∀ r ∈ mtbs.getD k [], mRow k r = true
theorem mFetch_ok (hro : mRowsOk) {k pc : Nat} (hk : k < mInf.length) {ins : Instr} {len : Nat} {ax : List Nat} (h : mFetch k pc = some (ins, len, ax)) : decode (mCd k) pc = .ok (ins, len) ∧ mChk k pc ins len ax = true := by
  unfold mFetch at h
  cases hf : (mtbs.getD k []).find? (fun r => r.1 == pc) with
  | none => rw [hf] at h; cases h
  | some r =>
    rw [hf] at h
    obtain ⟨p9, i9, l9, a9⟩ := r
    cases h
    have h1 := List.find?_some hf
    have h2 := hro k hk _ (List.mem_of_find?_eq_some hf)
    simp only [beq_iff_eq] at h1
    unfold mRow at h2
    simp only [Bool.and_eq_true, decide_eq_true_eq] at h2
    rw [← h1]
    exact h2
theorem mTgt_eq {pc t : Nat} {off : Int} (h : mTgt pc off t = true) : (pc : Int) + off = (t : Int) := of_decide_eq_true h
theorem mLink_ok {s : State} {args : Array Value} {s0 : State} {D : va_G} {aC : Nat → ClassId} {sio : Value} {dg : Nat × Nat} {ex : Nat → Nat} (hts : ∀ w ∈ gwl, w.before args s = true) (hk : mKN s0 D aC nwl sTab sio dg ex s) {k i ci f nest z : Nat} (h : mLkb k i ci f nest z = true) : mLk (mOwn k) i ci f args s := by
  unfold mLkb at h
  split at h
  · exact Or.inl (hts _ (mWd_gw h))
  · exact Or.inr ⟨_, hk.2.1 _ (List.mem_of_getElem? (of_decide_eq_true h))⟩
theorem mRef_nar {ci f : Nat} (hr : mRef ci f = true) {v : Value} (hv : v = .null ∨ ∃ a, v = .ref a) : narrow (mTy ci f) v = v ∧ fits (mTy ci f) v = true := by
  unfold mRef at hr
  split at hr
  · rename_i e; rw [e]; rcases hv with rfl | ⟨a, rfl⟩ <;> exact ⟨rfl, rfl⟩
  · rename_i e; rw [e]; rcases hv with rfl | ⟨a, rfl⟩ <;> exact ⟨rfl, rfl⟩
  · cases hr
theorem mNar_ok {ty : FieldType} {x : Int32} (h : mNar ty x = true) : narrow ty (.int x) = .int x ∧ fits ty (.int x) = true := by
  unfold mNar at h
  split at h
  · simp only [Bool.or_eq_true, beq_iff_eq] at h
    rcases h with rfl | rfl <;> exact ⟨rfl, rfl⟩
  · simp only [beq_iff_eq] at h
    refine ⟨?_, ?_⟩
    · show Value.int x.toInt8.toInt32 = _
      rw [h]
    · rw [← h]; exact m_fb x
  · exact ⟨rfl, rfl⟩
  · cases h
theorem mW_nat : Cond.native arraycopyName ∈ gwl ∧ Cond.static arraycopyName ∈ gwl ∧ Cond.initialized "java/lang/System" ∈ gwl ∧ Cond.instanceMethod objectInit ∈ gwl ∧ Cond.code objectInit ⟨#[0xb1]⟩ 1 none ∈ gwl ∧ Cond.arrayClass .int ∈ gwl ∧ Cond.arrayClass .byte ∈ gwl ∧
    Cond.sameMethod "[B" "java/lang/Object" "clone" "()Ljava/lang/Object;" ∈ gwl ∧ Cond.native ⟨"java/lang/Object", "clone", "()Ljava/lang/Object;"⟩ ∈ gwl ∧ Cond.instanceMethod ⟨"java/lang/Object", "clone", "()Ljava/lang/Object;"⟩ ∈ gwl ∧ Cond.selects "[B" ⟨"[B", "clone", "()Ljava/lang/Object;"⟩ ⟨"java/lang/Object", "clone", "()Ljava/lang/Object;"⟩ ∈ gwl := by
  refine ⟨?_, ?_, ?_, ?_, ?_, ?_, ?_, ?_, ?_, ?_, ?_⟩ <;> decide +kernel
theorem mW_cl : Cond.castable "[B" "java/lang/Cloneable" ∈ nwl := by decide +kernel
theorem m_look {pc : Nat} : ∀ (l : List (Int × Int)) (ts : List Nat) (d : Int) (dt : Nat) (x : Int), ts.length = l.length → (∀ j, j < l.length → (pc : Int) + (l.getD j (0, 0)).2 = (ts.getD j 0 : Nat)) → (pc : Int) + d = (dt : Int) → (pc : Int) + Op.lookupswitch.offset l d x = (mLook l ts dt x : Nat)
  | [], ts, d, dt, x, _, _, hd => by
    cases ts with
    | nil => exact hd
    | cons t r => exact hd
  | (a, o) :: l, [], d, dt, x, hl, _, _ => by cases hl
  | (a, o) :: l, t :: ts, d, dt, x, hl, h, hd => by
    rw [Op.lookupswitch.offset_cons]
    unfold mLook
    by_cases q : a = x
    · rw [if_pos q]
      have h0 := h 0 (Nat.succ_pos _)
      first | (rw [if_pos q]; exact h0) | (rw [if_pos q.symm]; exact h0)
    · rw [if_neg q]
      have h1 := m_look l ts d dt x (by simpa using hl) (fun j hj => by
        have h2 := h (j + 1) (by simpa using hj)
        simpa using h2) hd
      first | (rw [if_neg q]; exact h1) | (rw [if_neg (fun z => q z.symm)]; exact h1)
section MST
variable {p : Program} {l : Launch} {e : Env} {R : Room} {s : State} {m : MethodId} {args : Array Value} {below : List Frame} {meth : Method} {c : Code} {Q : State → Prop}
variable {s0 : State} {D : va_G} {aC : Nat → ClassId} {av : Nat → Value} {ex : Nat → Nat} {sio : Value} {dg : Nat × Nat}
/-- what is fixed while a method runs -/
def mCtx (p : Program) (s : State) (m : MethodId) (args : Array Value) (meth : Method) (c : Code) (R : Room) (s0 : State) (D : va_G) (aC : Nat → ClassId) (av : Nat → Value) (ex : Nat → Nat) (sio : Value) (dg : Nat × Nat) (k : Nat) : Prop :=
  p.tables.exec = Jvm.exec ∧ c.code = mCd k ∧ (∀ w ∈ gwl, w.before args s = true) ∧ mKX s0 D aC sio dg ex s ∧ s.vm.findClass (mOwn k) = some m.cls ∧ mAv av s0 ex ∧ c.maxLocals = mMl k ∧ k < mInf.length ∧ meth.name = (mNm k).name ∧ av 0 = sio ∧ dg = (ex 2, ex 3) ∧ (1 ≤ R.frames ∧ 200 ≤ R.locals)
/-- the machine stands in the method at pc, with the world w, and comes to Q -/
def mG (p : Program) (l : Launch) (e : Env) (R : Room) (s : State) (m : MethodId) (args : Array Value) (below : List Frame) (meth : Method) (c : Code) (Q : State → Prop) (s0 : State) (D : va_G) (aC : Nat → ClassId) (av : Nat → Value) (ex : Nat → Nat) (z0 y0 nL : Nat) (pc : Nat) (L st : List Value) (w : MW) : Prop :=
  ∀ (H : Heap) (locs : List Loc) (ls : Array Slot), mRep s0 D aC av ex w H → va_S (mA s0) s.heap H locs → lv_has ls nL (lvL av L) → W p l e R s m args below meth c H locs (mSz w - z0) (mSl w - y0) Q (F0 m pc ls (st.map (lf av)))
theorem mStep_ok (hoc : ∀ ci, ci < 13 → mOkc ci) (hro : mRowsOk) {k : Nat} (C : mCtx p s m args meth c R s0 D aC av ex sio dg k) {ins : Instr} {len : Nat} {ax : List Nat} {pc : Nat} {L st : List Value} {w : MW} {pc' : Nat} {L' st' : List Value} {w' : MW} (hf : mFetch k pc = some (ins, len, ax)) (hak : mAsk ins ax = 0) (hs : mstep ins len ax pc L st w = some (pc', L', st', w')) (hT : mTop w) {z0 y0 : Nat} (hz : z0 ≤ mSz w) (hy : y0 ≤ mSl w) (hzR : mSz w' - z0 ≤ R.cells) (hyR : mSl w' - y0 ≤ R.slots) (hnL : L.length = mMl k)
    (G : mG p l e R s m args below meth c Q s0 D aC av ex z0 y0 (mMl k) pc' L' st' w') : mG p l e R s m args below meth c Q s0 D aC av ex z0 y0 (mMl k) pc L st w := by
  obtain ⟨hx, hb, hts, hKX, hown, hav, hml, hkl, hmn, hsio, hdg, hRf, hRl⟩ := C
  obtain ⟨hk, hA4, hA11, hAI⟩ := id hKX
  obtain ⟨hd, hc⟩ := mFetch_ok hro hkl hf
  intro H locs ls hR hS hl
  have hsz : ls.size = mMl k := hl.1
  have r0 : mTg w 0 = 60 := (hR.2.2.2.1 0 (by decide)).2.2.2.2 rfl
  have ref1 : ∀ a : Nat, mTg w a ≠ 60 → av a = .ref (mAd s0.heap.size ex a) := fun a h => hav.1 a (fun q => h (by rw [q]; exact r0))
  cases ins <;> first | (simp [mstep] at hs; done) | skip
  case iconst n =>
    simp only [mstep] at hs
    obtain ⟨rfl, rfl, rfl, rfl⟩ := mS4 hs
    have e1 : len = 1 := by simpa [mChk] using hc
    subst e1
    exact lv_iconst hx hb hd rfl (G H locs ls hR hS hl)
  case bipush n =>
    simp only [mstep] at hs
    obtain ⟨rfl, rfl, rfl, rfl⟩ := mS4 hs
    have e1 : len = 2 := by simpa [mChk] using hc
    subst e1
    exact lv_bipush hx hb hd rfl (G H locs ls hR hS hl)
  case sipush n =>
    simp only [mstep] at hs
    obtain ⟨rfl, rfl, rfl, rfl⟩ := mS4 hs
    have e1 : len = 3 := by simpa [mChk] using hc
    subst e1
    exact lv_sipush hx hb hd rfl (G H locs ls hR hS hl)
  case dconst d =>
    simp only [mstep] at hs
    split at hs
    · obtain ⟨rfl, rfl, rfl, rfl⟩ := mS4 hs
      have e1 : len = 1 := by simpa [mChk] using hc
      subst e1
      have ed : d = 0 := Fin.ext (by assumption)
      subst ed
      exact lv_dconst0 hx hb hd (G H locs ls hR hS hl)
    · cases hs
  case aconst_null =>
    simp only [mstep] at hs
    obtain ⟨rfl, rfl, rfl, rfl⟩ := mS4 hs
    have e1 : len = 1 := by simpa [mChk] using hc
    subst e1
    exact lv_null hx hb hd (G H locs ls hR hS hl)
  case ldc i =>
    simp only [mstep] at hs
    split at hs
    · rename_i v z
      obtain ⟨rfl, rfl, rfl, rfl⟩ := mS4 hs
      simp only [mChk, Bool.and_eq_true, beq_iff_eq] at hc
      obtain ⟨e1, h2⟩ := hc
      subst e1
      exact lv_ldc hx hb hown (hts _ (mWd_gw h2)) hd (G H locs ls hR hS hl)
    · rename_i cn
      obtain ⟨rfl, rfl, rfl, rfl⟩ := mS4 hs
      simp only [mChk, Bool.and_eq_true, beq_iff_eq, decide_eq_true_eq, List.any_eq_true] at hc
      obtain ⟨e1, ⟨h1, h2⟩, r, hr, ⟨h3, h4⟩, h5⟩ := hc
      subst e1
      have hZ := hk.2.2.1 r hr
      rw [h3, h4, h5] at hZ
      have ea : av cn = .ref (ex cn) := by rw [hav.1 cn (by omega), mAd_old h2]
      have g := G H locs ls hR hS hl
      simp only [List.map_cons, lf, ea] at g
      exact va_ldcS hx hb hown hZ hd g
    · cases hs
  case ldc2_w i =>
    simp only [mstep] at hs
    split at hs
    · rename_i v z
      obtain ⟨rfl, rfl, rfl, rfl⟩ := mS4 hs
      simp only [mChk, Bool.and_eq_true, beq_iff_eq] at hc
      obtain ⟨e1, h2⟩ := hc
      subst e1
      exact lv_ldc2 hx hb hown (hts _ (mWd_gw h2)) hd (G H locs ls hR hS hl)
    · cases hs
  case iload_n i =>
    simp only [mstep] at hs
    split at hs
    · rename_i x hx9
      obtain ⟨rfl, rfl, rfl, rfl⟩ := mS4 hs
      have e1 : len = 1 := by simpa [mChk] using hc
      subst e1
      exact lv_iload_n hx hb hd rfl (lvL_at hl hx9 (fun k q => by cases q)) (G H locs ls hR hS hl)
    · cases hs
  case iload i =>
    simp only [mstep] at hs
    split at hs
    · rename_i x hx9
      obtain ⟨rfl, rfl, rfl, rfl⟩ := mS4 hs
      have e1 : len = 2 := by simpa [mChk] using hc
      subst e1
      exact lv_iload hx hb hd (lvL_at hl hx9 (fun k q => by cases q)) (G H locs ls hR hS hl)
    · cases hs
  case lload_n i =>
    simp only [mstep] at hs
    split at hs
    · rename_i x hx9
      obtain ⟨rfl, rfl, rfl, rfl⟩ := mS4 hs
      have e1 : len = 1 := by simpa [mChk] using hc
      subst e1
      exact lv_lload_n hx hb hd rfl (lvL_at hl hx9 (fun k q => by cases q)) (G H locs ls hR hS hl)
    · cases hs
  case lload i =>
    simp only [mstep] at hs
    split at hs
    · rename_i x hx9
      obtain ⟨rfl, rfl, rfl, rfl⟩ := mS4 hs
      have e1 : len = 2 := by simpa [mChk] using hc
      subst e1
      exact lv_lload hx hb hd (lvL_at hl hx9 (fun k q => by cases q)) (G H locs ls hR hS hl)
    · cases hs
  case aload_n i =>
    simp only [mstep] at hs
    split at hs
    · rename_i a hx9
      obtain ⟨rfl, rfl, rfl, rfl⟩ := mS4 hs
      have e1 : len = 1 := by simpa [mChk] using hc
      subst e1
      have h9 := lvL_at hl hx9 (fun k q => by cases q)
      have g := G H locs ls hR hS hl
      simp only [List.map_cons, lf] at g h9
      rcases hav.ref a with q | ⟨x, q⟩ <;> rw [q] at g h9
      · exact lv_aload_nN hx hb hd rfl h9 g
      · exact lv_aload_n hx hb hd rfl h9 g
    · rename_i hx9
      obtain ⟨rfl, rfl, rfl, rfl⟩ := mS4 hs
      have e1 : len = 1 := by simpa [mChk] using hc
      subst e1
      exact lv_aload_nN hx hb hd rfl (lvL_at hl hx9 (fun k q => by cases q)) (G H locs ls hR hS hl)
    · cases hs
  case aload i =>
    simp only [mstep] at hs
    split at hs
    · rename_i a hx9
      obtain ⟨rfl, rfl, rfl, rfl⟩ := mS4 hs
      have e1 : len = 2 := by simpa [mChk] using hc
      subst e1
      have h9 := lvL_at hl hx9 (fun k q => by cases q)
      have g := G H locs ls hR hS hl
      simp only [List.map_cons, lf] at g h9
      rcases hav.ref a with q | ⟨x, q⟩ <;> rw [q] at g h9
      · exact lv_aloadN hx hb hd h9 g
      · exact lv_aload hx hb hd h9 g
    · rename_i hx9
      obtain ⟨rfl, rfl, rfl, rfl⟩ := mS4 hs
      have e1 : len = 2 := by simpa [mChk] using hc
      subst e1
      exact lv_aloadN hx hb hd (lvL_at hl hx9 (fun k q => by cases q)) (G H locs ls hR hS hl)
    · cases hs
  case istore_n i =>
    simp only [mstep] at hs
    split at hs
    · split at hs
      · rename_i hi
        obtain ⟨rfl, rfl, rfl, rfl⟩ := mS4 hs
        have e1 : len = 1 := by simpa [mChk] using hc
        subst e1
        exact lv_istore_n hx hb hd rfl hl (by omega) rfl (fun ls' hl' => G H locs ls' hR hS (lv_subM hl' (mSt_sub hav hi)))
      · cases hs
    · cases hs
  case istore i =>
    simp only [mstep] at hs
    split at hs
    · split at hs
      · rename_i hi
        obtain ⟨rfl, rfl, rfl, rfl⟩ := mS4 hs
        have e1 : len = 2 := by simpa [mChk] using hc
        subst e1
        exact lv_istore hx hb hd hl (by omega) rfl (fun ls' hl' => G H locs ls' hR hS (lv_subM hl' (mSt_sub hav hi)))
      · cases hs
    · cases hs
  case lstore_n i =>
    simp only [mstep] at hs
    split at hs
    · split at hs
      · rename_i hi
        obtain ⟨rfl, rfl, rfl, rfl⟩ := mS4 hs
        have e1 : len = 1 := by simpa [mChk] using hc
        subst e1
        exact lv_lstore_n hx hb hd rfl hl (by omega) rfl (fun ls' hl' => G H locs ls' hR hS (lv_subM hl' (mSt2_sub hav hi)))
      · cases hs
    · cases hs
  case lstore i =>
    simp only [mstep] at hs
    split at hs
    · split at hs
      · rename_i hi
        obtain ⟨rfl, rfl, rfl, rfl⟩ := mS4 hs
        have e1 : len = 2 := by simpa [mChk] using hc
        subst e1
        exact lv_lstore hx hb hd hl (by omega) rfl (fun ls' hl' => G H locs ls' hR hS (lv_subM hl' (mSt2_sub hav hi)))
      · cases hs
    · cases hs
  case astore_n i =>
    simp only [mstep] at hs
    split at hs
    · rename_i a r
      split at hs
      · rename_i hi
        obtain ⟨rfl, rfl, rfl, rfl⟩ := mS4 hs
        have e1 : len = 1 := by simpa [mChk] using hc
        subst e1
        have h9 : ∀ q ∈ lvL av (mSt L i.val (.ref a)), q ∈ (i.val, av a) :: _ := mSt_sub hav hi
        show W p l e R s m args below meth c H locs _ _ Q (F0 m pc ls (av a :: r.map (lf av)))
        rcases hav.ref a with q | ⟨x, q⟩ <;> rw [q] at h9 ⊢
        · exact lv_astore_nN hx hb hd rfl hl (by omega) rfl (fun ls' hl' => G H locs ls' hR hS (lv_subM hl' h9))
        · exact lv_astore_n hx hb hd rfl hl (by omega) rfl (fun ls' hl' => G H locs ls' hR hS (lv_subM hl' h9))
      · cases hs
    · split at hs
      · rename_i hi
        obtain ⟨rfl, rfl, rfl, rfl⟩ := mS4 hs
        have e1 : len = 1 := by simpa [mChk] using hc
        subst e1
        exact lv_astore_nN hx hb hd rfl hl (by omega) rfl (fun ls' hl' => G H locs ls' hR hS (lv_subM hl' (mSt_sub hav hi)))
      · cases hs
    · cases hs
  case astore i =>
    simp only [mstep] at hs
    split at hs
    · rename_i a r
      split at hs
      · rename_i hi
        obtain ⟨rfl, rfl, rfl, rfl⟩ := mS4 hs
        have e1 : len = 2 := by simpa [mChk] using hc
        subst e1
        have h9 : ∀ q ∈ lvL av (mSt L i (.ref a)), q ∈ (i, av a) :: _ := mSt_sub hav hi
        show W p l e R s m args below meth c H locs _ _ Q (F0 m pc ls (av a :: r.map (lf av)))
        rcases hav.ref a with q | ⟨x, q⟩ <;> rw [q] at h9 ⊢
        · exact lv_astoreN hx hb hd hl (by omega) rfl (fun ls' hl' => G H locs ls' hR hS (lv_subM hl' h9))
        · exact lv_astore hx hb hd hl (by omega) rfl (fun ls' hl' => G H locs ls' hR hS (lv_subM hl' h9))
      · cases hs
    · split at hs
      · rename_i hi
        obtain ⟨rfl, rfl, rfl, rfl⟩ := mS4 hs
        have e1 : len = 2 := by simpa [mChk] using hc
        subst e1
        exact lv_astoreN hx hb hd hl (by omega) rfl (fun ls' hl' => G H locs ls' hR hS (lv_subM hl' (mSt_sub hav hi)))
      · cases hs
    · cases hs
  case iinc i n =>
    simp only [mstep] at hs
    split at hs
    · rename_i x hx9
      obtain ⟨rfl, rfl, rfl, rfl⟩ := mS4 hs
      have e1 : len = 3 := by simpa [mChk] using hc
      subst e1
      have hi : i < L.length := (List.getElem?_eq_some_iff.mp hx9).1
      obtain ⟨j, hj⟩ := List.getElem?_of_mem (lvL_mem.mpr ⟨_, hx9, (fun k q => by cases q), rfl⟩ : (i, lf av (.int x)) ∈ lvL av L)
      exact lv_iinc hx hb hd hl hj rfl (by omega) rfl (fun ls' hl' => G H locs ls' hR hS (lv_subM hl' (mSt_sub hav hi)))
    · cases hs
  case iadd =>
    simp only [mstep] at hs
    split at hs
    · obtain ⟨rfl, rfl, rfl, rfl⟩ := mS4 hs
      have e1 : len = 1 := by simpa [mChk] using hc
      subst e1
      exact lv_iadd hx hb hd (G H locs ls hR hS hl)
    · cases hs
  case isub =>
    simp only [mstep] at hs
    split at hs
    · obtain ⟨rfl, rfl, rfl, rfl⟩ := mS4 hs
      have e1 : len = 1 := by simpa [mChk] using hc
      subst e1
      exact lv_isub hx hb hd (G H locs ls hR hS hl)
    · cases hs
  case imul =>
    simp only [mstep] at hs
    split at hs
    · obtain ⟨rfl, rfl, rfl, rfl⟩ := mS4 hs
      have e1 : len = 1 := by simpa [mChk] using hc
      subst e1
      exact lv_imul hx hb hd (G H locs ls hR hS hl)
    · cases hs
  case iand =>
    simp only [mstep] at hs
    split at hs
    · obtain ⟨rfl, rfl, rfl, rfl⟩ := mS4 hs
      have e1 : len = 1 := by simpa [mChk] using hc
      subst e1
      exact lv_iand hx hb hd (G H locs ls hR hS hl)
    · cases hs
  case ior =>
    simp only [mstep] at hs
    split at hs
    · obtain ⟨rfl, rfl, rfl, rfl⟩ := mS4 hs
      have e1 : len = 1 := by simpa [mChk] using hc
      subst e1
      exact lv_ior hx hb hd (G H locs ls hR hS hl)
    · cases hs
  case ishl =>
    simp only [mstep] at hs
    split at hs
    · obtain ⟨rfl, rfl, rfl, rfl⟩ := mS4 hs
      have e1 : len = 1 := by simpa [mChk] using hc
      subst e1
      exact lv_ishl hx hb hd (G H locs ls hR hS hl)
    · cases hs
  case ishr =>
    simp only [mstep] at hs
    split at hs
    · obtain ⟨rfl, rfl, rfl, rfl⟩ := mS4 hs
      have e1 : len = 1 := by simpa [mChk] using hc
      subst e1
      exact lv_ishr hx hb hd (G H locs ls hR hS hl)
    · cases hs
  case idiv =>
    simp only [mstep] at hs
    split at hs
    · split at hs
      · cases hs
      · rename_i hne
        obtain ⟨rfl, rfl, rfl, rfl⟩ := mS4 hs
        have e1 : len = 1 := by simpa [mChk] using hc
        subst e1
        exact lv_idiv hx hb hd hne (G H locs ls hR hS hl)
    · cases hs
  case irem =>
    simp only [mstep] at hs
    split at hs
    · split at hs
      · cases hs
      · rename_i hne
        obtain ⟨rfl, rfl, rfl, rfl⟩ := mS4 hs
        have e1 : len = 1 := by simpa [mChk] using hc
        subst e1
        exact lv_irem hx hb hd hne (G H locs ls hR hS hl)
    · cases hs
  case ineg =>
    simp only [mstep] at hs
    split at hs
    · obtain ⟨rfl, rfl, rfl, rfl⟩ := mS4 hs
      have e1 : len = 1 := by simpa [mChk] using hc
      subst e1
      exact lv_ineg hx hb hd (G H locs ls hR hS hl)
    · cases hs
  case i2b =>
    simp only [mstep] at hs
    split at hs
    · obtain ⟨rfl, rfl, rfl, rfl⟩ := mS4 hs
      have e1 : len = 1 := by simpa [mChk] using hc
      subst e1
      exact lv_i2b hx hb hd rfl (G H locs ls hR hS hl)
    · cases hs
  case i2c =>
    simp only [mstep] at hs
    split at hs
    · obtain ⟨rfl, rfl, rfl, rfl⟩ := mS4 hs
      have e1 : len = 1 := by simpa [mChk] using hc
      subst e1
      exact lv_i2c hx hb hd rfl (G H locs ls hR hS hl)
    · cases hs
  case i2l =>
    simp only [mstep] at hs
    split at hs
    · obtain ⟨rfl, rfl, rfl, rfl⟩ := mS4 hs
      have e1 : len = 1 := by simpa [mChk] using hc
      subst e1
      exact lv_i2l hx hb hd rfl (G H locs ls hR hS hl)
    · cases hs
  case i2d =>
    simp only [mstep] at hs
    split at hs
    · obtain ⟨rfl, rfl, rfl, rfl⟩ := mS4 hs
      have e1 : len = 1 := by simpa [mChk] using hc
      subst e1
      exact lv_i2d hx hb hd (G H locs ls hR hS hl)
    · cases hs
  case ladd =>
    simp only [mstep] at hs
    split at hs
    · obtain ⟨rfl, rfl, rfl, rfl⟩ := mS4 hs
      have e1 : len = 1 := by simpa [mChk] using hc
      subst e1
      exact lv_ladd hx hb hd (G H locs ls hR hS hl)
    · cases hs
  case lmul =>
    simp only [mstep] at hs
    split at hs
    · obtain ⟨rfl, rfl, rfl, rfl⟩ := mS4 hs
      have e1 : len = 1 := by simpa [mChk] using hc
      subst e1
      exact lv_lmul hx hb hd (G H locs ls hR hS hl)
    · cases hs
  case lcmp =>
    simp only [mstep] at hs
    split at hs
    · obtain ⟨rfl, rfl, rfl, rfl⟩ := mS4 hs
      have e1 : len = 1 := by simpa [mChk] using hc
      subst e1
      exact W.lcmp hx hb hd (G H locs ls hR hS hl)
    · cases hs
  case ddiv =>
    simp only [mstep] at hs
    split at hs
    · split at hs
      · rename_i hne
        obtain ⟨rfl, rfl, rfl, rfl⟩ := mS4 hs
        have e1 : len = 1 := by simpa [mChk] using hc
        subst e1
        exact lv_ddiv hx hb hd hne (G H locs ls hR hS hl)
      · cases hs
    · cases hs
  case dcmp op =>
    simp only [mstep] at hs
    split at hs
    · obtain ⟨rfl, rfl, rfl, rfl⟩ := mS4 hs
      have e1 : len = 1 := by simpa [mChk] using hc
      subst e1
      exact lv_dcmp hx hb hd (G H locs ls hR hS hl)
    · cases hs
  case dup =>
    simp only [mstep] at hs
    split at hs
    · split at hs
      · rename_i h1
        obtain ⟨rfl, rfl, rfl, rfl⟩ := mS4 hs
        have e1 : len = 1 := by simpa [mChk] using hc
        subst e1
        exact lv_dup hx hb hd (by rw [cat_lf hav]; exact h1) (G H locs ls hR hS hl)
      · cases hs
    · cases hs
  case dup2 =>
    simp only [mstep] at hs
    split at hs
    · split at hs
      · rename_i h1
        obtain ⟨rfl, rfl, rfl, rfl⟩ := mS4 hs
        have e1 : len = 1 := by simpa [mChk] using hc
        subst e1
        exact lv_dup2_11 hx hb hd (by rw [cat_lf hav]; exact h1.1) (by rw [cat_lf hav]; exact h1.2) (G H locs ls hR hS hl)
      · cases hs
    · cases hs
  case pop =>
    simp only [mstep] at hs
    split at hs
    · split at hs
      · rename_i h1
        obtain ⟨rfl, rfl, rfl, rfl⟩ := mS4 hs
        have e1 : len = 1 := by simpa [mChk] using hc
        subst e1
        exact lv_pop hx hb hd (by rw [cat_lf hav]; exact h1) (G H locs ls hR hS hl)
      · cases hs
    · cases hs
  case goto off =>
    simp only [mstep] at hs
    obtain ⟨rfl, rfl, rfl, rfl⟩ := mS4 hs
    simp only [mChk, Bool.and_eq_true, beq_iff_eq] at hc
    obtain ⟨e1, h2⟩ := hc
    subst e1
    exact lv_goto hx hb hd (mTgt_eq h2) (G H locs ls hR hS hl)
  case ifCond cnd off =>
    simp only [mChk, Bool.and_eq_true, beq_iff_eq] at hc
    obtain ⟨e1, h2⟩ := hc
    subst e1
    have ht := mTgt_eq h2
    simp only [mstep] at hs
    split at hs
    · cases cnd <;> simp only at hs <;> split at hs <;> rename_i h9 <;> obtain ⟨rfl, rfl, rfl, rfl⟩ := mS4 hs
      · exact lv_if_eq hx hb hd ht (fun _ => G H locs ls hR hS hl) (fun q => absurd h9 q)
      · exact lv_if_eq hx hb hd ht (fun q => absurd q h9) (fun _ => G H locs ls hR hS hl)
      · exact lv_if_ne hx hb hd ht (fun _ => G H locs ls hR hS hl) (fun q => absurd q h9)
      · exact lv_if_ne hx hb hd ht (fun q => absurd q h9) (fun _ => G H locs ls hR hS hl)
      · exact lv_if_lt hx hb hd ht (fun _ => G H locs ls hR hS hl) (fun q => absurd h9 q)
      · exact lv_if_lt hx hb hd ht (fun q => absurd q h9) (fun _ => G H locs ls hR hS hl)
      · exact lv_if_ge hx hb hd ht (fun _ => G H locs ls hR hS hl) (fun q => absurd h9 q)
      · exact lv_if_ge hx hb hd ht (fun q => absurd q h9) (fun _ => G H locs ls hR hS hl)
      · exact lv_if_gt hx hb hd ht (fun _ => G H locs ls hR hS hl) (fun q => absurd h9 q)
      · exact lv_if_gt hx hb hd ht (fun q => absurd q h9) (fun _ => G H locs ls hR hS hl)
      · exact lv_if_le hx hb hd ht (fun _ => G H locs ls hR hS hl) (fun q => absurd h9 q)
      · exact lv_if_le hx hb hd ht (fun q => absurd q h9) (fun _ => G H locs ls hR hS hl)
    · cases hs
  case if_icmp cnd off =>
    simp only [mChk, Bool.and_eq_true, beq_iff_eq] at hc
    obtain ⟨e1, h2⟩ := hc
    subst e1
    have ht := mTgt_eq h2
    simp only [mstep] at hs
    split at hs
    · cases cnd <;> simp only at hs <;> split at hs <;> rename_i h9 <;> obtain ⟨rfl, rfl, rfl, rfl⟩ := mS4 hs
      · exact lv_icmp_eq hx hb hd ht (fun _ => G H locs ls hR hS hl) (fun q => absurd h9 q)
      · exact lv_icmp_eq hx hb hd ht (fun q => absurd q h9) (fun _ => G H locs ls hR hS hl)
      · exact lv_icmp_ne hx hb hd ht (fun _ => G H locs ls hR hS hl) (fun q => absurd q h9)
      · exact lv_icmp_ne hx hb hd ht (fun q => absurd q h9) (fun _ => G H locs ls hR hS hl)
      · exact lv_icmp_lt hx hb hd ht (fun _ => G H locs ls hR hS hl) (fun q => absurd h9 q)
      · exact lv_icmp_lt hx hb hd ht (fun q => absurd q h9) (fun _ => G H locs ls hR hS hl)
      · exact lv_icmp_ge hx hb hd ht (fun _ => G H locs ls hR hS hl) (fun q => absurd h9 q)
      · exact lv_icmp_ge hx hb hd ht (fun q => absurd q h9) (fun _ => G H locs ls hR hS hl)
      · exact lv_icmp_gt hx hb hd ht (fun _ => G H locs ls hR hS hl) (fun q => absurd h9 q)
      · exact lv_icmp_gt hx hb hd ht (fun q => absurd q h9) (fun _ => G H locs ls hR hS hl)
      · exact lv_icmp_le hx hb hd ht (fun _ => G H locs ls hR hS hl) (fun q => absurd h9 q)
      · exact lv_icmp_le hx hb hd ht (fun q => absurd q h9) (fun _ => G H locs ls hR hS hl)
    · cases hs
  case ifnonnull off =>
    simp only [mChk, Bool.and_eq_true, beq_iff_eq] at hc
    obtain ⟨e1, h2⟩ := hc
    subst e1
    have ht := mTgt_eq h2
    simp only [mstep] at hs
    split at hs
    · rename_i a r
      split at hs
      · cases hs
      · rename_i h0
        obtain ⟨rfl, rfl, rfl, rfl⟩ := mS4 hs
        show W p l e R s m args below meth c H locs _ _ Q (F0 m pc ls (av a :: r.map (lf av)))
        rw [hav.1 a h0]
        exact lv_ifnonnull hx hb hd ht (G H locs ls hR hS hl)
    · obtain ⟨rfl, rfl, rfl, rfl⟩ := mS4 hs
      exact lv_ifnonnullN hx hb hd (G H locs ls hR hS hl)
    · cases hs
  case tableswitch d lo hi offs =>
    simp only [mChk, Bool.and_eq_true, decide_eq_true_eq, List.all_eq_true, List.mem_range] at hc
    obtain ⟨⟨⟨h1, h2⟩, h3⟩, h4⟩ := hc
    simp only [mstep] at hs
    split at hs
    · rename_i x r
      obtain ⟨rfl, rfl, rfl, rfl⟩ := mS4 hs
      by_cases h : x.toInt < lo ∨ hi < x.toInt
      · have g := G H locs ls hR hS hl
        unfold mTab at g
        rw [if_pos h] at g
        exact lv_tableOut hx hb hd h (mTgt_eq h1) g
      · have g := G H locs ls hR hS hl
        unfold mTab at g
        rw [if_neg h] at g
        have hj : (x.toInt - lo).toNat < offs.size := by omega
        have ho : offs[(x.toInt - lo).toNat]? = some (offs.getD (x.toInt - lo).toNat 0) := by
          rw [Array.getD_eq_getD_getElem?, Array.getElem?_eq_getElem hj]; rfl
        exact lv_tableIn hx hb hd (fun q => h (Or.inl q)) (fun q => h (Or.inr q)) ho (mTgt_eq (h4 _ hj)) g
    · cases hs
  case lookupswitch d ps =>
    simp only [mChk, Bool.and_eq_true, decide_eq_true_eq] at hc
    obtain ⟨⟨⟨h1, h2⟩, h3⟩, h4⟩ := hc
    simp only [mstep] at hs
    split at hs
    · rename_i x r
      obtain ⟨rfl, rfl, rfl, rfl⟩ := mS4 hs
      simp only [List.all_eq_true, List.mem_range] at h4
      refine lv_lookup hx hb hd h3 rfl (m_look (pc := pc) ps.toList (ax.drop 1) d (ax.getD 0 0) x.toInt (by rw [List.length_drop, h2, Array.length_toList]; omega) (fun j hj => ?_) (mTgt_eq h1)) (G H locs ls hR hS hl)
      rw [Array.length_toList] at hj
      have h5 := mTgt_eq (h4 j hj)
      have q1 : (ax.drop 1).getD j 0 = ax.getD (1 + j) 0 := by rw [List.getD_eq_getElem?_getD, List.getElem?_drop, ← List.getD_eq_getElem?_getD]
      have q2 : ps.toList.getD j (0, 0) = ps.getD j (0, 0) := by rw [List.getD_eq_getElem?_getD, Array.getElem?_toList, ← Array.getD_eq_getD_getElem?]
      rw [q1, q2]
      exact h5
    · cases hs
  case getfield i =>
    simp only [mstep] at hs
    split at hs
    · rename_i ci f nest z a r
      split at hs
      · rename_i ht
        obtain ⟨rfl, rfl, rfl, rfl⟩ := mS4 hs
        simp only [mChk, Bool.and_eq_true, beq_iff_eq, decide_eq_true_eq, Bool.or_eq_true, bne_iff_ne] at hc
        obtain ⟨e1, ⟨⟨h1, h2⟩, h3⟩, h4⟩ := hc
        subst e1
        have g := G H locs ls hR hS hl
        have ev : mFv av w a f = lf av (if mRef ci f = true then rv (mR w a f) else .int (mI w a f)) := by
          unfold mFv
          rw [ht]
          split <;> rfl
        show W p l e R s m args below meth c H locs _ _ Q (F0 m pc ls (av a :: r.map (lf av)))
        rw [ref1 a (by omega)]
        refine m_getf hx hb hts hk hR hown (hoc ci h1) h1 h2 (mLink_ok hts hk h4) (hT.lt (by omega)) ht (fun q => by rcases h3 with q9 | q9; exact absurd q q9; exact q9) hd ?_
        rw [ev]
        exact g
      · cases hs
    · cases hs
  case putfield i =>
    simp only [mstep] at hs
    split at hs
    · rename_i ci f nest z v a r
      split at hs
      · rename_i ht
        obtain ⟨ht, hE⟩ := ht
        simp only [mChk, Bool.and_eq_true, beq_iff_eq, decide_eq_true_eq, Bool.or_eq_true, Bool.not_eq_true'] at hc
        obtain ⟨e1, ⟨⟨h1, h2⟩, h4⟩, h5⟩ := hc
        subst e1
        have hfin : ((mC ci).2.1 f).2.2.2 = false ∨ (((mC ci).2.1 f).2.2.2 = true ∧ meth.name = "<init>" ∧ ((mC ci).2.1 f).1 = mOwn k ∧ (Cond.fieldLink (mOwn k) i ((mC ci).2.1 f).1 ((mC ci).2.1 f).2.1 ((mC ci).2.1 f).2.2.1).before args s = true) := by
          cases hb9 : ((mC ci).2.1 f).2.2.2 with
          | false => exact Or.inl rfl
          | true =>
            rcases h5 with h5 | h5
            · rw [hb9] at h5; cases h5
            · obtain ⟨⟨h6, h7⟩, h8⟩ := h5
              refine Or.inr ⟨rfl, by rw [hmn]; exact h6, h7, ?_⟩
              unfold mLkb at h4
              rw [if_pos h8] at h4
              exact hts _ (mWd_gw h4)
        have fin : ∀ (w9 : MW) (v9 : Value), narrow (mTy ci f) v9 = v9 → fits (mTy ci f) v9 = true → mSz w9 = mSz w → mTg w9 = mTg w → mLn w9 = mLn w → (∀ q, q ≠ a → mI w9 q = mI w q ∧ mR w9 q = mR w q) → (∀ j, j < mNf ci → updV (mFv av w a) f v9 j = mFv av w9 a j) →
            (∀ (H1 : Heap) (locs1 : List Loc), mRep s0 D aC av ex w9 H1 → va_S (mA s0) s.heap H1 locs1 → W p l e R s m args below meth c H1 locs1 (mSz w - z0) (mSl w - y0) Q (F0 m (pc + 3) ls (r.map (lf av)))) → W p l e R s m args below meth c H locs (mSz w - z0) (mSl w - y0) Q (F0 m pc ls (v9 :: av a :: r.map (lf av))) := by
          intro w9 v9 g1 g2 g3 g4 g5 g6 g7 g8
          rw [m_loc hav hE]
          exact m_putf hx hb hts hk hR hS hown (hoc ci h1) h1 h2 (mLink_ok hts hk h4) hfin (hT.lt (by omega)) hE ht g1 g2 g3 g4 g5 g6 g7 hd g8
        split at hs
        · rename_i x
          split at hs
          · rename_i h9
            obtain ⟨rfl, rfl, rfl, rfl⟩ := mS4 hs
            obtain ⟨n1, n2⟩ := mNar_ok h9.2
            refine fin (wI w a f x) (.int x) n1 n2 rfl rfl rfl (fun q hq => ⟨by funext b; rw [mI_wI, if_neg (fun h => hq h.1)], rfl⟩) (fun j hj => ?_) (fun H1 locs1 q1 q2 => G H1 locs1 ls q1 q2 hl)
            have ew : mTg (wI w a f x) a = ci := ht
            unfold updV mFv
            rw [ew, ht]
            by_cases hjf : j = f
            · subst hjf
              have e9 : mI (wI w a j x) a j = x := by rw [mI_wI, if_pos ⟨rfl, rfl⟩]
              rw [if_pos rfl, h9.1, if_neg (by decide), e9]
            · have e9 : mI (wI w a f x) a j = mI w a j := by rw [mI_wI, if_neg (fun h => hjf h.2)]
              rw [if_neg hjf, e9]
              rfl
          · cases hs
        · split at hs
          · rename_i h9
            obtain ⟨rfl, rfl, rfl, rfl⟩ := mS4 hs
            obtain ⟨n1, n2⟩ := mRef_nar h9 (v := .null) (Or.inl rfl)
            refine fin (wR w a f none) .null n1 n2 rfl rfl rfl (fun q hq => ⟨rfl, by funext b; rw [mR_wR, if_neg (fun h => hq h.1)]⟩) (fun j hj => ?_) (fun H1 locs1 q1 q2 => G H1 locs1 ls q1 q2 hl)
            have ew : mTg (wR w a f none) a = ci := ht
            unfold updV mFv
            rw [ew, ht]
            by_cases hjf : j = f
            · subst hjf
              have e9 : mR (wR w a j none) a j = none := by rw [mR_wR, if_pos ⟨rfl, rfl⟩]
              rw [if_pos rfl, if_pos h9, e9]
              rfl
            · have e9 : mR (wR w a f none) a j = mR w a j := by rw [mR_wR, if_neg (fun h => hjf h.2)]
              rw [if_neg hjf, e9]
              rfl
          · cases hs
        · rename_i b
          split at hs
          · rename_i h9
            obtain ⟨rfl, rfl, rfl, rfl⟩ := mS4 hs
            obtain ⟨n1, n2⟩ := mRef_nar h9 (v := av b) (hav.ref b)
            refine fin (wR w a f (some b)) (av b) n1 n2 rfl rfl rfl (fun q hq => ⟨rfl, by funext b; rw [mR_wR, if_neg (fun h => hq h.1)]⟩) (fun j hj => ?_) (fun H1 locs1 q1 q2 => G H1 locs1 ls q1 q2 hl)
            have ew : mTg (wR w a f (some b)) a = ci := ht
            unfold updV mFv
            rw [ew, ht]
            by_cases hjf : j = f
            · subst hjf
              have e9 : mR (wR w a j (some b)) a j = (some b) := by rw [mR_wR, if_pos ⟨rfl, rfl⟩]
              rw [if_pos rfl, if_pos h9, e9]
              rfl
            · have e9 : mR (wR w a f (some b)) a j = mR w a j := by rw [mR_wR, if_neg (fun h => hjf h.2)]
              rw [if_neg hjf, e9]
              rfl
          · cases hs
        · cases hs
      · cases hs
    · cases hs
  case getstatic i =>
    have hR0 := hR.2.2.1
    obtain ⟨-, -, -, -, -, -, k1, k2, k3, k4, -, -⟩ := id hk
    simp only [mstep] at hs
    split at hs
    · obtain ⟨rfl, rfl, rfl, rfl⟩ := mS4 hs
      simp only [mChk, Bool.and_eq_true, beq_iff_eq] at hc
      obtain ⟨e1, h2⟩ := hc
      subst e1
      exact m_gets hx hb hk hR0 k1 hown (hts _ (mWd_gw h2)) hd (G H locs ls hR hS hl)
    · obtain ⟨rfl, rfl, rfl, rfl⟩ := mS4 hs
      simp only [mChk, Bool.and_eq_true, beq_iff_eq] at hc
      obtain ⟨e1, h2⟩ := hc
      subst e1
      have g := G H locs ls hR hS hl
      simp only [List.map_cons, lf, hsio] at g
      exact m_gets hx hb hk hR0 k2 hown (hts _ (mWd_gw h2)) hd g
    · obtain ⟨rfl, rfl, rfl, rfl⟩ := mS4 hs
      simp only [mChk, Bool.and_eq_true, beq_iff_eq] at hc
      obtain ⟨e1, h2⟩ := hc
      subst e1
      have g := G H locs ls hR hS hl
      have ea : av 2 = .ref dg.1 := by rw [hav.1 2 (by decide), mAd_old (by decide), hdg]
      simp only [List.map_cons, lf, ea] at g
      exact m_gets hx hb hk hR0 k3 hown (hts _ (mWd_gw h2)) hd g
    · obtain ⟨rfl, rfl, rfl, rfl⟩ := mS4 hs
      simp only [mChk, Bool.and_eq_true, beq_iff_eq] at hc
      obtain ⟨e1, h2⟩ := hc
      subst e1
      have g := G H locs ls hR hS hl
      have ea : av 3 = .ref dg.2 := by rw [hav.1 3 (by decide), mAd_old (by decide), hdg]
      simp only [List.map_cons, lf, ea] at g
      exact m_gets hx hb hk hR0 k4 hown (hts _ (mWd_gw h2)) hd g
    · cases hs
  case new i =>
    simp only [mstep] at hs
    split at hs
    · rename_i ci z
      split at hs
      · rename_i h13
        obtain ⟨rfl, rfl, rfl, rfl⟩ := mS4 hs
        have h101 : ¬ ci = 101 := by omega
        simp only [mChk, Bool.and_eq_true, beq_iff_eq, decide_eq_true_eq] at hc
        obtain ⟨e1, h2⟩ := hc
        subst e1
        have h3 : mWd z (.classLink (mOwn k) i (mC ci).1) = true := h2.2
        have g8 : mSz (wN w ci 0 (mNf ci)) - z0 = mSz w - z0 + 1 := by rw [mSz_wN]; omega
        have g9 : mSl (wN w ci 0 (mNf ci)) - y0 = mSl w - y0 + mNf ci := by rw [mSl_wN]; omega
        refine m_new hx hb hts hk hR hS hown (hoc ci h13) h13 (hts _ (mWd_gw h3)) (by omega) (by omega) hd (fun H1 q1 q2 => ?_)
        have g := G H1 locs ls q1 q2 hl
        simp only [List.map_cons, lf, m_loc hav hR.1] at g
        rw [g8, g9] at g
        exact g
      · cases hs
    · cases hs
  case newarray at_ =>
    simp only [mstep] at hs
    split at hs
    · rename_i t n r
      split at hs
      · rename_i hn
        obtain ⟨rfl, rfl, rfl, rfl⟩ := mS4 hs
        simp only [mChk, Bool.and_eq_true, beq_iff_eq] at hc
        obtain ⟨e1, h2⟩ := hc
        subst e1
        have hat : t = 50 ∧ at_ = .int ∨ t = 51 ∧ at_ = .byte := by
          split at h2
          · rename_i q9; cases q9; exact Or.inl ⟨rfl, of_decide_eq_true h2⟩
          · rename_i q9; cases q9; exact Or.inr ⟨rfl, of_decide_eq_true h2⟩
          · cases h2
        have g8 : mSz (wN w t n.toNatClampNeg n.toNatClampNeg) - z0 = mSz w - z0 + 1 := by rw [mSz_wN]; omega
        have g9 : mSl (wN w t n.toNatClampNeg n.toNatClampNeg) - y0 = mSl w - y0 + n.toNatClampNeg := by rw [mSl_wN]; omega
        refine m_newa hx hb hts hk hR hS hat (by rcases hat with ⟨-, rfl⟩ | ⟨-, rfl⟩; exact mW_nat.2.2.2.2.2.1; exact mW_nat.2.2.2.2.2.2.1) hn.1 hn.2 (by omega) (by omega) hd (fun H1 q1 q2 => ?_)
        have g := G H1 locs ls q1 q2 hl
        simp only [List.map_cons, lf, m_loc hav hR.1] at g
        rw [g8, g9] at g
        exact g
      · cases hs
    · cases hs
  case anewarray i =>
    simp only [mstep] at hs
    split at hs
    · rename_i t z n r
      split at hs
      · rename_i hn
        obtain ⟨rfl, rfl, rfl, rfl⟩ := mS4 hs
        simp only [mChk, Bool.and_eq_true, beq_iff_eq, decide_eq_true_eq] at hc
        obtain ⟨e1, ⟨h2, h3⟩, h4⟩ := hc
        subst e1
        have h5 : t = 52 ∨ t = 53 ∨ t = 54 := by omega
        have g8 : mSz (wN w t n.toNatClampNeg n.toNatClampNeg) - z0 = mSz w - z0 + 1 := by rw [mSz_wN]; omega
        have g9 : mSl (wN w t n.toNatClampNeg n.toNatClampNeg) - y0 = mSl w - y0 + n.toNatClampNeg := by rw [mSl_wN]; omega
        have hover : (Cond.arrayOver (mEl t)).before args s = true := by
          rcases h5 with r9 | r9 | r9 <;> subst r9
          · exact hAI
          · exact hA4.use
          · exact hA11.use
        refine m_newq hx hb hk hR hS h5 hown (hts _ (mWd_gw h4)) hover hn.1 hn.2 (by omega) (by omega) hd (fun H1 q1 q2 => ?_)
        have g := G H1 locs ls q1 q2 hl
        simp only [List.map_cons, lf, m_loc hav hR.1] at g
        rw [g8, g9] at g
        exact g
      · cases hs
    · cases hs
  case multianewarray i dm =>
    simp only [mstep] at hs
    split at hs
    · rename_i k9 n r
      split at hs
      · rename_i hn
        obtain ⟨rfl, rfl, rfl, rfl⟩ := mS4 hs
        simp only [mChk, Bool.and_eq_true, beq_iff_eq] at hc
        obtain ⟨⟨e1, e2⟩, h2⟩ := hc
        subst e1
        subst e2
        have h3 : Cond.classLink (mOwn k) i "[[I" ∈ gwl := by
          split at h2
          · exact mWd_gw h2
          · cases h2
        have q8 : mSz (wM w n.toNatClampNeg k9.toNatClampNeg) = mSz w + 1 + n.toNatClampNeg := rfl
        have q9 : mSl (wM w n.toNatClampNeg k9.toNatClampNeg) = mSl w + (n.toNatClampNeg + n.toNatClampNeg * k9.toNatClampNeg) := rfl
        have g8 : mSz (wM w n.toNatClampNeg k9.toNatClampNeg) - z0 = mSz w - z0 + (1 + n.toNatClampNeg) := by omega
        have g9 : mSl (wM w n.toNatClampNeg k9.toNatClampNeg) - y0 = mSl w - y0 + (n.toNatClampNeg + n.toNatClampNeg * k9.toNatClampNeg) := by omega
        refine m_mul hx hb hts hk hR hS hav hown (hts _ h3) hAI mW_nat.2.2.2.2.2.1 hn.1.1 hn.2.1 hn.1.2 hn.2.2 (by omega) (by omega) hd (fun H1 q1 q2 => ?_)
        have g := G H1 locs ls q1 q2 hl
        simp only [List.map_cons, lf, m_loc hav hR.1] at g
        rw [g8, g9] at g
        exact g
      · cases hs
    · cases hs
  case arraylength =>
    simp only [mstep] at hs
    split at hs
    · rename_i a r
      split at hs
      · rename_i ht
        obtain ⟨rfl, rfl, rfl, rfl⟩ := mS4 hs
        have e1 : len = 1 := by simpa [mChk] using hc
        subst e1
        show W p l e R s m args below meth c H locs _ _ Q (F0 m pc ls (av a :: r.map (lf av)))
        rw [ref1 a (by omega)]
        exact m_alen hx hb hk hR (hT.lt (by omega)) ht hd (G H locs ls hR hS hl)
      · cases hs
    · cases hs
  case iaload =>
    simp only [mstep] at hs
    split at hs
    · rename_i i a r
      split at hs
      · rename_i ht
        obtain ⟨rfl, rfl, rfl, rfl⟩ := mS4 hs
        have e1 : len = 1 := by simpa [mChk] using hc
        subst e1
        show W p l e R s m args below meth c H locs _ _ Q (F0 m pc ls (.int i :: av a :: r.map (lf av)))
        rw [ref1 a (by omega)]
        exact m_iald hx hb hk hR (hT.lt (by omega)) ht.1 ht.2 hd (G H locs ls hR hS hl)
      · cases hs
    · cases hs
  case baload =>
    simp only [mstep] at hs
    split at hs
    · rename_i i a r
      split at hs
      · rename_i ht
        obtain ⟨rfl, rfl, rfl, rfl⟩ := mS4 hs
        have e1 : len = 1 := by simpa [mChk] using hc
        subst e1
        show W p l e R s m args below meth c H locs _ _ Q (F0 m pc ls (.int i :: av a :: r.map (lf av)))
        rw [ref1 a (by omega)]
        exact m_bald hx hb hk hR (hT.lt (by omega)) ht.1 ht.2 hd (G H locs ls hR hS hl)
      · cases hs
    · cases hs
  case aaload =>
    simp only [mstep] at hs
    split at hs
    · rename_i i a r
      split at hs
      · rename_i ht
        obtain ⟨rfl, rfl, rfl, rfl⟩ := mS4 hs
        have e1 : len = 1 := by simpa [mChk] using hc
        subst e1
        show W p l e R s m args below meth c H locs _ _ Q (F0 m pc ls (.int i :: av a :: r.map (lf av)))
        rw [ref1 a (by omega)]
        exact m_aald hx hb hk hR (hT.lt (by omega)) rfl (by omega) ht.2 hd (G H locs ls hR hS hl)
      · cases hs
    · cases hs
  case iastore =>
    simp only [mstep] at hs
    split at hs
    · rename_i x i a r
      split at hs
      · rename_i ht
        obtain ⟨rfl, rfl, rfl, rfl⟩ := mS4 hs
        have e1 : len = 1 := by simpa [mChk] using hc
        subst e1
        show W p l e R s m args below meth c H locs _ _ Q (F0 m pc ls (.int x :: .int i :: av a :: r.map (lf av)))
        rw [m_loc hav ht.2.1]
        exact m_iast hx hb hk hR hS (hT.lt (by omega)) ht.2.1 ht.1 ht.2.2 hd (fun H1 locs1 q1 q2 => G H1 locs1 ls q1 q2 hl)
      · cases hs
    · cases hs
  case bastore =>
    simp only [mstep] at hs
    split at hs
    · rename_i x i a r
      split at hs
      · rename_i ht
        obtain ⟨rfl, rfl, rfl, rfl⟩ := mS4 hs
        have e1 : len = 1 := by simpa [mChk] using hc
        subst e1
        show W p l e R s m args below meth c H locs _ _ Q (F0 m pc ls (.int x :: .int i :: av a :: r.map (lf av)))
        rw [m_loc hav ht.2.1]
        exact m_bast hx hb hk hR hS (hT.lt (by omega)) ht.2.1 ht.1 ht.2.2 hd (fun H1 locs1 q1 q2 => G H1 locs1 ls q1 q2 hl)
      · cases hs
    · cases hs
  case aastore =>
    simp only [mstep] at hs
    split at hs
    · rename_i b i a r
      split at hs
      · rename_i ht
        obtain ⟨rfl, rfl, rfl, rfl⟩ := mS4 hs
        have e1 : len = 1 := by simpa [mChk] using hc
        subst e1
        show W p l e R s m args below meth c H locs _ _ Q (F0 m pc ls (av b :: .int i :: av a :: r.map (lf av)))
        rw [ref1 a (by omega), ref1 b (by omega)]
        exact m_aast hx hb hk hR hS hav (hoc 4 (by omega)) (hoc 11 (by omega)) (hT.lt (by omega)) rfl (hT.lt (by omega)) ht.1 ht.2 hd (fun H1 locs1 q1 q2 => G H1 locs1 ls q1 q2 hl)
      · cases hs
    · cases hs
  case checkcast i =>
    simp only [mstep] at hs
    split at hs
    · rename_i a r
      split at hs
      · rename_i ht
        obtain ⟨rfl, rfl, rfl, rfl⟩ := mS4 hs
        simp only [mChk, Bool.and_eq_true, beq_iff_eq] at hc
        obtain ⟨e1, h2⟩ := hc
        subst e1
        have h3 : Cond.classLink (mOwn k) i "[B" ∈ gwl := by
          split at h2
          · exact mWd_gw h2
          · cases h2
        have g := G H locs ls hR hS hl
        simp only [List.map_cons, lf, m_loc hav ht.2] at g ⊢
        exact m_cast hx hb hk hR hown (hts _ h3) (hT.lt (by omega)) ht.2 ht.1 hd g
      · cases hs
    · cases hs
  case invokespecial i =>
    simp only [mstep] at hs
    split at hs
    · rename_i a r
      split at hs
      · rename_i hr4
        obtain ⟨rfl, rfl, rfl, rfl⟩ := mS4 hs
        simp only [mAsk] at hak
        split at hak
        · cases hak
        · rename_i h1000
          simp only [mChk, Bool.and_eq_true, beq_iff_eq] at hc
          obtain ⟨e1, h2⟩ := hc
          subst e1
          have h3 : Cond.methodLink (mOwn k) i objectInit ∈ gwl := by
            split at h2
            · exact mWd_gw h2
            · simp only [Bool.and_eq_true, decide_eq_true_eq] at h2
              exact absurd h2.1.1 h1000
          have g := G H locs ls hR hS hl
          have hca := m_cats hav r
          show W p l e R s m args below meth c H locs _ _ Q (F0 m pc ls (av a :: r.map (lf av)))
          · rw [m_loc hav hr4.1]
            have hr5 := hr4.2
            exact W.objInit hx hb hown (hts _ h3) (hts _ mW_nat.2.2.2.1) (hts _ mW_nat.2.2.2.2.1) rfl (by rw [hml]; exact hsz) rfl hd hRf (by show 2 * 0 + _ + 12 ≤ _; omega) g
      · cases hs
    · cases hs
  case invokestatic i =>
    simp only [mstep] at hs
    split at hs
    · rename_i n dp b sp a r
      split at hs
      · rename_i hq
        obtain ⟨ht, hE, h1, h2, h3, h4, h5, h6⟩ := hq
        obtain ⟨rfl, rfl, rfl, rfl⟩ := mS4 hs
        simp only [mAsk] at hak
        split at hak
        · cases hak
        · rename_i h1000
          simp only [mChk, Bool.and_eq_true, beq_iff_eq] at hc
          obtain ⟨e1, h2'⟩ := hc
          subst e1
          have h3' : Cond.methodLink (mOwn k) i arraycopyName ∈ gwl := by
            split at h2'
            · exact mWd_gw h2'
            · simp only [Bool.and_eq_true, decide_eq_true_eq] at h2'
              exact absurd h2'.1.1 h1000
          have hca := m_cats hav r
          have hnf : nativeFrameWords "java/lang/System" "arraycopy" 5 + 11 ≤ 150 := by decide +kernel
          show W p l e R s m args below meth c H locs _ _ Q (F0 m pc ls (.int n :: .int dp :: av b :: .int sp :: av a :: r.map (lf av)))
          rw [ref1 a (by omega), m_loc hav hE]
          exact m_copy hx hb (by rw [hml]; exact hsz.symm) hk hR hS hown (hts _ h3') (hts _ mW_nat.1) (hts _ mW_nat.2.1) (hts _ mW_nat.2.2.1) (hT.lt (by omega)) rfl (hT.lt (by omega)) (by omega) (by omega) hE h1 h2 h3 h4 h5 hRf (by omega) hd (fun H1 locs1 q1 q2 => G H1 locs1 ls q1 q2 hl)
      · cases hs
    · cases hs
  case invokevirtual i =>
    simp only [mstep] at hs
    split at hs
    · rename_i a r
      split at hs
      · rename_i hq
        obtain ⟨ht, hE, h6⟩ := hq
        obtain ⟨rfl, rfl, rfl, rfl⟩ := mS4 hs
        simp only [mAsk] at hak
        split at hak
        · cases hak
        · rename_i h1000
          simp only [mChk, Bool.and_eq_true, beq_iff_eq] at hc
          obtain ⟨e1, h2'⟩ := hc
          subst e1
          have h3' : Cond.methodLink (mOwn k) i ⟨"[B", "clone", "()Ljava/lang/Object;"⟩ ∈ gwl := by
            split at h2'
            · exact mWd_gw h2'
            · simp only [Bool.and_eq_true, decide_eq_true_eq] at h2'
              exact absurd h2'.1.1.1 h1000
          have hca := m_cats hav r
          have q8 : mSz (wK w a) = mSz w + 1 := rfl
          have q9 : mSl (wK w a) = mSl w + mLn w a := rfl
          have g8 : mSz (wK w a) - z0 = mSz w - z0 + 1 := by omega
          have g9 : mSl (wK w a) - y0 = mSl w - y0 + mLn w a := by omega
          show W p l e R s m args below meth c H locs _ _ Q (F0 m pc ls (av a :: r.map (lf av)))
          rw [m_loc hav hE]
          refine m_clone hx hb (by rw [hml]; exact hsz.symm) hk hR hS hown (hts _ h3') (hts _ mW_nat.2.2.2.2.2.2.2.1) (hts _ mW_nat.2.2.2.2.2.2.2.2.1) (hts _ mW_nat.2.2.2.2.2.2.2.2.2.1) (hts _ mW_nat.2.2.2.2.2.2.2.2.2.2) (va_Nw.use rfl (hk.2.1 _ mW_cl)) (hT.lt (by omega)) hE ht hRf (by omega) (by omega) (by omega) hd (fun H1 p1 p2 => ?_)
          have g := G H1 locs ls p1 p2 hl
          simp only [List.map_cons, lf, m_loc hav hR.1] at g
          rw [g8, g9] at g
          exact g
      · cases hs
    · cases hs
end MST
