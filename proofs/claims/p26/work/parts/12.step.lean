/-! ===== .. instruction by instruction ===== -/
/-- all that is known at a method's start of the tables -/
def mKX (s0 : State) (D : va_G) (aC : Nat → ClassId) (sio : Value) (dg : Nat × Nat) (ex : Nat → Nat) (U : State) : Prop := mKN s0 D aC nwl sTab sio dg ex U ∧ va_AO RX4 U ∧ va_AO RJ0 U ∧ m_AOI U
theorem mWd_gw {z : Nat} {w : Cond} (h : mWd z w = true) : w ∈ gwl := by
  unfold mWd at h
  simp only [Bool.and_eq_true, decide_eq_true_eq] at h
  exact gw_in (List.mem_of_getElem? h.1) h.2
def mRowsOk : Prop := ∀ k, k < mInf.length → ∀ r ∈ mtbs.getD k [], mRow k r = true
theorem mFetch_ok (hro : mRowsOk) {k pc : Nat} (hk : k < mInf.length) {ins : Instr} {len : Nat} {ax : List Nat} (h : mFetch k pc = some (ins, len, ax)) : decode (mCd k) pc = .ok (ins, len) ∧ mChk k pc ins len ax = true := by
  unfold mFetch at h
  cases hf : (mtbs.getD k []).find? (fun r => r.1 == pc) with
  | none => rw [hf] at h; cases h
  | some r =>
    rw [hf] at h
    obtain ⟨p9, i9, l9, a9⟩ := r
    cases h
    have h1 := List.find?_some hf
    have h2 := hro k hk _ (List.mem_of_find?_eq_some hf)
    simp only [beq_iff_eq] at h1
    unfold mRow at h2
    simp only [Bool.and_eq_true, decide_eq_true_eq] at h2
    rw [← h1]
    exact h2
theorem mTgt_eq {pc t : Nat} {off : Int} (h : mTgt pc off t = true) : (pc : Int) + off = (t : Int) := of_decide_eq_true h
theorem mLink_ok {s : State} {args : Array Value} {s0 : State} {D : va_G} {aC : Nat → ClassId} {sio : Value} {dg : Nat × Nat} {ex : Nat → Nat} (hts : ∀ w ∈ gwl, w.before args s = true) (hk : mKN s0 D aC nwl sTab sio dg ex s) {k i ci f nest z : Nat} (h : mLkb k i ci f nest z = true) : mLk (mOwn k) i ci f args s := by
  unfold mLkb at h
  split at h
  · exact Or.inl (hts _ (mWd_gw h))
  · exact Or.inr ⟨_, hk.2.1 _ (List.mem_of_getElem? (of_decide_eq_true h))⟩
theorem mRef_nar {ci f : Nat} (hr : mRef ci f = true) {v : Value} (hv : v = .null ∨ ∃ a, v = .ref a) : narrow (mTy ci f) v = v ∧ fits (mTy ci f) v = true := by
  unfold mRef at hr
  split at hr
  · rename_i e; rw [e]; rcases hv with rfl | ⟨a, rfl⟩ <;> exact ⟨rfl, rfl⟩
  · rename_i e; rw [e]; rcases hv with rfl | ⟨a, rfl⟩ <;> exact ⟨rfl, rfl⟩
  · cases hr
theorem mNar_ok {ty : FieldType} {x : Int32} (h : mNar ty x = true) : narrow ty (.int x) = .int x ∧ fits ty (.int x) = true := by
  unfold mNar at h
  split at h
  · simp only [Bool.or_eq_true, beq_iff_eq] at h
    rcases h with rfl | rfl <;> exact ⟨rfl, rfl⟩
  · simp only [beq_iff_eq] at h
    refine ⟨?_, ?_⟩
    · show Value.int x.toInt8.toInt32 = _
      rw [h]
    · rw [← h]; exact m_fb x
  · exact ⟨rfl, rfl⟩
  · cases h
theorem mW_nat : Cond.native arraycopyName ∈ gwl ∧ Cond.static arraycopyName ∈ gwl ∧ Cond.initialized "java/lang/System" ∈ gwl ∧ Cond.instanceMethod objectInit ∈ gwl ∧ Cond.code objectInit ⟨#[0xb1]⟩ 1 none ∈ gwl ∧ Cond.arrayClass .int ∈ gwl ∧ Cond.arrayClass .byte ∈ gwl ∧
    Cond.sameMethod "[B" "java/lang/Object" "clone" "()Ljava/lang/Object;" ∈ gwl ∧ Cond.native ⟨"java/lang/Object", "clone", "()Ljava/lang/Object;"⟩ ∈ gwl ∧ Cond.instanceMethod ⟨"java/lang/Object", "clone", "()Ljava/lang/Object;"⟩ ∈ gwl ∧ Cond.selects "[B" ⟨"[B", "clone", "()Ljava/lang/Object;"⟩ ⟨"java/lang/Object", "clone", "()Ljava/lang/Object;"⟩ ∈ gwl := by
  refine ⟨?_, ?_, ?_, ?_, ?_, ?_, ?_, ?_, ?_, ?_, ?_⟩ <;> decide +kernel
theorem mW_cl : Cond.castable "[B" "java/lang/Cloneable" ∈ nwl := by decide +kernel
section MST
variable {p : Program} {l : Launch} {e : Env} {R : Room} {s : State} {m : MethodId} {args : Array Value} {below : List Frame} {meth : Method} {c : Code} {Q : State → Prop}
variable {s0 : State} {D : va_G} {aC : Nat → ClassId} {av : Nat → Value} {ex : Nat → Nat} {sio : Value} {dg : Nat × Nat}
/-- what is fixed while a method runs -/
def mCtx (p : Program) (s : State) (m : MethodId) (args : Array Value) (meth : Method) (c : Code) (R : Room) (s0 : State) (D : va_G) (aC : Nat → ClassId) (av : Nat → Value) (ex : Nat → Nat) (sio : Value) (dg : Nat × Nat) (k : Nat) : Prop :=
  p.tables.exec = Jvm.exec ∧ c.code = mCd k ∧ (∀ w ∈ gwl, w.before args s = true) ∧ mKX s0 D aC sio dg ex s ∧ s.vm.findClass (mOwn k) = some m.cls ∧ mAv av s0 ex ∧ c.maxLocals = mMl k ∧ k < mInf.length ∧ meth.name = (mNm k).name ∧ av 0 = sio ∧ dg = (ex 2, ex 3) ∧ (1 ≤ R.frames ∧ 200 ≤ R.locals)
/-- the machine stands in the method at pc, with the world w, and comes to Q -/
def mG (p : Program) (l : Launch) (e : Env) (R : Room) (s : State) (m : MethodId) (args : Array Value) (below : List Frame) (meth : Method) (c : Code) (Q : State → Prop) (s0 : State) (D : va_G) (aC : Nat → ClassId) (av : Nat → Value) (ex : Nat → Nat) (z0 y0 nL : Nat) (pc : Nat) (L st : List Value) (w : MW) : Prop :=
  ∀ (H : Heap) (locs : List Loc) (ls : Array Slot), mRep s0 D aC av ex w H → va_S (mA s0) s.heap H locs → lv_has ls nL (lvL av L) → W p l e R s m args below meth c H locs (mSz w - z0) (mSl w - y0) Q (F0 m pc ls (st.map (lf av)))
theorem mStep_ok (hoc : ∀ ci, ci < 13 → mOkc ci) (hro : mRowsOk) {k : Nat} (C : mCtx p s m args meth c R s0 D aC av ex sio dg k) {ins : Instr} {len : Nat} {ax : List Nat} {pc : Nat} {L st : List Value} {w : MW} {pc' : Nat} {L' st' : List Value} {w' : MW} (hf : mFetch k pc = some (ins, len, ax)) (hak : mAsk ins ax = 0) (hs : mstep ins len ax pc L st w = some (pc', L', st', w')) (hT : mTop w) {z0 y0 : Nat} (hz : z0 ≤ mSz w) (hy : y0 ≤ mSl w) (hzR : mSz w' - z0 ≤ R.cells) (hyR : mSl w' - y0 ≤ R.slots) (hnL : L.length = mMl k)
    (G : mG p l e R s m args below meth c Q s0 D aC av ex z0 y0 (mMl k) pc' L' st' w') : mG p l e R s m args below meth c Q s0 D aC av ex z0 y0 (mMl k) pc L st w := by
  obtain ⟨hx, hb, hts, hKX, hown, hav, hml, hkl, hmn, hsio, hdg, hRf, hRl⟩ := C
  obtain ⟨hk, hA4, hA11, hAI⟩ := id hKX
  obtain ⟨hd, hc⟩ := mFetch_ok hro hkl hf
  intro H locs ls hR hS hl
  have hsz : ls.size = mMl k := hl.1
  have r0 : mTg w 0 = 60 := (hR.2.2.2.1 0 (by decide)).2.2.2.2 rfl
  have ref1 : ∀ a : Nat, mTg w a ≠ 60 → av a = .ref (mAd s0.heap.size ex a) := fun a h => hav.1 a (fun q => h (by rw [q]; exact r0))
  cases ins <;> first | (simp [mstep] at hs; done) | skip
  case iconst n =>
    simp only [mstep] at hs
    obtain ⟨rfl, rfl, rfl, rfl⟩ := mS4 hs
    have e1 : len = 1 := by simpa [mChk] using hc
    subst e1
    exact lv_iconst hx hb hd rfl (G H locs ls hR hS hl)
  case bipush n =>
    simp only [mstep] at hs
    obtain ⟨rfl, rfl, rfl, rfl⟩ := mS4 hs
    have e1 : len = 2 := by simpa [mChk] using hc
    subst e1
    exact lv_bipush hx hb hd rfl (G H locs ls hR hS hl)
  case sipush n =>
    simp only [mstep] at hs
    obtain ⟨rfl, rfl, rfl, rfl⟩ := mS4 hs
    have e1 : len = 3 := by simpa [mChk] using hc
    subst e1
    exact lv_sipush hx hb hd rfl (G H locs ls hR hS hl)
  case dconst d =>
    simp only [mstep] at hs
    split at hs
    · obtain ⟨rfl, rfl, rfl, rfl⟩ := mS4 hs
      have e1 : len = 1 := by simpa [mChk] using hc
      subst e1
      have ed : d = 0 := Fin.ext (by assumption)
      subst ed
      exact lv_dconst0 hx hb hd (G H locs ls hR hS hl)
    · cases hs
  case aconst_null =>
    simp only [mstep] at hs
    obtain ⟨rfl, rfl, rfl, rfl⟩ := mS4 hs
    have e1 : len = 1 := by simpa [mChk] using hc
    subst e1
    exact lv_null hx hb hd (G H locs ls hR hS hl)
  case ldc i =>
    simp only [mstep] at hs
    split at hs
    · rename_i v z
      obtain ⟨rfl, rfl, rfl, rfl⟩ := mS4 hs
      simp only [mChk, Bool.and_eq_true, beq_iff_eq] at hc
      obtain ⟨e1, h2⟩ := hc
      subst e1
      exact lv_ldc hx hb hown (hts _ (mWd_gw h2)) hd (G H locs ls hR hS hl)
    · rename_i cn
      obtain ⟨rfl, rfl, rfl, rfl⟩ := mS4 hs
      simp only [mChk, Bool.and_eq_true, beq_iff_eq, decide_eq_true_eq, List.any_eq_true] at hc
      obtain ⟨e1, ⟨h1, h2⟩, r, hr, ⟨h3, h4⟩, h5⟩ := hc
      subst e1
      have hZ := hk.2.2.1 r hr
      rw [h3, h4, h5] at hZ
      have ea : av cn = .ref (ex cn) := by rw [hav.1 cn (by omega), mAd_old h2]
      have g := G H locs ls hR hS hl
      simp only [List.map_cons, lf, ea] at g
      exact va_ldcS hx hb hown hZ hd g
    · cases hs
  case ldc2_w i =>
    simp only [mstep] at hs
    split at hs
    · rename_i v z
      obtain ⟨rfl, rfl, rfl, rfl⟩ := mS4 hs
      simp only [mChk, Bool.and_eq_true, beq_iff_eq] at hc
      obtain ⟨e1, h2⟩ := hc
      subst e1
      exact lv_ldc2 hx hb hown (hts _ (mWd_gw h2)) hd (G H locs ls hR hS hl)
    · cases hs
  case iload_n i =>
    simp only [mstep] at hs
    split at hs
    · rename_i x hx9
      obtain ⟨rfl, rfl, rfl, rfl⟩ := mS4 hs
      have e1 : len = 1 := by simpa [mChk] using hc
      subst e1
      exact lv_iload_n hx hb hd rfl (lvL_at hl hx9 (fun k q => by cases q)) (G H locs ls hR hS hl)
    · cases hs
  case iload i =>
    simp only [mstep] at hs
    split at hs
    · rename_i x hx9
      obtain ⟨rfl, rfl, rfl, rfl⟩ := mS4 hs
      have e1 : len = 2 := by simpa [mChk] using hc
      subst e1
      exact lv_iload hx hb hd (lvL_at hl hx9 (fun k q => by cases q)) (G H locs ls hR hS hl)
    · cases hs
  case lload_n i =>
    simp only [mstep] at hs
    split at hs
    · rename_i x hx9
      obtain ⟨rfl, rfl, rfl, rfl⟩ := mS4 hs
      have e1 : len = 1 := by simpa [mChk] using hc
      subst e1
      exact lv_lload_n hx hb hd rfl (lvL_at hl hx9 (fun k q => by cases q)) (G H locs ls hR hS hl)
    · cases hs
  case lload i =>
    simp only [mstep] at hs
    split at hs
    · rename_i x hx9
      obtain ⟨rfl, rfl, rfl, rfl⟩ := mS4 hs
      have e1 : len = 2 := by simpa [mChk] using hc
      subst e1
      exact lv_lload hx hb hd (lvL_at hl hx9 (fun k q => by cases q)) (G H locs ls hR hS hl)
    · cases hs
  case aload_n i =>
    simp only [mstep] at hs
    split at hs
    · rename_i a hx9
      obtain ⟨rfl, rfl, rfl, rfl⟩ := mS4 hs
      have e1 : len = 1 := by simpa [mChk] using hc
      subst e1
      have h9 := lvL_at hl hx9 (fun k q => by cases q)
      have g := G H locs ls hR hS hl
      simp only [List.map_cons, lf] at g h9
      rcases hav.ref a with q | ⟨x, q⟩ <;> rw [q] at g h9
      · exact lv_aload_nN hx hb hd rfl h9 g
      · exact lv_aload_n hx hb hd rfl h9 g
    · rename_i hx9
      obtain ⟨rfl, rfl, rfl, rfl⟩ := mS4 hs
      have e1 : len = 1 := by simpa [mChk] using hc
      subst e1
      exact lv_aload_nN hx hb hd rfl (lvL_at hl hx9 (fun k q => by cases q)) (G H locs ls hR hS hl)
    · cases hs
  case aload i =>
    simp only [mstep] at hs
    split at hs
    · rename_i a hx9
      obtain ⟨rfl, rfl, rfl, rfl⟩ := mS4 hs
      have e1 : len = 2 := by simpa [mChk] using hc
      subst e1
      have h9 := lvL_at hl hx9 (fun k q => by cases q)
      have g := G H locs ls hR hS hl
      simp only [List.map_cons, lf] at g h9
      rcases hav.ref a with q | ⟨x, q⟩ <;> rw [q] at g h9
      · exact lv_aloadN hx hb hd h9 g
      · exact lv_aload hx hb hd h9 g
    · rename_i hx9
      obtain ⟨rfl, rfl, rfl, rfl⟩ := mS4 hs
      have e1 : len = 2 := by simpa [mChk] using hc
      subst e1
      exact lv_aloadN hx hb hd (lvL_at hl hx9 (fun k q => by cases q)) (G H locs ls hR hS hl)
    · cases hs
  case istore_n i =>
    simp only [mstep] at hs
    split at hs
    · split at hs
      · rename_i hi
        obtain ⟨rfl, rfl, rfl, rfl⟩ := mS4 hs
        have e1 : len = 1 := by simpa [mChk] using hc
        subst e1
        exact lv_istore_n hx hb hd rfl hl (by omega) rfl (fun ls' hl' => G H locs ls' hR hS (lv_subM hl' (mSt_sub hav hi)))
      · cases hs
    · cases hs
  case istore i =>
    simp only [mstep] at hs
    split at hs
    · split at hs
      · rename_i hi
        obtain ⟨rfl, rfl, rfl, rfl⟩ := mS4 hs
        have e1 : len = 2 := by simpa [mChk] using hc
        subst e1
        exact lv_istore hx hb hd hl (by omega) rfl (fun ls' hl' => G H locs ls' hR hS (lv_subM hl' (mSt_sub hav hi)))
      · cases hs
    · cases hs
  case lstore_n i =>
    simp only [mstep] at hs
    split at hs
    · split at hs
      · rename_i hi
        obtain ⟨rfl, rfl, rfl, rfl⟩ := mS4 hs
        have e1 : len = 1 := by simpa [mChk] using hc
        subst e1
        exact lv_lstore_n hx hb hd rfl hl (by omega) rfl (fun ls' hl' => G H locs ls' hR hS (lv_subM hl' (mSt2_sub hav hi)))
      · cases hs
    · cases hs
  case lstore i =>
    simp only [mstep] at hs
    split at hs
    · split at hs
      · rename_i hi
        obtain ⟨rfl, rfl, rfl, rfl⟩ := mS4 hs
        have e1 : len = 2 := by simpa [mChk] using hc
        subst e1
        exact lv_lstore hx hb hd hl (by omega) rfl (fun ls' hl' => G H locs ls' hR hS (lv_subM hl' (mSt2_sub hav hi)))
      · cases hs
    · cases hs
  case astore_n i =>
    simp only [mstep] at hs
    split at hs
    · rename_i a r
      split at hs
      · rename_i hi
        obtain ⟨rfl, rfl, rfl, rfl⟩ := mS4 hs
        have e1 : len = 1 := by simpa [mChk] using hc
        subst e1
        have h9 : ∀ q ∈ lvL av (mSt L i.val (.ref a)), q ∈ (i.val, av a) :: _ := mSt_sub hav hi
        show W p l e R s m args below meth c H locs _ _ Q (F0 m pc ls (av a :: r.map (lf av)))
        rcases hav.ref a with q | ⟨x, q⟩ <;> rw [q] at h9 ⊢
        · exact lv_astore_nN hx hb hd rfl hl (by omega) rfl (fun ls' hl' => G H locs ls' hR hS (lv_subM hl' h9))
        · exact lv_astore_n hx hb hd rfl hl (by omega) rfl (fun ls' hl' => G H locs ls' hR hS (lv_subM hl' h9))
      · cases hs
    · split at hs
      · rename_i hi
        obtain ⟨rfl, rfl, rfl, rfl⟩ := mS4 hs
        have e1 : len = 1 := by simpa [mChk] using hc
        subst e1
        exact lv_astore_nN hx hb hd rfl hl (by omega) rfl (fun ls' hl' => G H locs ls' hR hS (lv_subM hl' (mSt_sub hav hi)))
      · cases hs
    · cases hs
  case astore i =>
    simp only [mstep] at hs
    split at hs
    · rename_i a r
      split at hs
      · rename_i hi
        obtain ⟨rfl, rfl, rfl, rfl⟩ := mS4 hs
        have e1 : len = 2 := by simpa [mChk] using hc
        subst e1
        have h9 : ∀ q ∈ lvL av (mSt L i (.ref a)), q ∈ (i, av a) :: _ := mSt_sub hav hi
        show W p l e R s m args below meth c H locs _ _ Q (F0 m pc ls (av a :: r.map (lf av)))
        rcases hav.ref a with q | ⟨x, q⟩ <;> rw [q] at h9 ⊢
        · exact lv_astoreN hx hb hd hl (by omega) rfl (fun ls' hl' => G H locs ls' hR hS (lv_subM hl' h9))
        · exact lv_astore hx hb hd hl (by omega) rfl (fun ls' hl' => G H locs ls' hR hS (lv_subM hl' h9))
      · cases hs
    · split at hs
      · rename_i hi
        obtain ⟨rfl, rfl, rfl, rfl⟩ := mS4 hs
        have e1 : len = 2 := by simpa [mChk] using hc
        subst e1
        exact lv_astoreN hx hb hd hl (by omega) rfl (fun ls' hl' => G H locs ls' hR hS (lv_subM hl' (mSt_sub hav hi)))
      · cases hs
    · cases hs
  case iinc i n =>
    simp only [mstep] at hs
    split at hs
    · rename_i x hx9
      obtain ⟨rfl, rfl, rfl, rfl⟩ := mS4 hs
      have e1 : len = 3 := by simpa [mChk] using hc
      subst e1
      have hi : i < L.length := (List.getElem?_eq_some_iff.mp hx9).1
      obtain ⟨j, hj⟩ := List.getElem?_of_mem (lvL_mem.mpr ⟨_, hx9, (fun k q => by cases q), rfl⟩ : (i, lf av (.int x)) ∈ lvL av L)
      exact lv_iinc hx hb hd hl hj rfl (by omega) rfl (fun ls' hl' => G H locs ls' hR hS (lv_subM hl' (mSt_sub hav hi)))
    · cases hs
  case iadd =>
    simp only [mstep] at hs
    split at hs
    · obtain ⟨rfl, rfl, rfl, rfl⟩ := mS4 hs
      have e1 : len = 1 := by simpa [mChk] using hc
      subst e1
      exact lv_iadd hx hb hd (G H locs ls hR hS hl)
    · cases hs
  case isub =>
    simp only [mstep] at hs
    split at hs
    · obtain ⟨rfl, rfl, rfl, rfl⟩ := mS4 hs
      have e1 : len = 1 := by simpa [mChk] using hc
      subst e1
      exact lv_isub hx hb hd (G H locs ls hR hS hl)
    · cases hs
  case imul =>
    simp only [mstep] at hs
    split at hs
    · obtain ⟨rfl, rfl, rfl, rfl⟩ := mS4 hs
      have e1 : len = 1 := by simpa [mChk] using hc
      subst e1
      exact lv_imul hx hb hd (G H locs ls hR hS hl)
    · cases hs
  case iand =>
    simp only [mstep] at hs
    split at hs
    · obtain ⟨rfl, rfl, rfl, rfl⟩ := mS4 hs
      have e1 : len = 1 := by simpa [mChk] using hc
      subst e1
      exact lv_iand hx hb hd (G H locs ls hR hS hl)
    · cases hs
  case ior =>
    simp only [mstep] at hs
    split at hs
    · obtain ⟨rfl, rfl, rfl, rfl⟩ := mS4 hs
      have e1 : len = 1 := by simpa [mChk] using hc
      subst e1
      exact lv_ior hx hb hd (G H locs ls hR hS hl)
    · cases hs
  case ishl =>
    simp only [mstep] at hs
    split at hs
    · obtain ⟨rfl, rfl, rfl, rfl⟩ := mS4 hs
      have e1 : len = 1 := by simpa [mChk] using hc
      subst e1
      exact lv_ishl hx hb hd (G H locs ls hR hS hl)
    · cases hs
  case ishr =>
    simp only [mstep] at hs
    split at hs
    · obtain ⟨rfl, rfl, rfl, rfl⟩ := mS4 hs
      have e1 : len = 1 := by simpa [mChk] using hc
      subst e1
      exact lv_ishr hx hb hd (G H locs ls hR hS hl)
    · cases hs
  case idiv =>
    simp only [mstep] at hs
    split at hs
    · split at hs
      · cases hs
      · rename_i hne
        obtain ⟨rfl, rfl, rfl, rfl⟩ := mS4 hs
        have e1 : len = 1 := by simpa [mChk] using hc
        subst e1
        exact lv_idiv hx hb hd hne (G H locs ls hR hS hl)
    · cases hs
  case irem =>
    simp only [mstep] at hs
    split at hs
    · split at hs
      · cases hs
      · rename_i hne
        obtain ⟨rfl, rfl, rfl, rfl⟩ := mS4 hs
        have e1 : len = 1 := by simpa [mChk] using hc
        subst e1
        exact lv_irem hx hb hd hne (G H locs ls hR hS hl)
    · cases hs
  case ineg =>
    simp only [mstep] at hs
    split at hs
    · obtain ⟨rfl, rfl, rfl, rfl⟩ := mS4 hs
      have e1 : len = 1 := by simpa [mChk] using hc
      subst e1
      exact lv_ineg hx hb hd (G H locs ls hR hS hl)
    · cases hs
  case i2b =>
    simp only [mstep] at hs
    split at hs
    · obtain ⟨rfl, rfl, rfl, rfl⟩ := mS4 hs
      have e1 : len = 1 := by simpa [mChk] using hc
      subst e1
      exact lv_i2b hx hb hd rfl (G H locs ls hR hS hl)
    · cases hs
  case i2c =>
    simp only [mstep] at hs
    split at hs
    · obtain ⟨rfl, rfl, rfl, rfl⟩ := mS4 hs
      have e1 : len = 1 := by simpa [mChk] using hc
      subst e1
      exact lv_i2c hx hb hd rfl (G H locs ls hR hS hl)
    · cases hs
  case i2l =>
    simp only [mstep] at hs
    split at hs
    · obtain ⟨rfl, rfl, rfl, rfl⟩ := mS4 hs
      have e1 : len = 1 := by simpa [mChk] using hc
      subst e1
      exact lv_i2l hx hb hd rfl (G H locs ls hR hS hl)
    · cases hs
  case i2d =>
    simp only [mstep] at hs
    split at hs
    · obtain ⟨rfl, rfl, rfl, rfl⟩ := mS4 hs
      have e1 : len = 1 := by simpa [mChk] using hc
      subst e1
      exact lv_i2d hx hb hd (G H locs ls hR hS hl)
    · cases hs
  case ladd =>
    simp only [mstep] at hs
    split at hs
    · obtain ⟨rfl, rfl, rfl, rfl⟩ := mS4 hs
      have e1 : len = 1 := by simpa [mChk] using hc
      subst e1
      exact lv_ladd hx hb hd (G H locs ls hR hS hl)
    · cases hs
  case lmul =>
    simp only [mstep] at hs
    split at hs
    · obtain ⟨rfl, rfl, rfl, rfl⟩ := mS4 hs
      have e1 : len = 1 := by simpa [mChk] using hc
      subst e1
      exact lv_lmul hx hb hd (G H locs ls hR hS hl)
    · cases hs
  case lcmp =>
    simp only [mstep] at hs
    split at hs
    · obtain ⟨rfl, rfl, rfl, rfl⟩ := mS4 hs
      have e1 : len = 1 := by simpa [mChk] using hc
      subst e1
      exact W.lcmp hx hb hd (G H locs ls hR hS hl)
    · cases hs
  case ddiv =>
    simp only [mstep] at hs
    split at hs
    · split at hs
      · rename_i hne
        obtain ⟨rfl, rfl, rfl, rfl⟩ := mS4 hs
        have e1 : len = 1 := by simpa [mChk] using hc
        subst e1
        exact lv_ddiv hx hb hd hne (G H locs ls hR hS hl)
      · cases hs
    · cases hs
  case dcmp op =>
    simp only [mstep] at hs
    split at hs
    · obtain ⟨rfl, rfl, rfl, rfl⟩ := mS4 hs
      have e1 : len = 1 := by simpa [mChk] using hc
      subst e1
      exact lv_dcmp hx hb hd (G H locs ls hR hS hl)
    · cases hs
  case dup =>
    simp only [mstep] at hs
    split at hs
    · split at hs
      · rename_i h1
        obtain ⟨rfl, rfl, rfl, rfl⟩ := mS4 hs
        have e1 : len = 1 := by simpa [mChk] using hc
        subst e1
        exact lv_dup hx hb hd (by rw [cat_lf hav]; exact h1) (G H locs ls hR hS hl)
      · cases hs
    · cases hs
  case dup2 =>
    simp only [mstep] at hs
    split at hs
    · split at hs
      · rename_i h1
        obtain ⟨rfl, rfl, rfl, rfl⟩ := mS4 hs
        have e1 : len = 1 := by simpa [mChk] using hc
        subst e1
        exact lv_dup2_11 hx hb hd (by rw [cat_lf hav]; exact h1.1) (by rw [cat_lf hav]; exact h1.2) (G H locs ls hR hS hl)
      · cases hs
    · cases hs
  case pop =>
    simp only [mstep] at hs
    split at hs
    · split at hs
      · rename_i h1
        obtain ⟨rfl, rfl, rfl, rfl⟩ := mS4 hs
        have e1 : len = 1 := by simpa [mChk] using hc
        subst e1
        exact lv_pop hx hb hd (by rw [cat_lf hav]; exact h1) (G H locs ls hR hS hl)
      · cases hs
    · cases hs
  case goto off =>
    simp only [mstep] at hs
    obtain ⟨rfl, rfl, rfl, rfl⟩ := mS4 hs
    simp only [mChk, Bool.and_eq_true, beq_iff_eq] at hc
    obtain ⟨e1, h2⟩ := hc
    subst e1
    exact lv_goto hx hb hd (mTgt_eq h2) (G H locs ls hR hS hl)
  case ifCond cnd off =>
    simp only [mChk, Bool.and_eq_true, beq_iff_eq] at hc
    obtain ⟨e1, h2⟩ := hc
    subst e1
    have ht := mTgt_eq h2
    simp only [mstep] at hs
    split at hs
    · cases cnd <;> simp only at hs <;> split at hs <;> rename_i h9 <;> obtain ⟨rfl, rfl, rfl, rfl⟩ := mS4 hs
      · exact lv_if_eq hx hb hd ht (fun _ => G H locs ls hR hS hl) (fun q => absurd h9 q)
      · exact lv_if_eq hx hb hd ht (fun q => absurd q h9) (fun _ => G H locs ls hR hS hl)
      · exact lv_if_ne hx hb hd ht (fun _ => G H locs ls hR hS hl) (fun q => absurd q h9)
      · exact lv_if_ne hx hb hd ht (fun q => absurd q h9) (fun _ => G H locs ls hR hS hl)
      · exact lv_if_lt hx hb hd ht (fun _ => G H locs ls hR hS hl) (fun q => absurd h9 q)
      · exact lv_if_lt hx hb hd ht (fun q => absurd q h9) (fun _ => G H locs ls hR hS hl)
      · exact lv_if_ge hx hb hd ht (fun _ => G H locs ls hR hS hl) (fun q => absurd h9 q)
      · exact lv_if_ge hx hb hd ht (fun q => absurd q h9) (fun _ => G H locs ls hR hS hl)
      · exact lv_if_gt hx hb hd ht (fun _ => G H locs ls hR hS hl) (fun q => absurd h9 q)
      · exact lv_if_gt hx hb hd ht (fun q => absurd q h9) (fun _ => G H locs ls hR hS hl)
      · exact lv_if_le hx hb hd ht (fun _ => G H locs ls hR hS hl) (fun q => absurd h9 q)
      · exact lv_if_le hx hb hd ht (fun q => absurd q h9) (fun _ => G H locs ls hR hS hl)
    · cases hs
  case if_icmp cnd off =>
    simp only [mChk, Bool.and_eq_true, beq_iff_eq] at hc
    obtain ⟨e1, h2⟩ := hc
    subst e1
    have ht := mTgt_eq h2
    simp only [mstep] at hs
    split at hs
    · cases cnd <;> simp only at hs <;> split at hs <;> rename_i h9 <;> obtain ⟨rfl, rfl, rfl, rfl⟩ := mS4 hs
      · exact lv_icmp_eq hx hb hd ht (fun _ => G H locs ls hR hS hl) (fun q => absurd h9 q)
      · exact lv_icmp_eq hx hb hd ht (fun q => absurd q h9) (fun _ => G H locs ls hR hS hl)
      · exact lv_icmp_ne hx hb hd ht (fun _ => G H locs ls hR hS hl) (fun q => absurd q h9)
      · exact lv_icmp_ne hx hb hd ht (fun q => absurd q h9) (fun _ => G H locs ls hR hS hl)
      · exact lv_icmp_lt hx hb hd ht (fun _ => G H locs ls hR hS hl) (fun q => absurd h9 q)
      · exact lv_icmp_lt hx hb hd ht (fun q => absurd q h9) (fun _ => G H locs ls hR hS hl)
      · exact lv_icmp_ge hx hb hd ht (fun _ => G H locs ls hR hS hl) (fun q => absurd h9 q)
      · exact lv_icmp_ge hx hb hd ht (fun q => absurd q h9) (fun _ => G H locs ls hR hS hl)
      · exact lv_icmp_gt hx hb hd ht (fun _ => G H locs ls hR hS hl) (fun q => absurd h9 q)
      · exact lv_icmp_gt hx hb hd ht (fun q => absurd q h9) (fun _ => G H locs ls hR hS hl)
      · exact lv_icmp_le hx hb hd ht (fun _ => G H locs ls hR hS hl) (fun q => absurd h9 q)
      · exact lv_icmp_le hx hb hd ht (fun q => absurd q h9) (fun _ => G H locs ls hR hS hl)
    · cases hs
  case ifnonnull off =>
    simp only [mChk, Bool.and_eq_true, beq_iff_eq] at hc
    obtain ⟨e1, h2⟩ := hc
    subst e1
    have ht := mTgt_eq h2
    simp only [mstep] at hs
    split at hs
    · rename_i a r
      split at hs
      · cases hs
      · rename_i h0
        obtain ⟨rfl, rfl, rfl, rfl⟩ := mS4 hs
        show W p l e R s m args below meth c H locs _ _ Q (F0 m pc ls (av a :: r.map (lf av)))
        rw [hav.1 a h0]
        exact lv_ifnonnull hx hb hd ht (G H locs ls hR hS hl)
    · obtain ⟨rfl, rfl, rfl, rfl⟩ := mS4 hs
      exact lv_ifnonnullN hx hb hd (G H locs ls hR hS hl)
    · cases hs
  all_goals sorry
end MST
