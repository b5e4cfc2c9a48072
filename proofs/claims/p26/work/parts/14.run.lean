/-! ===== THE WHOLE RUN ===== -/
theorem lg_sl_len {av : Nat → Value} {s0 : State} {ex : Nat → Nat} (hav : mAv av s0 ex) (as : List Value) : (lg_sl (as.map (lf av))).length = (mSpread as).length := by
  induction as with
  | nil => rfl
  | cons v r ih =>
    have hc := cat_lf hav v
    unfold mSpread
    by_cases h : v.category = 2
    · rw [if_pos h]
      rw [h] at hc
      simp only [List.map_cons, List.length_cons, ← ih]
      unfold lg_sl
      simp [hc]
    · rw [if_neg h]
      simp only [List.map_cons, List.length_cons, ← ih]
      unfold lg_sl
      rw [← hc] at h
      simp [h]
theorem mEnt_sub {av : Nat → Value} {s0 : State} {ex : Nat → Nat} (hav : mAv av s0 ex) (n : Nat) (as : List Value) : ∀ q ∈ lvL av (mEnt n as), q ∈ lv_args 0 (as.map (lf av)) := by
  have key : ∀ (as : List Value) (i j : Nat) (x : Value), (mSpread as)[j]? = some x → (∀ n, x ≠ .retAddr n) → (i + j, lf av x) ∈ lv_args i (as.map (lf av)) := by
    intro as
    induction as with
    | nil => intro i j x h _; simp [mSpread] at h
    | cons v r ih =>
      intro i j x h hn
      have hc := cat_lf hav v
      unfold mSpread at h
      simp only [List.map_cons]
      unfold lv_args
      by_cases h2 : v.category = 2
      · rw [if_pos h2] at h
        rw [h2] at hc
        match j, h with
        | 0, h => cases h; simp
        | 1, h => exact absurd (Option.some.inj h).symm (hn 0)
        | j + 2, h =>
          have h9 := ih (i + 2) j x h hn
          have e9 : i + 2 + j = i + (j + 2) := by omega
          rw [e9] at h9
          simp [hc, h9]
      · rw [if_neg h2] at h
        match j, h with
        | 0, h => cases h; simp
        | j + 1, h =>
          have h9 := ih (i + 1) j x h hn
          have e9 : i + 1 + j = i + (j + 1) := by omega
          rw [e9] at h9
          rw [← hc] at h2
          simp [h2, h9]
  rintro ⟨j, u⟩ h
  obtain ⟨x, hx, hn, rfl⟩ := lvL_mem.mp h
  unfold mEnt at hx
  by_cases hj : j < (mSpread as).length
  · rw [List.getElem?_append_left hj] at hx
    have h9 := key as 0 j x hx hn
    rw [Nat.zero_add] at h9
    exact h9
  · rw [List.getElem?_append_right (by omega)] at hx
    have h9 := List.mem_of_getElem? hx
    exact absurd (List.eq_of_mem_replicate h9) (hn 0)
section MRUN
variable {s0 : State} {D : va_G} {aC : Nat → ClassId} {av : Nat → Value} {ex : Nat → Nat} {sio : Value} {dg : Nat × Nat} {l : Launch}
/-- what a method owes at its end -/
def mEndQ (s0 : State) (D : va_G) (aC : Nat → ClassId) (av : Nat → Value) (ex : Nat → Nat) (below : List Frame) (args : Array Value) (s : State) (mc ms : Nat) (r : MRes) (wf : MW) : State → Prop := match r with
  | .inl v => MQ below (mQc s0 D aC av ex v wf) args s mc ms (mA s0)
  | .inr _ => vx_MQ below (fun _ _ _ _ => False) (mXC s0 D aC av ex wf) args s mc ms (mA s0)
section
variable {p : Program} {e : Env} {R : Room} {s : State} {m : MethodId} {args : Array Value} {below : List Frame} {meth : Method} {c : Code} {w : MW}
/-- an answer -/
theorem m_ret (hro : mRowsOk) {k : Nat} (C : mCtx p s m args meth c R s0 D aC av ex sio dg k) {ins : Instr} {len pc : Nat} {ax : List Nat} {L st : List Value} {v : Option Value} (hf : mFetch k pc = some (ins, len, ax)) (hr : mRet ins ax st = some v) (hlk : meth.locks = false) (hrt : meth.sig.returnType = mRt k) {z0 y0 : Nat} :
    mG p l e R s m args below meth c (MQ below (mQc s0 D aC av ex v w) args s (mSz w - z0) (mSl w - y0) (mA s0)) s0 D aC av ex z0 y0 (mMl k) pc L st w := by
  intro H locs ls hR hS hls
  obtain ⟨hx, hb, hts, hKX, hown, hav, hml, hkl, -⟩ := C
  obtain ⟨hd, hc⟩ := mFetch_ok hro hkl hf
  have hq : ∀ (o : Option Value), o = v.map (lf av) → ∀ t : State, t.heap = H → s.WarmedH t.vm → mQc s0 D aC av ex v w args s (.returned o) t := fun o ho t ht _ => ⟨by rw [ho], by rw [ht]; exact hR, va_S.F hS ht⟩
  have hfr : ∀ q ∈ locs, mA s0 q.base := hS.2.2
  unfold mRet at hr
  split at hr
  · cases hr
    simp only [mChk, Bool.and_eq_true, beq_iff_eq, decide_eq_true_eq] at hc
    obtain ⟨rfl, h1⟩ := hc
    exact W.vret hx hb (hrt.trans h1) (hq _ rfl) hfr hd hlk
  · rename_i x
    split at hr
    · rename_i hk9
      cases hr
      simp only [mChk, Bool.and_eq_true, beq_iff_eq] at hc
      obtain ⟨rfl, h1⟩ := hc
      split at h1
      · exact W.zret (ty := .int) hx hb (hrt.trans (of_decide_eq_true h1)) rfl (hq _ rfl) hfr hd hlk
      · refine W.zret (ty := .boolean) hx hb (hrt.trans (of_decide_eq_true h1)) ?_ (hq _ rfl) hfr hd hlk
        have h2 : (x == 0 || x == 1) = true := hk9
        simp only [Bool.or_eq_true, beq_iff_eq] at h2
        rcases h2 with rfl | rfl <;> rfl
      · refine W.zret (ty := .byte) hx hb (hrt.trans (of_decide_eq_true h1)) ?_ (hq _ rfl) hfr hd hlk
        have h2 : (x.toInt8.toInt32 == x) = true := hk9
        simp only [beq_iff_eq] at h2
        show Value.int x.toInt8.toInt32 = _
        rw [h2]
      · refine W.zret (ty := .char) hx hb (hrt.trans (of_decide_eq_true h1)) ?_ (hq _ rfl) hfr hd hlk
        have h2 : ((x.toUInt32 % 65536).toInt32 == x) = true := hk9
        simp only [beq_iff_eq] at h2
        show Value.int x.toUInt32.toUInt16.toUInt32.toInt32 = _
        have h3 : x.toUInt32.toUInt16.toUInt32 = x.toUInt32 % 65536 := by
          apply UInt32.toNat_inj.mp
          simp
        rw [h3, h2]
      · cases h1
    · cases hr
  · rename_i a
    cases hr
    simp only [mChk, Bool.and_eq_true, beq_iff_eq] at hc
    obtain ⟨rfl, h1⟩ := hc
    have hv : av a = .null ∨ ∃ b, av a = .ref b := hav.ref a
    have e1 : (some (Value.ref a)).map (lf av) = some (av a) := rfl
    split at h1
    · rename_i n9 h9
      exact W.aret hx hb (hrt.trans h9) (Or.inl ⟨_, rfl⟩) hv (hq _ e1.symm) hfr hd hlk
    · rename_i n9 h9
      exact W.aret hx hb (hrt.trans h9) (Or.inr ⟨_, rfl⟩) hv (hq _ e1.symm) hfr hd hlk
    · cases h1
  · cases hr
    simp only [mChk, Bool.and_eq_true, beq_iff_eq] at hc
    obtain ⟨rfl, h1⟩ := hc
    split at h1
    · rename_i n9 h9
      exact W.aret hx hb (hrt.trans h9) (Or.inl ⟨_, rfl⟩) (Or.inl rfl) (hq _ rfl) hfr hd hlk
    · rename_i n9 h9
      exact W.aret hx hb (hrt.trans h9) (Or.inr ⟨_, rfl⟩) (Or.inl rfl) (hq _ rfl) hfr hd hlk
    · cases h1
  · cases hr
    simp only [mChk, Bool.and_eq_true, beq_iff_eq, decide_eq_true_eq] at hc
    obtain ⟨rfl, h1⟩ := hc
    exact W.lret hx hb (hrt.trans h1) (hq _ rfl) hfr hd hlk
  · cases hr
    simp only [mChk, Bool.and_eq_true, beq_iff_eq, decide_eq_true_eq] at hc
    obtain ⟨rfl, h1⟩ := hc
    exact W.dret hx hb (hrt.trans h1) (hq _ rfl) hfr hd hlk
  · cases hr
end
theorem mPlain : ∀ k, k < mInf.length → plainFor (mNm k) = true ∧ mOwn k = (mNm k).cls := by
  have h : (List.range mInf.length).all (fun k => plainName (mNm k).cls || (decide ((mNm k).cls = "java/lang/Math") && !(Jvm.Free.JP.floatDescs.contains (mNm k).desc))) = true := by decide +kernel
  intro k hk
  have h1 := List.all_eq_true.mp h k (List.mem_range.mpr hk)
  simp only [Bool.or_eq_true, Bool.and_eq_true, decide_eq_true_eq, Bool.not_eq_true'] at h1
  refine ⟨?_, rfl⟩
  rcases h1 with h1 | ⟨h1, h2⟩
  · exact plainFor_of_name h1
  · exact Jvm.Free.JP.mathPlain h1 h2
theorem mOfW {y : MethodName} {ws ws' : List Cond} {rm : Room} {Pc : Array Value → State → Prop} {Qc : Array Value → State → Outcome → State → Prop} {mc ms : Nat} {free : Addr → Prop} {cc : ByteArray} {maxL : Nat} {ret : Option FieldType}
    (hy : plainFor y = true) (hw : ws = Cond.code y cc maxL ret :: ws')
    (body : ∀ p e s m args below meth c s₁, BodyLoose p l y (headSpec ws rm) cc maxL ret e s m args below meth c s₁ → c.maxLocals = maxL → (∀ x ∈ c.exceptionTable.toList, False) → Pc args s →
      W p l e (headSpec ws rm).room s m args below meth c s.heap [] 0 0 (MQ below Qc args s mc ms free) (entryFrame m args maxL)) : Met l y ws rm Pc Qc mc ms free := by
  refine MetFree.of_bodySF (code := cc) (maxLocals := maxL) (ret := ret) hy ?_ ?_
  · intro args s m h hn
    obtain ⟨meth, c, h1, h2, h3, h4, h5, h6, -, -⟩ := Cond.code_spec hn (atoms_spec (ws := ws) h _ (by rw [hw]; exact List.mem_cons_self))
    exact ⟨meth, c, h1, h2, h3, h4, h5, h6⟩
  · intro p e s m args below meth c s₁ B hml hP _
    have hh0 : s₁.heap = s.heap := by rw [B.state]; rfl
    have ht : ∀ x ∈ c.exceptionTable.toList, False := by
      obtain ⟨meth9, c9, h1, h2, -, -, -, -, h7, -⟩ := Cond.code_spec B.named (atoms_spec (ws := ws) B.pre _ (by rw [hw]; exact List.mem_cons_self))
      cases Option.some.inj (h1.symm.trans B.method)
      cases Option.some.inj (h2.symm.trans (Stand.of_body B).code)
      intro x hx
      rw [Array.isEmpty_iff.mp h7] at hx
      cases hx
    obtain ⟨t, a1, o, b1, b2, b3⟩ := body p e s m args below meth c s₁ B hml ht hP s₁ hh0 (Stand.of_body B)
    exact ⟨t, o, a1, b1, b2, ⟨b3.1, b3.2⟩⟩
theorem mOfWX {y : MethodName} {ws ws' : List Cond} {rm : Room} {Pc : Array Value → State → Prop} {Qc : Array Value → State → Outcome → State → Prop} {XC : String → State → State → Prop} {mc ms : Nat} {free : Addr → Prop} {cc : ByteArray} {maxL : Nat} {ret : Option FieldType}
    (hy : plainFor y = true) (hw : ws = Cond.code y cc maxL ret :: ws')
    (body : ∀ p e s m args below meth c s₁, BodyLoose p l y (headSpec ws rm) cc maxL ret e s m args below meth c s₁ → c.maxLocals = maxL → (∀ x ∈ c.exceptionTable.toList, False) → Pc args s →
      W p l e (headSpec ws rm).room s m args below meth c s.heap [] 0 0 (vx_MQ below Qc XC args s mc ms free) (entryFrame m args maxL)) : vx_Met l y ws rm Pc Qc XC mc ms free := by
  refine MetFree.of_bodySF (code := cc) (maxLocals := maxL) (ret := ret) hy ?_ ?_
  · intro args s m h hn
    obtain ⟨meth, c, h1, h2, h3, h4, h5, h6, -, -⟩ := Cond.code_spec hn (atoms_spec (ws := ws) h _ (by rw [hw]; exact List.mem_cons_self))
    exact ⟨meth, c, h1, h2, h3, h4, h5, h6⟩
  · intro p e s m args below meth c s₁ B hml hP _
    have hh0 : s₁.heap = s.heap := by rw [B.state]; rfl
    have ht : ∀ x ∈ c.exceptionTable.toList, False := by
      obtain ⟨meth9, c9, h1, h2, -, -, -, -, h7, -⟩ := Cond.code_spec B.named (atoms_spec (ws := ws) B.pre _ (by rw [hw]; exact List.mem_cons_self))
      cases Option.some.inj (h1.symm.trans B.method)
      cases Option.some.inj (h2.symm.trans (Stand.of_body B).code)
      intro x hx
      rw [Array.isEmpty_iff.mp h7] at hx
      cases hx
    obtain ⟨t, a1, o, b1, b2, b3⟩ := body p e s m args below meth c s₁ B hml ht hP s₁ hh0 (Stand.of_body B)
    exact ⟨t, o, a1, b1, b2, b3⟩
/-- what a method's table says -/
def mTabs (k : Nat) (c : Code) : Prop := (k = 107 ∨ k = 108 → ∀ x ∈ c.exceptionTable.toList, False) ∧ (k = 168 → c.exceptionTable.toList = tableOf [(63, 95, 96, 204), (124, 160, 161, 204)])
/-- what is asked of a run -/
def mGoes (l : Launch) (s0 : State) (D : va_G) (aC : Nat → ClassId) (av : Nat → Value) (ex : Nat → Nat) (sio : Value) (dg : Nat × Nat) (d k pc : Nat) (L st : List Value) (w : MW) (r : MRes) (wf : MW) : Prop :=
  ∀ (p : Program) (e : Env) (R : Room) (s : State) (m : MethodId) (args : Array Value) (below : List Frame) (meth : Method) (c : Code), mCtx p s m args meth c R s0 D aC av ex sio dg k → mTabs k c → meth.locks = false → meth.sig.returnType = mRt k → s0.heap.size ≤ s.heap.size → mFR d ≤ R.frames ∧ mLR d ≤ R.locals →
    ∀ z0 y0 : Nat, z0 ≤ mSz w → y0 ≤ mSl w → mSz wf - z0 ≤ R.cells → mSl wf - y0 ≤ R.slots → L.length = mMl k →
    mG p l e R s m args below meth c (mEndQ s0 D aC av ex below args s (mSz wf - z0) (mSl wf - y0) r wf) s0 D aC av ex z0 y0 (mMl k) pc L st w
/-- a run of a method's body, from its start, in the words of the contract's body -/
theorem mBody (hav : mAv av s0 ex) (h0 : av 0 = sio) (hdg : dg = (ex 2, ex 3)) {d k : Nat} (hk : k < mInf.length) {as : List Value} {w : MW} {r : MRes} {w1 : MW} (hrun : mGoes l s0 D aC av ex sio dg d k 0 (mEnt (mMl k) as) [] w r w1) (hlen : (mSpread as).length ≤ mMl k)
    {p : Program} {e : Env} {s : State} {m : MethodId} {args : Array Value} {below : List Frame} {meth : Method} {c : Code} {s₁ : State} (B : BodyLoose p l (mNm k) (headSpec (mWs k) (mRm d (mSz w1 - mSz w) (mSl w1 - mSl w))) (mCd k) (mMl k) (mRt k) e s m args below meth c s₁) (hml : c.maxLocals = mMl k) (htb : mTabs k c) (hP : mPc s0 D aC av ex sio dg as w args s) :
    W p l e (headSpec (mWs k) (mRm d (mSz w1 - mSz w) (mSl w1 - mSl w))).room s m args below meth c s.heap [] 0 0 (mEndQ s0 D aC av ex below args s (mSz w1 - mSz w) (mSl w1 - mSl w) r w1) (entryFrame m args (mMl k)) := by
  obtain ⟨ha, hKX, hR⟩ := hP
  have hts : ∀ w9 ∈ mWs k, w9.before args s = true := atoms_spec B.pre
  obtain ⟨hpl, how⟩ := mPlain k hk
  have hC : mCtx p s m args meth c (headSpec (mWs k) (mRm d (mSz w1 - mSz w) (mSl w1 - mSl w))).room s0 D aC av ex sio dg k :=
    ⟨B.exec, B.bytes, fun w9 h9 => hts w9 (List.mem_cons_of_mem _ h9), hKX, by rw [how]; exact findClass_of_methodNamed B.named, hav, hml, hk, (name_of_methodNamed B.named B.method).1, h0, hdg, by show 1 ≤ d + 12 ∧ 200 ≤ 60 * d + 250; omega⟩
  have hsl := lg_sl_len hav as
  have hz : s0.heap.size ≤ s.heap.size := by rw [hR.2.1]; omega
  have hG := hrun p e _ s m args below meth c hC htb B.notSynchronized B.returns hz ⟨Nat.le_refl _, Nat.le_refl _⟩ (mSz w) (mSl w) (Nat.le_refl _) (Nat.le_refl _) (Nat.le_refl _) (Nat.le_refl _) (by unfold mEnt; rw [List.length_append, List.length_replicate]; omega)
  have hG2 := hG s.heap [] _ hR va_S.rf (lv_subM (lv_entry (as.map (lf av)) (n := mMl k) (by omega)) (mEnt_sub hav (mMl k) as))
  rw [Nat.sub_self, Nat.sub_self] at hG2
  rw [ha, lg_entry_eq]
  rw [ha] at hG2
  exact hG2
/-- a method's contract, where its run answers -/
theorem mMet (hav : mAv av s0 ex) (h0 : av 0 = sio) (hdg : dg = (ex 2, ex 3)) {d k : Nat} (hk : k < mInf.length) {as : List Value} {w : MW} {v : Option Value} {w1 : MW} (hrun : mGoes l s0 D aC av ex sio dg d k 0 (mEnt (mMl k) as) [] w (.inl v) w1) (hlen : (mSpread as).length ≤ mMl k) :
    Met l (mNm k) (mWs k) (mRm d (mSz w1 - mSz w) (mSl w1 - mSl w)) (mPc s0 D aC av ex sio dg as w) (mQc s0 D aC av ex v w1) (mSz w1 - mSz w) (mSl w1 - mSl w) (mA s0) := by
  by_cases h168 : k = 168
  · refine va_MetW (by rw [h168]; decide) (mWs_act h168) ?_
    intro p e s m args below meth c s₁ B hml hP
    refine mBody hav h0 hdg hk hrun hlen B hml ⟨fun h => by omega, fun _ => ?_⟩ hP
    have h9 := atoms_spec B.pre (.codeWith (mNm k) (mCd k) (mMl k) (mRt k) [(63, 95, 96, 204), (124, 160, 161, 204)]) (by rw [mWs_act h168]; exact List.mem_cons_self)
    exact vx_table (x := mNm k) B h9
  · refine mOfW (mPlain k hk).1 (mWs_ne h168) ?_
    intro p e s m args below meth c s₁ B hml ht hP
    exact mBody hav h0 hdg hk hrun hlen B hml ⟨fun _ => ht, fun h => absurd h h168⟩ hP
/-- a method's contract, where its run throws -/
theorem mMetX (hav : mAv av s0 ex) (h0 : av 0 = sio) (hdg : dg = (ex 2, ex 3)) {d k : Nat} (hk : k < mInf.length) (h168 : ¬ k = 168) {as : List Value} {w : MW} {E : Nat} {w1 : MW} (hrun : mGoes l s0 D aC av ex sio dg d k 0 (mEnt (mMl k) as) [] w (.inr E) w1) (hlen : (mSpread as).length ≤ mMl k) :
    vx_Met l (mNm k) (mWs k) (mRm d (mSz w1 - mSz w) (mSl w1 - mSl w)) (mPc s0 D aC av ex sio dg as w) (fun _ _ _ _ => False) (mXC s0 D aC av ex w1) (mSz w1 - mSz w) (mSl w1 - mSl w) (mA s0) := by
  refine mOfWX (mPlain k hk).1 (mWs_ne h168) ?_
  intro p e s m args below meth c s₁ B hml ht hP
  exact mBody hav h0 hdg hk hrun hlen B hml ⟨fun _ => ht, fun h => absurd h h168⟩ hP
theorem mNw_tab {w : Cond} (h : w ∈ nwl) : w.onTables = true := by
  have h1 := List.all_eq_true.mp mNwK_all w h
  simp only [Bool.and_eq_true] at h1
  exact h1.2
/-- the throw of hint and of skip -/
theorem m_throw (hlt : l.stackTraces = false) (hro : mRowsOk) {p : Program} {e : Env} {R : Room} {s : State} {m : MethodId} {args : Array Value} {below : List Frame} {meth : Method} {c : Code} {w : MW} {k : Nat} (hk : k = 107 ∨ k = 108) (C : mCtx p s m args meth c R s0 D aC av ex sio dg k) (ht : mTabs k c) (hlk : meth.locks = false) (hs0 : s0.heap.size ≤ s.heap.size) (hRm : mFR 0 ≤ R.frames ∧ mLR 0 ≤ R.locals)
    {z0 y0 : Nat} (hz : z0 ≤ mSz w) (hy : y0 ≤ mSl w) (hzR : mSz (wN w 61 0 6) - z0 ≤ R.cells) (hyR : mSl (wN w 61 0 6) - y0 ≤ R.slots) {i : Nat} {ax : List Nat} (hf : mFetch k 11 = some (.new i, 3, ax)) (h101 : ax.getD 0 0 = 101) (hT : mTop w) {L : List Value} :
    mG p l e R s m args below meth c (mEndQ s0 D aC av ex below args s (mSz (wN w 61 0 6) - z0) (mSl (wN w 61 0 6) - y0) (.inr 1) (wN w 61 0 6)) s0 D aC av ex z0 y0 (mMl k) 11 L [] w := by
  intro H locs ls hR hS hls
  obtain ⟨hx, hb, hts, hKX, hown, hav, hml, hkl, -⟩ := C
  obtain ⟨hd, hc⟩ := mFetch_ok hro hkl hf
  obtain ⟨hal, hnw, hst, -, -, -, -, -, -, -, hU, hN⟩ := hKX.1
  have q1 : mSz (wN w 61 0 6) = mSz w + 1 := rfl
  have q2 : mSl (wN w 61 0 6) = mSl w + 6 := rfl
  have hsame : ∀ q : Nat, q < s0.heap.size → s.heap[q]? = s0.heap[q]? := fun q hq => by
    rw [← hR.2.2.1 q hq]
    exact (hS.2.1 q (by omega) (by show ¬ s0.heap.size ≤ q; omega)).symm
  have hU' : vx_Zq Bundle.tN "UNASSIGNED_STACK" Bundle.steD (mA s0) s s.heap := vx_Zq.moved hal (hU.kept fun q hq _ => hsame q hq)
  have hN' : vx_Zq Bundle.tN "SUPPRESSED_SENTINEL" Bundle.listD (mA s0) s s.heap := vx_Zq.moved hal (hN.kept fun q hq _ => hsame q hq)
  have hX : ∀ t : State, s.vm.Alike t.vm → t.heap.size = H.size + 1 → (∀ q : Nat, q < H.size → t.heap[q]? = H[q]?) → mXC s0 D aC av ex (wN w 61 0 6) "java/lang/IllegalStateException" s t := by
    intro t _ e1 e2
    refine ⟨rfl, ?_, ?_⟩
    · refine mRep.push (w := w) hR q1 (fun q hq => ?_) e1 e2 ?_
      · have hq' : ¬ q = w.1 := hq
        refine ⟨?_, ?_, ?_, ?_⟩
        · show (if q = w.1 then _ else _) = _; rw [if_neg hq']
        · show (if q = w.1 then _ else _) = _; rw [if_neg hq']
        · funext b; show (if q = w.1 then _ else _) = _; rw [if_neg hq']
        · funext b; show (if q = w.1 then _ else _) = _; rw [if_neg hq']
      · have e9 : mTg (wN w 61 0 6) (mSz w) = 61 := if_pos rfl
        unfold mFact
        rw [e9]
        refine ⟨fun h => ?_, fun h => ?_, fun h => ?_, fun h => ?_⟩ <;> omega
    · exact ⟨by rw [e1]; have := hS.1; omega, fun q h1 h2 => by rw [e2 q (by have := hS.1; omega)]; exact hS.2.1 q h1 h2⟩
  have key : ∀ (own text : String) (names : List String) (ik is ic sa : Nat), mOwn k = own → i = ik → names = ["java/lang/RuntimeException", "java/lang/Exception"] → Bundle.fit "java/lang/IllegalStateException" = true → (∀ n ∈ names, Bundle.fit n = true) → Cond.classLink own ik "java/lang/IllegalStateException" ∈ gwl → Cond.initialized "java/lang/IllegalStateException" ∈ gwl →
      (∃ r ∈ sTab, r.1 = own ∧ r.2.1 = is ∧ r.2.2.1 = text ∧ ex r.2.2.2 = sa) → (∀ w9 ∈ (vx_atS own ic "java/lang/IllegalStateException" names).filter goodWord, w9 ∈ gwl) → (∀ w9 ∈ (vx_atS own ic "java/lang/IllegalStateException" names).filter (fun w9 => !goodWord w9), w9 ∈ nwl) →
      (∀ w9 ∈ Cond.classLink own ik "java/lang/IllegalStateException" :: Cond.initialized "java/lang/IllegalStateException" :: vx_atS own ic "java/lang/IllegalStateException" names, vx_ot w9 = true) →
      decode (mCd k) (11 + 3) = .ok (.dup, 1) → decode (mCd k) (11 + 4) = .ok (.ldc is, 2) → decode (mCd k) (11 + 6) = .ok (.invokespecial ic, 3) → decode (mCd k) (11 + 9) = .ok (.athrow, 1) →
      W p l e R s m args below meth c H locs (mSz w - z0) (mSl w - y0) (mEndQ s0 D aC av ex below args s (mSz (wN w 61 0 6) - z0) (mSl (wN w 61 0 6) - y0) (.inr 1) (wN w 61 0 6)) (F0 m 11 ls []) := by
    intro own text names ik is ic sa ho hi hnm hf1 hf2 hw1 hw2 hstr hg hng hot d3 d4 d6 d9
    subst hi
    have hn2 : names.length = 2 := by rw [hnm]; rfl
    obtain ⟨r, hr, rfl, rfl, rfl, rfl⟩ := hstr
    have r1 := hRm.1
    have r2 := hRm.2
    unfold mFR at r1
    unfold mLR at r2
    have k168 : ¬ k = 168 := by omega
    refine m_throwS0 (cc := mCd k) (own := r.1) (cls := "java/lang/IllegalStateException") (text := r.2.2.1) (names := names) (ik := i) (is := r.2.1) (ic := ic) (A := mA s0) hx hb hlt (by rw [← ho]; exact hown) hf1 hf2 (hts _ hw1) (hts _ hw2) (hst r hr) (vx_hat (B := nwl) (fun w9 h9 => hts _ (hg w9 h9)) hng (fun w9 h9 => va_Nw.use (mNw_tab h9) (hnw w9 h9))) hot hU' hN' hS ?_ hd d3 d4 d6 d9 (fun x h => absurd (ht.1 hk x h) id) ?_ ?_ (by omega) (by omega) hlk hX hS.2.2 (by omega) (by omega)
    · rw [hml]; exact hls.1
    · rw [hn2]; omega
    · rw [hn2]; simp only [List.map_nil, List.sum_nil]; omega
  have inG : ∀ w9 : Cond, (decide (w9 ∈ lw_tbl) && goodWord w9) = true → w9 ∈ gwl := fun w9 h => by
    simp only [Bool.and_eq_true, decide_eq_true_eq] at h
    exact gw_in (List.mem_append_right _ h.1) h.2
  have inGs : ∀ ws : List Cond, (ws.all fun w9 => decide (w9 ∈ lw_tbl) && goodWord w9) = true → ∀ w9 ∈ ws, w9 ∈ gwl := fun ws h w9 h9 => inG w9 (List.all_eq_true.mp h w9 h9)
  have inNs : ∀ ws : List Cond, (ws.all fun w9 => decide (w9 ∈ nwl)) = true → ∀ w9 ∈ ws, w9 ∈ nwl := fun ws h w9 h9 => of_decide_eq_true (List.all_eq_true.mp h w9 h9)
  have inOs : ∀ ws : List Cond, (ws.all fun w9 => vx_ot w9) = true → ∀ w9 ∈ ws, vx_ot w9 = true := fun ws h w9 h9 => List.all_eq_true.mp h w9 h9
  have hfi : ∀ k', k = k' → (mFetch k' 11 = some (.new 76, 3, [101, 993])) → i = 76 := by
    intro k' e1 e2
    subst e1
    rw [hf] at e2
    cases e2
    rfl
  rcases hk with rfl | rfl
  · exact key "BeeTurnpike" "nobody on turn can take a hint" ["java/lang/RuntimeException", "java/lang/Exception"] 76 179 80 (ex 162) (by decide +kernel) (hfi 107 rfl (by decide +kernel)) rfl (by decide +kernel) (by decide +kernel) (inG _ (by decide +kernel)) (inG _ (by decide +kernel)) ⟨_, (by decide +kernel : ("BeeTurnpike", 179, "nobody on turn can take a hint", 162) ∈ sTab), rfl, rfl, rfl, rfl⟩ (inGs _ (by decide +kernel)) (inNs _ (by decide +kernel)) (inOs _ (by decide +kernel)) (by decide +kernel) (by decide +kernel) (by decide +kernel) (by decide +kernel)
  · exact key "BeeTurnpike" "nobody on turn can pass the word on" ["java/lang/RuntimeException", "java/lang/Exception"] 76 190 80 (ex 164) (by decide +kernel) (hfi 108 rfl (by decide +kernel)) rfl (by decide +kernel) (by decide +kernel) (inG _ (by decide +kernel)) (inG _ (by decide +kernel)) ⟨_, (by decide +kernel : ("BeeTurnpike", 190, "nobody on turn can pass the word on", 164) ∈ sTab), rfl, rfl, rfl, rfl⟩ (inGs _ (by decide +kernel)) (inNs _ (by decide +kernel)) (inOs _ (by decide +kernel)) (by decide +kernel) (by decide +kernel) (by decide +kernel) (by decide +kernel)
end MRUN
