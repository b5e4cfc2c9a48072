/-! ===== A RUN OF THE SMALL MACHINE IS A RUN OF THE MACHINE ===== -/
theorem mAsk_pos {ins : Instr} {ax : List Nat} (h : mAsk ins ax = 1) : (∃ i, ins = .invokestatic i) ∨ (∃ i, ins = .invokevirtual i) ∨ ∃ i, ins = .invokespecial i := by
  cases ins <;> first | (simp [mAsk] at h; done) | exact Or.inl ⟨_, rfl⟩ | exact Or.inr (Or.inl ⟨_, rfl⟩) | exact Or.inr (Or.inr ⟨_, rfl⟩) | (simp only [mAsk] at h; split at h <;> cases h)
theorem mSpread_len (as : List Value) (n : Nat) (h : (mSpread as).length ≤ n) : (mEnt n as).length = n := by
  unfold mEnt
  rw [List.length_append, List.length_replicate]
  omega
theorem mexec_mono : ∀ (n d k pc : Nat) (L st : List Value) (w : MW) (r : MRes) (w' : MW), mexec n d k pc L st w = some (r, w') → mTop w → mTop w' ∧ mSz w ≤ mSz w' ∧ mSl w ≤ mSl w'
  | 0, d, k, pc, L, st, w, r, w', h, _ => by simp [mexec] at h
  | n + 1, d, k, pc, L, st, w, r, w', h, hT => by
    rw [mexec] at h
    split at h
    · cases h
    · rename_i ins len ax hf
      split at h
      · split at h
        · cases h
        · rename_i hs
          obtain ⟨a1, a2, a3, -⟩ := mStep_top hs hT
          obtain ⟨b1, b2, b3⟩ := mexec_mono n _ _ _ _ _ _ _ _ h a1
          exact ⟨b1, Nat.le_trans a2 b2, Nat.le_trans a3 b3⟩
      · split at h
        · cases h
        · dsimp only at h
          split at h
          · split at h
            · cases h
            · rename_i he
              obtain ⟨a1, a2, a3⟩ := mexec_mono n _ _ _ _ _ _ _ _ he hT
              obtain ⟨b1, b2, b3⟩ := mexec_mono n _ _ _ _ _ _ _ _ h a1
              exact ⟨b1, Nat.le_trans a2 b2, Nat.le_trans a3 b3⟩
            · rename_i he
              obtain ⟨a1, a2, a3⟩ := mexec_mono n _ _ _ _ _ _ _ _ he hT
              split at h
              · cases h
              · split at h
                · obtain ⟨b1, b2, b3⟩ := mexec_mono n _ _ _ _ _ _ _ _ h a1
                  exact ⟨b1, Nat.le_trans a2 b2, Nat.le_trans a3 b3⟩
                · cases h
          · cases h
      · split at h
        · cases h
        · cases h
          exact ⟨hT, Nat.le_refl _, Nat.le_refl _⟩
      · split at h
        · cases h
          exact ⟨mTop_wN hT, Nat.le_succ _, Nat.le_add_right _ _⟩
        · cases h
def mNwK (w : Cond) : Bool := match w with
  | .fieldLinkNest .. => true
  | .methodLinkNest .. => true
  | .castable .. => true
  | .declares _ => true
  | _ => false
theorem mNwK_all : nwl.all (fun w => mNwK w && w.onTables) = true := by decide +kernel
theorem mNw_warm {w : Cond} (h : w ∈ nwl) {s U : State} (hW : s.WarmedH U.vm) (hZ : va_Nw w s) : va_Nw w U := by
  have h1 := List.all_eq_true.mp mNwK_all w h
  simp only [Bool.and_eq_true] at h1
  cases w <;> first | exact va_Nw.warmF hW hZ | exact va_Nw.warmM hW hZ | exact va_Nw.warmC hW hZ | exact va_Nw.warmD hW hZ | exact absurd h1.1 (by simp [mNwK])
theorem mNw_same {w : Cond} (h : w ∈ nwl) {s U : State} (hv : s.vm = U.vm) (hZ : va_Nw w s) : va_Nw w U := by
  have h1 := List.all_eq_true.mp mNwK_all w h
  simp only [Bool.and_eq_true] at h1
  exact va_Nw.same h1.2 hv hZ
section MSIM
variable {s0 : State} {D : va_G} {aC : Nat → ClassId} {av : Nat → Value} {ex : Nat → Nat} {sio : Value} {dg : Nat × Nat} {l : Launch}
theorem mKX.warm {s U : State} (hW : s.WarmedH U.vm) (h : mKX s0 D aC sio dg ex s) : mKX s0 D aC sio dg ex U := by
  obtain ⟨⟨a1, a2, a3, a4⟩, b1, b2, b3⟩ := h
  exact ⟨⟨a1.trans hW.alike, fun w hw => mNw_warm hw hW (a2 w hw), fun r hr => (a3 r hr).warm hW, a4⟩, b1.moved hW.alike, b2.moved hW.alike, b3.moved hW.alike⟩
theorem mKX.same {s U : State} (hv : s.vm = U.vm) (h : mKX s0 D aC sio dg ex s) : mKX s0 D aC sio dg ex U := by
  obtain ⟨⟨a1, a2, a3, a4⟩, b1, b2, b3⟩ := h
  have hal : s.vm.Alike U.vm := by rw [hv]; exact Vm.Alike.refl _
  exact ⟨⟨a1.trans hal, fun w hw => mNw_same hw hv (a2 w hw), fun r hr => (a3 r hr).same hv.symm, a4⟩, b1.moved hal, b2.moved hal, b3.moved hal⟩
def mFR (d : Nat) : Nat := d + 12
def mLR (d : Nat) : Nat := 60 * d + 250
def mRm (d mc ms : Nat) : Room := { frames := mFR d, cells := mc, slots := ms, locals := mLR d }
def mWs (k : Nat) : List Cond := mCodeW k :: gwl
def mPc (s0 : State) (D : va_G) (aC : Nat → ClassId) (av : Nat → Value) (ex : Nat → Nat) (sio : Value) (dg : Nat × Nat) (as : List Value) (w : MW) : Array Value → State → Prop := fun v U => v = (as.map (lf av)).toArray ∧ mKX s0 D aC sio dg ex U ∧ mRep s0 D aC av ex w U.heap
def mQc (s0 : State) (D : va_G) (aC : Nat → ClassId) (av : Nat → Value) (ex : Nat → Nat) (v : Option Value) (w : MW) : Array Value → State → Outcome → State → Prop := fun _ st o t => o = .returned (v.map (lf av)) ∧ mRep s0 D aC av ex w t.heap ∧ va_F (mA s0) st t
def mXC (s0 : State) (D : va_G) (aC : Nat → ClassId) (av : Nat → Value) (ex : Nat → Nat) (w : MW) : String → State → State → Prop := fun X st t => X = "java/lang/IllegalStateException" ∧ mRep s0 D aC av ex w t.heap ∧ va_F (mA s0) st t
theorem mPc_blind (as : List Value) (w : MW) : FrameBlind (mPc s0 D aC av ex sio dg as w) := fun a U g mk h => ⟨h.1, mKX.same (s := U) (U := U.calling g mk a) rfl h.2.1, h.2.2⟩
theorem gw_good {ws : List Cond} (h : ∀ w ∈ ws, w ∈ gwl) : GoodIn gwl ws := fun w hw => ⟨h w hw, good_of_word (List.mem_filter.mp (h w hw)).2⟩
section
variable {p : Program} {e : Env} {R : Room} {s : State} {m : MethodId} {args : Array Value} {below : List Frame} {meth : Method} {c : Code} {H : Heap} {locs : List Loc} {cells slots : Nat} {Q : State → Prop} {w : MW}
/-- behind a call that returned -/
theorem m_call {v : Option Value} {w1 : MW} {a : Array Value} {mc ms pc : Nat} {ls : Array Slot} {st0 rest : List Value} (hr : va_Run p l e R s m args below meth c H locs cells slots mc ms (F0 m pc ls st0) rest (mQc s0 D aC av ex v w1 a) (mA s0)) (hS : va_S (mA s0) s.heap H locs)
    (kk : ∀ (H1 : Heap) (locs1 : List Loc), mRep s0 D aC av ex w1 H1 → va_S (mA s0) s.heap H1 locs1 → W p l e R s m args below meth c H1 locs1 (cells + mc) (slots + ms) Q (F0 m (pc + 3) ls ((v.map (lf av)).toList ++ rest))) : W p l e R s m args below meth c H locs cells slots Q (F0 m pc ls st0) := by
  intro T hT X
  obtain ⟨v', st₀, t, T', L, h0, X', hL, e1, e2, ⟨hv, hrep, hF⟩, st⟩ := hr T hT X
  cases hv
  obtain ⟨-, -, k3⟩ := vx_keep h0 e1 hS (fun q _ h => h) (fun q h => h) hL hF
  obtain ⟨t2, a1, b1⟩ := kk T'.heap (locs ++ L) (by rw [e1]; exact hrep) k3 T' rfl X'
  exact ⟨t2, st t2 a1, b1⟩
/-- a receiver -/
theorem m_recv (hk : mKN s0 D aC nwl sTab sio dg ex s) (hR : mRep s0 D aC av ex w H) (hav : mAv av s0 ex) {a ci : Nat} (ho : mOkc ci) (hci : ci < 13) (h0 : 0 < mNf ci) (hc : a < mSz w) (ht : mTg w a = ci) : ∃ cell : Cell, H[mAd s0.heap.size ex a]? = some cell ∧ cell.vm.isStatics = false ∧ s.vm.findClass (mC ci).1 = some cell.cls := by
  obtain ⟨hf, -⟩ := (m_slot hk ho h0).2
  rcases Nat.lt_or_ge a mE with h | h
  · obtain ⟨e11, cell, q1, q2, q3, -⟩ := (hR.2.2.2.1 a h).1 (by omega)
    refine ⟨cell, ?_, q3, ?_⟩
    · rw [mAd_old h, hR.2.2.1 _ (Array.getElem?_eq_some_iff.mp q1).1]; exact q1
    · rw [hf, q2, ← ht, e11]
  · obtain ⟨cell, q1, q2, q3, -⟩ := (hR.2.2.2.2 a h hc).1 (by omega)
    exact ⟨cell, by rw [mAd_new h]; exact q1, by rw [q3]; rfl, by rw [hf, q2, ht]⟩
end
/-- what a callee's check says -/
theorem mCallee_ok {c9 : Nat} (h : mCallee c9 = true) : c9 < mInf.length ∧ mCodeW c9 ∈ gwl ∧ Cond.initialized (mOwn c9) ∈ gwl ∧ ((mNm c9).cls ≠ "java/lang/invoke/MethodHandle" ∧ (mNm c9).cls ≠ "java/lang/invoke/VarHandle") ∧ mMl c9 ≤ 40 := by
  unfold mCallee mInitd mNoH at h
  simp only [Bool.and_eq_true, decide_eq_true_eq] at h
  obtain ⟨⟨⟨⟨h1, h2⟩, h3⟩, h4⟩, h5⟩ := h
  exact ⟨h1, mWd_gw h2, gw_in (List.mem_of_mem_take h3) rfl, h4, h5⟩
theorem mCodeW_ne {c9 : Nat} (h : ¬ c9 = 168) : mCodeW c9 = .code (mNm c9) (mCd c9) (mMl c9) (mRt c9) := if_neg h
theorem mWs_ne {c9 : Nat} (h : ¬ c9 = 168) : mWs c9 = Cond.code (mNm c9) (mCd c9) (mMl c9) (mRt c9) :: gwl := by unfold mWs; rw [mCodeW_ne h]
theorem mWs_ne0 {c9 : Nat} (h : ¬ c9 = 168) (h2 : mRt c9 = none) : mWs c9 = Cond.code (mNm c9) (mCd c9) (mMl c9) none :: gwl := by rw [mWs_ne h, h2]
theorem mWs_act {c9 : Nat} (h : c9 = 168) : mWs c9 = Cond.codeWith (mNm c9) (mCd c9) (mMl c9) (mRt c9) [(63, 95, 96, 204), (124, 160, 161, 204)] :: gwl := by unfold mWs mCodeW; rw [if_pos h]
theorem mWs_in {c9 : Nat} (h : mCodeW c9 ∈ gwl) : ∀ w ∈ mWs c9, w ∈ gwl := fun w hw => (List.mem_cons.mp hw).elim (fun e => by rw [e]; exact h) (fun h => h)
section
variable {p : Program} {e : Env} {R : Room} {s : State} {m : MethodId} {args : Array Value} {below : List Frame} {meth : Method} {c : Code} {H : Heap} {locs : List Loc} {cells slots : Nat} {Q : State → Prop} {w : MW}
theorem m_nf0 (ci : Nat) (h : ci < 13) : 0 < mNf ci := by
  have h1 : ∀ ci, ci < 13 → 0 < mNf ci := by decide +kernel
  exact h1 ci h
/-- a call, of whatever kind: the callee's contract gives the caller's step -/
theorem m_invoke (hoc : ∀ ci, ci < 13 → mOkc ci) (hro : mRowsOk) {k : Nat} (C : mCtx p s m args meth c R s0 D aC av ex sio dg k) {ins : Instr} {len pc : Nat} {ax : List Nat} {st : List Value} (hf : mFetch k pc = some (ins, len, ax)) (hak : mAsk ins ax = 1) (hT : mTop w) (hR : mRep s0 D aC av ex w H) {d : Nat} (hRm : mFR (d + 1) ≤ R.frames ∧ mLR (d + 1) ≤ R.locals)
    (h4 : mCat (st.drop (ax.getD 1 0)) ≤ 8) (hna : ax.getD 1 0 ≤ st.length) (hrc : mRcv (ax.getD 2 0) (ax.getD 3 0) (st.take (ax.getD 1 0)).reverse w = true) {v : Option Value} {w1 : MW}
    (hM : Met l (mNm (ax.getD 0 0)) (mWs (ax.getD 0 0)) (mRm d (mSz w1 - mSz w) (mSl w1 - mSl w)) (mPc s0 D aC av ex sio dg (st.take (ax.getD 1 0)).reverse w) (mQc s0 D aC av ex v w1) (mSz w1 - mSz w) (mSl w1 - mSl w) (mA s0)) {ls : Array Slot} (hls : ls.size = mMl k)
    (hfit : cells + (mSz w1 - mSz w) ≤ R.cells ∧ slots + (mSl w1 - mSl w) ≤ R.slots) :
    len = 3 ∧ ∃ a : Array Value, va_Run p l e R s m args below meth c H locs cells slots (mSz w1 - mSz w) (mSl w1 - mSl w) (F0 m pc ls (st.map (lf av))) ((st.drop (ax.getD 1 0)).map (lf av)) (mQc s0 D aC av ex v w1 a) (mA s0) := by
  obtain ⟨hx, hb, hts, hKX, hown, hav, hml, hkl, hmn, hsio, hdg, -⟩ := C
  obtain ⟨hd, hc⟩ := mFetch_ok hro hkl hf
  have r0 : mTg w 0 = 60 := (hR.2.2.2.1 0 (by decide)).2.2.2.2 rfl
  have SF : CallFix p m c (mCd k) (mMl k) s args gwl (mOwn k) := ⟨hx, hb, hml, hown, hts⟩
  have hroom : 2 * (F0 m pc ls (st.map (lf av))).monitorRoom + (((st.drop (ax.getD 1 0)).map (lf av)).map fun v => v.category).sum ≤ 8 := by
    have := m_cat_eq hav (st.drop (ax.getD 1 0))
    show 2 * 0 + _ ≤ 8
    omega
  have hRoom : ∀ c9, mMl c9 ≤ 40 → (mRm d (mSz w1 - mSz w) (mSl w1 - mSl w)).frames + 1 ≤ R.frames ∧ 8 + (mMl c9 + 11) + (mRm d (mSz w1 - mSz w) (mSl w1 - mSl w)).locals ≤ R.locals := by
    intro c9 h9
    have a1 := hRm.1
    have a2 := hRm.2
    unfold mFR at a1
    unfold mLR at a2
    show d + 12 + 1 ≤ R.frames ∧ 8 + (mMl c9 + 11) + (60 * d + 250) ≤ R.locals
    omega
  generalize hasE : (st.take (ax.getD 1 0)).reverse = as at hM hrc
  have hst : st.map (lf av) = (as.map (lf av)).reverse ++ (st.drop (ax.getD 1 0)).map (lf av) := by
    rw [← hasE, ← List.map_reverse, List.reverse_reverse, ← List.map_append, List.take_append_drop]
  have hlen : as.length = ax.getD 1 0 := by rw [← hasE, List.length_reverse, List.length_take]; omega
  have hPre : ∀ U : State, U.heap = H → s.WarmedH U.vm → mPc s0 D aC av ex sio dg as w (as.map (lf av)).toArray U := fun U hU hW => ⟨rfl, hKX.warm hW, by rw [hU]; exact hR⟩
  have hDef : (F0 m pc ls (st.map (lf av))).stack = (as.map (lf av)).reverse ++ (st.drop (ax.getD 1 0)).map (lf av) := hst
  have hrecv : 2 ≤ ax.getD 2 0 → ∃ (a : Nat) (as' : List Value), as = .ref a :: as' ∧ (ax.getD 2 0 = 5 ∨ ax.getD 2 0 = 6 → mE ≤ a) ∧ (¬ (ax.getD 2 0 = 5 ∨ ax.getD 2 0 = 6) → mTg w a = ax.getD 3 0) := by
    intro h2
    unfold mRcv at hrc
    rw [if_neg (by omega)] at hrc
    split at hrc
    · rename_i a r
      refine ⟨a, r, rfl, fun h => ?_, fun h => ?_⟩
      · rw [if_pos h] at hrc; exact of_decide_eq_true hrc
      · rw [if_neg h] at hrc; exact of_decide_eq_true hrc
    · cases hrc
  have hcons : ∀ (a : Nat) (as' : List Value) (b : Nat), as = .ref a :: as' → av a = .ref b → as'.length + 1 = ax.getD 1 0 ∧ (F0 m pc ls (st.map (lf av))).stack = (as'.map (lf av)).reverse ++ .ref b :: (st.drop (ax.getD 1 0)).map (lf av) ∧ (as.map (lf av)).toArray = (Value.ref b :: as'.map (lf av)).toArray := by
    intro a as' b e1 e2
    have e3 : lf av (.ref a) = .ref b := e2
    refine ⟨by rw [← hlen, e1]; rfl, ?_, by rw [e1, List.map_cons, e3]⟩
    rw [hDef, e1, List.map_cons, e3, List.reverse_cons, List.append_assoc]
    rfl
  have key : ∀ i, mCall k i ax = true → (ins = .invokestatic i ∧ ax.getD 2 0 < 2 ∨ ins = .invokevirtual i ∧ 2 ≤ ax.getD 2 0 ∧ ax.getD 2 0 < 5 ∨ ins = .invokespecial i ∧ 5 ≤ ax.getD 2 0) → len = 3 → ∃ a : Array Value, va_Run p l e R s m args below meth c H locs cells slots (mSz w1 - mSz w) (mSl w1 - mSl w) (F0 m pc ls (st.map (lf av))) ((st.drop (ax.getD 1 0)).map (lf av)) (mQc s0 D aC av ex v w1 a) (mA s0) := by
    intro i hmc hkind e3
    subst e3
    unfold mCall at hmc
    split at hmc
    · rename_i c9 na ci0 z z2
      simp only [Bool.and_eq_true] at hmc
      obtain ⟨⟨⟨h1, h2⟩, h3⟩, h5⟩ := hmc
      obtain ⟨g1, g2, g3, g4, g5⟩ := mCallee_ok h1
      have hins : ins = .invokestatic i := by
        rcases hkind with q | q | q
        · exact q.1
        · exact absurd q.2.1 (by show ¬ 2 ≤ 0; omega)
        · exact absurd q.2 (by show ¬ 5 ≤ 0; omega)
      subst hins
      have hG : GoodIn gwl (va_wsS (mOwn k) i (mNm c9) (mWs c9)) := gw_good (fun x hx => by
        rcases List.mem_append.mp hx with q | q
        · simp only [List.mem_cons, List.not_mem_nil, or_false] at q
          rcases q with q | q | q <;> subst q
          · exact mWd_gw h2
          · exact mWd_gw h3
          · exact g3
        · exact mWs_in g2 x q)
      by_cases hact : c9 = 168
      · exact ⟨_, vx_runSW SF hM (vx_cwSW (hh := [(63, 95, 96, 204), (124, 160, 161, 204)]) na hts hG (mWs_act hact) rfl rfl ⟨g4.1, g4.2, of_decide_eq_true h5⟩ (hRoom c9 g5)) ⟨mPc_blind _ _, hPre⟩ rfl (by rw [List.length_map, hlen]; rfl) hls hDef hroom hd hfit⟩
      · exact ⟨_, va_runS SF hM (va_cwS na hts hG (mWs_ne hact) rfl rfl ⟨g4.1, g4.2, of_decide_eq_true h5⟩ (hRoom c9 g5)) ⟨mPc_blind _ _, hPre⟩ rfl (by rw [List.length_map, hlen]; rfl) hls hDef hroom hd hfit⟩
    · rename_i c9 na ci0 z z2
      simp only [Bool.and_eq_true, bne_iff_ne, decide_eq_true_eq] at hmc
      obtain ⟨⟨⟨⟨h1, hact⟩, h2⟩, h3⟩, h5⟩ := hmc
      obtain ⟨g1, g2, g3, g4, g5⟩ := mCallee_ok h1
      have hins : ins = .invokestatic i := by
        rcases hkind with q | q | q
        · exact q.1
        · exact absurd q.2.1 (by show ¬ 2 ≤ 1; omega)
        · exact absurd q.2 (by show ¬ 5 ≤ 1; omega)
      subst hins
      have hG : GoodIn gwl (mWs c9) := gw_good (mWs_in g2)
      rcases h2 with h2 | h2
      · exact ⟨_, va_runSN SF hM ⟨va_cnB na hts hG (mWs_ne hact) rfl rfl (hKX.1.2.1 _ (List.mem_of_getElem? h2)) (hts _ g3) ⟨g4.1, g4.2, of_decide_eq_true h5⟩ (hRoom c9 g5), hts _ (mWd_gw h3), trivial⟩ ⟨mPc_blind _ _, hPre⟩ rfl (by rw [List.length_map, hlen]; rfl) hls hDef hroom hd hfit⟩
      · exact ⟨_, va_runSN SF hM ⟨va_cnB na hts hG (mWs_ne hact) rfl rfl (hKX.1.2.1 _ (List.mem_of_getElem? h2)) (hts _ g3) ⟨g4.1, g4.2, of_decide_eq_true h5⟩ (hRoom c9 g5), hts _ (mWd_gw h3), trivial⟩ ⟨mPc_blind _ _, hPre⟩ rfl (by rw [List.length_map, hlen]; rfl) hls hDef hroom hd hfit⟩
    · rename_i c9 na ci z z2 z3
      simp only [Bool.and_eq_true, bne_iff_ne, decide_eq_true_eq] at hmc
      obtain ⟨⟨⟨⟨⟨⟨⟨⟨h1, hact⟩, h2⟩, h3⟩, h6⟩, h5⟩, h7⟩, h8⟩, h9⟩ := hmc
      obtain ⟨g1, g2, g3, g4, g5⟩ := mCallee_ok h1
      have hins : ins = .invokevirtual i := by
        rcases hkind with q | q | q
        · exact absurd q.2 (by show ¬ 2 < 2; omega)
        · exact q.1
        · exact absurd q.2 (by show ¬ 5 ≤ 2; omega)
      subst hins
      obtain ⟨a, as', has, -, htg⟩ := hrecv (by show 2 ≤ 2; omega)
      have htg : mTg w a = ci := htg (by show ¬ (2 = 5 ∨ 2 = 6); omega)
      have ea : av a = .ref (mAd s0.heap.size ex a) := hav.1 a (fun q => by rw [q] at htg; omega)
      obtain ⟨k1, k2, k3⟩ := hcons a as' _ has ea
      have k1 : as'.length + 1 = na := k1
      have hrv := m_recv hKX.1 hR hav (hoc ci h8) h8 (m_nf0 ci h8) (hT.lt (by omega)) htg
      rw [h9] at hrv
      have hG : GoodIn gwl (wsV (mOwn k) i (mOwn c9) (mNm c9) (mWs c9)) := gw_good (fun x hx => by
        rcases List.mem_append.mp hx with q | q
        · simp only [List.mem_cons, List.not_mem_nil, or_false] at q
          rcases q with q | q | q | q <;> subst q
          · exact mWd_gw h2
          · exact mWd_gw h3
          · exact mWd_gw h6
          · exact g3
        · exact mWs_in g2 x q)
      rw [k3] at hPre
      exact ⟨_, va_runV SF hM (cwV (na - 1) hts hG (mWs_ne hact) rfl rfl ⟨rfl, g4.1, g4.2, of_decide_eq_true h5⟩ (hRoom c9 g5)) ⟨mPc_blind _ _, hrv, hPre⟩ rfl (by rw [List.length_map]; omega) hls k2 hroom hd hfit⟩
    · rename_i c9 na ci z z2 z3
      simp only [Bool.and_eq_true, bne_iff_ne, decide_eq_true_eq] at hmc
      obtain ⟨⟨⟨⟨⟨⟨⟨⟨h1, hact⟩, h2⟩, h3⟩, h6⟩, h5⟩, h7⟩, h8⟩, h9⟩ := hmc
      obtain ⟨g1, g2, g3, g4, g5⟩ := mCallee_ok h1
      have hins : ins = .invokevirtual i := by
        rcases hkind with q | q | q
        · exact absurd q.2 (by show ¬ 3 < 2; omega)
        · exact q.1
        · exact absurd q.2 (by show ¬ 5 ≤ 3; omega)
      subst hins
      obtain ⟨a, as', has, -, htg⟩ := hrecv (by show 2 ≤ 3; omega)
      have htg : mTg w a = ci := htg (by show ¬ (3 = 5 ∨ 3 = 6); omega)
      have ea : av a = .ref (mAd s0.heap.size ex a) := hav.1 a (fun q => by rw [q] at htg; omega)
      obtain ⟨k1, k2, k3⟩ := hcons a as' _ has ea
      have k1 : as'.length + 1 = na := k1
      have hrv := m_recv hKX.1 hR hav (hoc ci h8) h8 (m_nf0 ci h8) (hT.lt (by omega)) htg
      rw [h9] at hrv
      have hG : GoodIn gwl (mWs c9) := gw_good (mWs_in g2)
      rw [k3] at hPre
      rcases h2 with h2 | h2
      · exact ⟨_, va_runVN SF hM ⟨va_cnB (na - 1) hts hG (mWs_ne hact) rfl rfl (hKX.1.2.1 _ (List.mem_of_getElem? h2)) (hts _ g3) ⟨g4.1, g4.2, of_decide_eq_true h5⟩ (hRoom c9 g5), hts _ (mWd_gw h3), hts _ (mWd_gw h6)⟩ ⟨mPc_blind _ _, hrv, hPre⟩ rfl (by rw [List.length_map]; omega) hls k2 hroom hd hfit⟩
      · exact ⟨_, va_runVN SF hM ⟨va_cnB (na - 1) hts hG (mWs_ne hact) rfl rfl (hKX.1.2.1 _ (List.mem_of_getElem? h2)) (hts _ g3) ⟨g4.1, g4.2, of_decide_eq_true h5⟩ (hRoom c9 g5), hts _ (mWd_gw h3), hts _ (mWd_gw h6)⟩ ⟨mPc_blind _ _, hrv, hPre⟩ rfl (by rw [List.length_map]; omega) hls k2 hroom hd hfit⟩
    · rename_i c9 na z z2 z3 z4 z5 z6
      simp only [Bool.and_eq_true, bne_iff_ne] at hmc
      obtain ⟨⟨h1, hact⟩, h2⟩ := hmc
      split at h2
      · rename_i o9 i9 x9 hz9
        simp only [Bool.and_eq_true, decide_eq_true_eq, Bool.or_eq_true] at h2
        obtain ⟨⟨⟨⟨⟨⟨⟨⟨⟨⟨q1, q2⟩, q3⟩, q4⟩, q5⟩, q6⟩, q7⟩, q8⟩, q9⟩, q10⟩, q11⟩ := h2
        obtain ⟨g1, g2, g3, g4, g5⟩ := mCallee_ok h1
        have hins : ins = .invokevirtual i := by
          rcases hkind with q | q | q
          · exact absurd q.2 (by show ¬ 4 < 2; omega)
          · exact q.1
          · exact absurd q.2 (by show ¬ 5 ≤ 4; omega)
        subst hins
        obtain ⟨a, as', has, -, htg⟩ := hrecv (by show 2 ≤ 4; omega)
        have htg : mTg w a = 12 := htg (by show ¬ (4 = 5 ∨ 4 = 6); omega)
        have ea : av a = .ref (mAd s0.heap.size ex a) := hav.1 a (fun q => by rw [q] at htg; omega)
        obtain ⟨k1, k2, k3⟩ := hcons a as' _ has ea
        have k1 : as'.length + 1 = na := k1
        have hrv := m_recv hKX.1 hR hav (hoc 12 (by omega)) (by omega) (m_nf0 12 (by omega)) (hT.lt (by omega)) htg
        rw [k3] at hPre
        unfold mNoH at q4
        simp only [Bool.and_eq_true, decide_eq_true_eq] at q4
        have hcw : va_CU R s args (mOwn k) RJ4 x9.cls i x9 (mNm c9) (mCd c9) (mMl c9) (mRt c9) (mWs c9) (mRm d (mSz w1 - mSz w) (mSl w1 - mSl w)) (mSz w1 - mSz w) (mSl w1 - mSl w) (na - 1) := by
          by_cases hyx : mNm c9 = ⟨x9.cls, x9.name, x9.desc⟩
          · exact va_cwU (na - 1) hts (gw_good (fun x hx => by
              rcases List.mem_append.mp hx with q | q
              · simp only [List.mem_cons, List.not_mem_nil, or_false] at q
                rcases q with q | q | q | q | q <;> subst q
                · exact mWd_gw q3
                · exact mWd_gw q7
                · exact mWd_gw q6
                · exact mWd_gw q5
                · exact g3
              · exact mWs_in g2 x q)) (mWs_ne hact) rfl rfl hyx ⟨q4.1, q4.2, of_decide_eq_true q8⟩ (hRoom c9 g5)
          · rcases q11 with q11 | ⟨q12, q13⟩
            · exact absurd q11 hyx
            · split at q13
              · rename_i o9 b9 n9 t9 hz6
                simp only [Bool.and_eq_true, decide_eq_true_eq] at q13
                obtain ⟨q14, q15⟩ := q13
                rw [q14] at q15
                exact va_cwO (na - 1) hts (gw_good (fun x hx => by
                  rcases List.mem_append.mp hx with q | q
                  · simp only [List.mem_cons, List.not_mem_nil, or_false] at q
                    rcases q with q | q | q | q | q | q <;> subst q
                    · exact mWd_gw q3
                    · exact mWd_gw q7
                    · exact mWd_gw q12
                    · exact mWd_gw q6
                    · exact mWd_gw q5
                    · exact g3
                  · exact mWs_in g2 x q)) (mWs_ne hact) rfl rfl (mWd_gw q15) ⟨q4.1, q4.2, of_decide_eq_true q8⟩ (hRoom c9 g5)
              · cases q13
        exact ⟨_, va_runU SF hM hcw ⟨mPc_blind _ _, hrv, hPre⟩ rfl (by rw [List.length_map]; omega) hls k2 hroom hd hfit⟩
      · cases h2
    · rename_i c9 na ci0 z z2
      simp only [Bool.and_eq_true, bne_iff_ne, decide_eq_true_eq] at hmc
      obtain ⟨⟨⟨⟨⟨⟨⟨h1, hact⟩, h2⟩, h3⟩, h5⟩, h7⟩, h8⟩, h9⟩ := hmc
      obtain ⟨g1, g2, g3, g4, g5⟩ := mCallee_ok h1
      have hins : ins = .invokespecial i := by
        rcases hkind with q | q | q
        · exact absurd q.2 (by show ¬ 5 < 2; omega)
        · exact absurd q.2.2 (by show ¬ 5 < 5; omega)
        · exact q.1
      subst hins
      obtain ⟨a, as', has, hE, -⟩ := hrecv (by show 2 ≤ 5; omega)
      have hE : mE ≤ a := hE (Or.inl rfl)
      obtain ⟨k1, k2, k3⟩ := hcons a as' _ has (m_loc hav hE)
      have k1 : as'.length + 1 = na := k1
      have hG : GoodIn gwl (mWs c9) := gw_good (mWs_in g2)
      rw [k3] at hPre
      exact ⟨_, va_runI SF hM (cwI (na - 1) hts hG (mWs_ne0 hact h9) rfl rfl (hts _ g3) (hts _ (mWd_gw h2)) (hts _ (mWd_gw h3)) h8 ⟨g4.1, g4.2, of_decide_eq_true h5⟩ (hRoom c9 g5)) ⟨mPc_blind _ _, hPre⟩ rfl (by rw [List.length_map]; omega) hls k2 hroom hd hfit⟩
    · rename_i c9 na ci0 z z2
      simp only [Bool.and_eq_true, bne_iff_ne, decide_eq_true_eq] at hmc
      obtain ⟨⟨⟨⟨⟨⟨⟨h1, hact⟩, h2⟩, h3⟩, h5⟩, h7⟩, h8⟩, h9⟩ := hmc
      obtain ⟨g1, g2, g3, g4, g5⟩ := mCallee_ok h1
      have hins : ins = .invokespecial i := by
        rcases hkind with q | q | q
        · exact absurd q.2 (by show ¬ 6 < 2; omega)
        · exact absurd q.2.2 (by show ¬ 6 < 5; omega)
        · exact q.1
      subst hins
      obtain ⟨a, as', has, hE, -⟩ := hrecv (by show 2 ≤ 6; omega)
      have hE : mE ≤ a := hE (Or.inr rfl)
      obtain ⟨k1, k2, k3⟩ := hcons a as' _ has (m_loc hav hE)
      have k1 : as'.length + 1 = na := k1
      have hG : GoodIn gwl (mWs c9) := gw_good (mWs_in g2)
      rw [k3] at hPre
      rcases h2 with h2 | h2
      · exact ⟨_, va_runIN SF hM ⟨va_cnB (na - 1) hts hG (mWs_ne0 hact h9) rfl rfl (hKX.1.2.1 _ (List.mem_of_getElem? h2)) (hts _ g3) ⟨g4.1, g4.2, of_decide_eq_true h5⟩ (hRoom c9 g5), h8, hts _ (mWd_gw h3)⟩ ⟨mPc_blind _ _, hPre⟩ rfl (by rw [List.length_map]; omega) hls k2 hroom hd hfit⟩
      · exact ⟨_, va_runIN SF hM ⟨va_cnB (na - 1) hts hG (mWs_ne0 hact h9) rfl rfl (hKX.1.2.1 _ (List.mem_of_getElem? h2)) (hts _ g3) ⟨g4.1, g4.2, of_decide_eq_true h5⟩ (hRoom c9 g5), h8, hts _ (mWd_gw h3)⟩ ⟨mPc_blind _ _, hPre⟩ rfl (by rw [List.length_map]; omega) hls k2 hroom hd hfit⟩
    · rename_i c9 na ci z z2 z3 z4
      simp only [Bool.and_eq_true, bne_iff_ne, decide_eq_true_eq] at hmc
      obtain ⟨⟨⟨⟨⟨⟨⟨⟨⟨h1, hact⟩, h2⟩, h3⟩, h6⟩, h10⟩, h5⟩, h7⟩, h8⟩, h11⟩ := hmc
      obtain ⟨g1, g2, g3, g4, g5⟩ := mCallee_ok h1
      have hins : ins = .invokespecial i := by
        rcases hkind with q | q | q
        · exact absurd q.2 (by show ¬ 7 < 2; omega)
        · exact absurd q.2.2 (by show ¬ 7 < 5; omega)
        · exact q.1
      subst hins
      obtain ⟨a, as', has, -, htg⟩ := hrecv (by show 2 ≤ 7; omega)
      have htg : mTg w a = ci := htg (by show ¬ (7 = 5 ∨ 7 = 6); omega)
      have ea : av a = .ref (mAd s0.heap.size ex a) := hav.1 a (fun q => by rw [q] at htg; omega)
      obtain ⟨k1, k2, k3⟩ := hcons a as' _ has ea
      have k1 : as'.length + 1 = na := k1
      have hrv := m_recv hKX.1 hR hav (hoc ci h8) h8 (m_nf0 ci h8) (hT.lt (by omega)) htg
      have hcl := (m_slot hKX.1 (hoc ci h8) (m_nf0 ci h8)).2
      have hG : GoodIn gwl (va_wsSU (mOwn k) i (mNm c9) (mWs c9)) := gw_good (fun x hx => by
        rcases List.mem_append.mp hx with q | q
        · simp only [List.mem_cons, List.not_mem_nil, or_false] at q
          rcases q with q | q | q | q | q <;> subst q
          · exact mWd_gw h2
          · exact mWd_gw h10
          · exact mWd_gw h6
          · exact mWd_gw h3
          · exact g3
        · exact mWs_in g2 x q)
      rw [k3] at hPre
      exact ⟨_, va_runSU hcl SF hM (va_cwSU (na - 1) hts hG (mWs_ne hact) rfl rfl ⟨h11, of_decide_eq_true h5⟩ (hRoom c9 g5)) ⟨mPc_blind _ _, hrv, hPre⟩ rfl (by rw [List.length_map]; omega) hls k2 hroom hd hfit⟩
    · cases hmc
  have hlt : ax.getD 0 0 < 1000 := by
    rcases mAsk_pos hak with ⟨i, rfl⟩ | ⟨i, rfl⟩ | ⟨i, rfl⟩ <;> simp only [mAsk] at hak <;> split at hak <;> first | assumption | cases hak
  rcases mAsk_pos hak with ⟨i, rfl⟩ | ⟨i, rfl⟩ | ⟨i, rfl⟩
  · simp only [mChk, Bool.and_eq_true, beq_iff_eq] at hc
    obtain ⟨e3, h2⟩ := hc
    split at h2
    · exact absurd hlt (by show ¬ 1000 < 1000; omega)
    · simp only [Bool.and_eq_true, decide_eq_true_eq] at h2
      exact ⟨e3, key i h2.2 (Or.inl ⟨rfl, h2.1.2⟩) e3⟩
  · simp only [mChk, Bool.and_eq_true, beq_iff_eq] at hc
    obtain ⟨e3, h2⟩ := hc
    split at h2
    · exact absurd hlt (by show ¬ 1001 < 1000; omega)
    · simp only [Bool.and_eq_true, decide_eq_true_eq] at h2
      exact ⟨e3, key i h2.2 (Or.inr (Or.inl ⟨rfl, h2.1.1.2, h2.1.2⟩)) e3⟩
  · simp only [mChk, Bool.and_eq_true, beq_iff_eq] at hc
    obtain ⟨e3, h2⟩ := hc
    split at h2
    · exact absurd hlt (by show ¬ 1002 < 1000; omega)
    · simp only [Bool.and_eq_true, decide_eq_true_eq] at h2
      exact ⟨e3, key i h2.2 (Or.inr (Or.inr ⟨rfl, h2.1.2⟩)) e3⟩
end
end MSIM
