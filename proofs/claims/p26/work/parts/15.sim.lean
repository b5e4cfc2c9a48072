/-! ===== A RUN OF THE SMALL MACHINE IS A RUN OF THE MACHINE ===== -/
theorem mCall_callee {k i : Nat} {ax : List Nat} (h : mCall k i ax = true) : mCallee (ax.getD 0 0) = true := by
  unfold mCall at h
  split at h
  · simp only [Bool.and_eq_true] at h
    exact h.1.1.1
  · simp only [Bool.and_eq_true] at h
    exact h.1.1.1.1
  · simp only [Bool.and_eq_true] at h
    exact h.1.1.1.1.1.1.1.1
  · simp only [Bool.and_eq_true] at h
    exact h.1.1.1.1.1.1.1.1
  · simp only [Bool.and_eq_true] at h
    exact h.1.1
  · simp only [Bool.and_eq_true] at h
    exact h.1.1.1.1.1.1.1
  · simp only [Bool.and_eq_true] at h
    exact h.1.1.1.1.1.1.1
  · simp only [Bool.and_eq_true] at h
    exact h.1.1.1.1.1.1.1.1.1
  · cases h
theorem mChk_callee {k pc : Nat} {ins : Instr} {len : Nat} {ax : List Nat} (hak : mAsk ins ax = 1) (hc : mChk k pc ins len ax = true) : mCallee (ax.getD 0 0) = true := by
  have hlt : ax.getD 0 0 < 1000 := by
    rcases mAsk_pos hak with ⟨i, rfl⟩ | ⟨i, rfl⟩ | ⟨i, rfl⟩ <;> simp only [mAsk] at hak <;> split at hak <;> first | assumption | cases hak
  rcases mAsk_pos hak with ⟨i, rfl⟩ | ⟨i, rfl⟩ | ⟨i, rfl⟩
  · simp only [mChk, Bool.and_eq_true, beq_iff_eq] at hc
    obtain ⟨e3, h2⟩ := hc
    split at h2
    · exact absurd hlt (by show ¬ 1000 < 1000; omega)
    · simp only [Bool.and_eq_true, decide_eq_true_eq] at h2
      exact mCall_callee h2.2
  · simp only [mChk, Bool.and_eq_true, beq_iff_eq] at hc
    obtain ⟨e3, h2⟩ := hc
    split at h2
    · exact absurd hlt (by show ¬ 1001 < 1000; omega)
    · simp only [Bool.and_eq_true, decide_eq_true_eq] at h2
      exact mCall_callee h2.2
  · simp only [mChk, Bool.and_eq_true, beq_iff_eq] at hc
    obtain ⟨e3, h2⟩ := hc
    split at h2
    · exact absurd hlt (by show ¬ 1002 < 1000; omega)
    · simp only [Bool.and_eq_true, decide_eq_true_eq] at h2
      exact mCall_callee h2.2
theorem mHand_some {k pc E h i : Nat} (hh : mHand k pc E = some (h, i)) : k = 168 ∧ E = 1 ∧ i = 5 ∧ (63 ≤ pc ∧ pc < 95 ∧ h = 98 ∨ 124 ≤ pc ∧ pc < 160 ∧ h = 163) := by
  unfold mHand at hh
  cases hf : mHt.find? (fun h => h.1 == k && decide (h.2.1 ≤ pc) && decide (pc < h.2.2.1) && h.2.2.2.1 == E) with
  | none => rw [hf] at hh; cases hh
  | some r =>
    rw [hf] at hh
    have h1 := List.find?_some hf
    have h2 := List.mem_of_find?_eq_some hf
    simp only [Bool.and_eq_true, beq_iff_eq, decide_eq_true_eq] at h1
    obtain ⟨⟨⟨a1, a2⟩, a3⟩, a4⟩ := h1
    have e9 : r.2.2.2.2 = (h, i) := Option.some.inj hh
    simp only [mHt, List.mem_cons, List.not_mem_nil, or_false] at h2
    rcases h2 with rfl | rfl
    · cases e9
      exact ⟨a1.symm, a4.symm, rfl, Or.inl ⟨a2, a3, rfl⟩⟩
    · cases e9
      exact ⟨a1.symm, a4.symm, rfl, Or.inr ⟨a2, a3, rfl⟩⟩
theorem mAsk_new {ins : Instr} {ax : List Nat} (h0 : ¬ mAsk ins ax = 0) (h1 : ¬ mAsk ins ax = 1) (h2 : ¬ mAsk ins ax = 2) : ∃ i, ins = .new i ∧ 100 ≤ ax.getD 0 0 := by
  revert h0 h1 h2
  unfold mAsk
  split <;> intro h0 h1 h2
  · exact absurd rfl h2
  · exact absurd rfl h2
  · exact absurd rfl h2
  · exact absurd rfl h2
  · exact absurd rfl h2
  · rename_i i
    by_cases hx : 100 ≤ ax.getD 0 0
    · exact ⟨i, rfl, hx⟩
    · exact absurd (if_neg hx) h0
  · by_cases hx : ax.getD 0 0 < 1000
    · exact absurd (if_pos hx) h1
    · exact absurd (if_neg hx) h0
  · by_cases hx : ax.getD 0 0 < 1000
    · exact absurd (if_pos hx) h1
    · exact absurd (if_neg hx) h0
  · by_cases hx : ax.getD 0 0 < 1000
    · exact absurd (if_pos hx) h1
    · exact absurd (if_neg hx) h0
  · exact absurd rfl h0
theorem mThrow_row {k pc i len : Nat} {ax : List Nat} (hk : k = 107 ∨ k = 108) (hf : mFetch k pc = some (.new i, len, ax)) (h1 : ax.getD 0 0 = 101) : pc = 11 := by
  unfold mFetch at hf
  cases hg : (mtbs.getD k []).find? (fun r => r.1 == pc) with
  | none => rw [hg] at hf; cases hf
  | some r =>
    rw [hg] at hf
    obtain ⟨p9, i9, l9, a9⟩ := r
    cases hf
    have h2 := List.find?_some hg
    have h3 := List.mem_of_find?_eq_some hg
    simp only [beq_iff_eq] at h2
    have h4 : ∀ k, k = 107 ∨ k = 108 → ((mtbs.getD k []).all fun r => !(r.2.2.2.getD 0 0 == 101) || r.1 == 11) = true := by
      rintro k (rfl | rfl) <;> decide +kernel
    have h5 := List.all_eq_true.mp (h4 k hk) _ h3
    simp only [Bool.or_eq_true, Bool.not_eq_true', beq_iff_eq] at h5
    rcases h5 with h5 | h5
    · rw [h1] at h5; cases h5
    · rw [← h2]; exact h5
section MSIMR
variable {s0 : State} {D : va_G} {aC : Nat → ClassId} {av : Nat → Value} {ex : Nat → Nat} {sio : Value} {dg : Nat × Nat} {l : Launch}
section
variable {p : Program} {e : Env} {R : Room} {s : State} {m : MethodId} {args : Array Value} {below : List Frame} {meth : Method} {c : Code} {H : Heap} {locs : List Loc} {cells slots : Nat} {Q : State → Prop} {w : MW}
/-- a call that throws -/
theorem m_invokeX (hoc : ∀ ci, ci < 13 → mOkc ci) (hro : mRowsOk) {k : Nat} (C : mCtx p s m args meth c R s0 D aC av ex sio dg k) {ins : Instr} {len pc : Nat} {ax : List Nat} {st : List Value} (hf : mFetch k pc = some (ins, len, ax)) (hak : mAsk ins ax = 1) (hk2 : ax.getD 2 0 = 2) (hT : mTop w) (hR : mRep s0 D aC av ex w H) {d : Nat} (hRm : mFR (d + 1) ≤ R.frames ∧ mLR (d + 1) ≤ R.locals)
    (h4 : mCat (st.drop (ax.getD 1 0)) ≤ 8) (hna : ax.getD 1 0 ≤ st.length) (hrc : mRcv (ax.getD 2 0) (ax.getD 3 0) (st.take (ax.getD 1 0)).reverse w = true) {w1 : MW}
    (hM : ¬ ax.getD 0 0 = 168 → vx_Met l (mNm (ax.getD 0 0)) (mWs (ax.getD 0 0)) (mRm d (mSz w1 - mSz w) (mSl w1 - mSl w)) (mPc s0 D aC av ex sio dg (st.take (ax.getD 1 0)).reverse w) (fun _ _ _ _ => False) (mXC s0 D aC av ex w1) (mSz w1 - mSz w) (mSl w1 - mSl w) (mA s0)) {ls : Array Slot} (hls : ls.size = mMl k)
    (hfit : cells + (mSz w1 - mSz w) ≤ R.cells ∧ slots + (mSl w1 - mSl w) ≤ R.slots) :
    vx_Run p l e R s m args below meth c H locs cells slots (mSz w1 - mSz w) (mSl w1 - mSl w) (F0 m pc ls (st.map (lf av))) ((st.drop (ax.getD 1 0)).map (lf av)) (fun _ _ _ => False) (mXC s0 D aC av ex w1) (mA s0) := by
  obtain ⟨hx, hb, hts, hKX, hown, hav, hml, hkl, hmn, hsio, hdg, -⟩ := C
  obtain ⟨hd, hc⟩ := mFetch_ok hro hkl hf
  have SF : CallFix p m c (mCd k) (mMl k) s args gwl (mOwn k) := ⟨hx, hb, hml, hown, hts⟩
  have hroom : 2 * (F0 m pc ls (st.map (lf av))).monitorRoom + (((st.drop (ax.getD 1 0)).map (lf av)).map fun v => v.category).sum ≤ 8 := by
    have := m_cat_eq hav (st.drop (ax.getD 1 0))
    show 2 * 0 + _ ≤ 8
    omega
  have hRoom : ∀ c9, mMl c9 ≤ 40 → (mRm d (mSz w1 - mSz w) (mSl w1 - mSl w)).frames + 1 ≤ R.frames ∧ 8 + (mMl c9 + 11) + (mRm d (mSz w1 - mSz w) (mSl w1 - mSl w)).locals ≤ R.locals := by
    intro c9 h9
    have a1 := hRm.1
    have a2 := hRm.2
    unfold mFR at a1
    unfold mLR at a2
    show d + 12 + 1 ≤ R.frames ∧ 8 + (mMl c9 + 11) + (60 * d + 250) ≤ R.locals
    omega
  have hx9 : ∃ i, ins = .invokevirtual i ∧ len = 3 ∧ mCall k i ax = true := by
    have hlt : ax.getD 0 0 < 1000 := by
      rcases mAsk_pos hak with ⟨i, rfl⟩ | ⟨i, rfl⟩ | ⟨i, rfl⟩ <;> simp only [mAsk] at hak <;> split at hak <;> first | assumption | cases hak
    rcases mAsk_pos hak with ⟨i, rfl⟩ | ⟨i, rfl⟩ | ⟨i, rfl⟩
    · simp only [mChk, Bool.and_eq_true, beq_iff_eq] at hc
      obtain ⟨e3, h2⟩ := hc
      split at h2
      · exact absurd hlt (by show ¬ 1000 < 1000; omega)
      · simp only [Bool.and_eq_true, decide_eq_true_eq] at h2
        omega
    · simp only [mChk, Bool.and_eq_true, beq_iff_eq] at hc
      obtain ⟨e3, h2⟩ := hc
      split at h2
      · exact absurd hlt (by show ¬ 1001 < 1000; omega)
      · simp only [Bool.and_eq_true, decide_eq_true_eq] at h2
        exact ⟨i, rfl, e3, h2.2⟩
    · simp only [mChk, Bool.and_eq_true, beq_iff_eq] at hc
      obtain ⟨e3, h2⟩ := hc
      split at h2
      · exact absurd hlt (by show ¬ 1002 < 1000; omega)
      · simp only [Bool.and_eq_true, decide_eq_true_eq] at h2
        omega
  obtain ⟨i, rfl, rfl, hmc⟩ := hx9
  generalize hasE : (st.take (ax.getD 1 0)).reverse = as at hM hrc
  have hst : st.map (lf av) = (as.map (lf av)).reverse ++ (st.drop (ax.getD 1 0)).map (lf av) := by
    rw [← hasE, ← List.map_reverse, List.reverse_reverse, ← List.map_append, List.take_append_drop]
  have hlen : as.length = ax.getD 1 0 := by rw [← hasE, List.length_reverse, List.length_take]; omega
  have hPre : ∀ U : State, U.heap = H → s.WarmedH U.vm → mPc s0 D aC av ex sio dg as w (as.map (lf av)).toArray U := fun U hU hW => ⟨rfl, hKX.warm hW, by rw [hU]; exact hR⟩
  have hDef : (F0 m pc ls (st.map (lf av))).stack = (as.map (lf av)).reverse ++ (st.drop (ax.getD 1 0)).map (lf av) := hst
  unfold mCall at hmc
  split at hmc
  · exact absurd hk2 (by show ¬ 0 = 2; omega)
  · exact absurd hk2 (by show ¬ 1 = 2; omega)
  · rename_i c9 na ci z z2 z3
    simp only [Bool.and_eq_true, bne_iff_ne, decide_eq_true_eq] at hmc
    obtain ⟨⟨⟨⟨⟨⟨⟨⟨h1, hact⟩, h2⟩, h3⟩, h6⟩, h5⟩, h7⟩, h8⟩, h9⟩ := hmc
    obtain ⟨g1, g2, g3, g4, g5⟩ := mCallee_ok h1
    have hrc2 : ∃ a as', as = .ref a :: as' ∧ mTg w a = ci := by
      unfold mRcv at hrc
      rw [if_neg (by show ¬ 2 < 2; omega)] at hrc
      split at hrc
      · rename_i a r
        rw [if_neg (by show ¬ (2 = 5 ∨ 2 = 6); omega)] at hrc
        exact ⟨a, r, rfl, of_decide_eq_true hrc⟩
      · cases hrc
    obtain ⟨a, as', has, htg⟩ := hrc2
    subst has
    have ea : av a = .ref (mAd s0.heap.size ex a) := hav.1 a (fun q => by have r0 : mTg w 0 = 60 := (hR.2.2.2.1 0 (by decide)).2.2.2.2 rfl; rw [q] at htg; omega)
    have e3 : lf av (.ref a) = .ref (mAd s0.heap.size ex a) := ea
    have k1 : as'.length + 1 = na := hlen
    have k2 : (F0 m pc ls (st.map (lf av))).stack = (as'.map (lf av)).reverse ++ .ref (mAd s0.heap.size ex a) :: (st.drop na).map (lf av) := by
      rw [hDef, List.map_cons, e3, List.reverse_cons, List.append_assoc]
      rfl
    have k3 : ((Value.ref a :: as').map (lf av)).toArray = (Value.ref (mAd s0.heap.size ex a) :: as'.map (lf av)).toArray := by rw [List.map_cons, e3]
    have hrv := m_recv hKX.1 hR hav (hoc ci h8) h8 (m_nf0 ci h8) (hT.lt (by omega)) htg
    rw [h9] at hrv
    have hG : GoodIn gwl (wsV (mOwn k) i (mOwn c9) (mNm c9) (mWs c9)) := gw_good (fun x hx => by
      rcases List.mem_append.mp hx with q | q
      · simp only [List.mem_cons, List.not_mem_nil, or_false] at q
        rcases q with q | q | q | q <;> subst q
        · exact mWd_gw h2
        · exact mWd_gw h3
        · exact mWd_gw h6
        · exact g3
      · exact mWs_in g2 x q)
    rw [k3] at hPre
    exact vx_runV SF (hM hact) (cwV (na - 1) hts hG (mWs_ne hact) rfl rfl ⟨rfl, g4.1, g4.2, of_decide_eq_true h5⟩ (hRoom c9 g5)) ⟨mPc_blind _ _, hrv, hPre⟩ rfl (by rw [List.length_map]; omega) hls k2 hroom hd hfit
  · exact absurd hk2 (by show ¬ 3 = 2; omega)
  · exact absurd hk2 (by show ¬ 4 = 2; omega)
  · exact absurd hk2 (by show ¬ 5 = 2; omega)
  · exact absurd hk2 (by show ¬ 6 = 2; omega)
  · exact absurd hk2 (by show ¬ 7 = 2; omega)
  · cases hmc
/-- .. is caught in act -/
theorem m_caught (hro : mRowsOk) (C : mCtx p s m args meth c R s0 D aC av ex sio dg 168) (ht : c.exceptionTable.toList = tableOf [(63, 95, 96, 204), (124, 160, 161, 204)]) {pc h : Nat} (hpc : 63 ≤ pc ∧ pc < 95 ∧ h = 98 ∨ 124 ≤ pc ∧ pc < 160 ∧ h = 163) {q : Addr} {ce : Cell} {L : List Value} {ls : Array Slot} {rest : List Value} (hls : lv_has ls (mMl 168) (lvL av L)) (hL : L.length = mMl 168)
    (hcell : H[q]? = some ce) (hv : ce.vm = .none) (hcl : s.vm.findClass "java/lang/IllegalStateException" = some ce.cls) (kk : ∀ ls' : Array Slot, lv_has ls' (mMl 168) (lvL av (mSt L 5 mJ)) → W p l e R s m args below meth c H locs cells slots Q (F0 m h ls' [])) :
    vx_W p l e R s m args below meth c H locs cells slots Q (F0 m pc ls rest) q := by
  obtain ⟨hx, hb, hts, hKX, hown, hav, hml, hkl, -⟩ := C
  have hnw := hKX.1.2.1
  have hcast : (Cond.castable "java/lang/IllegalStateException" "java/lang/IllegalStateException").before args s = true := by
    have h9 : Cond.castable "java/lang/IllegalStateException" "java/lang/IllegalStateException" ∈ nwl := by decide +kernel
    exact va_Nw.use (mNw_tab h9) (hnw _ h9)
  have hlink : (Cond.classLink (mOwn 168) 204 "java/lang/IllegalStateException").before args s = true := hts _ (gw_in (List.mem_append_right _ (by decide +kernel : Cond.classLink (mOwn 168) 204 "java/lang/IllegalStateException" ∈ lw_tbl)) rfl)
  have h5 : 5 < L.length := by rw [hL]; decide +kernel
  have hsub : ∀ z ∈ lvL av (mSt L 5 mJ), z ∈ (5, Value.ref q) :: (lvL av L).filter (fun q => !(q.1 == 5) && !(q.1 + 1 == 5 && q.2.category == 2)) := by
    rintro ⟨j, u⟩ hz
    rcases List.mem_cons.mp (mSt_sub hav h5 (j, u) hz) with e9 | h9
    · obtain ⟨x, -, hn, e8⟩ := lvL_mem.mp hz
      have e7 : u = .retAddr 0 := congrArg Prod.snd e9
      rw [e7] at e8
      cases x with
      | ref b => rcases hav.ref b with z9 | ⟨b9, z9⟩ <;> (have e6 : Value.retAddr 0 = av b := e8; rw [z9] at e6; cases e6)
      | retAddr n => exact absurd rfl (hn n)
      | _ => cases e8
    · exact List.mem_cons_of_mem _ h9
  have hfe : ∀ a b, mFetch 168 a = some (.astore 5, 2, []) → a = b → decode (mCd 168) b = .ok (.astore 5, 2) := fun a b h9 e9 => by
    rw [← e9]; exact (mFetch_ok hro hkl h9).1
  rcases hpc with ⟨a1, a2, rfl⟩ | ⟨a1, a2, rfl⟩
  · refine vx_catch hown [] ⟨63, 95, 96, 204⟩ [⟨124, 160, 161, 204⟩] ht (fun z hz => by cases hz) ?_ (by decide) hlink hcast hcell hv hcl ?_
    · unfold covers; simp; omega
    · exact lv_astore hx hb (hfe 96 96 (by decide +kernel) rfl) hls (by rw [← hL]; exact h5) rfl (fun ls' hl' => kk ls' (lv_subM hl' hsub))
  · refine vx_catch hown [⟨63, 95, 96, 204⟩] ⟨124, 160, 161, 204⟩ [] ht (fun z hz => ?_) ?_ (by decide) hlink hcast hcell hv hcl ?_
    · simp only [List.mem_cons, List.not_mem_nil, or_false] at hz
      subst hz
      left
      unfold covers; simp; omega
    · unfold covers; simp; omega
    · exact lv_astore hx hb (hfe 161 161 (by decide +kernel) rfl) hls (by rw [← hL]; exact h5) rfl (fun ls' hl' => kk ls' (lv_subM hl' hsub))
end
theorem mRun (hlt : l.stackTraces = false) (hoc : ∀ ci, ci < 13 → mOkc ci) (hro : mRowsOk) (hav : mAv av s0 ex) (h0 : av 0 = sio) (hdg : dg = (ex 2, ex 3)) : ∀ (n d k pc : Nat) (L st : List Value) (w : MW) (r : MRes) (wf : MW), mexec n d k pc L st w = some (r, wf) → mTop w → mGoes l s0 D aC av ex sio dg d k pc L st w r wf
  | 0, d, k, pc, L, st, w, r, wf, h, _ => by simp [mexec] at h
  | n + 1, d, k, pc, L, st, w, r, wf, h, hT => by
    intro p e R s m args below meth c C htab hlk hrt hs0 hRm z0 y0 hz hy hzR hyR hL
    have hkl : k < mInf.length := C.2.2.2.2.2.2.2.1
    rw [mexec] at h
    split at h
    · cases h
    · rename_i ins len ax hf
      obtain ⟨hd, hc⟩ := mFetch_ok hro hkl hf
      split at h
      · rename_i hak
        split at h
        · cases h
        · rename_i pc' L' st' w' hs
          obtain ⟨t1, t2, t3, t4⟩ := mStep_top hs hT
          obtain ⟨m1, m2, m3⟩ := mexec_mono n d k pc' L' st' w' r wf h t1
          have IH := mRun hlt hoc hro hav h0 hdg n d k pc' L' st' w' r wf h t1 p e R s m args below meth c C htab hlk hrt hs0 hRm z0 y0 (by omega) (by omega) hzR hyR (t4.trans hL)
          exact mStep_ok hoc hro C hf hak hs hT hz hy (by omega) (by omega) hL IH
      · rename_i hak
        have hk9 := (mCallee_ok (mChk_callee hak hc)).1
        split at h
        · cases h
        · rename_i d'
          dsimp only at h
          split at h
          · rename_i hcond
            obtain ⟨c1, c2, c3, c4⟩ := hcond
            split at h
            · cases h
            · rename_i v w1 hcal
              have IHc := mRun hlt hoc hro hav h0 hdg n d' _ 0 _ [] w (.inl v) w1 hcal hT
              obtain ⟨m1, m2, m3⟩ := mexec_mono n _ _ _ _ _ w _ w1 hcal hT
              obtain ⟨m4, m5, m6⟩ := mexec_mono n _ _ _ _ _ w1 _ wf h m1
              have IH := mRun hlt hoc hro hav h0 hdg n (d' + 1) k _ L _ w1 r wf h m1 p e R s m args below meth c C htab hlk hrt hs0 hRm z0 y0 (by omega) (by omega) hzR hyR hL
              intro H locs ls hR hS hls
              obtain ⟨e3, a, hrun⟩ := m_invoke hoc hro C hf hak hT hR hRm c1 c2 c3 (mMet hav h0 hdg hk9 IHc c4) hls.1 (cells := mSz w - z0) (slots := mSl w - y0) (locs := locs) (below := below) (by omega)
              rw [e3] at IH
              refine m_call hrun hS (fun H1 locs1 r1 s1 => ?_)
              have g := IH H1 locs1 ls r1 s1 hls
              have g1 : mSz w - z0 + (mSz w1 - mSz w) = mSz w1 - z0 := by omega
              have g2 : mSl w - y0 + (mSl w1 - mSl w) = mSl w1 - y0 := by omega
              rw [g1, g2]
              have g3 : (v.toList ++ st.drop (ax.getD 1 0)).map (lf av) = (v.map (lf av)).toList ++ (st.drop (ax.getD 1 0)).map (lf av) := by
                rw [List.map_append]
                cases v <;> rfl
              rw [g3] at g
              exact g
            · rename_i E w1 hcal
              split at h
              · cases h
              · rename_i hh i hhand
                split at h
                · rename_i hi2
                  obtain ⟨k1, k2, k3, k4⟩ := mHand_some hhand
                  subst k1; subst k2; subst k3
                  have IHc := mRun hlt hoc hro hav h0 hdg n d' _ 0 _ [] w (.inr 1) w1 hcal hT
                  obtain ⟨m1, m2, m3⟩ := mexec_mono n _ _ _ _ _ w _ w1 hcal hT
                  obtain ⟨m4, m5, m6⟩ := mexec_mono n _ _ _ _ _ w1 _ wf h m1
                  have IH := mRun hlt hoc hro hav h0 hdg n (d' + 1) 168 hh _ [] w1 r wf h m1 p e R s m args below meth c C htab hlk hrt hs0 hRm z0 y0 (by omega) (by omega) hzR hyR ((mSt_len _ _ _).trans hL)
                  intro H locs ls hR hS hls
                  have hrun := m_invokeX hoc hro C hf hak hi2.2 hT hR hRm c1 c2 c3 (fun h168 => mMetX hav h0 hdg hk9 h168 IHc c4) hls.1 (cells := mSz w - z0) (slots := mSl w - y0) (locs := locs) (below := below) (e := e) (by omega)
                  intro T hT9 X
                  rcases hrun T hT9 X with ⟨v9, st9, t9, T9, L9, -, -, -, -, -, hfalse, -⟩ | ⟨q, st₀, t, T', L9, E9, ce, h0', X', hL9, e1, e2, ⟨hE, hrep, hF⟩, hce, hcv, hcl, hst⟩
                  · exact absurd hfalse id
                  · subst hE
                    obtain ⟨-, -, k5⟩ := vx_keep h0' e1 hS (fun q _ h => h) (fun q h => h) hL9 hF
                    have g1 : mSz w - z0 + (mSz w1 - mSz w) = mSz w1 - z0 := by omega
                    have g2 : mSl w - y0 + (mSl w1 - mSl w) = mSl w1 - y0 := by omega
                    rw [g1, g2] at X'
                    have hW : vx_W p l e R s m args below meth c T'.heap (locs ++ L9) (mSz w1 - z0) (mSl w1 - y0) (mEndQ s0 D aC av ex below args s (mSz wf - z0) (mSl wf - y0) r wf) (F0 m pc ls ((st.drop (ax.getD 1 0)).map (lf av))) q :=
                      m_caught hro C (htab.2 rfl) k4 hls hL (by rw [e1]; exact hce) hcv hcl (fun ls' hl' => IH T'.heap (locs ++ L9) ls' (by rw [e1]; exact hrep) k5 hl')
                    obtain ⟨t2, a1, b1⟩ := hW T' rfl X'
                    exact ⟨t2, hst.trans a1, b1⟩
                · cases h
          · cases h
      · split at h
        · cases h
        · rename_i v hr
          cases h
          exact m_ret hro C hf hr hlk hrt
      · rename_i q0 q1 q2
        obtain ⟨i, rfl, h100⟩ := mAsk_new q0 q1 q2
        simp only [mChk, Bool.and_eq_true, beq_iff_eq] at hc
        obtain ⟨rfl, h9⟩ := hc
        split at h9
        · rename_i z
          simp only [Bool.and_eq_true, Bool.or_eq_true, beq_iff_eq] at h9
          have hp := mThrow_row h9.1 hf rfl
          subst hp
          split at h
          · cases h
            exact m_throw hlt hro h9.1 C htab hlk hs0 (by have a1 := hRm.1; have a2 := hRm.2; unfold mFR at *; unfold mLR at *; omega) hz hy hzR hyR hf rfl hT
          · cases h
        · rename_i ci z _
          simp only [Bool.and_eq_true, decide_eq_true_eq] at h9
          have : 100 ≤ ci := h100
          omega
        · cases h9
end MSIMR
