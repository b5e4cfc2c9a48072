/-! THE CLAIM OUT OF ONE WALK OF THE LAW'S BODY. Your part is whole_start (and what it stands on); all else here is the same for every law, but numbers. -/
def R_law : String := "BeeTurnpikeLaw"
def lw_P (b : Addr) (xs : List Int32) (args : Array Value) (s : State) : Prop := args = #[.ref b] ∧ s.IntsAt b xs ∧ xs.length ≤ 260 ∧ (Jvm.Cond.and given_1 narrow_1).before args s = true
/-- what a walk over the start with the record d0 says of its end, said of the start itself -/
theorem lw_closed {s t : State} {o : Outcome} {d0 : Drawn} {L : List Loc} {k n : Nat} (hd0 : s.drawn.sameBut d0 lw_cs) (hv : ∃ v, o = .returned v) (hW : (s.setDrawn d0).WarmedH t.vm) (hs : (s.setDrawn d0).sameButNew ({ t with vm := s.vm } : State) L k n) : State.butDraws s t lw_cs (fun t1 => Framed s o t1 L k n) := by
  have h2 : t.drawn = d0 := congrArg State.drawn hs.1
  refine ⟨⟨hv, hW, State.sameButNew.setDrawn hs s.drawn⟩, ?_, by decide⟩
  rw [h2]
  exact hd0
def lw_Q (_ : Array Value) (s : State) (o : Outcome) (t : State) : Prop := o = .returned (some (.int 1)) ∧ State.butDraws s t lw_cs (fun t1 => Framed s o t1 [] 600086 7301442)
def lw_Z (below : List Frame) (a : Array Value) (s : State) : State → Prop := fun t => ∃ o, t.status = .running ∧ Ended t below o ∧ lw_Q a s o t
/-- the law's own end, with 1 on the stack, nothing written that was there before, its room as the claim has it; d0: the record of draws at this point (at the entry s.drawn: begin with 'refine W.base ?_' and 'have hd0 := Drawn.sameBut.refl s.drawn lw_cs') -/
theorem lw_ret {p : Program} {l : Launch} {e : Env} {s : State} {m : MethodId} {below : List Frame} {meth : Method} {c : Code} {b : Nat} {d0 : Drawn} (hd0 : s.drawn.sameBut d0 lw_cs) (hx : p.tables.exec = Jvm.exec) (hb : c.code = code) (hr : meth.sig.returnType = ret) (hlocks : meth.locks = false) {pc : Nat} {H : Heap} {ls : Array Slot} (hdg : decode code pc = .ok (.ireturn, 1)) : W p l e room_1 (s.setDrawn d0) m #[Value.ref b] below meth c H [] 600086 7301442 (lw_Z below #[Value.ref b] s) (F0 m pc ls [.int 1]) := by
  intro T hT X
  obtain ⟨fs, hret, hrun, hended, hW, hframe⟩ := X.leave (v := some (.int 1)) (hlocks := hlocks) (fun h => by rw [hr] at h; cases h)
  have hmeth' : T.vm.method? m = some meth := X.method'
  refine ⟨T.setFrames fs, ?_, .returned (some (.int 1)), hrun, hended, rfl, lw_closed hd0 ⟨_, rfl⟩ hW hframe⟩
  jvm_step X.here [X.here.top, hx, hb, hdg, hmeth', hr, ret, narrow_b1]
  (try refine ⟨rfl, ?_⟩); (try refine ⟨rfl, ?_⟩)
  first | (intro acts; rw [hret _ acts rfl rfl rfl]) | rw [hret _ _ rfl rfl rfl]
  exact Steps.refl _
/-- what holds at the law's entry: the machine, the code, the tables' words (any of lw_tbl by 'hts w (by decide +kernel)'), the script of L ints xs at the cell b, what the Statement gives of the start (any of its parts by flat_of_before) -/
def lw_At (p : Program) (s : State) (m : MethodId) (meth : Method) (c : Code) (b L : Nat) (xs : Nat → Int32) : Prop :=
  p.tables.exec = Jvm.exec ∧ c.code = code ∧ meth.sig.returnType = ret ∧ c.maxLocals = 32 ∧ s.vm.findClass R_law = some m.cls ∧ (∀ w ∈ lw_tbl, w.before #[Value.ref b] s = true) ∧ va_X b L xs s s.heap ∧ b < s.heap.size ∧ meth.locks = false ∧ (Jvm.Cond.and given_1 narrow_1).before #[Value.ref b] s = true
/-! ===== the start: from a run of the small machine to the machine's own ===== -/
def lawRuns : Prop := ∀ (L : Nat) (xs : Nat → Int32), L ≤ 260 → ∃ wf, mK 40 169 [.ref 1] (W0 L xs) = some (.inl (some (.int (nI 1))), wf) ∧ mSz wf ≤ 600000 ∧ mSl wf ≤ 7000000
section
variable {s : State} {args : Array Value}
theorem st_world {b L : Nat} {xs : Nat → Int32} (hF : ∀ w ∈ sFl, w.before args s = true) (hT : ∀ w ∈ lw_tbl, w.before args s = true) (hX : va_X b L xs s s.heap) (hb : b < s.heap.size) (hL : L ≤ 260) :
    ∃ (D : va_G) (aC : Nat → ClassId) (av : Nat → Value) (ex : Nat → Nat) (sio : Value) (dg : Nat × Nat), mKX s D aC sio dg ex s ∧ mRep s D aC av ex (W0 L xs) s.heap ∧ mAv av s ex ∧ av 0 = sio ∧ dg = (ex 2, ex 3) ∧ av 1 = .ref b := by
  have hA : ∀ a : Nat, a < s.heap.size → ¬ mA s a := fun a h q => by have q' : s.heap.size ≤ a := q; omega
  have hM := mTbl_ok hT
  have hG : ∀ w ∈ gwl, w.before args s = true := fun w hw => hM w (List.mem_filter.mp hw).1
  have ht1 : ∀ w ∈ tables_1, w.before args s = true := fun w hw => hT w (List.mem_append_right _ hw)
  have inT : ∀ w : Cond, decide (w ∈ tables_1) = true → w.before args s = true := fun w h => ht1 w (of_decide_eq_true h)
  have inF : ∀ w : Cond, decide (w ∈ sFl) = true → w.before args s = true := fun w h => hF w (of_decide_eq_true h)
  obtain ⟨D, hD⟩ := st_cls hG
  have iniI : (Cond.initialized "java/lang/Integer").before args s = true := inT _ (by decide +kernel)
  obtain ⟨t1, z1, T1⟩ := st_dig "DigitOnes" (fun j => 48 + j % 10) dOneWd rfl (fun w hw => hF w (dOne_in w hw)) (inT _ (by decide +kernel)) iniI
  obtain ⟨t2, z2, T2⟩ := st_dig "DigitTens" (fun j => 48 + j / 10 % 10) dTenWd rfl (fun w hw => hF w (dTen_in w hw)) (inT _ (by decide +kernel)) iniI
  have hCS : va_Z "java/lang/String" "COMPACT_STRINGS" "Z" (.int 1) (mA s) s s.heap := va_Zof (args := args) (inT _ (by decide +kernel)) (inT _ (by decide +kernel)) (va_eqi (inF _ (by decide +kernel))) hA
  have hSF : va_Zq "jdk/internal/util/Preconditions" "SIOOBE_FORMATTER" "Ljava/util/function/BiFunction;" (mA s) s s.heap := va_Zqof (args := args) (inT _ (by decide +kernel)) (inT _ (by decide +kernel)) (inF _ (by decide +kernel)) hA
  have hUS : vx_Zq Bundle.tN "UNASSIGNED_STACK" Bundle.steD (mA s) s s.heap := vx_Zqof (args := args) (inT _ (by decide +kernel)) (inT _ (by decide +kernel)) (inF _ (by decide +kernel)) hA
  have hSS : vx_Zq Bundle.tN "SUPPRESSED_SENTINEL" Bundle.listD (mA s) s s.heap := vx_Zqof (args := args) (inT _ (by decide +kernel)) (inT _ (by decide +kernel)) (inF _ (by decide +kernel)) hA
  have h4 : va_AO RX4 s := by
    have := inT (.arrayOver (.object RX4)) (by decide +kernel)
    first | exact this | exact va_tabs rfl rfl this
  have h0 : va_AO RJ0 s := by
    have := inT (.arrayOver (.object RJ0)) (by decide +kernel)
    first | exact this | exact va_tabs rfl rfl this
  have hI : m_AOI s := by
    have := inT (.arrayOver (.array .int)) (by decide +kernel)
    first | exact this | exact va_tabs rfl rfl this
  obtain ⟨aC, hC1, hC2⟩ := st_arr (args := args) (s := s) (fun ty h => by rcases h with rfl | rfl <;> exact inT _ (by decide +kernel)) h4 h0 hI
  have hstr : ∀ i : Nat, ∃ q : Nat × Nat, i < 81 → vk_R (sRow i).1 (sRow i).2.1 (sRow i).2.2.1 q.1 s ∧ va_O "java/lang/String" q.1 (mA s) s s.heap ∧ va_OF "java/lang/String" "coder" "B" (.int 0) q.1 (mA s) s s.heap ∧ va_OF "java/lang/String" "value" "[B" (.ref q.2) q.1 (mA s) s s.heap ∧ va_T .byte q.2 (sB i).length (fun j => .int (nI ((sB i).getD j 0))) (mA s) s s.heap := fun i => by
    by_cases h : i < 81
    · obtain ⟨q, hq⟩ := st_str hF ht1 h
      exact ⟨q, fun _ => hq⟩
    · exact ⟨(0, 0), fun g => absurd g h⟩
  obtain ⟨f, hf⟩ := Classical.axiomOfChoice hstr
  have hsio : ∃ sio : Value, va_Z "jdk/internal/util/Preconditions" "SIOOBE_FORMATTER" "Ljava/util/function/BiFunction;" sio (mA s) s s.heap ∧ (sio = .null ∨ ∃ a, sio = .ref a) := by
    rcases hSF with h | ⟨t, h⟩
    · exact ⟨_, h, Or.inl rfl⟩
    · exact ⟨_, h, Or.inr ⟨t, rfl⟩⟩
  obtain ⟨sio, hs1, hs2⟩ := hsio
  -- where the cells lie
  let ex : Nat → Nat := fun c => if c < 2 then b else if c = 2 then t1 else if c = 3 then t2 else if c % 2 = 0 then (f ((c - 4) / 2)).1 else (f ((c - 4) / 2)).2
  have hex : ex = fun c => if c < 2 then b else if c = 2 then t1 else if c = 3 then t2 else if c % 2 = 0 then (f ((c - 4) / 2)).1 else (f ((c - 4) / 2)).2 := rfl
  clear_value ex
  let av : Nat → Value := fun c => if c = 0 then sio else .ref (mAd s.heap.size ex c)
  have hav : av = fun c => if c = 0 then sio else .ref (mAd s.heap.size ex c) := rfl
  clear_value av
  have ex1 : ex 1 = b := by rw [hex]; rfl
  have ex2 : ex 2 = t1 := by rw [hex]; rfl
  have ex3 : ex 3 = t2 := by rw [hex]; rfl
  have exE : ∀ i, i < 81 → ex (4 + 2 * i) = (f i).1 := fun i hi => by
    rw [hex]
    dsimp only
    rw [if_neg (by omega), if_neg (by omega), if_neg (by omega), if_pos (by omega), show (4 + 2 * i - 4) / 2 = i by omega]
  have exO : ∀ i, i < 81 → ex (5 + 2 * i) = (f i).2 := fun i hi => by
    rw [hex]
    dsimp only
    rw [if_neg (by omega), if_neg (by omega), if_neg (by omega), if_neg (by omega), show (5 + 2 * i - 4) / 2 = i by omega]
  have avr : ∀ c, ¬ c = 0 → c < 166 → av c = .ref (ex c) := fun c h0 h1 => by
    rw [hav]
    dsimp only
    rw [if_neg h0, mAd_old h1]
  have szT : ∀ {ty N g} {t : Nat}, va_T ty t N g (mA s) s s.heap → t < s.heap.size := fun {ty N g t} h => by
    obtain ⟨cell, q, -⟩ := h
    exact (Array.getElem?_eq_some_iff.mp q).1
  have hsz : ∀ c, c < mE → ex c < s.heap.size := fun c hc => by
    have hc : c < 166 := hc
    by_cases e0 : c < 2
    · rw [hex]; dsimp only; rw [if_pos e0]; exact hb
    by_cases e2 : c = 2
    · subst e2; rw [ex2]; exact szT T1
    by_cases e3 : c = 3
    · subst e3; rw [ex3]; exact szT T2
    by_cases ev : c % 2 = 0
    · have e : c = 4 + 2 * ((c - 4) / 2) := by omega
      rw [e, exE _ (by omega)]
      obtain ⟨cell, q, -⟩ := (hf ((c - 4) / 2) (by omega)).2.1
      exact (Array.getElem?_eq_some_iff.mp q).1
    · have e : c = 5 + 2 * ((c - 4) / 2) := by omega
      rw [e, exO _ (by omega)]
      exact szT (hf ((c - 4) / 2) (by omega)).2.2.2.2
  have hAv : mAv av s ex := ⟨fun c hc => by rw [hav]; exact if_neg hc, by rw [hav]; exact hs2, hsz⟩
  have av0 : av 0 = sio := by rw [hav]; rfl
  have fb : ∀ n, n < 128 → fits .byte (.int (nI n)) = true := by decide +kernel
  have fB : ∀ i, i < 81 → ∀ j, (sB i).getD j 0 < 128 := by
    have h : ∀ i, i < 81 → (sB i).all (fun x => decide (x < 128)) = true := by decide +kernel
    intro i hi j
    by_cases g : j < (sB i).length
    · have := List.all_eq_true.mp (h i hi) ((sB i).getD j 0) (by rw [List.getD_eq_getElem?_getD, List.getElem?_eq_getElem g]; exact List.getElem_mem g)
      exact of_decide_eq_true this
    · rw [List.getD_eq_getElem?_getD, List.getElem?_eq_none (by omega)]
      decide
  have hx11 := hD 11 (RJ0, TJ0, 4) rfl
  have mxf : ∀ c, c < mE → mXF s D av (W0 L xs) c (ex c) := fun c hc => by
    have hc : c < 166 := hc
    have tgE : mTg (W0 L xs) c = tg0 c := rfl
    by_cases e0 : c = 0
    · subst e0
      have tg : mTg (W0 L xs) 0 = 60 := rfl
      unfold mXF
      rw [tg]
      exact ⟨fun h => by omega, fun h => by omega, fun h => by omega, by omega, fun _ => rfl⟩
    by_cases e1 : c = 1
    · subst e1
      have tg : mTg (W0 L xs) 1 = 50 := rfl
      unfold mXF
      rw [tg, ex1]
      refine ⟨fun h => by omega, fun _ => ?_, fun h => by omega, by omega, fun h => by omega⟩
      obtain ⟨scr, g1, g2, g3, g4, g5⟩ := hX
      refine ⟨scr, g1, g2, g3, ?_, ?_, g5, hA b hb⟩
      · show L ≤ _; omega
      · show _ = Int32.ofNat L; rw [g4]
    by_cases e2 : c = 2
    · subst e2
      have tg : mTg (W0 L xs) 2 = 51 := rfl
      unfold mXF
      rw [tg, ex2]
      exact ⟨fun h => by omega, fun _ => T1, fun _ j => fb _ (by omega), by omega, fun h => by omega⟩
    by_cases e3 : c = 3
    · subst e3
      have tg : mTg (W0 L xs) 3 = 51 := rfl
      unfold mXF
      rw [tg, ex3]
      exact ⟨fun h => by omega, fun _ => T2, fun _ j => fb _ (by omega), by omega, fun h => by omega⟩
    by_cases ev : c % 2 = 0
    · obtain ⟨i, hi, rfl⟩ : ∃ i, i < 81 ∧ c = 4 + 2 * i := ⟨(c - 4) / 2, by omega, by omega⟩
      have tg : mTg (W0 L xs) (4 + 2 * i) = 11 := by
        show tg0 _ = _
        unfold tg0
        rw [if_neg (by omega), if_neg (by omega), if_neg (by omega), if_pos (by omega), if_pos ev]
      obtain ⟨g0, ⟨cell, g1, g2, g3, g4⟩, ⟨cf, kf, fi, fd, cell1, p1, p2, p3, p4, p5, p6⟩, ⟨cf', kf', fi', fd', cell2, q1, q2, q3, q4, q5, q6⟩, gT⟩ := hf i hi
      cases g1.symm.trans p3
      cases g1.symm.trans q3
      unfold mXF
      rw [tg, exE i hi]
      refine ⟨fun _ => ⟨rfl, cell, g1, ?_, g2, p4, fun k hk => ?_⟩, fun h => by omega, fun h => by omega, by omega, fun h => by omega⟩
      · have := hx11.2.1
        exact Option.some.inj (g3.symm.trans this)
      · obtain ⟨cf9, kf9, fi9, fd9, r1, r2⟩ := hx11.1 k (by show k < 4; omega)
        rcases (show k = 0 ∨ k = 1 by omega) with e | e <;> subst e
        · have r1' : s.fieldFound? "java/lang/String" "value" "[B" = some (cf9, kf9, fi9, fd9) := r1
          rw [q1] at r1'
          cases r1'
          rw [← r2, q5]
          have : mR (W0 L xs) (4 + 2 * i) 0 = some (4 + 2 * i + 1) := by
            show rf0 _ _ = _
            unfold rf0
            rw [if_pos ⟨by omega, by omega, ev, rfl⟩]
          have rr : mRef 11 0 = true := rfl
          unfold mFv
          rw [tg, if_pos rr, this]
          show some (Value.ref _) = some (av (4 + 2 * i + 1))
          rw [avr _ (by omega) (by omega), show 4 + 2 * i + 1 = 5 + 2 * i by omega, exO i hi]
        · have r1' : s.fieldFound? "java/lang/String" "coder" "B" = some (cf9, kf9, fi9, fd9) := r1
          rw [p1] at r1'
          cases r1'
          rw [← r2, p5]
          have : mI (W0 L xs) (4 + 2 * i) 1 = 0 := by
            show in0 _ _ _ = _
            unfold in0
            rw [if_neg (by omega), if_neg (by omega), if_neg (by omega), if_pos ev]
          have rr : ¬ mRef 11 1 = true := by decide
          unfold mFv
          rw [tg, if_neg rr, this]
    · obtain ⟨i, hi, rfl⟩ : ∃ i, i < 81 ∧ c = 5 + 2 * i := ⟨(c - 4) / 2, by omega, by omega⟩
      have tg : mTg (W0 L xs) (5 + 2 * i) = 51 := by
        show tg0 _ = _
        unfold tg0
        rw [if_neg (by omega), if_neg (by omega), if_neg (by omega), if_pos (by omega), if_neg ev]
      have hd : (5 + 2 * i - 4) / 2 = i := by omega
      have ln : mLn (W0 L xs) (5 + 2 * i) = (sB i).length := by
        show ln0 _ _ = _
        unfold ln0
        rw [if_neg (by omega), if_neg (by omega), hd]
      have inn : ∀ j, mI (W0 L xs) (5 + 2 * i) j = nI ((sB i).getD j 0) := fun j => by
        show in0 _ _ _ = _
        unfold in0
        rw [if_neg (by omega), if_neg (by omega), if_neg (by omega), if_neg ev, hd]
      unfold mXF
      rw [tg, exO i hi, ln]
      refine ⟨fun h => by omega, fun _ => ?_, fun _ j => ?_, by omega, fun h => by omega⟩
      · have e : (fun j => Value.int (mI (W0 L xs) (5 + 2 * i) j)) = fun j => Value.int (nI ((sB i).getD j 0)) := funext fun j => by rw [inn j]
        rw [e]
        exact (hf i hi).2.2.2.2
      · rw [inn j]; exact fb _ (fB i hi j)
  refine ⟨D, aC, av, ex, sio, (ex 2, ex 3), ⟨⟨Vm.Alike.refl _, fun w hw => ?_, fun r hr => ?_, hD, hC1, hC2, hCS, hs1, ?_, ?_, hUS, hSS⟩, h4, h0, hI⟩, ⟨Nat.le_refl _, by show _ = _ + (166 - 166); omega, fun q _ => rfl, mxf, fun c h1 h2 => absurd h2 (by have : mSz (W0 L xs) = 166 := rfl; have : mE = 166 := rfl; omega)⟩, hAv, av0, rfl, by rw [avr 1 (by decide) (by decide), ex1]⟩
  · have hin : nwl.all (fun w => decide (w ∈ tables_1)) = true := by decide +kernel
    exact va_Nw.of (mNw_tab hw) (ht1 w (of_decide_eq_true (List.all_eq_true.mp hin w hw)))
  · obtain ⟨i, hi, e⟩ := List.getElem_of_mem hr
    have hi81 : i < 81 := hi
    have e2 : sRow i = r := by
      unfold sRow
      rw [List.getD_eq_getElem?_getD, List.getElem?_eq_getElem hi, e]
      rfl
    have e3 : ∀ i, i < 81 → (sRow i).2.2.2 = 4 + 2 * i := by decide +kernel
    have := (hf i hi81).1
    rw [← e2, e3 i hi81, exE i hi81]
    exact this
  · rw [ex2]; exact z1
  · rw [ex3]; exact z2
end
theorem sbn_forget {s s' : State} {L : List Loc} {k n : Nat} (h : s.sameButNew s' L k n) (hl : ∀ q ∈ L, s.heap.size ≤ q.base) : s.sameButNew s' [] k n := by
  obtain ⟨h1, h2, h3, h4, h5, h6⟩ := h
  refine ⟨h1, h2, h3, h4, h5, fun a c hc => ?_⟩
  obtain ⟨c', g1, g2, g3, g4⟩ := h6 a c hc
  refine ⟨c', g1, g2, g3, fun i _ => g4 i fun hin => ?_⟩
  have := hl _ hin
  have hlt := (Array.getElem?_eq_some_iff.mp hc).1
  have this : s.heap.size ≤ a := this
  omega
theorem start_W (hro : mRowsOk) (hLR : lawRuns) {p : Program} {e : Env} {s : State} {m : MethodId} {below : List Frame} {meth : Method} {c : Code} (l : Launch) (hflags : l.flags = flags0) {b L : Nat} {xs : Nat → Int32} (hL : L ≤ 260) (hnm : meth.name = "law") (C0 : lw_At p s m meth c b L xs) :
    W p l e room_1 s m #[Value.ref b] below meth c s.heap [] 0 0 (lw_Z below #[Value.ref b] s) (entryFrame m ([Value.ref b] : List Value).toArray 32) := by
  obtain ⟨hx, hb, hr, hml, hown, hts, hX, hbl, hlocks, hgv⟩ := C0
  have hF : ∀ w ∈ sFl, w.before #[Value.ref b] s = true := flat_of_before _ hgv
  obtain ⟨D, aC, av, ex, sio, dg, hK, hR, hav, h0, hdg, h1⟩ := st_world hF hts hX hbl hL
  obtain ⟨wf, hrun, hc1, hc2⟩ := hLR L xs hL
  unfold mK at hrun
  obtain ⟨n, hn⟩ := mX_iff.mp hrun
  have hlt : l.stackTraces = false := by unfold Launch.stackTraces; rw [hflags]; decide +kernel
  have hTop : mTop (W0 L xs) := fun c hc => by
    have hc : 166 ≤ c := hc
    show tg0 c = 99
    unfold tg0
    rw [if_neg (by omega), if_neg (by omega), if_neg (by omega), if_neg (by omega)]
  have hG : ∀ w ∈ gwl, w.before #[Value.ref b] s = true := fun w hw => mTbl_ok hts w (List.mem_filter.mp hw).1
  have hgo := mRun (D := D) (aC := aC) hlt mOkc_all hro hav h0 hdg n 40 169 0 _ [] (W0 L xs) _ wf hn hTop
  have hC : mCtx p s m #[Value.ref b] meth c room_1 s D aC av ex sio dg 169 := ⟨hx, hb.trans (show code = mCd 169 from rfl), hG, hK, by rw [← hown]; rfl, hav, by rw [hml]; decide +kernel, by decide +kernel, by rw [hnm]; decide +kernel, h0, hdg, by decide +kernel⟩
  have hG1 := hgo p e room_1 s m #[Value.ref b] below meth c hC ⟨fun h => by omega, fun h => by omega⟩ hlocks (by rw [hr]; decide +kernel) (Nat.le_refl _) (by decide +kernel) 166 0 (Nat.le_refl _) (Nat.le_refl _) (by show _ ≤ 600086; omega) (by show _ ≤ 7301442; omega) (by decide +kernel)
  have h32 : mMl 169 = 32 := by decide +kernel
  have hmap : ([Value.ref 1].map (lf av)) = [Value.ref b] := by
    show [av 1] = _
    rw [h1]
  have hls := lv_subM (lv_entry ([Value.ref 1].map (lf av)) (n := mMl 169) (by rw [h32, hmap]; exact Nat.le_of_ble_eq_true rfl)) (mEnt_sub hav (mMl 169) [Value.ref 1])
  have hG2 := hG1 s.heap [] _ hR va_S.rf hls
  have z1 : mSz (W0 L xs) - 166 = 0 := Nat.sub_self 166
  have z2 : mSl (W0 L xs) - 0 = 0 := Nat.sub_self 0
  rw [z1, z2, hmap, h32] at hG2
  rw [lg_entry_eq]
  intro T hT X
  obtain ⟨t, a1, o, b1, b2, ⟨b3, -, -⟩, Lc, ⟨⟨v, b4⟩, b5, b6⟩, b7⟩ := hG2 T hT X
  refine ⟨t, a1, o, b1, b2, b3, ?_⟩
  exact lw_closed (d0 := s.drawn) (Drawn.sameBut.refl s.drawn lw_cs) ⟨v, b4⟩ b5 ((sbn_forget b6 b7).mono (by omega) (by omega))
