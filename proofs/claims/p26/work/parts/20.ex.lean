/-! ===== RUNS OF THE SMALL MACHINE WITHOUT FUEL ===== -/
theorem mexec_more : ∀ (n d k pc : Nat) (L st : List Value) (w : MW) (v : MRes × MW), mexec n d k pc L st w = some v → mexec (n + 1) d k pc L st w = some v := by
  intro n
  induction n with
  | zero => intro d k pc L st w v h; simp [mexec] at h
  | succ n ih =>
    intro d k pc L st w v h
    rw [mexec] at h
    rw [mexec]
    cases hf : mFetch k pc with
    | none => simp [hf] at h
    | some r =>
      obtain ⟨ins, len, ax⟩ := r
      simp only [hf] at h ⊢
      rcases (show mAsk ins ax = 0 ∨ mAsk ins ax = 1 ∨ mAsk ins ax = 2 ∨ 3 ≤ mAsk ins ax by omega) with e | e | e | e
      · simp only [e] at h ⊢
        cases hs : mstep ins len ax pc L st w with
        | none => simp [hs] at h
        | some q =>
          obtain ⟨pc', L', st', w'⟩ := q
          simp only [hs] at h ⊢
          exact ih _ _ _ _ _ _ _ h
      · simp only [e] at h ⊢
        cases d with
        | zero => cases h
        | succ d' =>
          dsimp only at h ⊢
          split at h
          · rename_i hc
            rw [if_pos hc]
            cases he : mexec n d' (ax.getD 0 0) 0 (mEnt (mMl (ax.getD 0 0)) (st.take (ax.getD 1 0)).reverse) [] w with
            | none => rw [he] at h; cases h
            | some q =>
              have he2 := ih _ _ _ _ _ _ _ he
              obtain ⟨r, w1⟩ := q
              rw [he] at h
              rw [he2]
              cases r with
              | inl v0 => exact ih _ _ _ _ _ _ _ h
              | inr E =>
                try dsimp only at h ⊢
                cases hhd : mHand k pc E with
                | none => rw [hhd] at h; cases h
                | some q =>
                  rw [hhd] at h
                  dsimp only at h ⊢
                  split at h
                  · rename_i hc2
                    rw [if_pos hc2]
                    exact ih _ _ _ _ _ _ _ h
                  · cases h
          · cases h
      · simp only [e] at h ⊢
        exact h
      · obtain ⟨b, e2⟩ : ∃ b, mAsk ins ax = b + 3 := ⟨mAsk ins ax - 3, by omega⟩
        simp only [e2] at h ⊢
        exact h
theorem mexec_le {n m d k pc : Nat} {L st : List Value} {w : MW} {v : MRes × MW} (h : mexec n d k pc L st w = some v) (hm : n ≤ m) : mexec m d k pc L st w = some v := by
  induction hm with
  | refl => exact h
  | step _ ih => exact mexec_more _ _ _ _ _ _ _ _ ih
noncomputable def mX (d k pc : Nat) (L st : List Value) (w : MW) : Option (MRes × MW) :=
  @dite _ (∃ v, ∃ n, mexec n d k pc L st w = some v) (Classical.propDecidable _) (fun h => some (Classical.choose h)) (fun _ => none)
theorem mX_iff {d k pc : Nat} {L st : List Value} {w : MW} {v : MRes × MW} : mX d k pc L st w = some v ↔ ∃ n, mexec n d k pc L st w = some v := by
  unfold mX
  constructor
  · intro h
    split at h
    · rename_i hx
      obtain ⟨n, hn⟩ := Classical.choose_spec hx
      cases h
      exact ⟨n, hn⟩
    · cases h
  · rintro ⟨n, hn⟩
    have hx : ∃ v, ∃ n, mexec n d k pc L st w = some v := ⟨v, n, hn⟩
    rw [dif_pos hx]
    obtain ⟨m, hm⟩ := Classical.choose_spec hx
    have h1 := mexec_le hn (Nat.le_max_left n m)
    have h2 := mexec_le hm (Nat.le_max_right n m)
    exact h2.symm.trans h1
theorem mX_of {n d k pc : Nat} {L st : List Value} {w : MW} {v : MRes × MW} (h : mexec n d k pc L st w = some v) : mX d k pc L st w = some v := mX_iff.mpr ⟨n, h⟩
theorem mOpt_ext {α : Type} {a b : Option α} (h : ∀ v, a = some v ↔ b = some v) : a = b := by
  cases a with
  | none => cases b with
    | none => rfl
    | some y => exact absurd ((h y).mpr rfl) (by simp)
  | some x => exact ((h x).mp rfl).symm
/-- a step of its own -/
theorem X_st {d k pc pc' len : Nat} {L st L' st' : List Value} {w w' : MW} {ins : Instr} {ax : List Nat} (hf : mFetch k pc = some (ins, len, ax)) (ha : mAsk ins ax = 0) (hs : mstep ins len ax pc L st w = some (pc', L', st', w')) : mX d k pc L st w = mX d k pc' L' st' w' := by
  refine mOpt_ext fun v => ?_
  rw [mX_iff, mX_iff]
  constructor
  · rintro ⟨n, h⟩
    cases n with
    | zero => simp [mexec] at h
    | succ n =>
      rw [mexec, hf] at h
      simp only [ha, hs] at h
      exact ⟨n, h⟩
  · rintro ⟨n, h⟩
    refine ⟨n + 1, ?_⟩
    rw [mexec, hf]
    simp only [ha, hs]
    exact h
theorem X_ret {d k pc len : Nat} {L st : List Value} {w : MW} {ins : Instr} {ax : List Nat} {v : Option Value} (hf : mFetch k pc = some (ins, len, ax)) (ha : mAsk ins ax = 2) (hr : mRet ins ax st = some v) : mX d k pc L st w = some (.inl v, w) := by
  refine mX_of (n := 1) ?_
  rw [mexec, hf]
  simp only [ha, hr]
theorem X_thr {d k pc len : Nat} {L : List Value} {w : MW} {ins : Instr} {ax : List Nat} (hf : mFetch k pc = some (ins, len, ax)) (ha : mAsk ins ax = 3) : mX d k pc L [] w = some (.inr (ax.getD 0 0 - 100), wN w 61 0 6) := by
  refine mX_of (n := 1) ?_
  rw [mexec, hf]
  simp only [ha]
noncomputable def mK (d c : Nat) (as : List Value) (w : MW) : Option (MRes × MW) := mX d c 0 (mEnt (mMl c) as) [] w
def mThen (r : Option (MRes × MW)) (f : Option Value → MW → Option (MRes × MW)) : Option (MRes × MW) := match r with
  | some (.inl v, w) => f v w
  | _ => none
noncomputable def mThenH (d k pc q kind : Nat) (L rest : List Value) (r : Option (MRes × MW)) : Option (MRes × MW) := match r with
  | some (.inl v, w) => mX d k q L (v.toList ++ rest) w
  | some (.inr E, w) => match mHand k pc E with
    | none => none
    | some (h, i) => if i < L.length ∧ kind = 2 then mX d k h (mSt L i mJ) [] w else none
  | none => none
theorem X_callH {d k pc len : Nat} {L st : List Value} {w : MW} {ins : Instr} {ax : List Nat} (hf : mFetch k pc = some (ins, len, ax)) (ha : mAsk ins ax = 1) (h1 : mCat (st.drop (ax.getD 1 0)) ≤ 8) (h2 : ax.getD 1 0 ≤ st.length) (h3 : mRcv (ax.getD 2 0) (ax.getD 3 0) (st.take (ax.getD 1 0)).reverse w = true) (h4 : (mSpread (st.take (ax.getD 1 0)).reverse).length ≤ mMl (ax.getD 0 0)) :
    mX (d + 1) k pc L st w = mThenH (d + 1) k pc (pc + len) (ax.getD 2 0) L (st.drop (ax.getD 1 0)) (mK d (ax.getD 0 0) (st.take (ax.getD 1 0)).reverse w) := by
  have hc : mCat (st.drop (ax.getD 1 0)) ≤ 8 ∧ ax.getD 1 0 ≤ st.length ∧ mRcv (ax.getD 2 0) (ax.getD 3 0) (st.take (ax.getD 1 0)).reverse w = true ∧ (mSpread (st.take (ax.getD 1 0)).reverse).length ≤ mMl (ax.getD 0 0) := ⟨h1, h2, h3, h4⟩
  refine mOpt_ext fun v => ?_
  unfold mK
  rw [mX_iff]
  constructor
  · rintro ⟨n, h⟩
    cases n with
    | zero => simp [mexec] at h
    | succ n =>
      rw [mexec, hf] at h
      simp only [ha] at h
      rw [if_pos hc] at h
      cases he : mexec n d (ax.getD 0 0) 0 (mEnt (mMl (ax.getD 0 0)) (st.take (ax.getD 1 0)).reverse) [] w with
      | none => rw [he] at h; cases h
      | some q =>
        obtain ⟨r, w1⟩ := q
        rw [he] at h
        rw [mX_of he]
        cases r with
        | inl v0 => exact mX_of h
        | inr E =>
          dsimp only [mThenH] at h ⊢
          cases hhd : mHand k pc E with
          | none => rw [hhd] at h; cases h
          | some q =>
            rw [hhd] at h
            dsimp only at h ⊢
            split at h
            · rename_i hc2
              rw [if_pos hc2]
              exact mX_of h
            · cases h
  · intro h
    cases he : mX d (ax.getD 0 0) 0 (mEnt (mMl (ax.getD 0 0)) (st.take (ax.getD 1 0)).reverse) [] w with
    | none => rw [he] at h; cases h
    | some q =>
      obtain ⟨r, w1⟩ := q
      rw [he] at h
      obtain ⟨n1, he1⟩ := mX_iff.mp he
      cases r with
      | inl v0 =>
        obtain ⟨n2, h2⟩ := mX_iff.mp h
        refine ⟨max n1 n2 + 1, ?_⟩
        rw [mexec, hf]
        simp only [ha]
        rw [if_pos hc, mexec_le he1 (Nat.le_max_left n1 n2)]
        exact mexec_le h2 (Nat.le_max_right n1 n2)
      | inr E =>
        dsimp only [mThenH] at h
        split at h
        · cases h
        · rename_i h0 i0 hh
          split at h
          · rename_i hc2
            obtain ⟨n2, h2⟩ := mX_iff.mp h
            refine ⟨max n1 n2 + 1, ?_⟩
            rw [mexec, hf]
            simp only [ha]
            rw [if_pos hc, mexec_le he1 (Nat.le_max_left n1 n2)]
            simp only [hh]
            rw [if_pos hc2]
            exact mexec_le h2 (Nat.le_max_right n1 n2)
          · cases h
theorem mHand_ne {k pc E : Nat} (h : ¬ k = 168) : mHand k pc E = none := by
  have h2 : ¬ 168 = k := fun e => h e.symm
  simp [mHand, mHt, h2]
theorem mThenH_ne {d k pc q kind : Nat} {L rest : List Value} {r : Option (MRes × MW)} (h : ¬ k = 168) : mThenH d k pc q kind L rest r = mThen r (fun v w' => mX d k q L (v.toList ++ rest) w') := by
  unfold mThenH mThen
  simp only [mHand_ne h]
  rcases r with _ | ⟨_ | _, _⟩ <;> rfl
theorem mThen_ok {v : Option Value} {w : MW} {f : Option Value → MW → Option (MRes × MW)} : mThen (some (.inl v, w)) f = f v w := rfl
theorem X_call {d k pc len c na q : Nat} {L st as rest : List Value} {w : MW} {ins : Instr} {ax : List Nat} (hf : mFetch k pc = some (ins, len, ax)) (hk : ¬ k = 168) (ha : mAsk ins ax = 1) (hc : ax.getD 0 0 = c) (hn : ax.getD 1 0 = na) (has : (st.take na).reverse = as) (hr : st.drop na = rest) (hq : pc + len = q) (h1 : mCat rest ≤ 8) (h2 : na ≤ st.length) (h3 : mRcv (ax.getD 2 0) (ax.getD 3 0) as w = true) (h4 : (mSpread as).length ≤ mMl c) :
    mX (d + 1) k pc L st w = mThen (mK d c as w) (fun v w' => mX (d + 1) k q L (v.toList ++ rest) w') := by
  subst hc hn has hr hq
  rw [X_callH hf ha h1 h2 h3 h4, mThenH_ne hk]
/-! dead locals -/
def mMask : Nat → List Value → List Value
  | _, [] => []
  | m, v :: L => (if m % 2 = 1 then v else mJ) :: mMask (m / 2) L
def mAg (m : Nat) (L L' : List Value) : Prop := L.length = L'.length ∧ ∀ i, m.testBit i = true → L[i]? = L'[i]?
/-- where a step may go on -/
def mSc (ins : Instr) (len : Nat) (ax : List Nat) (pc : Nat) : List Nat := match ins with
  | .goto _ => [ax.getD 0 0]
  | .ifCond _ _ => [ax.getD 0 0, pc + len]
  | .if_icmp _ _ => [ax.getD 0 0, pc + len]
  | .ifnonnull _ => [ax.getD 0 0, pc + len]
  | .tableswitch _ _ _ _ => ax
  | .lookupswitch _ _ => ax
  | .ireturn => []
  | .areturn => []
  | .lreturn => []
  | .dreturn => []
  | .return_ => []
  | _ => [pc + len]
/-- the locals that a step reads -/
def mUs (ins : Instr) : Nat := match ins with
  | .iload_n i => 1 <<< i.val
  | .iload i => 1 <<< i
  | .lload_n i => 1 <<< i.val
  | .lload i => 1 <<< i
  | .aload_n i => 1 <<< i.val
  | .aload i => 1 <<< i
  | .iinc i _ => 1 <<< i
  | _ => 0
/-- the locals that a step writes -/
def mDf (ins : Instr) : Nat := match ins with
  | .istore_n i => 1 <<< i.val
  | .istore i => 1 <<< i
  | .lstore_n i => 1 <<< i.val ||| 1 <<< (i.val + 1)
  | .lstore i => 1 <<< i ||| 1 <<< (i + 1)
  | .astore_n i => 1 <<< i.val
  | .astore i => 1 <<< i
  | .iinc i _ => 1 <<< i
  | _ => 0
def mSub (a b : Nat) : Bool := a ||| b == b
theorem mSub_bit {a b i : Nat} (h : mSub a b = true) (hi : a.testBit i = true) : b.testBit i = true := by
  have h1 : a ||| b = b := by simpa [mSub] using h
  rw [← h1, Nat.testBit_or, hi]
  rfl
theorem mAg.sub {a b : Nat} {L L' : List Value} (h : mAg b L L') (hs : mSub a b = true) : mAg a L L' := ⟨h.1, fun i hi => h.2 i (mSub_bit hs hi)⟩
theorem mBit_one {i t : Nat} (h : (1 <<< i).testBit t = true) : t = i := by
  rw [Nat.one_shiftLeft, Nat.testBit_two_pow] at h
  exact (of_decide_eq_true h).symm
theorem mBit_self (i : Nat) : (1 <<< i).testBit i = true := by
  rw [Nat.one_shiftLeft, Nat.testBit_two_pow]
  simp
theorem mAg.st {a b i : Nat} {L L' : List Value} {v : Value} (h : mAg b L L') (hs : mSub a (b ||| 1 <<< i) = true) : mAg a (mSt L i v) (mSt L' i v) := by
  obtain ⟨h1, h2⟩ := h
  have h4 : ∀ t, a.testBit t = true → ¬ t = i → L[t]? = L'[t]? := fun t ht e => by
    have h3 := mSub_bit hs ht
    rw [Nat.testBit_or] at h3
    rcases Bool.or_eq_true _ _ |>.mp h3 with g | g
    · exact h2 t g
    · exact absurd (mBit_one g) e
  have o1 : ∀ (M : List Value) (t i : Nat) (v : Value), ¬ t = i → (M.set i v)[t]? = M[t]? := fun M t i v e => List.getElem?_set_ne (fun q => e q.symm)
  cases i with
  | zero =>
    refine ⟨by simp [mSt, h1], fun t ht => ?_⟩
    simp only [mSt]
    by_cases e : t = 0
    · subst e; simp [List.getElem?_set, h1]
    · rw [o1 _ _ _ _ e, o1 _ _ _ _ e]
      exact h4 t ht e
  | succ j =>
    refine ⟨by simp [mSt, h1], fun t ht => ?_⟩
    simp only [mSt]
    by_cases e : t = j + 1
    · subst e; simp [List.getElem?_set, h1]
    · rw [o1 _ _ _ _ e, o1 _ _ _ _ e]
      have h5 := h4 t ht e
      by_cases e2 : t = j
      · subst e2
        have h6 : L.getD t mJ = L'.getD t mJ := by simp only [List.getD_eq_getElem?_getD, h5]
        rw [h6]
        simp [List.getElem?_set, h1]
      · rw [o1 _ _ _ _ e2, o1 _ _ _ _ e2]
        exact h5
theorem mAg.st2 {a b i : Nat} {L L' : List Value} {v : Value} (h : mAg b L L') (hs : mSub a (b ||| (1 <<< i ||| 1 <<< (i + 1))) = true) : mAg a (mSt2 L i v) (mSt2 L' i v) := by
  have h1 : mAg (b ||| 1 <<< i) (mSt L i v) (mSt L' i v) := h.st (by simp [mSub])
  have o1 : ∀ (M : List Value) (t i : Nat) (v : Value), ¬ t = i → (M.set i v)[t]? = M[t]? := fun M t i v e => List.getElem?_set_ne (fun q => e q.symm)
  refine ⟨by simp [mSt2, h1.1], fun t ht => ?_⟩
  have h3 := mSub_bit hs ht
  rw [← Nat.or_assoc, Nat.testBit_or] at h3
  simp only [mSt2]
  by_cases e : t = i + 1
  · subst e; simp [List.getElem?_set, h1.1]
  · rw [o1 _ _ _ _ e, o1 _ _ _ _ e]
    refine h1.2 t ?_
    rcases Bool.or_eq_true _ _ |>.mp h3 with g | g
    · exact g
    · exact absurd (mBit_one g) e
def mLvm (k pc : Nat) : Nat := (mLvt.getD k []).foldr (fun r acc => cond (Nat.beq r.1 pc) r.2 acc) 0
def mLvOk (k pc : Nat) (ins : Instr) (len : Nat) (ax : List Nat) : Bool :=
  mSub (mUs ins) (mLvm k pc) && (mSc ins len ax pc).all (fun q => mSub (mLvm k q) (mLvm k pc ||| mDf ins)) && (match ins with
    | .tableswitch _ lo hi _ => decide (hi - lo + 2 = (ax.length : Int)) && decide (0 < ax.length)
    | .lookupswitch _ _ => decide (0 < ax.length)
    | _ => true) && mHt.all (fun h => h.1 != k || mSub (mLvm k h.2.2.2.2.1) (mLvm k pc ||| 1 <<< h.2.2.2.2.2) || decide (pc < h.2.1) || decide (h.2.2.1 ≤ pc))
theorem mLook_mem (ps : List (Int × Int)) : ∀ (ts : List Nat) (d : Nat) (x : Int), mLook ps ts d x = d ∨ mLook ps ts d x ∈ ts := by
  induction ps with
  | nil => intro ts d x; exact Or.inl (by simp [mLook])
  | cons p r ih =>
    intro ts d x
    cases ts with
    | nil => exact Or.inl (by simp [mLook])
    | cons t ts =>
      obtain ⟨a, b⟩ := p
      simp only [mLook]
      split
      · exact Or.inr (by simp)
      · rcases ih ts d x with h | h
        · exact Or.inl h
        · exact Or.inr (List.mem_cons_of_mem _ h)
theorem mTab_mem {lo hi : Int} {ax : List Nat} {x : Int} (h1 : hi - lo + 2 = (ax.length : Int)) (h2 : 0 < ax.length) : mTab lo hi ax x ∈ ax := by
  have key : ∀ i, i < ax.length → ax.getD i 0 ∈ ax := fun i hi => by
    rw [List.getD_eq_getElem?_getD, List.getElem?_eq_getElem hi]
    exact List.getElem_mem hi
  unfold mTab
  split
  · exact key 0 h2
  · exact key _ (by omega)
/-- a step with other dead locals -/
theorem mstep_ag {k pc len : Nat} {ins : Instr} {ax : List Nat} {L L' st : List Value} {w : MW} (h : mAg (mLvm k pc) L L') (hok : mLvOk k pc ins len ax = true) :
    (mstep ins len ax pc L st w = none ∧ mstep ins len ax pc L' st w = none) ∨ ∃ pc' L1 L1' st' w', mstep ins len ax pc L st w = some (pc', L1, st', w') ∧ mstep ins len ax pc L' st w = some (pc', L1', st', w') ∧ mAg (mLvm k pc') L1 L1' := by
  simp only [mLvOk, Bool.and_eq_true, List.all_eq_true] at hok
  obtain ⟨⟨⟨hu, hs⟩, hx⟩, -⟩ := hok
  have key : ∀ pc', pc' ∈ mSc ins len ax pc → mDf ins = 0 → mAg (mLvm k pc') L L' := fun pc' hp h0 => by
    have h1 := hs pc' hp
    rw [h0, Nat.or_zero] at h1
    exact h.sub h1
  have hus : ∀ i, mUs ins = 1 <<< i → L[i]? = L'[i]? := fun i hi => by
    rw [hi] at hu
    exact h.2 i (mSub_bit hu (mBit_self i))
  have hln := h.1
  cases ins
  case iload_n i => 
    simp only [mstep, ← hus _ rfl]
    split
    · exact Or.inr ⟨_, _, _, _, _, rfl, rfl, key _ (by simp [mSc]) rfl⟩
    · exact Or.inl ⟨rfl, rfl⟩
  case iload i => 
    simp only [mstep, ← hus _ rfl]
    split
    · exact Or.inr ⟨_, _, _, _, _, rfl, rfl, key _ (by simp [mSc]) rfl⟩
    · exact Or.inl ⟨rfl, rfl⟩
  case lload_n i => 
    simp only [mstep, ← hus _ rfl]
    split
    · exact Or.inr ⟨_, _, _, _, _, rfl, rfl, key _ (by simp [mSc]) rfl⟩
    · exact Or.inl ⟨rfl, rfl⟩
  case lload i => 
    simp only [mstep, ← hus _ rfl]
    split
    · exact Or.inr ⟨_, _, _, _, _, rfl, rfl, key _ (by simp [mSc]) rfl⟩
    · exact Or.inl ⟨rfl, rfl⟩
  case aload_n i => 
    simp only [mstep, ← hus _ rfl]
    split
    · exact Or.inr ⟨_, _, _, _, _, rfl, rfl, key _ (by simp [mSc]) rfl⟩
    · exact Or.inr ⟨_, _, _, _, _, rfl, rfl, key _ (by simp [mSc]) rfl⟩
    · exact Or.inl ⟨rfl, rfl⟩
  case aload i => 
    simp only [mstep, ← hus _ rfl]
    split
    · exact Or.inr ⟨_, _, _, _, _, rfl, rfl, key _ (by simp [mSc]) rfl⟩
    · exact Or.inr ⟨_, _, _, _, _, rfl, rfl, key _ (by simp [mSc]) rfl⟩
    · exact Or.inl ⟨rfl, rfl⟩
  case iinc i n =>
    simp only [mstep, ← hus _ rfl]
    split
    · exact Or.inr ⟨_, _, _, _, _, rfl, rfl, h.st (hs _ (by simp [mSc]))⟩
    · exact Or.inl ⟨rfl, rfl⟩
  case istore_n i =>
    simp only [mstep, ← hln]
    (repeat' split) <;> first | exact Or.inl ⟨rfl, rfl⟩ | exact Or.inr ⟨_, _, _, _, _, rfl, rfl, h.st (hs _ (by simp [mSc]))⟩
  case istore i =>
    simp only [mstep, ← hln]
    (repeat' split) <;> first | exact Or.inl ⟨rfl, rfl⟩ | exact Or.inr ⟨_, _, _, _, _, rfl, rfl, h.st (hs _ (by simp [mSc]))⟩
  case astore_n i =>
    simp only [mstep, ← hln]
    (repeat' split) <;> first | exact Or.inl ⟨rfl, rfl⟩ | exact Or.inr ⟨_, _, _, _, _, rfl, rfl, h.st (hs _ (by simp [mSc]))⟩
  case astore i =>
    simp only [mstep, ← hln]
    (repeat' split) <;> first | exact Or.inl ⟨rfl, rfl⟩ | exact Or.inr ⟨_, _, _, _, _, rfl, rfl, h.st (hs _ (by simp [mSc]))⟩
  case lstore_n i =>
    simp only [mstep, ← hln]
    (repeat' split) <;> first | exact Or.inl ⟨rfl, rfl⟩ | exact Or.inr ⟨_, _, _, _, _, rfl, rfl, h.st2 (hs _ (by simp [mSc]))⟩
  case lstore i =>
    simp only [mstep, ← hln]
    (repeat' split) <;> first | exact Or.inl ⟨rfl, rfl⟩ | exact Or.inr ⟨_, _, _, _, _, rfl, rfl, h.st2 (hs _ (by simp [mSc]))⟩
  case tableswitch d lo hi offs =>
    simp only [Bool.and_eq_true, decide_eq_true_eq] at hx
    simp only [mstep]
    split
    · exact Or.inr ⟨_, _, _, _, _, rfl, rfl, key _ (mTab_mem hx.1 hx.2) rfl⟩
    · exact Or.inl ⟨rfl, rfl⟩
  case lookupswitch d ps =>
    simp only [decide_eq_true_eq] at hx
    simp only [mstep]
    split
    · rename_i x r
      refine Or.inr ⟨_, _, _, _, _, rfl, rfl, key _ ?_ rfl⟩
      rcases mLook_mem ps.toList (ax.drop 1) (ax.getD 0 0) x.toInt with g | g
      · rw [g]
        rw [List.getD_eq_getElem?_getD, List.getElem?_eq_getElem hx]
        exact List.getElem_mem hx
      · exact List.mem_of_mem_drop g
    · exact Or.inl ⟨rfl, rfl⟩
  all_goals first
  | exact Or.inl ⟨rfl, rfl⟩
  | dsimp only [mstep]
    (repeat' split) <;> first | exact Or.inl ⟨rfl, rfl⟩ | exact Or.inr ⟨_, _, _, _, _, rfl, rfl, key _ (by simp [mSc]) rfl⟩
theorem mexec_ag (hall : ∀ k pc ins len ax, mFetch k pc = some (ins, len, ax) → mLvOk k pc ins len ax = true) : ∀ (n d k pc : Nat) (L L' st : List Value) (w : MW), mAg (mLvm k pc) L L' → mexec n d k pc L st w = mexec n d k pc L' st w := by
  intro n
  induction n with
  | zero => intro d k pc L L' st w h; rfl
  | succ n ih =>
    intro d k pc L L' st w h
    rw [mexec, mexec]
    cases hf : mFetch k pc with
    | none => rfl
    | some r =>
      obtain ⟨ins, len, ax⟩ := r
      have hok := hall _ _ _ _ _ hf
      have hln := h.1
      simp only
      rcases (show mAsk ins ax = 0 ∨ mAsk ins ax = 1 ∨ mAsk ins ax = 2 ∨ 3 ≤ mAsk ins ax by omega) with hak | hak | hak | hak
      · simp only [hak]
        rcases mstep_ag (st := st) (w := w) h hok with ⟨g1, g2⟩ | ⟨pc', L1, L1', st', w', g1, g2, g3⟩
        · rw [g1, g2]
        · rw [g1, g2]
          exact ih _ _ _ _ _ _ _ g3
      · simp only [hak]
        simp only [mLvOk, Bool.and_eq_true, List.all_eq_true] at hok
        obtain ⟨⟨⟨hu, hs⟩, hx⟩, hh⟩ := hok
        have hsc : mSc ins len ax pc = [pc + len] := by
          cases ins <;> first | rfl | (simp [mAsk] at hak; done) | (simp only [mAsk] at hak; cases hak)
        have hdf : mDf ins = 0 := by
          cases ins <;> first | rfl | (simp [mAsk] at hak; done) | (simp only [mAsk] at hak; cases hak)
        have h1 : mAg (mLvm k (pc + len)) L L' := by
          have := hs (pc + len) (by rw [hsc]; simp)
          rw [hdf, Nat.or_zero] at this
          exact h.sub this
        cases d with
        | zero => rfl
        | succ d' =>
          by_cases hc : mCat (st.drop (ax.getD 1 0)) ≤ 8 ∧ ax.getD 1 0 ≤ st.length ∧ mRcv (ax.getD 2 0) (ax.getD 3 0) (st.take (ax.getD 1 0)).reverse w = true ∧ (mSpread (st.take (ax.getD 1 0)).reverse).length ≤ mMl (ax.getD 0 0)
          · dsimp only
            rw [if_pos hc, if_pos hc]
            cases he : mexec n d' (ax.getD 0 0) 0 (mEnt (mMl (ax.getD 0 0)) (st.take (ax.getD 1 0)).reverse) [] w with
            | none => rfl
            | some q =>
              obtain ⟨r, w1⟩ := q
              cases r with
              | inl v0 => exact ih _ _ _ _ _ _ _ h1
              | inr E =>
                dsimp only
                cases hhd : mHand k pc E with
                | none => rfl
                | some q =>
                  obtain ⟨hp, i⟩ := q
                  dsimp only
                  rw [hln]
                  split
                  · refine ih _ _ _ _ _ _ _ (h.st ?_)
                    unfold mHand at hhd
                    cases hfd : mHt.find? (fun h => h.1 == k && decide (h.2.1 ≤ pc) && decide (pc < h.2.2.1) && h.2.2.2.1 == E) with
                    | none => rw [hfd] at hhd; cases hhd
                    | some q =>
                      rw [hfd] at hhd
                      have h3 := List.find?_some hfd
                      have h4 := hh q (List.mem_of_find?_eq_some hfd)
                      simp only [Option.map_some, Option.some.injEq] at hhd
                      simp only [Bool.and_eq_true, beq_iff_eq, decide_eq_true_eq] at h3
                      simp only [Bool.or_eq_true, bne_iff_ne, decide_eq_true_eq] at h4
                      have e1 : q.2.2.2.2.1 = hp := by rw [hhd]
                      have e2 : q.2.2.2.2.2 = i := by rw [hhd]
                      rw [e1, e2] at h4
                      rcases h4 with ((g | g) | g) | g
                      · exact absurd h3.1.1.1 g
                      · exact g
                      · omega
                      · omega
                  · rfl
          · dsimp only
            rw [if_neg hc, if_neg hc]
      · simp only [hak]
      · obtain ⟨b, e2⟩ : ∃ b, mAsk ins ax = b + 3 := ⟨mAsk ins ax - 3, by omega⟩
        simp only [e2]
def mLvRow (k : Nat) (r : MRow) : Bool := mLvOk k r.1 r.2.1 r.2.2.1 r.2.2.2

theorem mAg_mask : ∀ (L : List Value) (m : Nat), mAg m L (mMask m L)
  | [], m => ⟨rfl, fun i _ => by simp [mMask]⟩
  | v :: L, m => by
    obtain ⟨h1, h2⟩ := mAg_mask L (m / 2)
    refine ⟨by simp [mMask, ← h1], fun i hi => ?_⟩
    cases i with
    | zero =>
      have h3 : m % 2 = 1 := by simpa [Nat.testBit_zero] using hi
      simp [mMask, h3]
    | succ i =>
      rw [Nat.testBit_succ] at hi
      simp only [mMask, List.getElem?_cons_succ]
      exact h2 i hi
theorem mFetch_mem {k pc len : Nat} {ins : Instr} {ax : List Nat} (h : mFetch k pc = some (ins, len, ax)) : (pc, ins, len, ax) ∈ mtbs.getD k [] := by
  unfold mFetch at h
  cases hf : (mtbs.getD k []).find? (fun r => r.1 == pc) with
  | none => rw [hf] at h; cases h
  | some r =>
    rw [hf] at h
    have h1 := List.find?_some hf
    have h2 := List.mem_of_find?_eq_some hf
    have h3 : r.1 = pc := by simpa using h1
    have h4 : r.2 = (ins, len, ax) := by simpa using h
    rw [← h3, ← h4]
    exact h2
