/-! ===== A STEP OF THE SMALL MACHINE IS STEPS OF THE MACHINE ===== -/
def lvE (av : Nat → Value) (i : Nat) (o : Option Value) : Option (Nat × Value) := match o with
  | some (Value.retAddr _) => none
  | some v => some (i, lf av v)
  | none => none
def lvL (av : Nat → Value) (L : List Value) : List (Nat × Value) := (List.range L.length).filterMap (fun i => lvE av i L[i]?)
theorem lvL_mem {av : Nat → Value} {L : List Value} {i : Nat} {u : Value} : (i, u) ∈ lvL av L ↔ ∃ v, L[i]? = some v ∧ (∀ n, v ≠ .retAddr n) ∧ u = lf av v := by
  unfold lvL
  rw [List.mem_filterMap]
  constructor
  · rintro ⟨j, hj, h⟩
    cases hv : L[j]? with
    | none => rw [hv] at h; cases h
    | some v =>
      rw [hv] at h
      cases v <;> simp [lvE] at h <;> (obtain ⟨rfl, rfl⟩ := h; exact ⟨_, hv, (fun n q => by cases q), rfl⟩)
  · rintro ⟨v, hv, hn, rfl⟩
    refine ⟨i, List.mem_range.mpr (List.getElem?_eq_some_iff.mp hv).1, ?_⟩
    rw [hv]
    cases v <;> first | rfl | exact absurd rfl (hn _)
theorem lv_subM {ls : Array Slot} {n : Nat} {l l' : List (Nat × Value)} (h : lv_has ls n l) (hs : ∀ q ∈ l', q ∈ l) : lv_has ls n l' := ⟨h.1, h.2.1, fun q hq => h.2.2 q (hs q hq)⟩
theorem lvL_at {av : Nat → Value} {L : List Value} {ls : Array Slot} {n i : Nat} {v : Value} (h : lv_has ls n (lvL av L)) (hv : L[i]? = some v) (hn : ∀ k, v ≠ .retAddr k) : ls[i]? = some (.val (lf av v)) := h.2.2 (i, lf av v) (lvL_mem.mpr ⟨v, hv, hn, rfl⟩)
theorem cat_lf {av : Nat → Value} {s0 : State} {ex : Nat → Nat} (hav : mAv av s0 ex) (v : Value) : (lf av v).category = v.category := by
  cases v with
  | ref a =>
    show (av a).category = 1
    rcases hav.ref a with h | ⟨x, h⟩ <;> rw [h] <;> rfl
  | _ => rfl
theorem mIv_ne {v x : Value} (h : mIv v = x) (hn : ∀ n, x ≠ .retAddr n) : x = v ∧ v.category ≠ 2 := by
  unfold mIv at h
  split at h
  · exact absurd h.symm (hn 0)
  · exact ⟨h.symm, by assumption⟩
theorem mSt_sub {av : Nat → Value} {s0 : State} {ex : Nat → Nat} (hav : mAv av s0 ex) {L : List Value} {i : Nat} {v : Value} (hi : i < L.length) : ∀ q ∈ lvL av (mSt L i v), q ∈ (i, lf av v) :: (lvL av L).filter (fun q => !(q.1 == i) && !(q.1 + 1 == i && q.2.category == 2)) := by
  rintro ⟨j, u⟩ h
  obtain ⟨x, hx, hn, rfl⟩ := lvL_mem.mp h
  have key : ∀ (y : Value), L[j]? = some y → x = y → j ≠ i → (j + 1 = i → y.category ≠ 2) → (j, lf av x) ∈ (i, lf av v) :: (lvL av L).filter (fun q => !(q.1 == i) && !(q.1 + 1 == i && q.2.category == 2)) := by
    intro y hy hxy hji hc
    subst hxy
    refine List.mem_cons_of_mem _ (List.mem_filter.mpr ⟨lvL_mem.mpr ⟨x, hy, hn, rfl⟩, ?_⟩)
    simp only [cat_lf hav, Bool.and_eq_true, Bool.not_eq_true', beq_eq_false_iff_ne, ne_eq, Bool.and_eq_false_iff]
    refine ⟨hji, ?_⟩
    by_cases e : j + 1 = i
    · exact Or.inr (hc e)
    · exact Or.inl e
  unfold mSt at hx
  cases i with
  | zero =>
    simp only at hx
    by_cases hj : j = 0
    · subst hj
      rw [List.getElem?_set_self hi] at hx
      cases hx
      exact List.mem_cons_self
    · rw [List.getElem?_set_ne (Ne.symm hj)] at hx
      exact key x hx rfl hj (fun q => by omega)
  | succ i =>
    simp only at hx
    by_cases hj : j = i + 1
    · subst hj
      rw [List.getElem?_set_self (by rw [List.length_set]; exact hi)] at hx
      cases hx
      exact List.mem_cons_self
    · rw [List.getElem?_set_ne (Ne.symm hj)] at hx
      by_cases hj2 : j = i
      · subst hj2
        rw [List.getElem?_set_self (by omega)] at hx
        have hl : j < L.length := by omega
        have e1 : L.getD j mJ = L[j] := by rw [List.getD_eq_getElem?_getD, List.getElem?_eq_getElem hl]; rfl
        obtain ⟨e2, e3⟩ := mIv_ne (Option.some.inj hx) hn
        rw [e1] at e2 e3
        exact key _ (List.getElem?_eq_getElem hl) e2 hj (fun _ => e3)
      · rw [List.getElem?_set_ne (Ne.symm hj2)] at hx
        exact key x hx rfl hj (fun q => by omega)
theorem mSt_len (L : List Value) (i : Nat) (v : Value) : (mSt L i v).length = L.length := by
  unfold mSt
  cases i <;> simp
theorem mSt2_len (L : List Value) (i : Nat) (v : Value) : (mSt2 L i v).length = L.length := by
  unfold mSt2
  rw [List.length_set, mSt_len]
theorem mSt2_sub {av : Nat → Value} {s0 : State} {ex : Nat → Nat} (hav : mAv av s0 ex) {L : List Value} {i : Nat} {v : Value} (hi : i + 1 < L.length) : ∀ q ∈ lvL av (mSt2 L i v), q ∈ (i, lf av v) :: (lvL av L).filter (fun q => !(q.1 == i) && (!(q.1 == i + 1) && !(q.1 + 1 == i && q.2.category == 2))) := by
  rintro ⟨j, u⟩ h
  obtain ⟨x, hx, hn, rfl⟩ := lvL_mem.mp h
  unfold mSt2 at hx
  have hj : j ≠ i + 1 := by
    intro e
    subst e
    rw [List.getElem?_set_self (by rw [mSt_len]; exact hi)] at hx
    exact hn 0 (Option.some.inj hx).symm
  rw [List.getElem?_set_ne (Ne.symm hj)] at hx
  have h1 := mSt_sub hav (L := L) (i := i) (v := v) (by omega) (j, lf av x) (lvL_mem.mpr ⟨x, hx, hn, rfl⟩)
  rcases List.mem_cons.mp h1 with h1 | h1
  · rw [h1]; exact List.mem_cons_self
  · obtain ⟨h2, h3⟩ := List.mem_filter.mp h1
    refine List.mem_cons_of_mem _ (List.mem_filter.mpr ⟨h2, ?_⟩)
    simp only [Bool.and_eq_true] at h3 ⊢
    exact ⟨h3.1, by simpa using hj, h3.2⟩
/-- beyond the last cell there is nothing -/
def mTop (w : MW) : Prop := ∀ c, mSz w ≤ c → mTg w c = 99
theorem mTop.lt {w : MW} (h : mTop w) {c : Nat} (hc : mTg w c ≠ 99) : c < mSz w := by
  rcases Nat.lt_or_ge c (mSz w) with q | q
  · exact q
  · exact absurd (h c q) hc
theorem mTop_wN {w : MW} {t n k : Nat} (h : mTop w) : mTop (wN w t n k) := by
  intro c hc
  have hc9 : mSz w + 1 ≤ c := hc
  rw [mTg_wN, if_neg (by omega)]
  exact h c (by omega)
theorem mTop_wK {w : MW} {a : Nat} (h : mTop w) : mTop (wK w a) := by
  intro c hc
  have hc9 : mSz w + 1 ≤ c := hc
  rw [(wK_old w a c (by omega)).1]
  exact h c (by omega)
theorem mTop_wM {w : MW} {n k : Nat} (h : mTop w) : mTop (wM w n k) := by
  intro c hc
  have hc9 : w.1 + 1 + n ≤ c := hc
  show (if c = w.1 then 52 else if w.1 < c ∧ c < w.1 + 1 + n then 50 else mTg w c) = 99
  rw [if_neg (by omega), if_neg (by omega)]
  exact h c (by show w.1 ≤ c; omega)
theorem mS4 {a a' : Nat} {b b' c c' : List Value} {d d' : MW} (h : (some (a, b, c, d) : Option MS) = some (a', b', c', d')) : a = a' ∧ b = b' ∧ c = c' ∧ d = d' := by
  cases h
  exact ⟨rfl, rfl, rfl, rfl⟩
theorem m_cats {av : Nat → Value} {s0 : State} {ex : Nat → Nat} (hav : mAv av s0 ex) (st : List Value) : ((st.map (lf av)).map fun v => v.category).sum ≤ 2 * st.length := by
  induction st with
  | nil => exact Nat.le_refl _
  | cons v r ih =>
    simp only [List.map_cons, List.sum_cons, List.length_cons]
    rw [cat_lf hav]
    have h : v.category ≤ 2 := by cases v <;> simp [Value.category]
    omega
theorem m_cat_eq {av : Nat → Value} {s0 : State} {ex : Nat → Nat} (hav : mAv av s0 ex) (st : List Value) : ((st.map (lf av)).map fun v => v.category).sum = mCat st := by
  unfold mCat
  induction st with
  | nil => rfl
  | cons v r ih =>
    simp only [List.map_cons, List.sum_cons]
    rw [cat_lf hav, ih]
theorem mStep_top {ins : Instr} {len pc : Nat} {ax : List Nat} {L st : List Value} {w : MW} {pc' : Nat} {L' st' : List Value} {w' : MW} (hs : mstep ins len ax pc L st w = some (pc', L', st', w')) (h : mTop w) : mTop w' ∧ mSz w ≤ mSz w' ∧ mSl w ≤ mSl w' ∧ L'.length = L.length := by
  have e0 : mTop w ∧ mSz w ≤ mSz w ∧ mSl w ≤ mSl w ∧ L.length = L.length := ⟨h, Nat.le_refl _, Nat.le_refl _, rfl⟩
  cases ins <;> first | (simp [mstep] at hs; done) | skip
  all_goals
    simp only [mstep] at hs
    repeat' (first | (cases hs; done) | split at hs)
  all_goals first
    | (cases hs; done)
    | (obtain ⟨rfl, rfl, rfl, rfl⟩ := mS4 hs
       first
       | exact e0
       | exact ⟨h, Nat.le_refl _, Nat.le_refl _, mSt_len _ _ _⟩
       | exact ⟨h, Nat.le_refl _, Nat.le_refl _, mSt2_len _ _ _⟩
       | exact ⟨mTop_wN h, Nat.le_succ _, Nat.le_add_right _ _, rfl⟩
       | exact ⟨mTop_wK h, Nat.le_succ _, Nat.le_add_right _ _, rfl⟩
       | exact ⟨mTop_wM h, Nat.le_trans (Nat.le_succ _) (Nat.le_add_right _ _), Nat.le_add_right _ _, rfl⟩)
