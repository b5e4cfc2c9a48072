/-! ===== texts: what StringBuilder and String do ===== -/
theorem sh0 (x : Int32) : x >>> (nI 0 &&& 31) = x := by
  have : (nI 0 &&& 31) = 0 := by decide +kernel
  rw [this]
  exact Int32.shiftRight_zero
theorem sl0 (x : Int32) : x <<< (nI 0 &&& 31) = x := by
  have : (nI 0 &&& 31) = 0 := by decide +kernel
  rw [this]
  exact Int32.shiftLeft_zero
section
variable {d : Nat} {w w' w1 w2 : MW} {X Y : Nat → Prop}
/-- cells that there were are as they were, but those of X -/
def sm (w w' : MW) (X : Nat → Prop) : Prop := mSz w ≤ mSz w' ∧ ∀ c, c < mSz w → ¬ X c → mTg w' c = mTg w c ∧ mLn w' c = mLn w c ∧ mI w' c = mI w c ∧ mR w' c = mR w c
theorem sm.refl (w : MW) (X : Nat → Prop) : sm w w X := ⟨Nat.le_refl _, fun _ _ _ => ⟨rfl, rfl, rfl, rfl⟩⟩
theorem sm.trans (h : sm w w1 X) (g : sm w1 w2 Y) (hx : ∀ c, c < mSz w → Y c → X c) : sm w w2 X := by
  refine ⟨Nat.le_trans h.1 g.1, fun c hc hX => ?_⟩
  obtain ⟨a1, a2, a3, a4⟩ := h.2 c hc hX
  obtain ⟨b1, b2, b3, b4⟩ := g.2 c (Nat.lt_of_lt_of_le hc h.1) (fun y => hX (hx c hc y))
  exact ⟨b1.trans a1, b2.trans a2, b3.trans a3, b4.trans a4⟩
theorem sm.mono (h : sm w w' X) (hx : ∀ c, c < mSz w → X c → Y c) : sm w w' Y := ⟨h.1, fun c hc hY => h.2 c hc (fun x => hY (hx c hc x))⟩
theorem sm.wN {t n k : Nat} : sm w (wN w t n k) X := ⟨Nat.le_succ _, fun c hc _ => agr.wN (w := w) (hi := mSz w) (lo := 0) (Nat.le_refl _) c (Nat.zero_le _) hc⟩
theorem sm.wI {c k : Nat} {x : Int32} (hc : X c) : sm w (wI w c k x) X := ⟨Nat.le_refl _, fun c' h hX => ⟨rfl, rfl, funext fun j => by rw [mI_wI, if_neg (fun q => hX (by rw [q.1]; exact hc))], rfl⟩⟩
theorem sm.wR {c k : Nat} {x : Option Nat} (hc : X c) : sm w (wR w c k x) X := ⟨Nat.le_refl _, fun c' h hX => ⟨rfl, rfl, rfl, funext fun j => by show (if c' = c ∧ j = k then x else mR w c' j) = _; rw [if_neg (fun q => hX (by rw [q.1]; exact hc))]⟩⟩
theorem sm.wC {s sp c dp n : Nat} (hc : X c) : sm w (wC w s sp c dp n) X := ⟨Nat.le_refl _, fun c' h hX => ⟨rfl, rfl, funext fun j => by show (if c' = c then _ else mI w c' j) = _; rw [if_neg (fun q => hX (by rw [q]; exact hc))], rfl⟩⟩
theorem sm.wK {s : Nat} : sm w (wK w s) X := ⟨Nat.le_succ _, fun c hc _ => by
  have hn : ¬ c = w.1 := fun q => by have : mSz w = w.1 := rfl; omega
  refine ⟨?_, ?_, ?_, ?_⟩
  · show (if c = w.1 then _ else _) = _; rw [if_neg hn]
  · show (if c = w.1 then _ else _) = _; rw [if_neg hn]
  · funext b; show (if c = w.1 then _ else _) = _; rw [if_neg hn]
  · funext b; show (if c = w.1 then _ else _) = _; rw [if_neg hn]⟩
theorem tgN {t n k c : Nat} (h : ¬ c = mSz w) : mTg (wN w t n k) c = mTg w c := if_neg h
theorem lnN {t n k c : Nat} (h : ¬ c = mSz w) : mLn (wN w t n k) c = mLn w c := if_neg h
theorem miN {t n k c : Nat} (h : ¬ c = mSz w) : mI (wN w t n k) c = mI w c := funext fun _ => if_neg h
theorem mrN {t n k c : Nat} (h : ¬ c = mSz w) : mR (wN w t n k) c = mR w c := funext fun _ => if_neg h
theorem miC {s sp c dp n c' : Nat} (h : ¬ c' = c) : mI (wC w s sp c dp n) c' = mI w c' := funext fun _ => if_neg h
/-- at most k new cells of at most 7000 places -/
def gz (k : Nat) (w w' : MW) : Prop := mSz w' ≤ mSz w + k ∧ mSl w' ≤ mSl w + 7000 * k
theorem gz.refl (k : Nat) (w : MW) : gz k w w := ⟨by omega, by omega⟩
theorem gz.trans {k j : Nat} (h : gz k w w1) (g : gz j w1 w2) : gz (k + j) w w2 := by
  obtain ⟨a1, a2⟩ := h
  obtain ⟨b1, b2⟩ := g
  exact ⟨by omega, by omega⟩
theorem gz.mono {k j : Nat} (h : gz k w w') (hj : k ≤ j) : gz j w w' := ⟨by have := h.1; omega, by have := h.2; omega⟩
theorem gz.wN {t n k : Nat} (h : k ≤ 7000) : gz 1 w (wN w t n k) := ⟨Nat.le_refl _, by show mSl w + k ≤ _; omega⟩
/-- a text constant, or a String -/
def STR (w : MW) (c : Nat) (bs : List Nat) : Prop := mTg w c = 11 ∧ mR w c 0 = some (gR w c 0) ∧ mTg w (gR w c 0) = 51 ∧ mLn w (gR w c 0) = bs.length ∧ mI w c 1 = nI 0 ∧ ¬ c = 0 ∧ bs.length ≤ 3000 ∧ ∀ j, j < bs.length → mI w (gR w c 0) j = nI (bs.getD j 0)
theorem STR.sm {c : Nat} {bs : List Nat} (h : STR w c bs) (g : sm w w' X) (hc : c < mSz w) (hv : gR w c 0 < mSz w) (x1 : ¬ X c) (x2 : ¬ X (gR w c 0)) : STR w' c bs := by
  obtain ⟨h1, h2, h3, h4, h5, h6, h7, h8⟩ := h
  obtain ⟨a1, a2, a3, a4⟩ := g.2 c hc x1
  obtain ⟨b1, b2, b3, b4⟩ := g.2 _ hv x2
  have e : gR w' c 0 = gR w c 0 := by unfold gR; rw [a4]
  unfold STR
  rw [e, a1, a4, b1, b2, a3, b3]
  exact ⟨h1, h2, h3, h4, h5, h6, h7, h8⟩
/-- a StringBuilder that holds a text -/
def SBW (w : MW) (β : Nat) (tx : List Nat) : Prop := mTg w β = 12 ∧ mR w β 0 = some (gR w β 0) ∧ mTg w (gR w β 0) = 51 ∧ mE ≤ gR w β 0 ∧ gR w β 0 < mSz w ∧ β < gR w β 0 ∧ mE ≤ β ∧ mI w β 1 = nI 0 ∧ mI w β 3 = nI tx.length ∧ tx.length ≤ mLn w (gR w β 0) ∧ mLn w (gR w β 0) ≤ 6100 ∧ ∀ j, j < tx.length → mI w (gR w β 0) j = nI (tx.getD j 0)
theorem SBW.sm {β : Nat} {tx : List Nat} (h : SBW w β tx) (g : sm w w' X) (x1 : ¬ X β) (x2 : ¬ X (gR w β 0)) : SBW w' β tx := by
  obtain ⟨h1, h2, h3, h4, h5, h6, h7, h8, h9, h10, h11, h12⟩ := h
  obtain ⟨a1, a2, a3, a4⟩ := g.2 β (by omega) x1
  obtain ⟨b1, b2, b3, b4⟩ := g.2 _ h5 x2
  have e : gR w' β 0 = gR w β 0 := by unfold gR; rw [a4]
  unfold SBW
  rw [e, a1, a4, b1, b2, a3, b3]
  exact ⟨h1, h2, h3, h4, Nat.lt_of_lt_of_le h5 g.1, h6, h7, h8, h9, h10, h11, h12⟩
/-- a step of a StringBuilder: its own cells alone, and at most k new ones -/
def sbs (β k : Nat) (w w' : MW) : Prop := sm w w' (fun c => c = β ∨ c = gR w β 0) ∧ (gR w' β 0 = gR w β 0 ∨ mSz w ≤ gR w' β 0) ∧ gz k w w'
theorem sbs.refl (β k : Nat) (w : MW) : sbs β k w w := ⟨sm.refl _ _, Or.inl rfl, gz.refl _ _⟩
theorem sbs.trans {β k j : Nat} (h : sbs β k w w1) (g : sbs β j w1 w2) : sbs β (k + j) w w2 := by
  obtain ⟨a1, a2, a3⟩ := h
  obtain ⟨b1, b2, b3⟩ := g
  have l := a1.1
  refine ⟨a1.trans b1 (fun c hc q => ?_), ?_, a3.trans b3⟩
  · rcases q with q | q
    · exact Or.inl q
    · rcases a2 with e | e
      · exact Or.inr (q.trans e)
      · omega
  · rcases b2 with q | q
    · rcases a2 with e | e
      · exact Or.inl (q.trans e)
      · exact Or.inr (by omega)
    · exact Or.inr (by omega)
theorem sbs.mono {β k j : Nat} (h : sbs β k w w') (hj : k ≤ j) : sbs β j w w' := ⟨h.1, h.2.1, h.2.2.mono hj⟩
theorem c_coder {c : Nat} (h : mTg w c = 11) (h1 : mI w c 1 = nI 0) : mK d 155 [.ref c] w = some (.inl (some (.int (nI 0))), w) := by
  rw [e_155, b_155_0, b_155_6 h, h1, b_155_14 (by decide +kernel)]
theorem c_slen {c : Nat} {bs : List Nat} (h : STR w c bs) : mK (d + 1) 149 [.ref c] w = some (.inl (some (.int (nI bs.length))), w) := by
  obtain ⟨h1, h2, h3, h4, h5, h6, h7, h8⟩ := h
  rw [e_149, b_149_0 h1 h2 (by omega), c_coder h1 h5]
  simp only [mThen_ok, Option.toList_some, Option.toList_none, List.cons_append, List.nil_append]
  rw [b_149_9, sh0, h4]
theorem c_lat1 {c : Nat} (h : mTg w c = 11) (h1 : mI w c 1 = nI 0) : mK d 156 [.ref c] w = some (.inl (some (.int (nI 1))), w) := by
  rw [e_156, b_156_0, b_156_6 h, h1, if_neg (fun q => q rfl), b_156_13, b_156_18 kr1]
theorem c_chkIx {j n : Nat} (h : j < n) (hn : n < 2147483648) : mK (d + 1) 157 [.int (nI j), .int (nI n)] w = some (.inl none, w) := by
  rw [e_157, b_157_0, e_194, b_194_0, ijlt (by omega) (by decide), if_neg (by omega), b_194_4, ijlt (by omega) hn, if_pos h, b_194_16]
  simp only [mThen_ok, Option.toList_some, Option.toList_none, List.cons_append, List.nil_append]
  rw [b_157_8]
theorem c_charAt {c j : Nat} {bs : List Nat} (h : STR w c bs) (hj : j < bs.length) (hb : bs.getD j 0 < 128) : mK (d + 3) 150 [.ref c, .int (nI j)] w = some (.inl (some (.int (nI (bs.getD j 0)))), w) := by
  obtain ⟨h1, h2, h3, h4, h5, h6, h7, h8⟩ := h
  have k : ∀ b, b < 128 → (((nI b &&& nI 255).toUInt32 % 65536).toInt32) = nI b := by decide +kernel
  have k4 : ∀ b, b < 128 → mRk 4 (nI b) = true := by decide +kernel
  have e := h8 j hj
  rw [e_150, b_150_0 h1, c_lat1 h1 h5]
  simp only [mThen_ok, Option.toList_some, Option.toList_none, List.cons_append, List.nil_append]
  rw [b_150_4, if_neg n10, b_150_7 h1 h2, e_184, b_184_0 (by omega), h4, c_chkIx hj (by omega)]
  simp only [mThen_ok, Option.toList_some, Option.toList_none, List.cons_append, List.nil_append]
  rw [b_184_6 h3 (by omega) (by omega) (by rw [e, k _ hb]; exact k4 _ hb), e, k _ hb]
  simp only [mThen_ok, Option.toList_some, Option.toList_none, List.cons_append, List.nil_append]
  rw [b_150_15 (k4 _ hb)]
theorem c_newLen {L a b : Nat} (hL : L ≤ 100000) (ha : a ≤ 100000) (hb : 1 ≤ b ∧ b ≤ 200000) : mK (d + 1) 193 [.int (nI L), .int (nI a), .int (nI b)] w = some (.inl (some (.int (nI (L + max a b)))), w) := by
  have mx : (if nI a < nI b then nI b else nI a) = nI (max a b) := by
    rw [ijlt (by omega) (by omega)]
    by_cases g : a < b
    · rw [if_pos g, Nat.max_eq_right (by omega)]
    · rw [if_neg g, Nat.max_eq_left (by omega)]
  rw [e_193, b_193_0, c_max, mx]
  simp only [mThen_ok, Option.toList_some, Option.toList_none, List.cons_append, List.nil_append]
  rw [b_193_6, jadd, ijle (by omega) (by decide), if_neg (by omega), b_193_13, ijlt (by decide) (by omega), if_neg (by omega), b_193_19]
theorem cpy_in {s d : Nat → Int32} {sp dp n b : Nat} (h : dp ≤ b ∧ b < dp + n) : va_cpy s d sp dp n b = s (sp + (b - dp)) := by
  unfold va_cpy
  rw [if_pos h]
theorem cpy_out {s d : Nat → Int32} {sp dp n b : Nat} (h : ¬ (dp ≤ b ∧ b < dp + n)) : va_cpy s d sp dp n b = d b := by
  unfold va_cpy
  rw [if_neg h]
theorem kz0 : ¬ (nI 0 : Int32) < 0 := by decide +kernel
theorem kzn {n : Nat} (h : n < 2147483648) : ¬ (nI n : Int32) < 0 := by
  have : (0 : Int32) = nI 0 := by decide +kernel
  rw [this, jlt h (by decide)]
  omega
theorem kcl0 : (nI 0 : Int32).toNatClampNeg = 0 := by decide +kernel
/-- there is room for m bytes -/
theorem c_ens {β m : Nat} {tx : List Nat} (h : SBW w β tx) (hm : m ≤ 3000) : ∃ w', mK (d + 4) 172 [.ref β, .int (nI m)] w = some (.inl none, w') ∧ SBW w' β tx ∧ m ≤ mLn w' (gR w' β 0) ∧ sbs β 1 w w' := by
  have h' := h
  obtain ⟨h1, h2, h3, h4, h5, h6, h7, h8, h9, h10, h11, h12⟩ := h
  have eE : mE = 166 := rfl
  rw [e_172, b_172_0 h1 h2 (by omega), h8, sh0]
  by_cases g : m ≤ mLn w (gR w β 0)
  · refine ⟨w, ?_, h', g, sbs.refl _ _ _⟩
    rw [if_pos ((gap_le (by omega) (by omega)).mpr g), b_172_38]
  · have hN : mLn w (gR w β 0) + max (m - mLn w (gR w β 0)) (mLn w (gR w β 0) + 2) ≤ 6100 := by omega
    have hN2 : mLn w (gR w β 0) < mLn w (gR w β 0) + max (m - mLn w (gR w β 0)) (mLn w (gR w β 0) + 2) := by omega
    have hN3 : m ≤ mLn w (gR w β 0) + max (m - mLn w (gR w β 0)) (mLn w (gR w β 0) + 2) := by omega
    have q1 : mK (d + 3) 173 [.ref β, .int (nI m)] w = some (.inl (some (.int (nI (mLn w (gR w β 0) + max (m - mLn w (gR w β 0)) (mLn w (gR w β 0) + 2))))), w) := by
      rw [e_173, b_173_0 h1 h2 (by omega), h8, sl0, sl0, jsub (by omega), jadd, c_newLen (d := d + 1) (by omega) (by omega) ⟨by omega, by omega⟩]
      simp only [mThen_ok, Option.toList_some, Option.toList_none, List.cons_append, List.nil_append]
      rw [b_173_32, ijne (by omega) (by decide), if_pos (by omega), b_173_51 h1, h8, sh0]
    generalize hv : gR w β 0 = v at *
    generalize hNN : mLn w v + max (m - mLn w v) (mLn w v + 2) = N at *
    have q2 : mK (d + 3) 189 [.ref v, .int (nI N)] w = some (.inl (some (.ref (mSz w))), wC (wN w 51 N N) v 0 (mSz w) 0 (mLn w v)) := by
      have hne : ¬ v = mSz w := by omega
      have t1 : mTg (wN w 51 N N) v = 51 := (tgN hne).trans h3
      have l1 : mLn (wN w 51 N N) v = mLn w v := lnN hne
      have t2 : mTg (wN w 51 N N) (mSz w) = 51 := if_pos rfl
      have l2 : mLn (wN w 51 N N) (mSz w) = N := if_pos rfl
      rw [e_189, b_189_0 (by omega), ijne (by omega) (by omega), if_pos (by omega), b_189_14 (by omega) (by omega), b_189_17 (by omega), l1, c_minN (by omega) (by omega), Nat.min_eq_left (by omega)]
      simp only [mThen_ok, Option.toList_some, Option.toList_none, List.cons_append, List.nil_append]
      have c1 := @jcl (mLn w v) (by omega)
      rw [b_189_28 ⟨Or.inr ⟨t1, t2⟩, by omega, kz0, kz0, kzn (by omega), by rw [kcl0, c1, l1]; omega, by rw [kcl0, c1, l2]; omega, by omega⟩, b_189_31, kcl0, c1]
    refine ⟨wR (wC (wN w 51 N N) v 0 (mSz w) 0 (mLn w v)) β 0 (some (mSz w)), ?_, ?_, ?_, ?_⟩
    · have t1 : mTg (wC (wN w 51 N N) v 0 (mSz w) 0 (mLn w v)) β = 12 := (tgN (t := 51) (n := N) (k := N) (by omega)).trans h1
      rw [if_neg (fun q => g ((gap_le (by omega) (by omega)).mp q)), b_172_17 h1 (by rw [hv]; exact h2), q1]
      simp only [mThen_ok, Option.toList_some, Option.toList_none, List.cons_append, List.nil_append]
      rw [b_172_27 h1, h8, sl0, hv, q2]
      simp only [mThen_ok, Option.toList_some, Option.toList_none, List.cons_append, List.nil_append]
      rw [b_172_35 t1 h7, b_172_38]
    · have gn : gR (wR (wC (wN w 51 N N) v 0 (mSz w) 0 (mLn w v)) β 0 (some (mSz w))) β 0 = mSz w := by
        refine gR_of ?_
        show (if β = β ∧ 0 = 0 then some (mSz w) else _) = _
        rw [if_pos ⟨rfl, rfl⟩]
      have hb : ¬ β = mSz w := by omega
      refine ⟨?_, ?_, ?_, ?_, ?_, ?_, h7, ?_, ?_, ?_, ?_, fun j hj => ?_⟩
      · exact (tgN (t := 51) (n := N) (k := N) hb).trans h1
      · rw [gn]; show (if β = β ∧ 0 = 0 then some (mSz w) else _) = _; rw [if_pos ⟨rfl, rfl⟩]
      · rw [gn]; exact if_pos rfl
      · rw [gn]; omega
      · rw [gn]; exact Nat.lt_succ_self _
      · rw [gn]; omega
      · show mI (wC (wN w 51 N N) v 0 (mSz w) 0 (mLn w v)) β 1 = _
        rw [miC hb, miN hb, h8]
      · show mI (wC (wN w 51 N N) v 0 (mSz w) 0 (mLn w v)) β 3 = _
        rw [miC hb, miN hb, h9]
      · rw [gn]
        have : mLn (wR (wC (wN w 51 N N) v 0 (mSz w) 0 (mLn w v)) β 0 (some (mSz w))) (mSz w) = N := if_pos rfl
        rw [this]; omega
      · rw [gn]
        have : mLn (wR (wC (wN w 51 N N) v 0 (mSz w) 0 (mLn w v)) β 0 (some (mSz w))) (mSz w) = N := if_pos rfl
        rw [this]; omega
      · rw [gn]
        show (if mSz w = mSz w then va_cpy (mI (wN w 51 N N) v) (mI (wN w 51 N N) (mSz w)) 0 0 (mLn w v) j else _) = _
        rw [if_pos rfl, cpy_in ⟨Nat.zero_le _, by omega⟩]
        rw [miN (by omega), Nat.sub_zero, Nat.zero_add]
        exact h12 j hj
    · have gn : gR (wR (wC (wN w 51 N N) v 0 (mSz w) 0 (mLn w v)) β 0 (some (mSz w))) β 0 = mSz w := by
        refine gR_of ?_
        show (if β = β ∧ 0 = 0 then some (mSz w) else _) = _
        rw [if_pos ⟨rfl, rfl⟩]
      rw [gn]
      have : mLn (wR (wC (wN w 51 N N) v 0 (mSz w) 0 (mLn w v)) β 0 (some (mSz w))) (mSz w) = N := if_pos rfl
      rw [this]; exact hN3
    · have gn : gR (wR (wC (wN w 51 N N) v 0 (mSz w) 0 (mLn w v)) β 0 (some (mSz w))) β 0 = mSz w := by
        refine gR_of ?_
        show (if β = β ∧ 0 = 0 then some (mSz w) else _) = _
        rw [if_pos ⟨rfl, rfl⟩]
      refine ⟨?_, Or.inr (by rw [gn]; exact Nat.le_refl _), ⟨Nat.le_refl _, by show mSl w + N ≤ _; omega⟩⟩
      refine (sm.wN.trans (sm.wC (X := fun c => c = mSz w) rfl) (fun c hc q => ?_)).trans (sm.wR (X := fun c => c = β) rfl) (fun c hc q => Or.inl q)
      omega
end
