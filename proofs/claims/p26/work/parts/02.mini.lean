/-! ===== THE SMALL MACHINE: a world of numbered cells, and how a heap holds it ===== -/
/-- a world: how many cells, how many slots were made, the kind of each cell, its length, its numbers, its references (of a cell and a place) -/
abbrev MW : Type := Nat × Nat × (Nat → Nat) × (Nat → Nat) × (Nat → Nat → Int32) × (Nat → Nat → Option Nat)
def mSz (w : MW) : Nat := w.1
def mSl (w : MW) : Nat := w.2.1
def mTg (w : MW) : Nat → Nat := w.2.2.1
def mLn (w : MW) : Nat → Nat := w.2.2.2.1
def mI (w : MW) : Nat → Nat → Int32 := w.2.2.2.2.1
def mR (w : MW) : Nat → Nat → Option Nat := w.2.2.2.2.2
def wI (w : MW) (c k : Nat) (x : Int32) : MW := (w.1, w.2.1, w.2.2.1, w.2.2.2.1, fun a b => if a = c ∧ b = k then x else mI w a b, w.2.2.2.2.2)
def wR (w : MW) (c k : Nat) (x : Option Nat) : MW := (w.1, w.2.1, w.2.2.1, w.2.2.2.1, w.2.2.2.2.1, fun a b => if a = c ∧ b = k then x else mR w a b)
/-- one more cell -/
def wN (w : MW) (tg ln sl : Nat) : MW := (w.1 + 1, w.2.1 + sl, fun a => if a = w.1 then tg else mTg w a, fun a => if a = w.1 then ln else mLn w a, fun a b => if a = w.1 then 0 else mI w a b, fun a b => if a = w.1 then none else mR w a b)
/-- numbers copied from row to row -/
def wC (w : MW) (src sp dst dp n : Nat) : MW := (w.1, w.2.1, w.2.2.1, w.2.2.2.1, fun a b => if a = dst then va_cpy (mI w src) (mI w dst) sp dp n b else mI w a b, w.2.2.2.2.2)
/-- a row's copy, as a new cell -/
def wK (w : MW) (src : Nat) : MW := (w.1 + 1, w.2.1 + mLn w src, fun a => if a = w.1 then mTg w src else mTg w a, fun a => if a = w.1 then mLn w src else mLn w a, fun a b => if a = w.1 then mI w src b else mI w a b, fun a b => if a = w.1 then none else mR w a b)
/-- a row of n new rows of k numbers -/
def wM (w : MW) (n k : Nat) : MW := (w.1 + 1 + n, w.2.1 + (n + n * k), fun a => if a = w.1 then 52 else if w.1 < a ∧ a < w.1 + 1 + n then 50 else mTg w a, fun a => if a = w.1 then n else if w.1 < a ∧ a < w.1 + 1 + n then k else mLn w a, fun a b => if w.1 ≤ a ∧ a < w.1 + 1 + n then 0 else mI w a b, fun a b => if a = w.1 then (if b < n then some (w.1 + 1 + b) else none) else if w.1 < a ∧ a < w.1 + 1 + n then none else mR w a b)
def lf (av : Nat → Value) (v : Value) : Value := match v with
  | .ref a => av a
  | x => x
def rv (o : Option Nat) : Value := match o with
  | none => .null
  | some a => .ref a
def mFv (av : Nat → Value) (w : MW) (c k : Nat) : Value := if mRef (mTg w c) k = true then lf av (rv (mR w c k)) else .int (mI w c k)
/-- what the kinds of rows hold -/
def mEl (t : Nat) : FieldType := if t = 50 then .int else if t = 51 then .byte else if t = 52 then .array .int else if t = 53 then .object "BeeTurnpike$Speller" else .object "java/lang/String"
/-- a cell of ours, in a heap -/
def mFact (D : va_G) (aC : Nat → ClassId) (av : Nat → Value) (w : MW) (c a : Nat) (H : Heap) : Prop :=
  (mTg w c < 13 → t_OB a (D.1 (mTg w c)) (mNf (mTg w c)) (D.2 (mTg w c)) H (mFv av w c)) ∧
  ((mTg w c = 50 ∨ mTg w c = 51) → H[a]? = some (arrV (aC (mTg w c)) (mLn w c) (fun j => .int (mI w c j)))) ∧
  (mTg w c = 51 → ∀ j, fits .byte (.int (mI w c j)) = true) ∧
  ((mTg w c = 52 ∨ mTg w c = 53 ∨ mTg w c = 54) → H[a]? = some (arrV (aC (mTg w c)) (mLn w c) (fun j => lf av (rv (mR w c j)))))
/-- a cell that was there before: read alone -/
def mXF (s0 : State) (D : va_G) (av : Nat → Value) (w : MW) (c a : Nat) : Prop :=
  (mTg w c < 13 → mTg w c = 11 ∧ ∃ cell : Cell, s0.heap[a]? = some cell ∧ cell.cls = D.1 11 ∧ cell.vm.isStatics = false ∧ cell.vm ≠ .unknown ∧ ∀ k, k < 2 → cell.slots[D.2 11 k]? = some (mFv av w c k)) ∧
  ((mTg w c = 50 ∨ mTg w c = 51) → va_T (mEl (mTg w c)) a (mLn w c) (fun j => .int (mI w c j)) (fun q => s0.heap.size ≤ q) s0 s0.heap) ∧
  (mTg w c = 51 → ∀ j, fits .byte (.int (mI w c j)) = true) ∧ ¬ (mTg w c = 52 ∨ mTg w c = 53 ∨ mTg w c = 54) ∧ (c = 0 → mTg w c = 60)
def mAd (b : Nat) (ex : Nat → Nat) (c : Nat) : Nat := if c < mE then ex c else b + (c - mE)
/-- the heap holds the world -/
def mRep (s0 : State) (D : va_G) (aC : Nat → ClassId) (av : Nat → Value) (ex : Nat → Nat) (w : MW) (H : Heap) : Prop :=
  mE ≤ mSz w ∧ H.size = s0.heap.size + (mSz w - mE) ∧ (∀ q, q < s0.heap.size → H[q]? = s0.heap[q]?) ∧ (∀ c, c < mE → mXF s0 D av w c (ex c)) ∧ ∀ c, mE ≤ c → c < mSz w → mFact D aC av w c (s0.heap.size + (c - mE)) H
theorem mFact.congr {D : va_G} {aC : Nat → ClassId} {av : Nat → Value} {w w' : MW} {c a : Nat} {H H' : Heap} (h : mFact D aC av w c a H) (h1 : mTg w' c = mTg w c) (h2 : mLn w' c = mLn w c) (h3 : mI w' c = mI w c) (h4 : mR w' c = mR w c) (hH : H'[a]? = H[a]?) : mFact D aC av w' c a H' := by
  obtain ⟨a1, a2, a3, a4⟩ := h
  have e : mFv av w' c = mFv av w c := by funext k; simp only [mFv, h1, h3, h4]
  refine ⟨fun g => ?_, fun g => ?_, fun g => ?_, fun g => ?_⟩
  · rw [h1] at g ⊢; rw [e]; exact (a1 g).kept hH
  · rw [h1] at g; rw [h1, h2, h3, hH]; exact a2 g
  · rw [h1] at g; rw [h3]; exact a3 g
  · rw [h1] at g; rw [h1, h2, h4, hH]; exact a4 g
theorem mXF.congr {s0 : State} {D : va_G} {av : Nat → Value} {w w' : MW} {c a : Nat} (h : mXF s0 D av w c a) (h1 : mTg w' c = mTg w c) (h2 : mLn w' c = mLn w c) (h3 : mI w' c = mI w c) (h4 : mR w' c = mR w c) : mXF s0 D av w' c a := by
  have e : mFv av w' c = mFv av w c := by funext k; simp only [mFv, h1, h3, h4]
  unfold mXF
  rw [h1, h2, h3, e]
  exact h
/-- one cell of ours changed -/
theorem mRep.set {s0 : State} {D : va_G} {aC : Nat → ClassId} {av : Nat → Value} {ex : Nat → Nat} {w w' : MW} {H H' : Heap} {c : Nat} (h : mRep s0 D aC av ex w H) (hc : mE ≤ c) (hz : mSz w' = mSz w) (hT : mTg w' = mTg w) (hL : mLn w' = mLn w)
    (ho : ∀ q, q ≠ c → mI w' q = mI w q ∧ mR w' q = mR w q) (hH : H'.size = H.size) (hq : ∀ q, q ≠ s0.heap.size + (c - mE) → H'[q]? = H[q]?) (hf : mFact D aC av w' c (s0.heap.size + (c - mE)) H') : mRep s0 D aC av ex w' H' := by
  obtain ⟨a1, a2, a3, a4, a5⟩ := h
  refine ⟨by omega, by rw [hH, hz]; exact a2, fun q g => by rw [hq q (by omega)]; exact a3 q g, fun q g => ?_, fun q g1 g2 => ?_⟩
  · exact (a4 q g).congr (by rw [hT]) (by rw [hL]) (ho q (by omega)).1 (ho q (by omega)).2
  · by_cases e : q = c
    · subst e; exact hf
    · exact (a5 q g1 (by omega)).congr (by rw [hT]) (by rw [hL]) (ho q e).1 (ho q e).2 (hq _ (by omega))
/-- one more cell -/
theorem mRep.push {s0 : State} {D : va_G} {aC : Nat → ClassId} {av : Nat → Value} {ex : Nat → Nat} {w w' : MW} {H H' : Heap} (h : mRep s0 D aC av ex w H) (hz : mSz w' = mSz w + 1) (ho : ∀ q, q ≠ mSz w → mTg w' q = mTg w q ∧ mLn w' q = mLn w q ∧ mI w' q = mI w q ∧ mR w' q = mR w q)
    (hH : H'.size = H.size + 1) (hq : ∀ q, q < H.size → H'[q]? = H[q]?) (hf : mFact D aC av w' (mSz w) H.size H') : mRep s0 D aC av ex w' H' := by
  obtain ⟨a1, a2, a3, a4, a5⟩ := h
  refine ⟨by omega, by rw [hH, hz, a2]; omega, fun q g => by rw [hq q (by omega)]; exact a3 q g, fun q g => ?_, fun q g1 g2 => ?_⟩
  · obtain ⟨b1, b2, b3, b4⟩ := ho q (by omega)
    exact (a4 q g).congr b1 b2 b3 b4
  · by_cases e : q = mSz w
    · subst e; rw [← a2]; exact hf
    · obtain ⟨b1, b2, b3, b4⟩ := ho q e
      exact (a5 q g1 (by omega)).congr b1 b2 b3 b4 (hq _ (by omega))
/-- what is known of the tables, at a method's start -/
def mKN (s0 : State) (D : va_G) (aC : Nat → ClassId) (nw : List Cond) (stab : List (String × Nat × String × Nat)) (sio : Value) (dg : Nat × Nat) (ex : Nat → Nat) (U : State) : Prop :=
  s0.vm.Alike U.vm ∧ (∀ w ∈ nw, va_Nw w U) ∧ (∀ r ∈ stab, vk_R r.1 r.2.1 r.2.2.1 (ex r.2.2.2) U) ∧
  (∀ (ci : Nat) (q : vw_C), mCl[ci]? = some q → u_Kn s0 q.1 q.2.1 q.2.2 (D.1 ci) (D.2 ci)) ∧
  (∀ t, 50 ≤ t → t < 55 → ArrOfT s0 (aC t) (mEl t) ∧ s0.vm.findClass ("[" ++ (mEl t).toString) = some (aC t)) ∧
  (∀ t, 52 ≤ t → t < 55 → ∃ (kA : Class) (comp : ClassId), s0.vm.classes[aC t]? = some kA ∧ kA.kind = .array comp (mEl t) ∧ s0.vm.findClass (if t = 52 then "[I" else if t = 53 then RX4 else RJ0) = some comp) ∧
  va_Z "java/lang/String" "COMPACT_STRINGS" "Z" (.int 1) (fun q => s0.heap.size ≤ q) s0 s0.heap ∧
  va_Z "jdk/internal/util/Preconditions" "SIOOBE_FORMATTER" "Ljava/util/function/BiFunction;" sio (fun q => s0.heap.size ≤ q) s0 s0.heap ∧
  va_Z "java/lang/Integer" "DigitOnes" "[B" (.ref dg.1) (fun q => s0.heap.size ≤ q) s0 s0.heap ∧
  va_Z "java/lang/Integer" "DigitTens" "[B" (.ref dg.2) (fun q => s0.heap.size ≤ q) s0 s0.heap ∧
  vx_Zq Bundle.tN "UNASSIGNED_STACK" Bundle.steD (fun q => s0.heap.size ≤ q) s0 s0.heap ∧
  vx_Zq Bundle.tN "SUPPRESSED_SENTINEL" Bundle.listD (fun q => s0.heap.size ≤ q) s0 s0.heap
