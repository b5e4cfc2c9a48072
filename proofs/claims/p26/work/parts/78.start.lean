/-! ===== the start: the machine's state as a world ===== -/
def tg0 (c : Nat) : Nat := if c = 0 then 60 else if c = 1 then 50 else if c < 4 then 51 else if c < 166 then (if c % 2 = 0 then 11 else 51) else 99
def ln0 (L c : Nat) : Nat := if c = 1 then L else if c < 4 then 100 else (sB ((c - 4) / 2)).length
def in0 (xs : Nat → Int32) (c k : Nat) : Int32 := if c = 1 then xs k else if c = 2 then nI (48 + k % 10) else if c = 3 then nI (48 + k / 10 % 10) else if c % 2 = 0 then 0 else nI ((sB ((c - 4) / 2)).getD k 0)
def rf0 (c k : Nat) : Option Nat := if 4 ≤ c ∧ c < 166 ∧ c % 2 = 0 ∧ k = 0 then some (c + 1) else none
def W0 (L : Nat) (xs : Nat → Int32) : MW := (166, 0, tg0, ln0 L, in0 xs, rf0)
theorem zip_in {F : List Cond} : ∀ (ws : List Cond) (ix : List Nat), ws.length = ix.length → (ws.zip ix).all (fun p => decide (F[p.2]? = some p.1)) = true → ∀ w ∈ ws, w ∈ F
  | [], _, _, _, w, hw => by cases hw
  | v :: ws, [], hl, _, _, _ => by cases hl
  | v :: ws, i :: ix, hl, h, w, hw => by
    simp only [List.zip_cons_cons, List.all_cons, Bool.and_eq_true, decide_eq_true_eq] at h
    rcases List.mem_cons.mp hw with rfl | hw
    · exact List.mem_of_getElem? h.1
    · exact zip_in ws ix (by simpa using hl) h.2 w hw
theorem sWd_in {i : Nat} (hi : i < 81) : (∀ w ∈ sWd i, w ∈ sFl) ∧ Cond.stringRef (sRow i).1 (sRow i).2.1 (sRow i).2.2.1 ∈ tables_1 := by
  have h := sk_all i hi
  unfold sCk at h
  simp only [Bool.and_eq_true, decide_eq_true_eq] at h
  exact ⟨zip_in _ _ h.1.1 h.1.2, List.mem_of_getElem? h.2⟩
theorem dOne_in : ∀ w ∈ dOneWd, w ∈ sFl := by
  have h := dOne_ok
  simp only [Bool.and_eq_true, decide_eq_true_eq] at h
  exact zip_in _ _ h.1 h.2
theorem dTen_in : ∀ w ∈ dTenWd, w ∈ sFl := by
  have h := dTen_ok
  simp only [Bool.and_eq_true, decide_eq_true_eq] at h
  exact zip_in _ _ h.1 h.2
section
variable {s : State} {args : Array Value}
theorem st_str (h1 : ∀ w ∈ sFl, w.before args s = true) (h2 : ∀ w ∈ tables_1, w.before args s = true) {i : Nat} (hi : i < 81) :
    ∃ q : Nat × Nat, vk_R (sRow i).1 (sRow i).2.1 (sRow i).2.2.1 q.1 s ∧ va_O "java/lang/String" q.1 (mA s) s s.heap ∧ va_OF "java/lang/String" "coder" "B" (.int 0) q.1 (mA s) s s.heap ∧ va_OF "java/lang/String" "value" "[B" (.ref q.2) q.1 (mA s) s s.heap ∧ va_T .byte q.2 (sB i).length (fun j => .int (nI ((sB i).getD j 0))) (mA s) s s.heap := by
  have hA : ∀ a : Nat, a < s.heap.size → ¬ mA s a := fun a h q => by have q' : s.heap.size ≤ a := q; omega
  obtain ⟨hw, hs⟩ := sWd_in hi
  have b : ∀ w ∈ sWd i, w.before args s = true := fun w hq => h1 w (hw w hq)
  have c0 : (Cond.exactly (sTm i) "java/lang/String").before args s = true := b _ (by unfold sWd; simp)
  have c1 : (Cond.eq (.field (sTm i) "java/lang/String" "coder" "B") (.int 0)).before args s = true := b _ (by unfold sWd; simp)
  have c2 : (Cond.arrayOf (sVl i) .byte).before args s = true := b _ (by unfold sWd; simp)
  have c3 : (Cond.eq (.length (sVl i)) (.int (Int32.ofNat (sB i).length))).before args s = true := b _ (by unfold sWd; simp)
  have c4 : ∀ j, j < (sB i).length → (Cond.eq (.elem (sVl i) (.int (Int32.ofNat j))) (.int (Int32.ofNat ((sB i).getD j 0)))).before args s = true := fun j hj => b _ (by
    unfold sWd
    refine List.mem_append_right _ (List.mem_map.mpr ⟨j, List.mem_range.mpr hj, rfl⟩))
  have hlen : (sB i).length < 2 ^ 31 := by
    have : ∀ i, i < 81 → (sB i).length < 100 := by decide +kernel
    exact Nat.lt_trans (this i hi) (by decide)
  obtain ⟨a, c, cA, kA, q1, q2, q3, q4, q5, q6, -⟩ := Cond.exactly_spec (args := args) (first := s) (o := none) (s := s) (idx := []) (t := sTm i) (cls := "java/lang/String") c0
  obtain ⟨t, ht, hT⟩ := va_Tof (f := fun j => .int (nI ((sB i).getD j 0))) (A := mA s) hlen c2 (va_eqt c3) (fun j hj => va_eqt (c4 j hj)) hA
  refine ⟨(a, t), ⟨?_, ?_⟩, ⟨cA, q3, q5, by rw [q6]; exact q2, hA a (Array.getElem?_eq_some_iff.mp q3).1⟩, vk_OFof q1 (va_eqt c1) hA, vk_OFof q1 ht hA, hT⟩
  · have := h2 _ hs
    first | exact this | exact va_tabs rfl rfl this
  · exact (Term.string_eval_of_vm (args := #[]) (args' := args) rfl).trans q1
theorem st_dig (nm : String) (f : Nat → Nat) (wd : List Cond) (hwd : wd = [.arrayOf (.static "java/lang/Integer" nm "[B") .byte, .eq (.length (.static "java/lang/Integer" nm "[B")) (.int (Int32.ofNat 100))] ++ (List.range 100).map (fun j => .eq (.elem (.static "java/lang/Integer" nm "[B") (.int (Int32.ofNat j))) (.int (Int32.ofNat (f j)))))
    (b : ∀ w ∈ wd, w.before args s = true) (hl : (Cond.laysStatic "java/lang/Integer" nm "[B").before args s = true) (hi : (Cond.initialized "java/lang/Integer").before args s = true) :
    ∃ t : Nat, va_Z "java/lang/Integer" nm "[B" (.ref t) (mA s) s s.heap ∧ va_T .byte t 100 (fun j => .int (nI (f j))) (mA s) s s.heap := by
  have hA : ∀ a : Nat, a < s.heap.size → ¬ mA s a := fun a h q => by have q' : s.heap.size ≤ a := q; omega
  subst hwd
  obtain ⟨t, ht, hT⟩ := va_Tof (f := fun j => .int (nI (f j))) (A := mA s) (N := 100) (ty := .byte) (tm := .static "java/lang/Integer" nm "[B") (by decide) (b _ (by simp)) (va_eqt (b _ (by simp))) (fun j hj => va_eqt (b _ (List.mem_append_right _ (List.mem_map.mpr ⟨j, List.mem_range.mpr hj, rfl⟩)))) hA
  exact ⟨t, va_Zof hl hi ht hA, hT⟩
/-- the classes -/
theorem st_cls (hg : ∀ w ∈ gwl, w.before args s = true) : ∃ D : va_G, ∀ (ci : Nat) (q : vw_C), mCl[ci]? = some q → u_Kn s q.1 q.2.1 q.2.2 (D.1 ci) (D.2 ci) := by
  have h0 : ∀ ci : Nat, ∃ q : ClassId × (Nat → Nat), ci < 13 → u_Kn s (mC ci).1 (mC ci).2.1 (mC ci).2.2 q.1 q.2 := by
    intro ci
    by_cases h : ci < 13
    · obtain ⟨o1, o2, o3, o4, o5, o6⟩ := mOkc_all ci h
      obtain ⟨cC, iS, hK⟩ := u_known (C := (mC ci).1) (T := (mC ci).2.1) (N := (mC ci).2.2) (n := mNf ci) hg o4 (hg _ o5)
      exact ⟨(cC, iS), fun _ => hK⟩
    · exact ⟨(0, fun _ => 0), fun g => absurd g h⟩
  obtain ⟨f, hf⟩ := Classical.axiomOfChoice h0
  refine ⟨(fun ci => (f ci).1, fun ci => (f ci).2), fun ci q hq => ?_⟩
  have hlt : ci < 13 := (List.getElem?_eq_some_iff.mp hq).1
  have e := (mOkc_all ci hlt).1
  rw [hq] at e
  cases e
  exact hf ci hlt
/-- the array classes -/
theorem st_arr (ha : ∀ ty : FieldType, ty = .int ∨ ty = .byte → (Cond.arrayClass ty).before args s = true) (h4 : va_AO RX4 s) (h0 : va_AO RJ0 s) (hI : m_AOI s) :
    ∃ aC : Nat → ClassId, (∀ t, 50 ≤ t → t < 55 → ArrOfT s (aC t) (mEl t) ∧ s.vm.findClass ("[" ++ (mEl t).toString) = some (aC t)) ∧ (∀ t, 52 ≤ t → t < 55 → ∃ (kA : Class) (comp : ClassId), s.vm.classes[aC t]? = some kA ∧ kA.kind = .array comp (mEl t) ∧ s.vm.findClass (if t = 52 then "[I" else if t = 53 then RX4 else RJ0) = some comp) := by
  have p1 : ∀ ty : FieldType, ty = .int ∨ ty = .byte → ∃ c, ArrOfT s c ty ∧ s.vm.findClass ("[" ++ ty.toString) = some c := fun ty ht => by
    obtain ⟨c, k, comp, e1, e2, e3⟩ := Cond.arrayClass_spec (ha ty ht)
    exact ⟨c, fun N z => ⟨(fun k h => by cases h), k, e2, comp, e3⟩, e1⟩
  have p2 : ∀ n : String, va_AO n s → ∃ c, (ArrOfT s c (.object n) ∧ s.vm.findClass ("[" ++ (FieldType.object n).toString) = some c) ∧ ∃ (kA : Class) (comp : ClassId), s.vm.classes[c]? = some kA ∧ kA.kind = .array comp (.object n) ∧ s.vm.findClass n = some comp := fun n hn => by
    obtain ⟨comp, c, k, e1, e2, e3, e4, e5⟩ := Cond.arrayOver_spec hn
    exact ⟨c, ⟨fun N z => ⟨(fun k h => by cases h), k, e3, comp, e4⟩, e5⟩, k, comp, e3, e4, e1⟩
  have p3 : ∃ c, (ArrOfT s c (.array .int) ∧ s.vm.findClass ("[" ++ (FieldType.array .int).toString) = some c) ∧ ∃ (kA : Class) (comp : ClassId), s.vm.classes[c]? = some kA ∧ kA.kind = .array comp (.array .int) ∧ s.vm.findClass "[I" = some comp := by
    have h0 : ∃ comp c k, s.vm.findClass (FieldType.array .int).toString = some comp ∧ s.vm.classes[c]? = some k ∧ k.kind = .array comp (.array .int) ∧ s.vm.findClass ("[" ++ (FieldType.array .int).toString) = some c := by
      have h := hI
      unfold m_AOI Cond.before at h
      simp only [Cond.holds, Cond.value, beq_iff_eq] at h
      cases hc : s.vm.findClass (FieldType.array .int).toString with
      | none => simp [hc] at h
      | some comp =>
        simp only [hc, Option.bind_some, Option.bind_eq_some_iff, Option.map_eq_some_iff] at h
        obtain ⟨c, hi, k, hk, hb⟩ := h
        obtain ⟨hlt, hp, -⟩ := Array.findIdx?_eq_some_iff_getElem.mp hi
        have hkk : s.vm.classes[c] = k := (Array.getElem?_eq_some_iff.mp hk).2
        rw [hkk] at hp
        cases hkind : k.kind with
        | array component ty =>
          rw [hkind] at hb hp
          simp at hb hp
          exact ⟨comp, c, k, rfl, hk, by rw [hkind, hp, hb.1], hb.2⟩
        | _ => rw [hkind] at hb; simp at hb
    obtain ⟨comp, c, k, e1, e3, e4, e5⟩ := h0
    exact ⟨c, ⟨fun N z => ⟨(fun k h => by cases h), k, e3, comp, e4⟩, e5⟩, k, comp, e3, e4, by
      have : (FieldType.array .int).toString = "[I" := by decide +kernel
      rw [← this]; exact e1⟩
  obtain ⟨c0, a0, b0⟩ := p1 .int (Or.inl rfl)
  obtain ⟨c1, a1, b1⟩ := p1 .byte (Or.inr rfl)
  obtain ⟨c2, a2, b2⟩ := p3
  obtain ⟨c3, a3, b3⟩ := p2 RX4 h4
  obtain ⟨c4, a4, b4⟩ := p2 RJ0 h0
  refine ⟨fun t => if t = 50 then c0 else if t = 51 then c1 else if t = 52 then c2 else if t = 53 then c3 else c4, fun t h1 h2 => ?_, fun t h1 h2 => ?_⟩
  · rcases (show t = 50 ∨ t = 51 ∨ t = 52 ∨ t = 53 ∨ t = 54 by omega) with e | e | e | e | e <;> subst e
    · exact ⟨a0, b0⟩
    · exact ⟨a1, b1⟩
    · exact a2
    · exact a3
    · exact a4
  · rcases (show t = 52 ∨ t = 53 ∨ t = 54 by omega) with e | e | e <;> subst e
    · exact b2
    · exact b3
    · exact b4
end
