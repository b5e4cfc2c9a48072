/-! ===== the tables' words, and four more ===== -/
/-- private methods of the class above StringBuilder's, found on a StringBuilder -/
def xSel : List Cond := [Cond.selects RJ4 yJ5_ensureCapacityInternal_d00df yJ5_ensureCapacityInternal_d00df, Cond.selects RJ4 yJ5_newCapacity_0f7a4 yJ5_newCapacity_0f7a4, Cond.selects RJ4 yJ5_putStringAt_47b60 yJ5_putStringAt_47b60, Cond.selects RJ4 yJ5_inflateIfNeededFor_a7421 yJ5_inflateIfNeededFor_a7421]
def mTbl : List Cond := xSel ++ lw_tbl
theorem m_selPriv {C : String} {y y2 : MethodName} {s : State} {args : Array Value} (hy : y.cls ≠ "java/lang/invoke/MethodHandle" ∧ y.cls ≠ "java/lang/invoke/VarHandle") (hy2 : y2.cls ≠ "java/lang/invoke/MethodHandle" ∧ y2.cls ≠ "java/lang/invoke/VarHandle") (hc2 : y2.cls = y.cls)
    (hsel : (Cond.selects C y2 y2).before args s = true) (hpriv : (Cond.privateMethod y).before args s = true) (hinst : (Cond.instanceMethod y).before args s = true) : (Cond.selects C y y).before args s = true := by
  obtain ⟨c2, r2, m2, q1, q2, q3, q4, kP, hkP, hkPi⟩ := Cond.selects_spec hsel
  obtain ⟨mk, methM, hnamed, hmethM, -, -⟩ := Cond.instanceMethod_spec hinst
  have hfound : s.methodFound? y.cls y.name y.desc = some mk := State.methodFound?_of_named hnamed hy
  have hf2 := State.methodFound?_of_named q3 hy2
  have e1 : r2 = m2 := Option.some.inj (q2.symm.trans hf2)
  have h1 := findClass_of_methodNamed hnamed
  have h2 := findClass_of_methodNamed q3
  rw [hc2] at h2
  have hcls : mk.cls = r2.cls := by rw [e1]; exact Option.some.inj (h1.symm.trans h2)
  have hs : selectMethod {} s.vm c2 mk = .method mk := selectMethod_private hmethM (Cond.privateMethod_at hpriv mk methM hnamed hmethM)
  simp only [Cond.before, Cond.holds, Cond.value, q1, hfound, hnamed, hs, hcls, hkP]
  simp
  have hk9 := hkP
  first | (rw [hkP]; simp [hkPi]) | (rw [← hcls, hkP]; simp [hkPi]) | (rw [e1, hkP]; simp [hkPi])
theorem mTbl_ok {s : State} {args : Array Value} (h : ∀ w ∈ lw_tbl, w.before args s = true) : ∀ w ∈ mTbl, w.before args s = true := by
  have key : ∀ y : MethodName, y.cls = "java/lang/AbstractStringBuilder" → Cond.privateMethod y ∈ lw_tbl → Cond.instanceMethod y ∈ lw_tbl → (Cond.selects RJ4 y y).before args s = true := by
    intro y hy h1 h2
    refine m_selPriv (y2 := yJ5_isLatin1_aae02) ⟨by rw [hy]; decide, by rw [hy]; decide⟩ ⟨by decide, by decide⟩ (by rw [hy]; rfl) (h _ ?_) (h _ h1) (h _ h2)
    decide +kernel
  intro w hw
  rcases List.mem_append.mp hw with hw | hw
  · simp only [xSel, List.mem_cons, List.not_mem_nil, or_false] at hw
    rcases hw with r | r | r | r <;> subst r
    · exact key _ rfl (by decide +kernel) (by decide +kernel)
    · exact key _ rfl (by decide +kernel) (by decide +kernel)
    · exact key _ rfl (by decide +kernel) (by decide +kernel)
    · exact key _ rfl (by decide +kernel) (by decide +kernel)
  · exact h w hw
