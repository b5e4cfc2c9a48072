/-! ===== the rows are the machine's; the claim ===== -/
theorem rows_len : mInf.length = 195 := by decide +kernel
theorem rows_all : ∀ k, k < 195 → (mtbs.getD k []).all (mRow k) = true := by
  intro k hk
  match k, hk with
  | 0, _ => exact mk_0
  | 1, _ => exact mk_1
  | 2, _ => exact mk_2
  | 3, _ => exact mk_3
  | 4, _ => exact mk_4
  | 5, _ => exact mk_5
  | 6, _ => exact mk_6
  | 7, _ => exact mk_7
  | 8, _ => exact mk_8
  | 9, _ => exact mk_9
  | 10, _ => exact mk_10
  | 11, _ => exact mk_11
  | 12, _ => exact mk_12
  | 13, _ => exact mk_13
  | 14, _ => exact mk_14
  | 15, _ => exact mk_15
  | 16, _ => exact mk_16
  | 17, _ => exact mk_17
  | 18, _ => exact mk_18
  | 19, _ => exact mk_19
  | 20, _ => exact mk_20
  | 21, _ => exact mk_21
  | 22, _ => exact mk_22
  | 23, _ => exact mk_23
  | 24, _ => exact mk_24
  | 25, _ => exact mk_25
  | 26, _ => exact mk_26
  | 27, _ => exact mk_27
  | 28, _ => exact mk_28
  | 29, _ => exact mk_29
  | 30, _ => exact mk_30
  | 31, _ => exact mk_31
  | 32, _ => exact mk_32
  | 33, _ => exact mk_33
  | 34, _ => exact mk_34
  | 35, _ => exact mk_35
  | 36, _ => exact mk_36
  | 37, _ => exact mk_37
  | 38, _ => exact mk_38
  | 39, _ => exact mk_39
  | 40, _ => exact mk_40
  | 41, _ => exact mk_41
  | 42, _ => exact mk_42
  | 43, _ => exact mk_43
  | 44, _ => exact mk_44
  | 45, _ => exact mk_45
  | 46, _ => exact mk_46
  | 47, _ => exact mk_47
  | 48, _ => exact mk_48
  | 49, _ => exact mk_49
  | 50, _ => exact mk_50
  | 51, _ => exact mk_51
  | 52, _ => exact mk_52
  | 53, _ => exact mk_53
  | 54, _ => exact mk_54
  | 55, _ => exact mk_55
  | 56, _ => exact mk_56
  | 57, _ => exact mk_57
  | 58, _ => exact mk_58
  | 59, _ => exact mk_59
  | 60, _ => exact mk_60
  | 61, _ => exact mk_61
  | 62, _ => exact mk_62
  | 63, _ => exact mk_63
  | 64, _ => exact mk_64
  | 65, _ => exact mk_65
  | 66, _ => exact mk_66
  | 67, _ => exact mk_67
  | 68, _ => exact mk_68
  | 69, _ => exact mk_69
  | 70, _ => exact mk_70
  | 71, _ => exact mk_71
  | 72, _ => exact mk_72
  | 73, _ => exact mk_73
  | 74, _ => exact mk_74
  | 75, _ => exact mk_75
  | 76, _ => exact mk_76
  | 77, _ => exact mk_77
  | 78, _ => exact mk_78
  | 79, _ => exact mk_79
  | 80, _ => exact mk_80
  | 81, _ => exact mk_81
  | 82, _ => exact mk_82
  | 83, _ => exact mk_83
  | 84, _ => exact mk_84
  | 85, _ => exact mk_85
  | 86, _ => exact mk_86
  | 87, _ => exact mk_87
  | 88, _ => exact mk_88
  | 89, _ => exact mk_89
  | 90, _ => exact mk_90
  | 91, _ => exact mk_91
  | 92, _ => exact mk_92
  | 93, _ => exact mk_93
  | 94, _ => exact mk_94
  | 95, _ => exact mk_95
  | 96, _ => exact mk_96
  | 97, _ => exact mk_97
  | 98, _ => exact mk_98
  | 99, _ => exact mk_99
  | 100, _ => exact mk_100
  | 101, _ => exact mk_101
  | 102, _ => exact mk_102
  | 103, _ => exact mk_103
  | 104, _ => exact mk_104
  | 105, _ => exact mk_105
  | 106, _ => exact mk_106
  | 107, _ => exact mk_107
  | 108, _ => exact mk_108
  | 109, _ => exact mk_109
  | 110, _ => exact mk_110
  | 111, _ => exact mk_111
  | 112, _ => exact mk_112
  | 113, _ => exact mk_113
  | 114, _ => exact mk_114
  | 115, _ => exact mk_115
  | 116, _ => exact mk_116
  | 117, _ => exact mk_117
  | 118, _ => exact mk_118
  | 119, _ => exact mk_119
  | 120, _ => exact mk_120
  | 121, _ => exact mk_121
  | 122, _ => exact mk_122
  | 123, _ => exact mk_123
  | 124, _ => exact mk_124
  | 125, _ => exact mk_125
  | 126, _ => exact mk_126
  | 127, _ => exact mk_127
  | 128, _ => exact mk_128
  | 129, _ => exact mk_129
  | 130, _ => exact mk_130
  | 131, _ => exact mk_131
  | 132, _ => exact mk_132
  | 133, _ => exact mk_133
  | 134, _ => exact mk_134
  | 135, _ => exact mk_135
  | 136, _ => exact mk_136
  | 137, _ => exact mk_137
  | 138, _ => exact mk_138
  | 139, _ => exact mk_139
  | 140, _ => exact mk_140
  | 141, _ => exact mk_141
  | 142, _ => exact mk_142
  | 143, _ => exact mk_143
  | 144, _ => exact mk_144
  | 145, _ => exact mk_145
  | 146, _ => exact mk_146
  | 147, _ => exact mk_147
  | 148, _ => exact mk_148
  | 149, _ => exact mk_149
  | 150, _ => exact mk_150
  | 151, _ => exact mk_151
  | 152, _ => exact mk_152
  | 153, _ => exact mk_153
  | 154, _ => exact mk_154
  | 155, _ => exact mk_155
  | 156, _ => exact mk_156
  | 157, _ => exact mk_157
  | 158, _ => exact mk_158
  | 159, _ => exact mk_159
  | 160, _ => exact mk_160
  | 161, _ => exact mk_161
  | 162, _ => exact mk_162
  | 163, _ => exact mk_163
  | 164, _ => exact mk_164
  | 165, _ => exact mk_165
  | 166, _ => exact mk_166
  | 167, _ => exact mk_167
  | 168, _ => exact mk_168
  | 169, _ => exact mk_169
  | 170, _ => exact mk_170
  | 171, _ => exact mk_171
  | 172, _ => exact mk_172
  | 173, _ => exact mk_173
  | 174, _ => exact mk_174
  | 175, _ => exact mk_175
  | 176, _ => exact mk_176
  | 177, _ => exact mk_177
  | 178, _ => exact mk_178
  | 179, _ => exact mk_179
  | 180, _ => exact mk_180
  | 181, _ => exact mk_181
  | 182, _ => exact mk_182
  | 183, _ => exact mk_183
  | 184, _ => exact mk_184
  | 185, _ => exact mk_185
  | 186, _ => exact mk_186
  | 187, _ => exact mk_187
  | 188, _ => exact mk_188
  | 189, _ => exact mk_189
  | 190, _ => exact mk_190
  | 191, _ => exact mk_191
  | 192, _ => exact mk_192
  | 193, _ => exact mk_193
  | 194, _ => exact mk_194
  | k + 195, hk => exact absurd hk (by omega)
theorem rows_ok : mRowsOk := by
  intro k hk r hr
  have h := rows_all k (by rw [rows_len] at hk; exact hk)
  rw [List.all_eq_true] at h
  exact h r hr
set_option maxHeartbeats 4000000 in
theorem lw_walk (l : Launch) (hflags : l.flags = flags0) (b : Addr) (xs : List Int32) : MetFree l x (headSpec (Jvm.Cond.code x code maxLocals ret :: tables_1) room_1) (lw_P b xs) (fun _ _ _ _ _ => True) lw_Q := by
  refine MetFree.of_bodyS (code := code) (maxLocals := maxLocals) (ret := ret) (by decide) ?_ ?_
  · intro args s m h hn
    obtain ⟨meth, c, h1, h2, h3, h4, h5, h6, -, -⟩ := Cond.code_spec hn (atoms_spec (ws := Jvm.Cond.code x code maxLocals ret :: tables_1) h _ List.mem_cons_self)
    exact ⟨meth, c, h1, h2, h3, h4, h5, h6⟩
  · intro p e s m args below meth c s₁ B hml0 hP _
    obtain ⟨rfl, hx, hbd, hgv⟩ := hP
    obtain ⟨scr, harrAt, hlist, hof, hsmall⟩ := hx
    obtain ⟨hcb, hkn, -, -⟩ := State.arrayAt?_spec harrAt
    have hown : s.vm.findClass R_law = some m.cls := findClass_of_methodNamed B.named
    have hts0 : ∀ c ∈ (Jvm.Cond.code x code maxLocals ret :: tables_1), c.before #[Value.ref b] s = true := atoms_spec (ws := Jvm.Cond.code x code maxLocals ret :: tables_1) B.pre
    have hts : ∀ w ∈ lw_tbl, w.before #[Value.ref b] s = true := k2_hts_sels lw_privs (fun w hw => hts0 w (List.mem_cons_of_mem _ hw)) lw_privs_ok
    have hml : c.maxLocals = 32 := B.maxLocals_eq (hts0 _ List.mem_cons_self)
    have X₀ : Stand p l e room_1 s m #[Value.ref b] below meth c s₁ [] 0 0 := Stand.of_body B
    have hh0 : s₁.heap = s.heap := by rw [B.state]; rfl
    have hsz : scr.slots.size = xs.length := by rw [← Array.length_toList, hlist, List.length_map]
    have hval : ∀ j : Nat, j < xs.length → scr.slots[j]? = some (.int (xs.getD j 0)) := fun j hj => by
      rw [← Array.getElem?_toList, hlist]
      simp [hj]
    have hbl : b < s.heap.size := (Array.getElem?_eq_some_iff.mp hcb).1
    have hX : va_X b xs.length (fun j => xs.getD j 0) s s.heap := ⟨scr, hcb, hof, hkn, hsz, hval⟩
    have K : W p l e room_1 s m #[Value.ref b] below meth c s₁.heap [] 0 0 (lw_Z below #[Value.ref b] s) (entryFrame m ([Value.ref b] : List Value).toArray 32) := by
      rw [hh0]
      exact start_W rows_ok (lawRuns_of wrt) l hflags hbd (name_of_methodNamed B.named B.method).1 ⟨B.exec, B.bytes, B.returns, hml, hown, hts, hX, hbl, B.notSynchronized, hgv⟩
    obtain ⟨t, a1, o, b1, b2, b3⟩ := K s₁ rfl X₀
    exact ⟨t, o, a1, b1, b2, b3⟩
theorem lw_pre_spec {args : Array Value} {s : State} (h : (Jvm.Cond.and given_1 narrow_1).before args s = true) (hr : rest_1_c.before args s = true) : ∃ (b : Addr) (xs : List Int32), lw_P b xs args s := by
  have hs := flat_of_before _ h
  have hq := flat_of_before _ hr
  have hc : (Cond.count 1).before args s = true := hs _ (by decide +kernel)
  have harr : (Cond.arrayOf (.arg 0) .int).before args s = true := hs _ (by decide +kernel)
  have hle : (Cond.le (.length (.arg 0)) (.int 260)).before args s = true := hs _ (by decide +kernel)
  have hlen : (Cond.isInt (.length (.arg 0))).before args s = true := hq _ (by decide +kernel)
  have hall : (Cond.all (.arg 0) (.isInt (.elem (.arg 0) (.index 0)))).before args s = true := hq _ (by decide +kernel)
  obtain ⟨b, xs, hb, hx⟩ := State.ints_of_pre rfl harr hlen hall
  have hsm : xs.length < 2 ^ 31 := hx.choose_spec.2.2.2
  have hev : (Term.length (.arg 0)).eval args s none [] s = some (.int xs.length.toInt32) := hx.length_eval hb
  have hv := Cond.le_ints hev (show (Term.int 260).eval args s none [] s = some (.int 260) from rfl)
  have hd : xs.length.toInt32 ≤ 260 := by
    simpa [Cond.before, Cond.holds, hv] using hle
  have hN : xs.length ≤ 260 := (Int32.ofNat_le_ofNat hsm (by decide)).mp (show Int32.ofNat xs.length ≤ Int32.ofNat 260 from hd)
  exact ⟨b, xs, Cond.one_arg hc (show args[0]? = some (.ref b) from hb), hx, hN, h⟩
theorem lw_comes (l : Launch) (hflags : l.flags = flags0) : Comes l x (Jvm.Cond.code x code maxLocals ret :: tables_1) room_1 (fun tb e args s => Calls_1 tb e args s ∧ rest_1 tb e args s ∧ Pre_1 tb e args s)
    (fun _ _ args s o t => lw_Q args s o t) := by
  intro p e ha hc hk s m args below hf hfit hheap happ hpre
  obtain ⟨b, xs, hP⟩ := lw_pre_spec hpre.2.2 hpre.2.1
  obtain ⟨k, o, h1, h2, h3, hQ⟩ := lw_walk l hflags b xs p e ha hc hk s m args below hf ((Spec.applies_iff_loose hf).mp happ).1 hP trivial
  exact ⟨k, o, h1, h2, h3, hQ⟩
theorem lw_frame {s t : State} {o : Outcome} {args : Array Value} (h : State.butDraws s t lw_cs (fun t1 => Framed s o t1 [] 600086 7301442)) :
    State.butDraws s t [Jvm.Choice.named "NaN.bits"] (fun t1 => Framed s o t1 (fieldLocs frame_1_writes args s ++ arrayLocs frame_1_arrays args s ++ staticLocs frame_1_statics s) 600086 7301442) := h
theorem lw_limb (L : Cond) (hL : ∀ (args : Array Value) (s t : State), L.after args s (.returned (some (.int 1))) t = true) :
    ArmFor flags0 classFile x code maxLocals ret World_1 tables_1 room_1 Calls_1 rest_1 Pre_1
      (fun tb e a s o t => postC L tb e a s o t ∧ State.butDraws s t [Jvm.Choice.named "NaN.bits"] (fun t1 => Framed s o t1 (fieldLocs frame_1_writes a s ++ arrayLocs frame_1_arrays a s ++ staticLocs frame_1_statics s) 600086 7301442)) := by
  intro l hflags _ _ p e ha hc hk s m args below hf hfit hheap happ hpre
  obtain ⟨k, o, h1, h2, h3, rfl, hF⟩ := lw_comes l hflags p e ha hc hk s m args below hf hfit hheap happ hpre
  exact ⟨k, _, h1, h2, h3, hL args s _, lw_frame hF⟩
theorem i_vc : Claimed_1_1 ∧ Claimed_1_2 := ⟨lw_limb limb_1_1 (fun args s t => by simp [limb_1_1, Cond.after, Cond.holds, Cond.value]), lw_limb limb_1_2 (fun args s t => Cond.after_iff.mpr (by
  first | (rw [show limb_1_2 = Cond.eq .result (.int 1) from rfl, Cond.eq_ints (x := 1) (y := 1) rfl rfl]; simp; done) | (simp [limb_1_2, Cond.value, Term.eval]; done)))⟩
