/-! ===== the lexer: all tokens are split off ===== -/
section
variable {d p q i : Nat} {u w : MW} {tx : List Nat} {E : List Tk}
theorem drop_hd {r : List Tk} {t : Tk} (h : E.drop i = t :: r) : E.getD i tk0 = t ∧ E.drop (i + 1) = r ∧ i < E.length := by
  refine ⟨?_, ?_, ?_⟩
  · rw [List.getD_eq_getElem?_getD, ← List.head?_drop, h]; rfl
  · rw [← List.tail_drop, h]; rfl
  · have := congrArg List.length h
    rw [List.length_drop, List.length_cons] at this
    omega
theorem c_skpS {post l : List Nat} (h : TP w tx) (hl : tx.length < 2000) (hq : q ≤ tx.length) (hd : tx.drop q = post ++ l) (hp : post.all isS = true) (h0 : isS (l.getD 0 0) = false) : mK (d + 2) 74 [.ref 169, .int (nI q)] w = some (.inl (some (.int (nI (q + post.length)))), w) := by
  have hlen := drop_len hd hq
  rw [List.length_append] at hlen
  rw [c_blanks h (by omega), skp_eq post.length 2000 q (by omega) (fun j hj => ?_) ?_]
  · rw [drop_bv hd, getD_app, if_neg (Nat.lt_irrefl _), Nat.sub_self]
    exact h0
  · rw [drop_bv hd, getD_app, if_pos hj]
    exact all_getD hp hj
theorem c_splitL (hT : TP u tx) (hX : TX u) (hn : E.length ≤ 399) (hl : tx.length < 2000) : ∀ (r : List Tk) (i q : Nat) (post : List Nat) (kind : Nat) (w : MW) (x4 : Value), E.drop i = r → i ≤ E.length → tx.drop q = post ++ flat r → q ≤ tx.length → post.all isS = true → lexL r = true → kind < 260 → LX u w tx E i →
    ∃ w', mX (d + 7) 73 13 [.ref 169, .int (nI q), .int (nI kind), .int (nI i), mJ] [] w = some (.inl none, w') ∧ LX u w' tx E (E.length + 1) := by
  intro r
  induction r with
  | nil =>
    intro i q post kind w x4 hE hi hd hq hp hlx hk hw
    have iT : i = E.length := by
      have := congrArg List.length hE
      rw [List.length_drop, List.length_nil] at this
      omega
    subst iT
    have k : KW w := hw.1.kw hT.1
    have ht : TP w tx := hw.1.tp (by decide) hT
    have hlen := drop_len hd hq
    have e0 : post ++ flat [] = post := by rw [show flat [] = [] from rfl, List.append_nil]
    rw [e0] at hlen
    have eg : E.getD E.length tk0 = tk0 := by
      rw [List.getD_eq_getElem?_getD, List.getElem?_eq_none (by omega)]
      rfl
    have st := lx_step (K := nI 260) (S := nI tx.length) (N := nI 1) (V := nI 0) hw (by rw [eg]; rfl) (by rw [eg]; rfl) (fun z => absurd z (by omega))
    refine ⟨_, ?_, st⟩
    rw [b_73_13, ijlt (by decide) (by omega), if_neg (by omega), b_73_20, ijeq (by omega) (by decide), if_neg (by omega), b_73_27, ijeq (by omega) (by decide), if_neg (by omega), b_73_34 k.t7, c_skpS ht hl hq hd hp (by decide), hlen]
    simp only [mThen_ok, Option.toList_some, Option.toList_none, List.cons_append, List.nil_append]
    rw [b_73_39 k.t7, c_lenEnd ht]
    simp only [mThen_ok, Option.toList_some, Option.toList_none, List.cons_append, List.nil_append]
    rw [b_73_45 k.t7, c_kindEnd ht]
    simp only [mThen_ok, Option.toList_some, Option.toList_none, List.cons_append, List.nil_append]
    have z : mX (d + 7) 73 54 [.ref 169, .int (nI tx.length), mJ, .int (nI E.length), .int (nI 1)] [.int (nI 260)] w = mX (d + 7) 73 73 [.ref 169, .int (nI tx.length), .int (nI 260), .int (nI E.length), .int (nI 1)] [] w := by
      rw [b_73_54, ijne (by omega) (by decide)]
      by_cases g : E.length = 400
      · rw [if_neg (fun q => q g), b_73_62, if_pos rfl]
      · rw [if_pos g]
    rw [z, c_tokPut k (by omega) (V := nI 0) (fun z => absurd z (by decide +kernel)) (fun _ => rfl), jadd]
    rw [b_73_13, ijlt (by decide) (by omega), if_neg (by omega), b_73_20, if_pos rfl, b_73_154]
  | cons t r ih =>
    intro i q post kind w x4 hE hi hd hq hp hlx hk hw
    obtain ⟨x1, x2, x3, x4', x5⟩ := lexL_split r t hlx
    obtain ⟨eg, hE', iT⟩ := drop_hd hE
    have k : KW w := hw.1.kw hT.1
    have ht : TP w tx := hw.1.tp (by decide) hT
    have hx : TX w := hw.1.txk (by decide) hX
    have hlen := drop_len hd hq
    rw [List.length_append] at hlen
    have hd2 : tx.drop (q + post.length) = tB t ++ (tP t ++ flat r) := drop_app hd
    have hbt : BT tx (q + post.length) (tB t) := drop_BT hd2 (by omega)
    have hd3 : tx.drop (q + post.length + (tB t).length) = tP t ++ flat r := drop_app hd2
    have hp1 := lex_pos x1
    have hb1 := hbt.1
    have nx : bv tx (q + post.length + (tB t).length) = (tP t ++ flat r).getD 0 0 := by
      have := drop_bv hd3 0
      rwa [Nat.add_zero] at this
    have lA : lenAt tx (q + post.length) = (tB t).length := lenAt_tok hbt x1 (by rw [nx]; exact x4')
    have kd := kdOf_lt x1
    have h0 : isS ((flat (t :: r)).getD 0 0) = false := flat_hd hlx
    have V : Nat := v0 t
    have st := lx_step (K := nI (tK t)) (S := nI (q + post.length)) (N := nI (tB t).length) (V := nI (v0 t)) hw (by rw [eg]) (by rw [eg]) (fun _ => ⟨_, rfl, by rw [eg]; exact hbt, by rw [eg]⟩)
    obtain ⟨w', e1, e2⟩ := ih (i + 1) (q + post.length + (tB t).length) (tP t) (tK t) _ x4 hE' (by omega) hd3 (by omega) x3 x5 (x2 ▸ kd) st
    refine ⟨w', ?_, e2⟩
    rw [b_73_13, ijlt (by decide) (by omega), if_neg (by omega), b_73_20, ijeq (by omega) (by decide), if_neg (by omega), b_73_27, ijeq (by omega) (by decide), if_neg (by omega), b_73_34 k.t7, c_skpS ht hl hq hd hp h0]
    simp only [mThen_ok, Option.toList_some, Option.toList_none, List.cons_append, List.nil_append]
    rw [b_73_39 k.t7, c_lenAt ht (by omega), lA]
    simp only [mThen_ok, Option.toList_some, Option.toList_none, List.cons_append, List.nil_append]
    rw [b_73_45 k.t7, c_kindAt ht hx hbt x1, x2]
    simp only [mThen_ok, Option.toList_some, Option.toList_none, List.cons_append, List.nil_append]
    rw [b_73_54, ijne (by omega) (by decide), if_pos (by omega), c_tokPut k (by omega) (V := nI (v0 t)) (fun z w2 f2 => ?_) (fun z => ?_), jadd, e1]
    · have hk9 : tK t = 259 := (jeq (by omega) (by decide)).mp z
      unfold v0
      rw [if_pos hk9]
      have hd9 : isL ((tB t).getD 0 0) = false ∧ isD ((tB t).getD 0 0) = true := by
        rw [hk9] at x2
        unfold kdOf at x2
        have key : ∀ n k, n + k = 31 → kwFr (tB t) n k ≤ 258 := by
          intro n
          induction n with
          | zero => intro k _; exact Nat.le_refl _
          | succ n ih =>
            intro k hk
            unfold kwFr
            split
            · omega
            · exact ih (k + 1) (by omega)
        split at x2
        · have := key 31 0 rfl; omega
        · rename_i g1
          split at x2
          · rename_i g2
            exact ⟨by rwa [Bool.not_eq_true] at g1, g2⟩
          · exfalso
            split at x2
            · split at x2 <;> omega
            · have := ht.2.2.2.2 (q + post.length)
              have e := hbt.2 0 (by omega)
              unfold bv at e
              rw [Nat.add_zero] at e
              omega
      have hl9 := x1
      unfold lexOk at hl9
      rw [if_neg (by rw [hd9.1]; decide), if_pos hd9.2, Bool.and_eq_true, decide_eq_true_eq] at hl9
      exact c_number (f2.tp (by decide) ht) hbt (fun j hj => all_getD hl9.1 hj) hl9.2
    · unfold v0
      rw [if_neg (fun y => z (by rw [y]))]
theorem c_split (hT : TP u tx) (hX : TX u) (hn : E.length ≤ 399) (hl : tx.length < 2000) (he : lexL E = true) (hf : flat E = tx) : ∃ w', mK (d + 7) 73 [.ref 169] u = some (.inl none, w') ∧ LX u w' tx E (E.length + 1) := by
  have eE : mE = 166 := rfl
  have st : LX u (wI u 169 6 (nI 0)) tx E 0 := ⟨(frB.refl _ _ _).set (by decide) (by decide), by rw [mI_wI, if_pos ⟨rfl, rfl⟩], fun j hj => absurd hj (by omega)⟩
  obtain ⟨w', e1, e2⟩ := c_splitL (d := d) hT hX hn hl E 0 0 [] 258 _ .null rfl (Nat.zero_le _) (by rw [List.drop_zero, List.nil_append, hf]) (Nat.zero_le _) rfl he (by decide) st
  exact ⟨w', by rw [e_73, b_73_0 hT.1.t7 (by omega), e1], e2⟩
end
