/-! ===== the checksum ===== -/
def dl (f : Nat → Nat) : Nat → Int64 → Int64
  | 0, d => d
  | n + 1, d => dl f n d * 31 + (nI (f n)).toInt64
def dn (F : Nat → Int64 → Int64) : Nat → Int64 → Int64
  | 0, d => d
  | n + 1, d => F n (dn F n d)
def spDg (C : CD) (M : MD) (s : Nat) (d : Int64) : Int64 := dl (M 5 s) (C 0 0 1) (dl (M 4 s) (C 0 0 0) (dl (spFM C M s) 9 d))
def digestM (C : CD) (M : MD) : Int64 := dn (spDg C M) (C 0 0 3) (dn (fun v => dl (wordFM C M v) 5) (C 0 0 2) (dn (fun r => dl (rootM C r) 5) (C 0 0 1) (dl (countM C M) 18 919)))
section
variable {d B : Nat} {w w' : MW} {C : CD} {M M' : MD}
theorem c_digS (h : GW w C M) (hm : MOk C B M) (hB : B ≤ 1073741824) {s : Nat} (hs : s < C 0 0 3) (x : Int64) : mK (d + 4) 118 [.ref 166, .long x, .int (nI s)] w = some (.inl (some (.long (spDg C M s x))), w) := by
  have hk1 := h.bw.k.1
  have hb := h.bw.b
  have hs6 : s < 6 := by omega
  have k1 := loop0 (fun i => mX (d + 4) 118 6 [.ref 166, mJ, mJ, .int (nI s), .long (dl (spFM C M s) i x), mJ, .int (nI i)] [] w) 9 (fun i hi => by
    rw [b_118_6, ijlt (by decide) (by omega), if_neg (by omega), b_118_13 h.q, c_spFact h hm hB hs hi]
    simp only [mThen_ok, Option.toList_some, Option.toList_none, List.cons_append, List.nil_append]
    rw [b_118_26, jadd]
    rfl)
  have k2 := loop0 (fun i => mX (d + 4) 118 39 [.ref 166, mJ, mJ, .int (nI s), .long (dl (M 4 s) i (dl (spFM C M s) 9 x)), mJ, .int (nI i)] [] w) (C 0 0 0) (fun i hi => by
    rw [b_118_39 h.q h.s2 h.t8, h.g2, c_cnt h.bw.t h.bw.c (by decide)]
    simp only [mThen_ok, Option.toList_some, Option.toList_none, List.cons_append, List.nil_append]
    rw [b_118_49, ijle (by omega) (by omega), if_neg (by omega), b_118_52 h.q h.s6 h.b0, h.g6, c_spAt hb hs6]
    simp only [mThen_ok, Option.toList_some, Option.toList_none, List.cons_append, List.nil_append]
    rw [b_118_66 (bT.st hb hs6) (bT.ks hb hs6), bT.kg hb hs6, c_getN (bT.kt hb hs6) (by rw [bT.kl hb hs6]; omega) (by rw [bT.kl hb hs6]; decide), h.bw.kn hs6 (by omega)]
    simp only [mThen_ok, Option.toList_some, Option.toList_none, List.cons_append, List.nil_append]
    rw [b_118_74, jadd]
    rfl)
  have k3 := loop0 (fun i => mX (d + 4) 118 87 [.ref 166, mJ, mJ, .int (nI s), .long (dl (M 5 s) i (dl (M 4 s) (C 0 0 0) (dl (spFM C M s) 9 x))), mJ, .int (nI i)] [] w) (C 0 0 1) (fun i hi => by
    rw [b_118_87 h.q h.s2 h.t8, h.g2, c_cnt h.bw.t h.bw.c (by decide)]
    simp only [mThen_ok, Option.toList_some, Option.toList_none, List.cons_append, List.nil_append]
    rw [b_118_97, ijle (by omega) (by omega), if_neg (by omega), b_118_100 h.q h.s6 h.b0, h.g6, c_spAt hb hs6]
    simp only [mThen_ok, Option.toList_some, Option.toList_none, List.cons_append, List.nil_append]
    rw [b_118_114 (bT.st hb hs6) (bT.hs hb hs6), bT.hg hb hs6, c_getN (bT.ht hb hs6) (by rw [bT.hl hb hs6]; omega) (by rw [bT.hl hb hs6]; decide), h.bw.he hs6 (by omega)]
    simp only [mThen_ok, Option.toList_some, Option.toList_none, List.cons_append, List.nil_append]
    rw [b_118_122, jadd]
    rfl)
  have k1' : mX (d + 4) 118 6 [.ref 166, mJ, mJ, .int (nI s), .long x, mJ, .int (nI 0)] [] w = mX (d + 4) 118 6 [.ref 166, mJ, mJ, .int (nI s), .long (dl (spFM C M s) 9 x), mJ, .int (nI 9)] [] w := k1
  have k2' : mX (d + 4) 118 39 [.ref 166, mJ, mJ, .int (nI s), .long (dl (spFM C M s) 9 x), mJ, .int (nI 0)] [] w = mX (d + 4) 118 39 [.ref 166, mJ, mJ, .int (nI s), .long (dl (M 4 s) (C 0 0 0) (dl (spFM C M s) 9 x)), mJ, .int (nI (C 0 0 0))] [] w := k2
  have k3' : mX (d + 4) 118 87 [.ref 166, mJ, mJ, .int (nI s), .long (dl (M 4 s) (C 0 0 0) (dl (spFM C M s) 9 x)), mJ, .int (nI 0)] [] w = mX (d + 4) 118 87 [.ref 166, mJ, mJ, .int (nI s), .long (spDg C M s x), mJ, .int (nI (C 0 0 1))] [] w := k3
  rw [e_118, b_118_0, k1', b_118_6, if_pos (by decide +kernel), b_118_36, k2', b_118_39 h.q h.s2 h.t8, h.g2, c_cnt h.bw.t h.bw.c (by decide)]
  simp only [mThen_ok, Option.toList_some, Option.toList_none, List.cons_append, List.nil_append]
  rw [b_118_49, if_pos (by rw [jle (by omega) (by omega)]; exact Nat.le_refl _), b_118_84, k3', b_118_87 h.q h.s2 h.t8, h.g2, c_cnt h.bw.t h.bw.c (by decide)]
  simp only [mThen_ok, Option.toList_some, Option.toList_none, List.cons_append, List.nil_append]
  rw [b_118_97, if_pos (by rw [jle (by omega) (by omega)]; exact Nat.le_refl _), b_118_132]
theorem c_digest (h : GW w C M) (hm : MOk C B M) (hB : B ≤ 1073741824) : mK (d + 5) 117 [.ref 166] w = some (.inl (some (.long (digestM C M))), w) := by
  have hk1 := h.bw.k.1
  have k1 : mX (d + 5) 117 6 [.ref 166, .long 919, mJ, .int (nI 0), mJ] [] w = mX (d + 5) 117 6 [.ref 166, .long (dl (countM C M) 18 919), mJ, .int (nI 18), mJ] [] w := loop0 (fun i => mX (d + 5) 117 6 [.ref 166, .long (dl (countM C M) i 919), mJ, .int (nI i), mJ] [] w) 18 (fun i hi => by
    rw [b_117_6, ijlt (by decide) (by omega), if_neg (by omega), b_117_12 h.q, c_countOf h hm hB hi]
    simp only [mThen_ok, Option.toList_some, Option.toList_none, List.cons_append, List.nil_append]
    rw [b_117_22, jadd]
    rfl)
  have r1 : ∀ r x, r < C 0 0 1 → mX (d + 5) 117 48 [.ref 166, .long x, mJ, .int (nI r), .int (nI 0)] [] w = mX (d + 5) 117 48 [.ref 166, .long (dl (rootM C r) 5 x), mJ, .int (nI r), .int (nI 5)] [] w := fun r x hr => loop0 (fun i => mX (d + 5) 117 48 [.ref 166, .long (dl (rootM C r) i x), mJ, .int (nI r), .int (nI i)] [] w) 5 (fun i hi => by
    rw [b_117_48, ijlt (by decide) (by omega), if_neg (by omega), b_117_54 h.q, c_rootFact h hr hi]
    simp only [mThen_ok, Option.toList_some, Option.toList_none, List.cons_append, List.nil_append]
    rw [b_117_66, jadd]
    rfl)
  have w1 : ∀ r x, r < C 0 0 2 → mX (d + 5) 117 98 [.ref 166, .long x, mJ, .int (nI r), .int (nI 0)] [] w = mX (d + 5) 117 98 [.ref 166, .long (dl (wordFM C M r) 5 x), mJ, .int (nI r), .int (nI 5)] [] w := fun r x hr => loop0 (fun i => mX (d + 5) 117 98 [.ref 166, .long (dl (wordFM C M r) i x), mJ, .int (nI r), .int (nI i)] [] w) 5 (fun i hi => by
    rw [b_117_98, ijlt (by decide) (by omega), if_neg (by omega), b_117_104 h.q, c_wordFact (d := d + 1) h hr hi]
    simp only [mThen_ok, Option.toList_some, Option.toList_none, List.cons_append, List.nil_append]
    rw [b_117_116, jadd]
    rfl)
  have k2 : ∀ x, mX (d + 5) 117 33 [.ref 166, .long x, mJ, .int (nI 0), mJ] [] w = mX (d + 5) 117 33 [.ref 166, .long (dn (fun r => dl (rootM C r) 5) (C 0 0 1) x), mJ, .int (nI (C 0 0 1)), mJ] [] w := fun x => loop0 (fun i => mX (d + 5) 117 33 [.ref 166, .long (dn (fun r => dl (rootM C r) 5) i x), mJ, .int (nI i), mJ] [] w) (C 0 0 1) (fun i hi => by
    rw [b_117_33 h.q h.s2 h.t8, h.g2, c_cnt h.bw.t h.bw.c (by decide)]
    simp only [mThen_ok, Option.toList_some, Option.toList_none, List.cons_append, List.nil_append]
    rw [b_117_42, ijle (by omega) (by omega), if_neg (by omega), b_117_45, r1 i _ hi, b_117_48, if_pos (by decide +kernel), b_117_75, jadd]
    rfl)
  have k3 : ∀ x, mX (d + 5) 117 83 [.ref 166, .long x, mJ, .int (nI 0), mJ] [] w = mX (d + 5) 117 83 [.ref 166, .long (dn (fun v => dl (wordFM C M v) 5) (C 0 0 2) x), mJ, .int (nI (C 0 0 2)), mJ] [] w := fun x => loop0 (fun i => mX (d + 5) 117 83 [.ref 166, .long (dn (fun v => dl (wordFM C M v) 5) i x), mJ, .int (nI i), mJ] [] w) (C 0 0 2) (fun i hi => by
    rw [b_117_83 h.q h.s2 h.t8, h.g2, c_cnt h.bw.t h.bw.c (by decide)]
    simp only [mThen_ok, Option.toList_some, Option.toList_none, List.cons_append, List.nil_append]
    rw [b_117_92, ijle (by omega) (by omega), if_neg (by omega), b_117_95, w1 i _ hi, b_117_98, if_pos (by decide +kernel), b_117_125, jadd]
    rfl)
  have k4 : ∀ x, mX (d + 5) 117 133 [.ref 166, .long x, mJ, .int (nI 0), mJ] [] w = mX (d + 5) 117 133 [.ref 166, .long (dn (spDg C M) (C 0 0 3) x), mJ, .int (nI (C 0 0 3)), mJ] [] w := fun x => loop0 (fun i => mX (d + 5) 117 133 [.ref 166, .long (dn (spDg C M) i x), mJ, .int (nI i), mJ] [] w) (C 0 0 3) (fun i hi => by
    rw [b_117_133 h.q h.s2 h.t8, h.g2, c_cnt h.bw.t h.bw.c (by decide)]
    simp only [mThen_ok, Option.toList_some, Option.toList_none, List.cons_append, List.nil_append]
    rw [b_117_142, ijle (by omega) (by omega), if_neg (by omega), b_117_145 h.q, c_digS h hm hB hi]
    simp only [mThen_ok, Option.toList_some, Option.toList_none, List.cons_append, List.nil_append]
    rw [b_117_151, jadd]
    rfl)
  rw [e_117, b_117_0, k1, b_117_6, if_pos (by decide +kernel), b_117_31, k2, b_117_33 h.q h.s2 h.t8, h.g2, c_cnt h.bw.t h.bw.c (by decide)]
  simp only [mThen_ok, Option.toList_some, Option.toList_none, List.cons_append, List.nil_append]
  rw [b_117_42, if_pos (by rw [jle (by omega) (by omega)]; exact Nat.le_refl _), b_117_81, k3, b_117_83 h.q h.s2 h.t8, h.g2, c_cnt h.bw.t h.bw.c (by decide)]
  simp only [mThen_ok, Option.toList_some, Option.toList_none, List.cons_append, List.nil_append]
  rw [b_117_92, if_pos (by rw [jle (by omega) (by omega)]; exact Nat.le_refl _), b_117_131, k4, b_117_133 h.q h.s2 h.t8, h.g2, c_cnt h.bw.t h.bw.c (by decide)]
  simp only [mThen_ok, Option.toList_some, Option.toList_none, List.cons_append, List.nil_append]
  rw [b_117_142, if_pos (by rw [jle (by omega) (by omega)]; exact Nat.le_refl _), b_117_158]
  rfl
/-- the points of all -/
def ptsM (C : CD) (M : MD) : Nat := su (C 0 0 3) (fun s => M 3 s 1)
theorem c_mean (h : GW w C M) (hn : 1 ≤ C 0 0 3) (hf : FP.ddiv (FP.i2d (nI (ptsM C M))) (FP.i2d (nI (C 0 0 3))) &&& 0x7fffffffffffffff ≤ 0x7ff0000000000000) : mK (d + 2) 116 [.ref 166] w = some (.inl (some (.double (FP.ddiv (FP.i2d (nI (ptsM C M))) (FP.i2d (nI (C 0 0 3)))))), w) := by
  have hk1 := h.bw.k.1
  have hb := h.bw.b
  have k1 : mX (d + 2) 116 13 [.ref 166, .int (nI (C 0 0 3)), .int (nI 0), .int (nI 0)] [] w = mX (d + 2) 116 13 [.ref 166, .int (nI (C 0 0 3)), .int (nI (ptsM C M)), .int (nI (C 0 0 3))] [] w := loop0 (fun i => mX (d + 2) 116 13 [.ref 166, .int (nI (C 0 0 3)), .int (nI (su i (fun s => M 3 s 1))), .int (nI i)] [] w) (C 0 0 3) (fun i hi => by
    rw [b_116_13, ijle (by omega) (by omega), if_neg (by omega), b_116_18 h.q h.s6 h.b0, h.g6, c_spAt hb (by omega)]
    simp only [mThen_ok, Option.toList_some, Option.toList_none, List.cons_append, List.nil_append]
    rw [b_116_27 (bT.st hb (by omega)), h.bw.f1 (by omega), jadd, jadd]
    rfl)
  rw [e_116, b_116_0 h.q h.s2 h.t8, h.g2, c_cnt h.bw.t h.bw.c (by decide)]
  simp only [mThen_ok, Option.toList_some, Option.toList_none, List.cons_append, List.nil_append]
  rw [b_116_8, k1, b_116_13, if_pos (by rw [jle (by omega) (by omega)]; exact Nat.le_refl _), b_116_38, ijne (by omega) (by decide), if_pos (by omega), b_116_46 hf, b_116_51]
end
