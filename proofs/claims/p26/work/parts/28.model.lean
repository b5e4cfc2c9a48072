/-! ===== THE MODEL: a told bee (C) and how it stands (M) =====
C 0 0: how many tongues, roots, words, spellers, rounds, orders; C 1 t 0 ease; C 2 r: tongue, letters, hard; C 3 v 0 size; C 4 v p a part; C 5 s 0 passes; C 6 s t what she knows; C 7 q: toll, laps, size; C 8 q p a word; C 9 o: kind, speller, test, n, s, w.
M 0 0: turn, round, lap, place, on turn (NEG: over), hints now, right in the lap; M 1 0 sums; M 2 w: spelled, rightly; M 3 s: in, points, misses, passes, appeal, hints, right, wrong, out in the lap; M 4 s t knows; M 5 s r heard; M 8 0: the bee by hand's own round (1), lap, place, who. -/
abbrev CD : Type := Nat → Nat → Nat → Nat
def lettersM (C : CD) (v : Nat) : Nat := su (C 3 v 0) (fun p => C 2 (C 4 v p) 1)
def hardM (C : CD) (v : Nat) : Nat := lettersM C v / 4 + su (C 3 v 0) (fun p => C 2 (C 4 v p) 2)
def wordM (C : CD) (M : MD) : Nat := C 8 (M 0 0 1) (M 0 0 3)
def spM (C : CD) (M : MD) (s v p : Nat) : Nat := M 4 s (C 2 (C 4 v p) 0) + C 1 (C 2 (C 4 v p) 0) 0 + min 5 (M 5 s (C 4 v p))
def leastM (C : CD) (M : MD) (s v : Nat) : Nat → Nat
  | 0 => 0
  | n + 1 => if n = 0 then spM C M s v 0 else min (leastM C M s v n) (spM C M s v n)
def strongM (C : CD) (M : MD) (s v : Nat) : Nat := leastM C M s v (C 3 v 0) + (if s = M 0 0 4 ∧ v = wordM C M then 3 * M 0 0 5 else 0)
def leftM (C : CD) (M : MD) : Nat := su (C 0 0 3) (fun s => M 3 s 0)
def aheadM (M : MD) (s o : Nat) : Bool := if M 3 s 0 = M 3 o 0 then (if M 3 s 1 = M 3 o 1 then decide (s < o) else decide (M 3 o 1 < M 3 s 1)) else decide (M 3 s 0 = 1)
def rankM (C : CD) (M : MD) (s : Nat) : Nat := su (C 0 0 3) (fun o => if aheadM M o s = true then 1 else 0)
def gapM (C : CD) (M : MD) (s : Nat) : Int32 := if M 0 0 4 = NEG then nI 0 else nI (hardM C (wordM C M)) - nI (strongM C M s (wordM C M))
def holdsM (C : CD) (M : MD) (o : Nat) : Bool := match C 9 o 2 with
  | 0 => decide (nI (C 9 o 3) < gapM C M (C 9 o 4))
  | 1 => decide (C 9 o 3 ≤ M 3 (C 9 o 4) 1)
  | 2 => decide (M 3 (C 9 o 4) 2 = 1)
  | 3 => decide (C 9 o 3 < M 0 0 0)
  | 4 => decide (leftM C M ≤ C 9 o 3) && decide (0 < M 3 (C 9 o 4) 3)
  | 5 => !(decide (M 0 0 4 = C 9 o 4)) || decide (C 9 o 3 < hardM C (C 9 o 5))
  | 6 => decide (M 3 (C 9 o 4) 0 = 1) && decide (gapM C M (C 9 o 4) - nI (hardM C (C 9 o 5) / 2) < nI (C 9 o 3))
  | 7 => true
  | _ => decide (M 0 0 0 / 3 < min (M 3 (C 9 o 4) 1) (C 9 o 3) * 2)
def canHintM (M : MD) : Bool := decide (¬ M 0 0 4 = NEG) && (decide (M 0 0 5 < 2) && decide (1 ≤ M 3 (M 0 0 4) 1))
def canPassM (M : MD) : Bool := decide (¬ M 0 0 4 = NEG) && decide (1 ≤ M 3 (M 0 0 4) 3)
def hintM (M : MD) : MD := mu (mu (mu (mu M 3 (M 0 0 4) 1 (M 3 (M 0 0 4) 1 - 1)) 3 (M 0 0 4) 5 (M 3 (M 0 0 4) 5 + 1)) 0 0 5 (M 0 0 5 + 1)) 1 0 2 (M 1 0 2 + 1)
def passM (M : MD) : MD := mu (mu M 3 (M 0 0 4) 3 (M 3 (M 0 0 4) 3 - 1)) 1 0 3 (M 1 0 3 + 1)
/-- the orders of hint and pass from o on; true: the word is passed on -/
def orM (C : CD) : Nat → Nat → MD → Bool × MD
  | 0, _, M => (false, M)
  | n + 1, o, M => if C 9 o 1 = M 0 0 4 ∧ C 9 o 0 = 0 ∧ canHintM M = true ∧ holdsM C M o = true then orM C n (o + 1) (hintM M)
    else if C 9 o 1 = M 0 0 4 ∧ C 9 o 0 = 1 ∧ canPassM M = true ∧ holdsM C M o = true then (true, M)
    else orM C n (o + 1) M
/-- is there an order of appeal, of the first n, whose test holds -/
def wantsM (C : CD) (M : MD) : Nat → Bool
  | 0 => false
  | n + 1 => wantsM C M n || (decide (C 9 n 1 = M 0 0 4) && (decide (C 9 n 0 = 2) && holdsM C M n))
def hearM (C : CD) (s v : Nat) : Nat → MD → MD
  | 0, M => M
  | n + 1, M => mu (hearM C s v n M) 5 s (C 4 v n) (hearM C s v n M 5 s (C 4 v n) + 1)
def rightM (M : MD) (s v : Nat) : MD := mu (mu (mu (mu (mu M 2 v 0 (M 2 v 0 + 1)) 2 v 1 (M 2 v 1 + 1)) 3 s 6 (M 3 s 6 + 1)) 0 0 6 1) 1 0 0 (M 1 0 0 + 1)
def wrongM (M : MD) (s v : Nat) : MD :=
  if 2 ≤ M 3 s 2 + 1 then mu (mu (mu (mu (mu (mu M 2 v 0 (M 2 v 0 + 1)) 1 0 1 (M 1 0 1 + 1)) 3 s 7 (M 3 s 7 + 1)) 3 s 2 (M 3 s 2 + 1)) 3 s 0 0) 3 s 8 1
  else mu (mu (mu (mu M 2 v 0 (M 2 v 0 + 1)) 1 0 1 (M 1 0 1 + 1)) 3 s 7 (M 3 s 7 + 1)) 3 s 2 (M 3 s 2 + 1)
def outcomeM (C : CD) (M : MD) (s v : Nat) : MD :=
  if hardM C v ≤ strongM C M s v then rightM (hearM C s v (C 3 v 0) (mu M 3 s 1 (M 3 s 1 + (1 + hardM C v / 4)))) s v
  else if M 3 s 4 = 1 ∧ wantsM C M (C 0 0 5) = true then
    (if hardM C v ≤ strongM C M s v + 2 then rightM (mu (mu M 3 s 1 (M 3 s 1 + 1)) 1 0 4 (M 1 0 4 + 1)) s v else wrongM (mu (mu M 3 s 4 0) 1 0 5 (M 1 0 5 + 1)) s v)
  else wrongM M s v
def spellM (C : CD) (M : MD) : MD := mu (mu (outcomeM C M (M 0 0 4) (wordM C M)) 0 0 3 (if M 0 0 3 + 1 < C 7 (M 0 0 1) 2 then M 0 0 3 + 1 else 0)) 8 0 3 (M 8 0 3 + 1)
def nxM (M : MD) : Nat → Nat → Nat
  | 0, _ => NEG
  | n + 1, s => if M 3 s 0 = 0 then nxM M n (s + 1) else s
def nextInM (C : CD) (M : MD) (s : Nat) : Nat := nxM M (C 0 0 3 - s) s
/-- the bee by hand's next one -/
def whoM (M : MD) : Nat → Nat → Nat
  | 0, s => s
  | n + 1, s => if M 3 s 0 = 0 then whoM M n (s + 1) else s
def backM : Nat → MD → MD
  | 0, M => M
  | n + 1, M => if backM n M 3 n 8 = 1 ∧ M 0 0 6 = 0 then mu (mu (mu (backM n M) 3 n 0 1) 3 n 2 1) 3 n 8 0 else mu (backM n M) 3 n 8 0
def anyM (M : MD) (toll : Nat) : Nat → Bool
  | 0 => false
  | n + 1 => anyM M toll n || (decide (M 3 n 0 = 1) && decide (toll ≤ M 3 n 1))
def payM (toll : Nat) : Nat → MD → MD
  | 0, M => M
  | n + 1, M => mu (payM toll n M) 3 n 0 (if M 3 n 0 = 1 ∧ toll ≤ M 3 n 1 then 1 else 0)
def clearM : Nat → MD → MD
  | 0, M => M
  | n + 1, M => mu (clearM n M) 3 n 2 0
def roundEndM (C : CD) (M : MD) : MD := clearM 6 (if anyM M (C 7 (M 0 0 1) 0) 6 = true then payM (C 7 (M 0 0 1) 0) 6 M else M)
def overM (M : MD) : MD := mu (mu M 0 0 4 NEG) 8 0 1 NEG
def lapM (M : MD) : MD := mu (mu (mu (backM 6 M) 0 0 6 0) 0 0 2 (M 0 0 2 + 1)) 8 0 2 (M 8 0 2 + 1)
def nextRoundM (M : MD) : MD := mu (mu (mu (mu (mu (mu M 0 0 1 (M 0 0 1 + 1)) 0 0 2 0) 0 0 3 0) 8 0 1 (M 8 0 1 + 1)) 8 0 2 0) 8 0 3 0
def startM (C : CD) (M : MD) : MD := mu M 0 0 4 (nextInM C M 0)
def endLap0M (C : CD) (M : MD) : MD :=
  if leftM C (lapM M) < 2 then overM (lapM M)
  else if C 7 (M 0 0 1) 1 ≤ M 0 0 2 + 1 then
    (if leftM C (roundEndM C (lapM M)) < 2 ∨ C 0 0 4 ≤ M 0 0 1 + 1 then overM (mu (mu (roundEndM C (lapM M)) 8 0 2 0) 8 0 3 0) else startM C (nextRoundM (roundEndM C (lapM M))))
  else startM C (lapM M)
def endLapM (C : CD) (M : MD) : MD := mu (endLap0M C M) 8 0 4 (whoM (endLap0M C M) (C 0 0 3 - 1) 0)
def endTurnM (C : CD) (M : MD) : MD :=
  if nextInM C M (M 0 0 4 + 1) = NEG then endLapM C (mu (mu (mu M 0 0 0 (M 0 0 0 + 1)) 0 0 5 0) 0 0 4 NEG)
  else mu (mu (mu (mu M 0 0 0 (M 0 0 0 + 1)) 0 0 5 0) 0 0 4 (nextInM C M (M 0 0 4 + 1))) 8 0 4 (nextInM C M (M 0 0 4 + 1))
def turnM (C : CD) (M : MD) : MD := if (orM C (C 0 0 5) 0 M).1 = true then endTurnM C (passM (orM C (C 0 0 5) 0 M).2) else endTurnM C (spellM C (orM C (C 0 0 5) 0 M).2)
def playM (C : CD) : Nat → MD → MD
  | 0, M => M
  | n + 1, M => if M 0 0 4 = NEG then M else playM C n (turnM C M)
def playedM (C : CD) : Nat → MD → Nat
  | 0, _ => 0
  | n + 1, M => if M 0 0 4 = NEG then 0 else playedM C n (turnM C M) + 1
/-! what a told list's cells hold -/
/-- an order's test, as it is reckoned: operation and number -/
def codeM (C : CD) (o : Nat) : List (Nat × Nat) := match C 9 o 2 with
  | 0 => [(23, C 9 o 4), (259, C 9 o 3), (62, 0), (59, 0)]
  | 1 => [(21, C 9 o 4), (259, C 9 o 3), (257, 0), (59, 0)]
  | 2 => [(22, C 9 o 4), (259, 1), (61, 0), (59, 0)]
  | 3 => [(19, 0), (259, C 9 o 3), (62, 0), (59, 0)]
  | 4 => [(20, 0), (259, C 9 o 3), (256, 0), (9, C 9 o 4), (259, 0), (62, 0), (27, 0), (59, 0)]
  | 5 => [(25, C 9 o 4), (26, 0), (5, C 9 o 5), (259, C 9 o 3), (62, 0), (28, 0), (59, 0)]
  | 6 => [(24, C 9 o 4), (23, C 9 o 4), (5, C 9 o 5), (259, 2), (47, 0), (45, 0), (259, C 9 o 3), (60, 0), (27, 0), (59, 0)]
  | 7 => [(259, 1), (259, 1), (61, 0), (59, 0)]
  | _ => [(21, C 9 o 4), (259, C 9 o 3), (29, 0), (259, 2), (42, 0), (19, 0), (259, 3), (47, 0), (62, 0), (59, 0)]
/-- does the operation need its number -/
def argM (op : Nat) : Bool := op == 259 || (21 ≤ op && op ≤ 25) || op == 9 || op == 5
def CF (w : MW) (t : Nat) (C : CD) : Prop :=
  (∀ j, j < 6 → mI w (t + 1) j = nI (C 0 0 j)) ∧
  (∀ k, k < C 0 0 0 → mI w (t + 2) k = nI (C 1 k 0)) ∧
  (∀ r, r < C 0 0 1 → mI w (t + 3) r = nI (C 2 r 0) ∧ mI w (t + 4) r = nI (C 2 r 1) ∧ mI w (t + 5) r = nI (C 2 r 2)) ∧
  (∀ v, v < C 0 0 2 → mI w (t + 6) v = nI (C 3 v 0) ∧ (∀ p, p < C 3 v 0 → mI w (t + 7) (v * 4 + p) = nI (C 4 v p))) ∧
  (∀ s, s < C 0 0 3 → mI w (t + 9) s = nI (C 5 s 0) ∧ ∀ k, k < C 0 0 0 → mI w (t + 10) (s * 5 + k) = nI (C 6 s k)) ∧
  (∀ q, q < C 0 0 4 → mI w (t + 11) q = nI (C 7 q 0) ∧ mI w (t + 12) q = nI (C 7 q 1) ∧ mI w (t + 13) q = nI (C 7 q 2) ∧ ∀ p, p < C 7 q 2 → mI w (t + 14) (q * 8 + p) = nI (C 8 q p)) ∧
  (∀ o, o < C 0 0 5 → mI w (t + 15) o = nI (15 + C 9 o 0) ∧ mI w (t + 16) o = nI (C 9 o 1)) ∧
  (∃ (P : Nat → Nat) (z : Nat), z ≤ 400 ∧ mI w (t + 18) 2 = nI z ∧ ∀ o, o < C 0 0 5 → mI w (t + 17) o = nI (P o) ∧ P o + (codeM C o).length ≤ z ∧ ∀ i a b, (codeM C o)[i]? = some (a, b) → mI w (t + 19) (P o + i) = nI a ∧ (argM a = true → mI w (t + 20) (P o + i) = nI b))
/-- how hard the words are, as it is kept -/
def HF (w : MW) (t : Nat) (C : CD) : Prop := ∀ v, v < C 0 0 2 → mI w (t + 8) v = nI (hardM C v)
/-- what bounds the numbers told -/
def CfOk (C : CD) : Prop :=
  (C 0 0 0 ≤ 5 ∧ C 0 0 1 ≤ 10 ∧ C 0 0 2 ≤ 12 ∧ C 0 0 3 ≤ 6 ∧ C 0 0 4 ≤ 5 ∧ C 0 0 5 ≤ 20) ∧
  (∀ k, k < C 0 0 0 → C 1 k 0 ≤ 9) ∧
  (∀ r, r < C 0 0 1 → C 2 r 0 < C 0 0 0 ∧ C 2 r 1 ≤ 9 ∧ C 2 r 2 ≤ 9) ∧
  (∀ v, v < C 0 0 2 → 1 ≤ C 3 v 0 ∧ C 3 v 0 ≤ 4 ∧ ∀ p, p < C 3 v 0 → C 4 v p < C 0 0 1) ∧
  (∀ s, s < C 0 0 3 → C 5 s 0 ≤ 3 ∧ ∀ k, k < C 0 0 0 → C 6 s k ≤ 20) ∧
  (∀ q, q < C 0 0 4 → C 7 q 0 ≤ 99 ∧ 1 ≤ C 7 q 1 ∧ C 7 q 1 ≤ 9 ∧ 1 ≤ C 7 q 2 ∧ C 7 q 2 ≤ 8 ∧ ∀ p, p < C 7 q 2 → C 8 q p < C 0 0 2) ∧
  (∀ o, o < C 0 0 5 → C 9 o 0 < 3 ∧ C 9 o 1 < C 0 0 3 ∧ C 9 o 2 < 9 ∧ C 9 o 3 ≤ 99 ∧ C 9 o 4 < C 0 0 3 ∧ C 9 o 5 < C 0 0 2)
/-- what holds of a bee at any time; B bounds its numbers -/
def MOk (C : CD) (B : Nat) (M : MD) : Prop :=
  (∀ g i j, 1 ≤ g → g ≤ 5 → M g i j ≤ B) ∧ M 0 0 0 ≤ B ∧ M 0 0 5 ≤ 2 ∧ M 0 0 6 ≤ 1 ∧
  (M 0 0 4 = NEG ∨ (M 0 0 4 < C 0 0 3 ∧ M 0 0 1 < C 0 0 4 ∧ M 0 0 3 < C 7 (M 0 0 1) 2 ∧ M 0 0 2 < C 7 (M 0 0 1) 1)) ∧
  (∀ s, M 3 s 0 ≤ 1 ∧ M 3 s 8 ≤ 1 ∧ M 3 s 4 ≤ 1) ∧ (∀ s, C 0 0 3 ≤ s → s < 6 → M 3 s 0 = 0 ∧ M 3 s 8 = 0 ∧ M 3 s 2 = 0)
/-- the world holds a bee -/
def BW (w : MW) (b t : Nat) (C : CD) (M : MD) : Prop := bT w b t ∧ tT w t ∧ CF w t C ∧ HF w t C ∧ CfOk C ∧ lnOk (BL b) w M
