/-! ===== THE SMALL MACHINE: its steps ===== -/
abbrev mJ : Value := .retAddr 0
def mFetch (k pc : Nat) : Option (Instr × Nat × List Nat) := ((mtbs.getD k []).find? (fun r => r.1 == pc)).map (fun r => r.2)
/-- a local that another takes a part of -/
def mIv (v : Value) : Value := if v.category = 2 then mJ else v
def mSt (L : List Value) (i : Nat) (v : Value) : List Value := match i with
  | 0 => L.set 0 v
  | j + 1 => (L.set j (mIv (L.getD j mJ))).set (j + 1) v
def mSt2 (L : List Value) (i : Nat) (v : Value) : List Value := (mSt L i v).set (i + 1) mJ
def mSpread : List Value → List Value
  | [] => []
  | v :: r => if v.category = 2 then v :: mJ :: mSpread r else v :: mSpread r
def mEnt (n : Nat) (as : List Value) : List Value := mSpread as ++ List.replicate (n - (mSpread as).length) mJ
def mNar (ty : FieldType) (x : Int32) : Bool := match ty with
  | .boolean => x == 0 || x == 1
  | .byte => x.toInt8.toInt32 == x
  | .int => true
  | _ => false
/-- what a method's answer must be, by its kind -/
def mRk (c : Nat) (x : Int32) : Bool := if c = 2 then x == 0 || x == 1 else if c = 3 then x.toInt8.toInt32 == x else if c = 4 then (x.toUInt32 % 65536).toInt32 == x else true
def mLook : List (Int × Int) → List Nat → Nat → Int → Nat
  | (a, _) :: r, t :: ts, d, x => if a = x then t else mLook r ts d x
  | _, _, d, _ => d
def mTab (lo hi : Int) (ts : List Nat) (x : Int) : Nat := if x < lo ∨ hi < x then ts.getD 0 0 else ts.getD (1 + (x - lo).toNat) 0
abbrev MS : Type := Nat × List Value × List Value × MW
def mLdI (o : Option Value) (f : Int32 → Option MS) : Option MS := match o with
  | some (.int x) => f x
  | _ => none
def mstep (ins : Instr) (len : Nat) (ax : List Nat) (pc : Nat) (L st : List Value) (w : MW) : Option MS :=
  match ins with
  | .iconst n => some (pc + len, L, .int (Int32.ofInt n) :: st, w)
  | .bipush n => some (pc + len, L, .int (Int8.ofInt n).toInt32 :: st, w)
  | .sipush n => some (pc + len, L, .int (Int16.ofInt n).toInt32 :: st, w)
  | .dconst d => if d.val = 0 then some (pc + len, L, .double FP.dconst0 :: st, w) else none
  | .aconst_null => some (pc + len, L, .null :: st, w)
  | .ldc _ => match ax with
    | [0, v, _] => some (pc + len, L, .int (Int32.ofNat v) :: st, w)
    | [1, c] => some (pc + len, L, .ref c :: st, w)
    | _ => none
  | .ldc2_w _ => match ax with
    | [v, _] => some (pc + len, L, .long (Int64.ofNat v) :: st, w)
    | _ => none
  | .iload_n i => match L[i.val]? with
    | some (.int x) => some (pc + len, L, .int x :: st, w)
    | _ => none
  | .iload i => match L[i]? with
    | some (.int x) => some (pc + len, L, .int x :: st, w)
    | _ => none
  | .lload_n i => match L[i.val]? with
    | some (.long x) => some (pc + len, L, .long x :: st, w)
    | _ => none
  | .lload i => match L[i]? with
    | some (.long x) => some (pc + len, L, .long x :: st, w)
    | _ => none
  | .aload_n i => match L[i.val]? with
    | some (.ref a) => some (pc + len, L, .ref a :: st, w)
    | some .null => some (pc + len, L, .null :: st, w)
    | _ => none
  | .aload i => match L[i]? with
    | some (.ref a) => some (pc + len, L, .ref a :: st, w)
    | some .null => some (pc + len, L, .null :: st, w)
    | _ => none
  | .istore_n i => match st with
    | .int x :: r => if i.val < L.length then some (pc + len, mSt L i.val (.int x), r, w) else none
    | _ => none
  | .istore i => match st with
    | .int x :: r => if i < L.length then some (pc + len, mSt L i (.int x), r, w) else none
    | _ => none
  | .lstore_n i => match st with
    | .long x :: r => if i.val + 1 < L.length then some (pc + len, mSt2 L i.val (.long x), r, w) else none
    | _ => none
  | .lstore i => match st with
    | .long x :: r => if i + 1 < L.length then some (pc + len, mSt2 L i (.long x), r, w) else none
    | _ => none
  | .astore_n i => match st with
    | .ref a :: r => if i.val < L.length then some (pc + len, mSt L i.val (.ref a), r, w) else none
    | .null :: r => if i.val < L.length then some (pc + len, mSt L i.val .null, r, w) else none
    | _ => none
  | .astore i => match st with
    | .ref a :: r => if i < L.length then some (pc + len, mSt L i (.ref a), r, w) else none
    | .null :: r => if i < L.length then some (pc + len, mSt L i .null, r, w) else none
    | _ => none
  | .iinc i n => match L[i]? with
    | some (.int x) => some (pc + len, mSt L i (.int (x + Int32.ofInt n)), st, w)
    | _ => none
  | .iadd => match st with
    | .int y :: .int x :: r => some (pc + len, L, .int (x + y) :: r, w)
    | _ => none
  | .isub => match st with
    | .int y :: .int x :: r => some (pc + len, L, .int (x - y) :: r, w)
    | _ => none
  | .imul => match st with
    | .int y :: .int x :: r => some (pc + len, L, .int (x * y) :: r, w)
    | _ => none
  | .iand => match st with
    | .int y :: .int x :: r => some (pc + len, L, .int (x &&& y) :: r, w)
    | _ => none
  | .ior => match st with
    | .int y :: .int x :: r => some (pc + len, L, .int (x ||| y) :: r, w)
    | _ => none
  | .ishl => match st with
    | .int y :: .int x :: r => some (pc + len, L, .int (x <<< (y &&& 31)) :: r, w)
    | _ => none
  | .ishr => match st with
    | .int y :: .int x :: r => some (pc + len, L, .int (x >>> (y &&& 31)) :: r, w)
    | _ => none
  | .idiv => match st with
    | .int y :: .int x :: r => if y = 0 then none else some (pc + len, L, .int (x / y) :: r, w)
    | _ => none
  | .irem => match st with
    | .int y :: .int x :: r => if y = 0 then none else some (pc + len, L, .int (x - x / y * y) :: r, w)
    | _ => none
  | .ineg => match st with
    | .int x :: r => some (pc + len, L, .int (-x) :: r, w)
    | _ => none
  | .i2b => match st with
    | .int x :: r => some (pc + len, L, .int x.toInt8.toInt32 :: r, w)
    | _ => none
  | .i2c => match st with
    | .int x :: r => some (pc + len, L, .int (x.toUInt32 % 65536).toInt32 :: r, w)
    | _ => none
  | .i2l => match st with
    | .int x :: r => some (pc + len, L, .long x.toInt64 :: r, w)
    | _ => none
  | .i2d => match st with
    | .int x :: r => some (pc + len, L, .double (FP.i2d x) :: r, w)
    | _ => none
  | .ladd => match st with
    | .long y :: .long x :: r => some (pc + len, L, .long (x + y) :: r, w)
    | _ => none
  | .lmul => match st with
    | .long y :: .long x :: r => some (pc + len, L, .long (x * y) :: r, w)
    | _ => none
  | .lcmp => match st with
    | .long y :: .long x :: r => some (pc + len, L, .int (lg_cmp x y) :: r, w)
    | _ => none
  | .ddiv => match st with
    | .double y :: .double x :: r => if FP.ddiv x y &&& 0x7fffffffffffffff ≤ 0x7ff0000000000000 then some (pc + len, L, .double (FP.ddiv x y) :: r, w) else none
    | _ => none
  | .dcmp op => match st with
    | .double y :: .double x :: r => some (pc + len, L, .int (Op.cmpValue (FP.dcmp x y) op) :: r, w)
    | _ => none
  | .dup => match st with
    | v :: r => if v.category = 1 then some (pc + len, L, v :: v :: r, w) else none
    | _ => none
  | .dup2 => match st with
    | a :: b :: r => if a.category = 1 ∧ b.category = 1 then some (pc + len, L, a :: b :: a :: b :: r, w) else none
    | _ => none
  | .pop => match st with
    | v :: r => if v.category = 1 then some (pc + len, L, r, w) else none
    | _ => none
  | .goto _ => some (ax.getD 0 0, L, st, w)
  | .ifCond cnd _ => match st with
    | .int x :: r => match cnd with
      | .eq => if x = 0 then some (ax.getD 0 0, L, r, w) else some (pc + len, L, r, w)
      | .ne => if ¬ x = 0 then some (ax.getD 0 0, L, r, w) else some (pc + len, L, r, w)
      | .lt => if x < 0 then some (ax.getD 0 0, L, r, w) else some (pc + len, L, r, w)
      | .ge => if 0 ≤ x then some (ax.getD 0 0, L, r, w) else some (pc + len, L, r, w)
      | .gt => if 0 < x then some (ax.getD 0 0, L, r, w) else some (pc + len, L, r, w)
      | .le => if x ≤ 0 then some (ax.getD 0 0, L, r, w) else some (pc + len, L, r, w)
    | _ => none
  | .if_icmp cnd _ => match st with
    | .int y :: .int x :: r => match cnd with
      | .eq => if x = y then some (ax.getD 0 0, L, r, w) else some (pc + len, L, r, w)
      | .ne => if ¬ x = y then some (ax.getD 0 0, L, r, w) else some (pc + len, L, r, w)
      | .lt => if x < y then some (ax.getD 0 0, L, r, w) else some (pc + len, L, r, w)
      | .ge => if y ≤ x then some (ax.getD 0 0, L, r, w) else some (pc + len, L, r, w)
      | .gt => if y < x then some (ax.getD 0 0, L, r, w) else some (pc + len, L, r, w)
      | .le => if x ≤ y then some (ax.getD 0 0, L, r, w) else some (pc + len, L, r, w)
    | _ => none
  | .ifnonnull _ => match st with
    | .ref a :: r => if a = 0 then none else some (ax.getD 0 0, L, r, w)
    | .null :: r => some (pc + len, L, r, w)
    | _ => none
  | .tableswitch _ lo hi _ => match st with
    | .int x :: r => some (mTab lo hi ax x.toInt, L, r, w)
    | _ => none
  | .lookupswitch _ ps => match st with
    | .int x :: r => some (mLook ps.toList (ax.drop 1) (ax.getD 0 0) x.toInt, L, r, w)
    | _ => none
  | .getfield _ => match ax, st with
    | [ci, f, _, _], .ref a :: r => if mTg w a = ci then some (pc + len, L, (if mRef ci f = true then rv (mR w a f) else .int (mI w a f)) :: r, w) else none
    | _, _ => none
  | .putfield _ => match ax, st with
    | [ci, f, _, _], v :: .ref a :: r => if mTg w a = ci ∧ mE ≤ a then
        (match v with
          | .int x => if mRef ci f = false ∧ mNar (mTy ci f) x = true then some (pc + len, L, r, wI w a f x) else none
          | .null => if mRef ci f = true then some (pc + len, L, r, wR w a f none) else none
          | .ref b => if mRef ci f = true then some (pc + len, L, r, wR w a f (some b)) else none
          | _ => none) else none
    | _, _ => none
  | .getstatic _ => match ax with
    | [0, _] => some (pc + len, L, .int 1 :: st, w)
    | [1, _] => some (pc + len, L, .ref 0 :: st, w)
    | [2, _] => some (pc + len, L, .ref 2 :: st, w)
    | [3, _] => some (pc + len, L, .ref 3 :: st, w)
    | _ => none
  | .new _ => match ax with
    | [ci, _] => if ci < 13 then some (pc + len, L, .ref (mSz w) :: st, wN w ci 0 (mNf ci)) else none
    | _ => none
  | .newarray _ => match ax, st with
    | [t], .int n :: r => if ¬ n < 0 ∧ n.toNatClampNeg ≤ 134217728 then some (pc + len, L, .ref (mSz w) :: r, wN w t n.toNatClampNeg n.toNatClampNeg) else none
    | _, _ => none
  | .anewarray _ => match ax, st with
    | [t, _], .int n :: r => if ¬ n < 0 ∧ n.toNatClampNeg ≤ 134217728 then some (pc + len, L, .ref (mSz w) :: r, wN w t n.toNatClampNeg n.toNatClampNeg) else none
    | _, _ => none
  | .multianewarray _ _ => match st with
    | .int k :: .int n :: r => if (¬ n < 0 ∧ n.toNatClampNeg ≤ 134217728) ∧ ¬ k < 0 ∧ k.toNatClampNeg ≤ 134217728 then some (pc + len, L, .ref (mSz w) :: r, wM w n.toNatClampNeg k.toNatClampNeg) else none
    | _ => none
  | .arraylength => match st with
    | .ref a :: r => if 50 ≤ mTg w a ∧ mTg w a < 55 then some (pc + len, L, .int (Int32.ofNat (mLn w a)) :: r, w) else none
    | _ => none
  | .iaload => match st with
    | .int i :: .ref a :: r => if mTg w a = 50 ∧ mIn i (mLn w a) then some (pc + len, L, .int (mI w a i.toNatClampNeg) :: r, w) else none
    | _ => none
  | .baload => match st with
    | .int i :: .ref a :: r => if mTg w a = 51 ∧ mIn i (mLn w a) then some (pc + len, L, .int (mI w a i.toNatClampNeg) :: r, w) else none
    | _ => none
  | .aaload => match st with
    | .int i :: .ref a :: r => if (52 ≤ mTg w a ∧ mTg w a < 55) ∧ mIn i (mLn w a) then some (pc + len, L, rv (mR w a i.toNatClampNeg) :: r, w) else none
    | _ => none
  | .iastore => match st with
    | .int x :: .int i :: .ref a :: r => if mTg w a = 50 ∧ mE ≤ a ∧ mIn i (mLn w a) then some (pc + len, L, r, wI w a i.toNatClampNeg x) else none
    | _ => none
  | .bastore => match st with
    | .int x :: .int i :: .ref a :: r => if mTg w a = 51 ∧ mE ≤ a ∧ mIn i (mLn w a) then some (pc + len, L, r, wI w a i.toNatClampNeg x.toInt8.toInt32) else none
    | _ => none
  | .aastore => match st with
    | .ref b :: .int i :: .ref a :: r => if (mTg w a = 52 ∧ mTg w b = 50 ∧ mE ≤ b ∨ mTg w a = 53 ∧ mTg w b = 4 ∨ mTg w a = 54 ∧ mTg w b = 11) ∧ mIn i (mLn w a) then some (pc + len, L, r, wR w a i.toNatClampNeg (some b)) else none
    | _ => none
  | .checkcast _ => match st with
    | .ref a :: r => if mTg w a = 51 ∧ mE ≤ a then some (pc + len, L, .ref a :: r, w) else none
    | _ => none
  | .invokespecial _ => match st with
    | .ref a :: r => if mE ≤ a ∧ r.length ≤ 4 then some (pc + len, L, r, w) else none
    | _ => none
  | .invokestatic _ => match st with
    | .int n :: .int dp :: .ref b :: .int sp :: .ref a :: r => if (mTg w a = 50 ∧ mTg w b = 50 ∨ mTg w a = 51 ∧ mTg w b = 51) ∧ mE ≤ b ∧ ¬ sp < 0 ∧ ¬ dp < 0 ∧ ¬ n < 0 ∧ sp.toNatClampNeg + n.toNatClampNeg ≤ mLn w a ∧ dp.toNatClampNeg + n.toNatClampNeg ≤ mLn w b ∧ r.length ≤ 4 then some (pc + len, L, r, wC w a sp.toNatClampNeg b dp.toNatClampNeg n.toNatClampNeg) else none
    | _ => none
  | .invokevirtual _ => match st with
    | .ref a :: r => if mTg w a = 51 ∧ mE ≤ a ∧ r.length ≤ 4 then some (pc + len, L, .ref (mSz w) :: r, wK w a) else none
    | _ => none
  | _ => none
/-- a method's answer, or what it throws -/
abbrev MRes : Type := Option Value ⊕ Nat
/-- what an instruction asks for: 0 a step of its own, 1 a call, 2 an answer, 3 a throw -/
def mAsk (ins : Instr) (ax : List Nat) : Nat := match ins with
  | .ireturn => 2
  | .areturn => 2
  | .lreturn => 2
  | .dreturn => 2
  | .return_ => 2
  | .new _ => if 100 ≤ ax.getD 0 0 then 3 else 0
  | .invokestatic _ => if ax.getD 0 0 < 1000 then 1 else 0
  | .invokevirtual _ => if ax.getD 0 0 < 1000 then 1 else 0
  | .invokespecial _ => if ax.getD 0 0 < 1000 then 1 else 0
  | _ => 0
def mRet (ins : Instr) (ax : List Nat) (st : List Value) : Option (Option Value) := match ins, st with
  | .return_, [] => some none
  | .ireturn, [.int x] => if mRk (ax.getD 0 0) x = true then some (some (.int x)) else none
  | .areturn, [.ref a] => some (some (.ref a))
  | .areturn, [.null] => some (some .null)
  | .lreturn, [.long x] => some (some (.long x))
  | .dreturn, [.double x] => some (some (.double x))
  | _, _ => none
/-- is the receiver of the class that the call wants -/
def mRcv (kind ci : Nat) (as : List Value) (w : MW) : Bool := if kind < 2 then true else match as with
  | .ref a :: _ => if kind = 5 ∨ kind = 6 then decide (mE ≤ a) else decide (mTg w a = ci)
  | _ => false
/-- handlers: method, from, to, what, where it goes on (behind the store of what was thrown), the local -/
def mHt : List (Nat × Nat × Nat × Nat × Nat × Nat) := [(168, 63, 95, 1, 98, 5), (168, 124, 160, 1, 163, 5)]
def mHand (k pc E : Nat) : Option (Nat × Nat) := (mHt.find? (fun h => h.1 == k && decide (h.2.1 ≤ pc) && decide (pc < h.2.2.1) && h.2.2.2.1 == E)).map (fun h => h.2.2.2.2)
/-- how many words of room the rest of the stack takes -/
def mCat (st : List Value) : Nat := (st.map fun v => v.category).sum
def mexec : Nat → Nat → Nat → Nat → List Value → List Value → MW → Option (MRes × MW)
  | 0, _, _, _, _, _, _ => none
  | n + 1, d, k, pc, L, st, w => match mFetch k pc with
    | none => none
    | some (ins, len, ax) => match mAsk ins ax with
      | 0 => match mstep ins len ax pc L st w with
        | none => none
        | some (pc', L', st', w') => mexec n d k pc' L' st' w'
      | 1 => match d with
        | 0 => none
        | d' + 1 =>
          let na := ax.getD 1 0
          if mCat (st.drop na) ≤ 8 ∧ na ≤ st.length ∧ mRcv (ax.getD 2 0) (ax.getD 3 0) (st.take na).reverse w = true ∧ (mSpread (st.take na).reverse).length ≤ mMl (ax.getD 0 0) then
            match mexec n d' (ax.getD 0 0) 0 (mEnt (mMl (ax.getD 0 0)) (st.take na).reverse) [] w with
            | none => none
            | some (.inl v, w') => mexec n d k (pc + len) L (v.toList ++ st.drop na) w'
            | some (.inr E, w') => match mHand k pc E with
              | none => none
              | some (h, i) => if i < L.length ∧ ax.getD 2 0 = 2 then mexec n d k h (mSt L i mJ) [] w' else none
          else none
      | 2 => match mRet ins ax st with
        | none => none
        | some v => some (.inl v, w)
      | _ => match st with
        | [] => some (.inr (ax.getD 0 0 - 100), wN w 61 0 6)
        | _ => none
