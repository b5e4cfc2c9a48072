/-! ===== EVERY ROW OF THE TABLES IS WHAT THE MACHINE HAS: a check by computation ===== -/
def mWd (z : Nat) (w : Cond) : Bool := decide (mTbl[z]? = some w) && goodWord w
def mOwn (k : Nat) : String := (mNm k).cls
def mLkb (k i ci f nest z : Nat) : Bool :=
  if nest = 0 then mWd z (.fieldLink (mOwn k) i ((mC ci).2.1 f).1 ((mC ci).2.1 f).2.1 ((mC ci).2.1 f).2.2.1)
  else decide (nwl[z]? = some (.fieldLinkNest (mOwn k) i ((mC ci).2.1 f).1 ((mC ci).2.1 f).2.1 ((mC ci).2.1 f).2.2.1 "BeeTurnpike"))
def mNoH (y : MethodName) : Bool := decide (y.cls ≠ "java/lang/invoke/MethodHandle") && decide (y.cls ≠ "java/lang/invoke/VarHandle")
def mArgs (y : MethodName) (n : Nat) : Bool := decide ((parseMethodDescriptor y.desc).map (fun d => d.parameters.length) = some n)
def mInitd (C : String) : Bool := decide (Cond.initialized C ∈ mTbl.take 100)
/-- a callee's own word -/
def mCodeW (c : Nat) : Cond := if c = 168 then .codeWith (mNm c) (mCd c) (mMl c) (mRt c) [(63, 95, 96, 204), (124, 160, 161, 204)] else .code (mNm c) (mCd c) (mMl c) (mRt c)
def mCallee (c : Nat) : Bool := decide (c < mInf.length) && mWd (mCw.getD c 0) (mCodeW c) && mInitd (mOwn c) && mNoH (mNm c) && decide (mMl c ≤ 40)
def mCall (k i : Nat) (ax : List Nat) : Bool := match ax with
  | [c, na, 0, _, z, z2] => mCallee c && mWd z (.methodLink (mOwn k) i (mNm c)) && mWd z2 (.static (mNm c)) && mArgs (mNm c) na
  | [c, na, 1, _, z, z2] => mCallee c && c != 168 && decide (nwl[z]? = some (.methodLinkNest (mOwn k) i (mNm c) "BeeTurnpike") ∨ nwl[z]? = some (.methodLinkNest (mOwn k) i (mNm c) "BeeTurnpikeLaw")) && mWd z2 (.static (mNm c)) && mArgs (mNm c) na
  | [c, na, 2, ci, z, z2, z3] => mCallee c && c != 168 && mWd z (.methodLink (mOwn k) i (mNm c)) && mWd z2 (.instanceMethod (mNm c)) && mWd z3 (.selects (mOwn c) (mNm c) (mNm c)) && mArgs (mNm c) (na - 1) && decide (1 ≤ na) && decide (ci < 13) && decide ((mC ci).1 = mOwn c)
  | [c, na, 3, ci, z, z2, z3] => mCallee c && c != 168 && decide (nwl[z]? = some (.methodLinkNest (mOwn k) i (mNm c) "BeeTurnpike") ∨ nwl[z]? = some (.methodLinkNest (mOwn k) i (mNm c) "BeeTurnpikeLaw")) && mWd z2 (.instanceMethod (mNm c)) && mWd z3 (.selects (mOwn c) (mNm c) (mNm c)) && mArgs (mNm c) (na - 1) && decide (1 ≤ na) && decide (ci < 13) && decide ((mC ci).1 = mOwn c)
  | [c, na, 4, 12, z, z2, z3, z4, z5, z6] => mCallee c && c != 168 && (match mTbl[z]? with
      | some (.methodLink o i' x) => decide (o = mOwn k) && decide (i' = i) && mWd z (.methodLink (mOwn k) i x) && mNoH x && mWd z2 (.instanceMethod (mNm c)) && mWd z3 (.selects RJ4 x (mNm c)) && mWd z4 (.sameMethod x.cls x.cls x.name x.desc) && mArgs x (na - 1) && decide (1 ≤ na) && mWd z (.methodLink (mOwn k) i x) && (decide (mNm c = ⟨x.cls, x.name, x.desc⟩) || (mWd z5 (.instanceMethod ⟨x.cls, x.name, x.desc⟩) && (match mTbl[z6]? with
        | some (.code o b n9 t9) => decide (o = ⟨x.cls, x.name, x.desc⟩) && mWd z6 (.code o b n9 t9)
        | _ => false)))
      | _ => false)
  | [c, na, 5, _, z, z2] => mCallee c && c != 168 && mWd z (.methodLink (mOwn k) i (mNm c)) && mWd z2 (.instanceMethod (mNm c)) && mArgs (mNm c) (na - 1) && decide (1 ≤ na) && decide ((mNm c).name = "<init>") && decide (mRt c = none)
  | [c, na, 6, _, z, z2] => mCallee c && c != 168 && decide (nwl[z]? = some (.methodLinkNest (mOwn k) i (mNm c) "BeeTurnpike") ∨ nwl[z]? = some (.methodLinkNest (mOwn k) i (mNm c) "BeeTurnpikeLaw")) && mWd z2 (.instanceMethod (mNm c)) && mArgs (mNm c) (na - 1) && decide (1 ≤ na) && decide ((mNm c).name = "<init>") && decide (mRt c = none)
  | [c, na, 7, ci, z, z2, z3, z4] => mCallee c && c != 168 && mWd z (.methodLink (mOwn k) i (mNm c)) && mWd z2 (.instanceMethod (mNm c)) && mWd z3 (.superclass (mOwn k) (mOwn c)) && mWd z4 (.sameMethod (mOwn c) (mOwn c) (mNm c).name (mNm c).desc) && mArgs (mNm c) (na - 1) && decide (1 ≤ na) && decide (ci < 13) && decide ((mNm c).name ≠ "<init>")
  | _ => false
def mTgt (pc : Nat) (off : Int) (t : Nat) : Bool := decide ((pc : Int) + off = (t : Int))
def mChk (k pc : Nat) (ins : Instr) (len : Nat) (ax : List Nat) : Bool := match ins with
  | .iconst _ => len == 1
  | .bipush _ => len == 2
  | .sipush _ => len == 3
  | .dconst _ => len == 1
  | .aconst_null => len == 1
  | .ldc i => len == 2 && (match ax with
      | [0, v, z] => mWd z (.constant (mOwn k) i (Int32.ofNat v))
      | [1, c] => decide (1 ≤ c) && decide (c < mE) && sTab.any (fun r => decide (r.1 = mOwn k) && r.2.1 == i && r.2.2.2 == c)
      | _ => false)
  | .ldc2_w i => len == 3 && (match ax with
      | [v, z] => mWd z (.constantLong (mOwn k) i (Int64.ofNat v))
      | _ => false)
  | .iload_n _ => len == 1
  | .iload _ => len == 2
  | .lload_n _ => len == 1
  | .lload _ => len == 2
  | .aload_n _ => len == 1
  | .aload _ => len == 2
  | .istore_n _ => len == 1
  | .istore _ => len == 2
  | .lstore_n _ => len == 1
  | .lstore _ => len == 2
  | .astore_n _ => len == 1
  | .astore _ => len == 2
  | .iinc _ _ => len == 3
  | .iadd => len == 1
  | .isub => len == 1
  | .imul => len == 1
  | .iand => len == 1
  | .ior => len == 1
  | .ishl => len == 1
  | .ishr => len == 1
  | .idiv => len == 1
  | .irem => len == 1
  | .ineg => len == 1
  | .i2b => len == 1
  | .i2c => len == 1
  | .i2l => len == 1
  | .i2d => len == 1
  | .ladd => len == 1
  | .lmul => len == 1
  | .lcmp => len == 1
  | .ddiv => len == 1
  | .dcmp _ => len == 1
  | .dup => len == 1
  | .dup2 => len == 1
  | .pop => len == 1
  | .goto off => len == 3 && mTgt pc off (ax.getD 0 0)
  | .ifCond _ off => len == 3 && mTgt pc off (ax.getD 0 0)
  | .if_icmp _ off => len == 3 && mTgt pc off (ax.getD 0 0)
  | .ifnonnull off => len == 3 && mTgt pc off (ax.getD 0 0)
  | .tableswitch d lo hi offs => mTgt pc d (ax.getD 0 0) && decide (ax.length = offs.size + 1) && decide (hi - lo + 1 = (offs.size : Int)) && (List.range offs.size).all (fun j => mTgt pc (offs.getD j 0) (ax.getD (1 + j) 0))
  | .lookupswitch d ps => mTgt pc d (ax.getD 0 0) && decide (ax.length = ps.size + 1) && (ps.toList.zip (ps.toList.drop 1)).all (fun (a, next) => a.1 < next.1) && (List.range ps.size).all (fun j => mTgt pc (ps.getD j (0, 0)).2 (ax.getD (1 + j) 0))
  | .getfield i => len == 3 && (match ax with
      | [ci, f, nest, z] => decide (ci < 13) && decide (f < mNf ci) && (ci != 11 || decide (f < 2)) && mLkb k i ci f nest z
      | _ => false)
  | .putfield i => len == 3 && (match ax with
      | [ci, f, nest, z] => decide (ci < 13) && decide (f < mNf ci) && mLkb k i ci f nest z && (!((mC ci).2.1 f).2.2.2 || (decide ((mNm k).name = "<init>") && decide (((mC ci).2.1 f).1 = mOwn k) && nest == 0))
      | _ => false)
  | .getstatic i => len == 3 && (match ax with
      | [0, z] => mWd z (.fieldLink (mOwn k) i "java/lang/String" "COMPACT_STRINGS" "Z")
      | [1, z] => mWd z (.fieldLink (mOwn k) i "jdk/internal/util/Preconditions" "SIOOBE_FORMATTER" "Ljava/util/function/BiFunction;")
      | [2, z] => mWd z (.fieldLink (mOwn k) i "java/lang/Integer" "DigitOnes" "[B")
      | [3, z] => mWd z (.fieldLink (mOwn k) i "java/lang/Integer" "DigitTens" "[B")
      | _ => false)
  | .new i => len == 3 && (match ax with
      | [101, z] => (k == 107 || k == 108) && mWd z (.classLink (mOwn k) i "java/lang/IllegalStateException")
      | [ci, z] => decide (ci < 13) && mWd z (.classLink (mOwn k) i (mC ci).1)
      | _ => false)
  | .newarray t => len == 2 && (match ax with
      | [50] => decide (t = .int)
      | [51] => decide (t = .byte)
      | _ => false)
  | .anewarray i => len == 3 && (match ax with
      | [t, z] => decide (52 ≤ t) && decide (t < 55) && mWd z (.classLink (mOwn k) i (if t = 52 then "[I" else if t = 53 then RX4 else RJ0))
      | _ => false)
  | .multianewarray i d => len == 4 && d == 2 && (match ax with
      | [z] => mWd z (.classLink (mOwn k) i "[[I")
      | _ => false)
  | .arraylength => len == 1
  | .iaload => len == 1
  | .baload => len == 1
  | .aaload => len == 1
  | .iastore => len == 1
  | .bastore => len == 1
  | .aastore => len == 1
  | .checkcast i => len == 3 && (match ax with
      | [z] => mWd z (.classLink (mOwn k) i "[B")
      | _ => false)
  | .invokespecial i => len == 3 && (match ax with
      | [1002, z] => mWd z (.methodLink (mOwn k) i objectInit)
      | ax => decide (ax.getD 0 0 < 1000) && decide (5 ≤ ax.getD 2 0) && mCall k i ax)
  | .invokestatic i => len == 3 && (match ax with
      | [1000, z] => mWd z (.methodLink (mOwn k) i arraycopyName)
      | ax => decide (ax.getD 0 0 < 1000) && decide (ax.getD 2 0 < 2) && mCall k i ax)
  | .invokevirtual i => len == 3 && (match ax with
      | [1001, z] => mWd z (.methodLink (mOwn k) i ⟨"[B", "clone", "()Ljava/lang/Object;"⟩)
      | ax => decide (ax.getD 0 0 < 1000) && decide (2 ≤ ax.getD 2 0) && decide (ax.getD 2 0 < 5) && mCall k i ax)
  | .ireturn => len == 1 && (match ax with
      | [0] => decide (mRt k = some .int)
      | [2] => decide (mRt k = some .boolean)
      | [3] => decide (mRt k = some .byte)
      | [4] => decide (mRt k = some .char)
      | _ => false)
  | .areturn => len == 1 && (match mRt k with
      | some (.object _) => true
      | some (.array _) => true
      | _ => false)
  | .lreturn => len == 1 && decide (mRt k = some .long)
  | .dreturn => len == 1 && decide (mRt k = some .double)
  | .return_ => len == 1 && decide (mRt k = none)
  | _ => false
def mRow (k : Nat) (r : MRow) : Bool := decide (decode (mCd k) r.1 = .ok (r.2.1, r.2.2.1)) && mChk k r.1 r.2.1 r.2.2.1 r.2.2.2
