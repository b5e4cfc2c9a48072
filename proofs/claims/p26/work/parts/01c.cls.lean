/-! ===== classes, fields, methods of the small machine ===== -/
abbrev mE : Nat := 166
/-- the classes of the objects: 0 to 10 the class's and the law's, 11 String, 12 StringBuilder -/
abbrev mCl : List vw_C := [(RX0, TX0, 14), (RX1, TX1, 3), (RX2, TX2, 4), (RX3, TX3, 2), (RX4, TX4, 11), (RX5, TX5, 2), (RX6, TX6, 5), (RX7, TX7, 7), (RX8, TX8, 18), (RX9, TX9, 9), (RX10, TX10, 18), (RJ0, TJ0, 4), (RJ4, TJ4, 4)]
def mTy (ci : Nat) : Nat → FieldType := match ci with
  | 0 => tyX0 | 1 => tyX1 | 2 => tyX2 | 3 => tyX3 | 4 => tyX4 | 5 => tyX5 | 6 => tyX6 | 7 => tyX7 | 8 => tyX8 | 9 => tyX9 | 10 => tyX10 | 11 => tyJ0 | _ => tyJ4
def mC (ci : Nat) : vw_C := mCl.getD ci (RJ4, TJ4, 4)
abbrev mNf (ci : Nat) : Nat := (mC ci).2.2
/-- is the field a reference -/
def mRef (ci k : Nat) : Bool := match mTy ci k with
  | .object _ => true
  | .array _ => true
  | _ => false
def mMl (k : Nat) : Nat := (mInf.getD k (yX9_get, cX9_get, 0, none)).2.2.1
def mRt (k : Nat) : Option FieldType := (mInf.getD k (yX9_get, cX9_get, 0, none)).2.2.2
def mNm (k : Nat) : MethodName := (mInf.getD k (yX9_get, cX9_get, 0, none)).1
def mCd (k : Nat) : ByteArray := (mInf.getD k (yX9_get, cX9_get, 0, none)).2.1
