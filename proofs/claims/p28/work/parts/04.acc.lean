/-! words for the tables of part 03 -/
def fnd {α : Type} : List (Nat × α) → Nat → Option α
  | [], _ => none
  | (k, v) :: r, n => bif Nat.beq k n then some v else fnd r n
def mcx (y : Nat) : Nat := mCx.getD y 99
def mkd (y : Nat) : Nat := mKd.getD y 9
def mna (y : Nat) : Nat := mNa.getD y 99
def mmx (y : Nat) : Nat := mMx.getD y 0
def msl (y : Nat) : Bool := mSl.getD y false
def code9 (y : Nat) : List (Nat × Instr × Nat) := kL.getD y []
def txt (i : Nat) : List Int32 := txtL.getD i []
def mByt (y : Nat) : ByteArray := mBy.getD y ⟨#[]⟩
def mRet (y : Nat) : Option FieldType := mRt.getD y none
/-- branches by their targets -/
def absI (pc : Nat) : Instr → Instr
  | .goto t => .goto (pc + t)
  | .ifnull t => .ifnull (pc + t)
  | .ifnonnull t => .ifnonnull (pc + t)
  | .ifCond c t => .ifCond c (pc + t)
  | .if_icmp c t => .if_icmp c (pc + t)
  | .tableswitch d a b os => .tableswitch (pc + d) a b (os.map (fun z => (pc : Int) + z))
  | i => i
def kChk1 (b : ByteArray) (e : Nat × Instr × Nat) : Bool := match decode b e.1 with
  | .ok (i, len) => decide (absI e.1 i = e.2.1) && Nat.beq e.2.2 (e.1 + len)
  | _ => false
def kChkY (y : Nat) : Bool := (code9 y).all (kChk1 (mByt y))
