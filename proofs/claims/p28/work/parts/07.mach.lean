/-! THE SMALL MACHINE: the codes of this claim run as a function over a picture of the heap that knows each cell by its number in the order of making. 'stp' does one instruction, 'exN' a method, 'runM' a method with its calls. -/
abbrev AV : Type := Int32 ⊕ Int64 ⊕ (Nat × Nat) ⊕ Unit
/-- how many cells (in the picture, made, slots); references; kinds; numbers -/
abbrev AH : Type := (Nat × Nat × Nat) × (Nat → Nat → Nat → Option (Nat × Nat)) × (Nat → Nat × Nat) × (Nat → Nat → Nat → Int32)
abbrev vI (x : Int32) : AV := .inl x
abbrev vR (i c : Nat) : AV := .inr (.inr (.inl (i, c)))
abbrev vU : AV := .inr (.inr (.inr ()))
def nm (n : Nat) : Nat × Nat := (n, 0)
def nmN : Nat := 256
/-- a kind: below 50 a class, from 50 on an array's type with its length -/
def KD (k : Nat × Nat) : Nat ⊕ (Nat × Nat) := bif Nat.blt k.1 50 then .inl k.1 else bif Nat.blt k.1 60 then .inr (k.1 - 50, k.2) else .inl 99
def hR (h : AH) : Nat → Nat → Nat → Option (Nat × Nat) := h.2.1
def hK (h : AH) (i c : Nat) : Nat × Nat := bif Nat.beq c 0 then h.2.2.1 i else (99, 0)
def hG (h : AH) : Nat → Nat → Nat → Int32 := h.2.2.2
def u3 {α : Type} (f : Nat → Nat → Nat → α) (i c k : Nat) (v : α) : Nat → Nat → Nat → α := fun i' c' k' => if i' = i ∧ c' = c ∧ k' = k then v else f i' c' k'
def u2 {α : Type} (f : Nat → Nat → Nat → α) (i c : Nat) (w : Nat → α) : Nat → Nat → Nat → α := fun i' c' k' => if i' = i ∧ c' = c then w k' else f i' c' k'
def sG (h : AH) (i c k : Nat) (v : Int32) : AH := (h.1, h.2.1, h.2.2.1, u3 h.2.2.2 i c k v)
def sR (h : AH) (i c k : Nat) (v : Nat × Nat) : AH := (h.1, u3 h.2.1 i c k (some v), h.2.2)
def sW (h : AH) (i c : Nat) (w : Nat → Int32) : AH := (h.1, h.2.1, h.2.2.1, u2 h.2.2.2 i c w)
/-- a new cell of this kind, of n slots -/
def alc (h : AH) (kd : Nat × Nat) (n : Nat) : AH := ((h.1.1 + 1, h.1.2.1 + 1, h.1.2.2 + n), u2 h.2.1 h.1.1 0 (fun _ => none), (fun j => if j = h.1.1 then kd else h.2.2.1 j), u2 h.2.2.2 h.1.1 0 (fun _ => 0))
def isO (c : Nat × Nat) (ci : Nat) : Bool := match KD c with
  | .inl x => Nat.beq x ci
  | .inr _ => false
def isA (c : Nat × Nat) : Option (Nat × Nat) := match KD c with
  | .inl _ => none
  | .inr p => some p
def cat1 : AV → Nat
  | .inr (.inl _) => 2
  | _ => 1
def cats : List AV → Nat
  | [] => 0
  | v :: r => cat1 v + cats r
/-- no long stands just ahead of this local -/
def nlo (lo : List AV) (i : Nat) : Bool := match i with
  | 0 => true
  | j + 1 => match lo[j]? with
    | some (.inr (.inl _)) => false
    | _ => true
abbrev SR : Type := (Nat × List AV × List AV × AH) ⊕ (Option AV) ⊕ (Nat × List AV × List AV)
abbrev sNx (pc : Nat) (lo st : List AV) (h : AH) : Option SR := some (.inl (pc, lo, st, h))
def ldI (lo : List AV) (st : List AV) (np k : Nat) (h : AH) : Option SR := match lo[k]? with
  | some (.inl x) => sNx np lo (vI x :: st) h
  | _ => none
def ldA (lo : List AV) (st : List AV) (np k : Nat) (h : AH) : Option SR := match lo[k]? with
  | some (.inr (.inr (.inl p))) => sNx np lo (.inr (.inr (.inl p)) :: st) h
  | _ => none
def stI (lo : List AV) (st : List AV) (np k : Nat) (h : AH) : Option SR := match st with
  | .inl x :: st => bif nlo lo k && Nat.blt k lo.length then sNx np (lo.set k (vI x)) st h else none
  | _ => none
def stA (lo : List AV) (st : List AV) (np k : Nat) (h : AH) : Option SR := match st with
  | .inr (.inr (.inl p)) :: st => bif nlo lo k && Nat.blt k lo.length then sNx np (lo.set k (.inr (.inr (.inl p)))) st h else none
  | _ => none
def bin (f : Int32 → Int32 → Int32) (lo st : List AV) (np : Nat) (h : AH) : Option SR := match st with
  | .inl y :: .inl x :: st => sNx np lo (vI (f x y) :: st) h
  | _ => none
def binD (f : Int32 → Int32 → Int32) (lo st : List AV) (np : Nat) (h : AH) : Option SR := match st with
  | .inl y :: .inl x :: st => if y = 0 then none else sNx np lo (vI (f x y) :: st) h
  | _ => none
def br1 (c : Int32 → Bool) (lo st : List AV) (np tg : Nat) (h : AH) : Option SR := match st with
  | .inl x :: st => bif c x then sNx tg lo st h else sNx np lo st h
  | _ => none
def br2 (c : Int32 → Int32 → Bool) (lo st : List AV) (np tg : Nat) (h : AH) : Option SR := match st with
  | .inl y :: .inl x :: st => bif c x y then sNx tg lo st h else sNx np lo st h
  | _ => none
def inb (j : Int32) (n : Nat) : Bool := !(decide (j < 0)) && Nat.blt j.toNatClampNeg n
/-- the script is read, no more: L ints -/
abbrev SC : Type := Nat × (Nat → Int32)
def aldI (sc : SC) (t : Nat → Bool) (lo st : List AV) (np : Nat) (h : AH) : Option SR := match st with
  | .inl j :: .inr (.inr (.inl (i, c))) :: st =>
    bif Nat.beq c 901 then (bif t 0 && inb j sc.1 then sNx np lo (vI (sc.2 j.toNatClampNeg) :: st) h else none) else match isA (hK h i c) with
    | some (q, n) => bif t q && inb j n then sNx np lo (vI (hG h i c j.toNatClampNeg) :: st) h else none
    | none => none
  | _ => none
def narT (q : Nat) (x : Int32) : Int32 := match q with
  | 1 => x.toInt8.toInt32
  | 2 => x &&& 1
  | _ => x
def astI (t : Nat → Bool) (lo st : List AV) (np : Nat) (h : AH) : Option SR := match st with
  | .inl x :: .inl j :: .inr (.inr (.inl (i, c))) :: st => match isA (hK h i c) with
    | some (q, n) => bif t q && inb j n then sNx np lo st (sG h i c j.toNatClampNeg (narT q x)) else none
    | none => none
  | _ => none
def aty : ArrayType → Nat
  | .int => 0
  | .byte => 1
  | .boolean => 2
  | _ => 9
/-- whether the receiver may be asked so: 0 by its class, 2 in its making, 3 by its superclass's name, 4 the superclass's own -/
def rcv (kd m : Nat) (k : Nat × Nat) : Bool := match kd with
  | 0 => msl m && isO k (mcx m)
  | 2 => isO k (mcx m) || (Nat.beq (mcx m) 13 && isO k 11)
  | _ => isO k 11
def ivk (kd : Nat) (m : Nat) (lo st : List AV) (np : Nat) (h : AH) : Option SR :=
  bif Nat.blt m 131 && Nat.beq (mkd m) (bif Nat.blt kd 3 then kd else 0) then
    bif Nat.beq kd 1 then bif Nat.ble (mna m) st.length && Nat.ble (cats (st.drop (mna m))) 8 then some (.inr (.inr (m, (st.take (mna m)).reverse, st.drop (mna m)))) else none
    else match st.drop (mna m) with
      | .inr (.inr (.inl (i, c))) :: rest => bif rcv kd m (hK h i c) && Nat.ble (cats rest) 8 then some (.inr (.inr (m, vR i c :: (st.take (mna m)).reverse, rest))) else none
      | _ => none
  else none
/-- a String constant asked for its length (112), a letter (113), its coder (115) -/
def strI (m : Nat) (lo st : List AV) (np : Nat) (h : AH) : Option SR := match m with
  | 112 => (match st with
    | .inr (.inr (.inl (i, c))) :: st => bif Nat.beq c 900 && Nat.blt i strN && Nat.ble (cats st) 8 then sNx np lo (vI (Int32.ofNat (txt i).length) :: st) h else none
    | _ => none)
  | 113 => (match st with
    | .inl j :: .inr (.inr (.inl (i, c))) :: st => bif Nat.beq c 900 && Nat.blt i strN && inb j (txt i).length && Nat.ble (cats st) 8 then sNx np lo (vI ((txt i).getD j.toNatClampNeg 0) :: st) h else none
    | _ => none)
  | 115 => (match st with
    | .inr (.inr (.inl (i, c))) :: st => bif Nat.beq c 900 && Nat.blt i strN && Nat.ble (cats st) 8 then sNx np lo (vI 0 :: st) h else none
    | _ => none)
  | _ => none
/-- the receiver is a String constant -/
def isK (m : Nat) (st : List AV) : Bool := match st.drop (mna m) with
  | .inr (.inr (.inl (_, c))) :: _ => Nat.beq c 900
  | _ => false
def rty (y : Nat) (x : Int32) : Bool := match mRt.getD y none with
  | some .int => true
  | some .boolean => decide (x = 0) || decide (x = 1)
  | some .byte => inb x 128
  | some .char => inb x 128
  | _ => false
/-- these values are bytes -/
def byF (f : Nat → Int32) (sp n : Nat) : Bool := (List.range n).all (fun k => fits .byte (.int (f (sp + k))))
def stp (sc : SC) (y : Nat) (i : Instr) (np : Nat) (lo st : List AV) (h : AH) : Option SR :=
  match i with
  | .aconst_null => sNx np lo (vU :: st) h
  | .iconst n => sNx np lo (vI (Int32.ofInt n) :: st) h
  | .bipush n => sNx np lo (vI (Int8.ofInt n).toInt32 :: st) h
  | .sipush n => sNx np lo (vI (Int16.ofInt n).toInt32 :: st) h
  | .ldc k => match fnd (iTL.getD (mcx y) []) k with
    | some (v, _) => sNx np lo (vI v :: st) h
    | none => match fnd (sTL.getD (mcx y) []) k with
      | some s => sNx np lo (vR s 900 :: st) h
      | none => none
  | .iload k => ldI lo st np k h
  | .iload_n k => ldI lo st np k.val h
  | .aload k => ldA lo st np k h
  | .aload_n k => ldA lo st np k.val h
  | .istore k => stI lo st np k h
  | .istore_n k => stI lo st np k.val h
  | .astore k => stA lo st np k h
  | .astore_n k => stA lo st np k.val h
  | .iinc k n => match lo[k]? with
    | some (.inl x) => bif nlo lo k then sNx np (lo.set k (vI (x + Int32.ofInt n))) st h else none
    | _ => none
  | .iadd => bin (· + ·) lo st np h
  | .isub => bin (· - ·) lo st np h
  | .imul => bin (· * ·) lo st np h
  | .iand => bin (· &&& ·) lo st np h
  | .ior => bin (· ||| ·) lo st np h
  | .ishl => bin (fun x y => x <<< (y &&& 31)) lo st np h
  | .ishr => bin (fun x y => x >>> (y &&& 31)) lo st np h
  | .idiv => binD (· / ·) lo st np h
  | .irem => binD (fun x y => x - x / y * y) lo st np h
  | .i2b => match st with
    | .inl x :: st => sNx np lo (vI x.toInt8.toInt32 :: st) h
    | _ => none
  | .i2c => match st with
    | .inl x :: st => bif inb x 128 then sNx np lo (vI x :: st) h else none
    | _ => none
  | .dup => match st with
    | .inl x :: st => sNx np lo (vI x :: vI x :: st) h
    | .inr (.inr (.inl p)) :: st => sNx np lo (.inr (.inr (.inl p)) :: .inr (.inr (.inl p)) :: st) h
    | _ => none
  | .dup_x1 => match st with
    | .inl x :: .inr (.inr (.inl p)) :: st => sNx np lo (vI x :: .inr (.inr (.inl p)) :: vI x :: st) h
    | _ => none
  | .dup2 => match st with
    | .inl x :: .inr (.inr (.inl p)) :: st => sNx np lo (vI x :: .inr (.inr (.inl p)) :: vI x :: .inr (.inr (.inl p)) :: st) h
    | _ => none
  | .pop => match st with
    | .inl _ :: st => sNx np lo st h
    | .inr (.inr (.inl _)) :: st => sNx np lo st h
    | _ => none
  | .ifCond .eq t => br1 (fun x => decide (x = 0)) lo st np t.toNat h
  | .ifCond .ne t => br1 (fun x => !decide (x = 0)) lo st np t.toNat h
  | .ifCond .lt t => br1 (fun x => decide (x < 0)) lo st np t.toNat h
  | .ifCond .ge t => br1 (fun x => decide (0 ≤ x)) lo st np t.toNat h
  | .ifCond .gt t => br1 (fun x => decide (0 < x)) lo st np t.toNat h
  | .ifCond .le t => br1 (fun x => decide (x ≤ 0)) lo st np t.toNat h
  | .if_icmp .eq t => br2 (fun x y => decide (x = y)) lo st np t.toNat h
  | .if_icmp .ne t => br2 (fun x y => !decide (x = y)) lo st np t.toNat h
  | .if_icmp .lt t => br2 (fun x y => decide (x < y)) lo st np t.toNat h
  | .if_icmp .ge t => br2 (fun x y => decide (y ≤ x)) lo st np t.toNat h
  | .if_icmp .gt t => br2 (fun x y => decide (y < x)) lo st np t.toNat h
  | .if_icmp .le t => br2 (fun x y => decide (x ≤ y)) lo st np t.toNat h
  | .goto t => sNx t.toNat lo st h
  | .ifnull _ => match st with
    | .inr (.inr (.inl _)) :: st => sNx np lo st h
    | _ => none
  | .ifnonnull t => match st with
    | .inr (.inr (.inl _)) :: st => sNx t.toNat lo st h
    | _ => none
  | .tableswitch d a b os => match st with
    | .inl x :: st => if x.toInt < a ∨ b < x.toInt then sNx d.toNat lo st h else match os[(x.toInt - a).toNat]? with
      | some t => sNx t.toNat lo st h
      | none => none
    | _ => none
  | .getstatic k => match fnd (gTL.getD (mcx y) []) k with
    | some _ => sNx np lo (vI 1 :: st) h
    | none => none
  | .getfield k => match fnd (fTL.getD (mcx y) []) k, st with
    | some (ci, f, ty, _), .inr (.inr (.inl (i, c))) :: st => bif isO (hK h i c) ci then (match ty with
        | 2 => match hR h i c f with
          | some p => sNx np lo (.inr (.inr (.inl p)) :: st) h
          | none => none
        | _ => sNx np lo (vI (hG h i c f) :: st) h) else none
    | _, _ => none
  | .putfield k => match fnd (fTL.getD (mcx y) []) k, st with
    | some (ci, f, ty, _), v :: .inr (.inr (.inl (i, c))) :: st => bif isO (hK h i c) ci && (!((cls9.getD ci ("", jT0, 0)).2.1 f).2.2.2 || (Nat.beq (mkd y) 2 && Nat.beq ci (mcx y))) then (match ty, v with
        | 0, .inl x => sNx np lo st (sG h i c f x)
        | 1, .inl x => bif decide (x = 0) then sNx np lo st (sG h i c f 0) else none
        | 2, .inr (.inr (.inl p)) => bif Nat.blt p.2 900 then sNx np lo st (sR h i c f p) else none
        | _, _ => none) else none
    | _, _ => none
  | .iaload => aldI sc (fun q => Nat.beq q 0) lo st np h
  | .baload => aldI sc (fun q => Nat.beq q 1 || Nat.beq q 2) lo st np h
  | .iastore => astI (fun q => Nat.beq q 0) lo st np h
  | .bastore => astI (fun q => Nat.beq q 1 || Nat.beq q 2) lo st np h
  | .aaload => match st with
    | .inl j :: .inr (.inr (.inl (i, c))) :: st => match isA (hK h i c) with
      | some (q, n) => bif Nat.beq q 3 && inb j n then (match hR h i c j.toNatClampNeg with
        | some p => sNx np lo (.inr (.inr (.inl p)) :: st) h
        | none => none) else none
      | none => none
    | _ => none
  | .aastore => match st with
    | .inr (.inr (.inl p)) :: .inl j :: .inr (.inr (.inl (i, c))) :: st => match isA (hK h i c) with
      | some (q, n) => bif Nat.beq q 3 && inb j n && isO (hK h p.1 p.2) 3 then sNx np lo st (sR h i c j.toNatClampNeg p) else none
      | none => none
    | _ => none
  | .arraylength => match st with
    | .inr (.inr (.inl (i, c))) :: st => bif Nat.beq c 901 then sNx np lo (vI (Int32.ofNat sc.1) :: st) h else match isA (hK h i c) with
      | some (q, n) => bif Nat.blt q 4 then sNx np lo (vI (Int32.ofNat n) :: st) h else none
      | none => none
    | _ => none
  | .newarray t => match st with
    | .inl n :: st => bif Nat.blt (aty t) 3 && !(decide (n < 0)) && Nat.ble n.toNatClampNeg 8000 && Nat.blt h.1.1 nmN then sNx np lo (.inr (.inr (.inl (nm h.1.1))) :: st) (alc h (50 + aty t, n.toNatClampNeg) n.toNatClampNeg) else none
    | _ => none
  | .anewarray _ => match st with
    | .inl n :: st => bif Nat.beq (mcx y) 4 && !(decide (n < 0)) && Nat.ble n.toNatClampNeg 8000 && Nat.blt h.1.1 nmN then sNx np lo (.inr (.inr (.inl (nm h.1.1))) :: st) (alc h (53, n.toNatClampNeg) n.toNatClampNeg) else none
    | _ => none
  | .new k => match fnd (cTL.getD (mcx y) []) k with
    | some (ci, _, _, _) => bif Nat.blt h.1.1 nmN then sNx np lo (.inr (.inr (.inl (nm h.1.1))) :: st) (alc h (ci, 0) (fcn ci)) else none
    | none => none
  | .invokespecial k => match fnd (mTL.getD (mcx y) []) k with
    | some (m, cd, _) => bif Nat.beq m 500 then (match st with
        | .inr (.inr (.inl _)) :: st => bif Nat.ble (cats st) 8 then sNx np lo st h else none
        | _ => none) else bif Nat.beq cd 3 then ivk 4 m lo st np h else bif Nat.blt cd 2 then ivk 2 m lo st np h else none
    | none => none
  | .invokestatic k => match fnd (mTL.getD (mcx y) []) k with
    | some (m, cd, _) => bif Nat.beq m 503 then (match st with
        | .inl y :: .inl x :: st => bif Nat.ble (cats st) 8 then sNx np lo (vI (if x < y then y else x) :: st) h else none
        | _ => none)
      else bif Nat.beq m 504 then (match st with
        | .inl y :: .inl x :: st => bif Nat.ble (cats st) 8 then sNx np lo (vI (if y < x then y else x) :: st) h else none
        | _ => none)
      else bif Nat.beq m 505 then (match st with
        | .inl n :: .inl dp :: .inr (.inr (.inl (i, c))) :: .inl sp :: .inr (.inr (.inl (j, d))) :: st => match isA (hK h j d), isA (hK h i c) with
          | some (q0, n0), some (q1, n1) => bif Nat.beq q0 q1 && Nat.blt q0 2 && (Nat.beq q0 0 || byF (hG h j d) sp.toNatClampNeg n.toNatClampNeg) && Nat.ble (cats st) 8 && !(decide (sp < 0)) && !(decide (dp < 0)) && !(decide (n < 0)) && Nat.ble (sp.toNatClampNeg + n.toNatClampNeg) n0 && Nat.ble (dp.toNatClampNeg + n.toNatClampNeg) n1 then
              sNx np lo st (sW h i c (va_cpy (hG h j d) (hG h i c) sp.toNatClampNeg dp.toNatClampNeg n.toNatClampNeg)) else none
          | _, _ => none
        | _ => none)
      else bif Nat.beq m 508 then (match st with
        | .inl n :: .inl j :: st => bif !(decide (j < 0)) && decide (j < n) && Nat.ble (cats st) 8 then sNx np lo st h else none
        | _ => none)
      else bif Nat.beq cd 0 then ivk 1 m lo st np h else none
    | none => none
  | .invokevirtual k => match fnd (mTL.getD (mcx y) []) k with
    | some (m, cd, _) => bif Nat.beq m 507 then (match st with
        | .inl z :: .inl dp :: .inr (.inr (.inl (i, c))) :: .inr (.inr (.inl (j, d))) :: st => match isA (hK h i c) with
          | some (1, n1) => bif Nat.beq d 900 && Nat.blt j strN && decide (z = 0) && Nat.ble (cats st) 8 && !(decide (dp < 0)) && Nat.ble (dp.toNatClampNeg + (txt j).length) n1 then
              sNx np lo st (sW h i c (va_cpy (fun k => (txt j).getD k 0) (hG h i c) 0 dp.toNatClampNeg (txt j).length)) else none
          | _ => none
        | _ => none)
      else bif Nat.beq cd 0 && isK m st then strI m lo st np h
      else bif Nat.beq cd 2 then ivk 3 m lo st np h
      else bif Nat.beq cd 0 then ivk 0 m lo st np h else none
    | none => none
  | .ireturn => match st with
    | [.inl x] => bif rty y x then some (.inr (.inl (some (vI x)))) else none
    | _ => none
  | .areturn => match st with
    | [.inr (.inr (.inl p))] => match mRt.getD y none with
      | some (.object _) => some (.inr (.inl (some (.inr (.inr (.inl p))))))
      | some (.array _) => some (.inr (.inl (some (.inr (.inr (.inl p))))))
      | _ => none
    | _ => none
  | .return_ => match st with
    | [] => match mRt.getD y none with
      | none => some (.inr (.inl none))
      | _ => none
    | _ => none
  | _ => none
def exN (sc : SC) (call : Nat → List AV → AH → Option (Option AV × AH)) (y : Nat) (K : List (Nat × Instr × Nat)) : Nat → Nat → List AV → List AV → AH → Option (Option AV × AH)
  | 0, _, _, _, _ => none
  | n + 1, pc, lo, st, h => match fnd K pc with
    | none => none
    | some (i, np) => match stp sc y i np lo st h with
      | none => none
      | some (.inl (pc', lo', st', h')) => exN sc call y K n pc' lo' st' h'
      | some (.inr (.inl v)) => some (v, h)
      | some (.inr (.inr (m, as, rest))) => match call m as h with
        | none => none
        | some (v, h') => exN sc call y K n np lo (v.toList ++ rest) h'
/-- the locals at a method's begin -/
def elo : List AV → List AV
  | [] => []
  | .inr (.inl x) :: r => .inr (.inl x) :: vU :: elo r
  | v :: r => v :: elo r
def lo0 (as : List AV) (n : Nat) : List AV := elo as ++ List.replicate (n - (elo as).length) vU
def runM (sc : SC) (N : Nat) : Nat → Nat → List AV → AH → Option (Option AV × AH)
  | 0, _, _, _ => none
  | d + 1, y, as, h => bif Nat.ble (elo as).length (mmx y) then exN sc (runM sc N d) y (code9 y) N 0 (lo0 as (mmx y)) [] h else none
