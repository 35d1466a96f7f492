/-! THE SMALL MACHINE: the codes of this claim run as a function over a picture of the heap that knows each cell by a pair (number, component). 'stp' does one instruction, 'exN' a method, 'runM' a method with its calls. -/
abbrev AV : Type := Int32 ⊕ Int64 ⊕ (Nat × Nat) ⊕ Unit
abbrev AH : Type := (Nat × Nat × Nat) × (Nat → Nat → Nat → Option (Nat × Nat)) × (Nat → Nat → Nat → Int64) × (Nat → Nat → Nat → Int32)
abbrev vI (x : Int32) : AV := .inl x
abbrev vJ (x : Int64) : AV := .inr (.inl x)
abbrev vR (i c : Nat) : AV := .inr (.inr (.inl (i, c)))
abbrev vU : AV := .inr (.inr (.inr ()))
def hR (h : AH) : Nat → Nat → Nat → Option (Nat × Nat) := h.2.1
def hQ (h : AH) : Nat → Nat → Nat → Int64 := h.2.2.1
def hG (h : AH) : Nat → Nat → Nat → Int32 := h.2.2.2
def u3 {α : Type} (f : Nat → Nat → Nat → α) (i c k : Nat) (v : α) : Nat → Nat → Nat → α := fun i' c' k' => if i' = i ∧ c' = c ∧ k' = k then v else f i' c' k'
def u2 {α : Type} (f : Nat → Nat → Nat → α) (i c : Nat) (w : Nat → α) : Nat → Nat → Nat → α := fun i' c' k' => if i' = i ∧ c' = c then w k' else f i' c' k'
def sG (h : AH) (i c k : Nat) (v : Int32) : AH := (h.1, h.2.1, h.2.2.1, u3 h.2.2.2 i c k v)
def sQ (h : AH) (i c k : Nat) (v : Int64) : AH := (h.1, h.2.1, u3 h.2.2.1 i c k v, h.2.2.2)
def sR (h : AH) (i c k : Nat) (v : Nat × Nat) : AH := (h.1, u3 h.2.1 i c k (some v), h.2.2.1, h.2.2.2)
def sW (h : AH) (i c : Nat) (w : Nat → Int32) : AH := (h.1, h.2.1, h.2.2.1, u2 h.2.2.2 i c w)
/-- a new cell of n slots -/
def alc (h : AH) (n : Nat) : AH := match nm h.1.1 with
  | (i, c) => ((h.1.1 + 1, h.1.2.1 + 1, h.1.2.2 + n), u2 h.2.1 i c (fun _ => none), u2 h.2.2.1 i c (fun _ => 0), u2 h.2.2.2 i c (fun _ => 0))
/-- a thrown exception's cell isn't in the picture -/
def bump (h : AH) : AH := ((h.1.1, h.1.2.1 + 1, h.1.2.2 + 6), h.2)
def isO (c ci : Nat) : Bool := match KD c with
  | .inl x => Nat.beq x ci
  | .inr _ => false
def isA (c : Nat) : Option (Nat × Nat) := match KD c with
  | .inl _ => none
  | .inr p => some p
def cat1 : AV → Nat
  | .inr (.inl _) => 2
  | _ => 1
def cats : List AV → Nat
  | [] => 0
  | v :: r => cat1 v + cats r
/-- no long stands just ahead of this local -/
def nlo (lo : List AV) (i : Nat) : Bool := match i with
  | 0 => true
  | j + 1 => match lo[j]? with
    | some (.inr (.inl _)) => false
    | _ => true
abbrev SR : Type := (Nat × List AV × List AV × AH) ⊕ (Option AV) ⊕ (Nat × List AV × List AV) ⊕ Nat
abbrev sNx (pc : Nat) (lo st : List AV) (h : AH) : Option SR := some (.inl (pc, lo, st, h))
def ldI (lo : List AV) (st : List AV) (np k : Nat) (h : AH) : Option SR := match lo[k]? with
  | some (.inl x) => sNx np lo (vI x :: st) h
  | _ => none
def ldJ (lo : List AV) (st : List AV) (np k : Nat) (h : AH) : Option SR := match lo[k]? with
  | some (.inr (.inl x)) => sNx np lo (vJ x :: st) h
  | _ => none
def ldA (lo : List AV) (st : List AV) (np k : Nat) (h : AH) : Option SR := match lo[k]? with
  | some (.inr (.inr (.inl p))) => sNx np lo (.inr (.inr (.inl p)) :: st) h
  | _ => none
def stI (lo : List AV) (st : List AV) (np k : Nat) (h : AH) : Option SR := match st with
  | .inl x :: st => bif nlo lo k && Nat.blt k lo.length then sNx np (lo.set k (vI x)) st h else none
  | _ => none
def stA (lo : List AV) (st : List AV) (np k : Nat) (h : AH) : Option SR := match st with
  | .inr (.inr (.inl p)) :: st => bif nlo lo k && Nat.blt k lo.length then sNx np (lo.set k (.inr (.inr (.inl p)))) st h else none
  | _ => none
def stJ (lo : List AV) (st : List AV) (np k : Nat) (h : AH) : Option SR := match st with
  | .inr (.inl x) :: st => bif nlo lo k && Nat.blt (k + 1) lo.length then sNx np ((lo.set k (vJ x)).set (k + 1) vU) st h else none
  | _ => none
def bin (f : Int32 → Int32 → Int32) (lo st : List AV) (np : Nat) (h : AH) : Option SR := match st with
  | .inl y :: .inl x :: st => sNx np lo (vI (f x y) :: st) h
  | _ => none
def binJ (f : Int64 → Int64 → Int64) (lo st : List AV) (np : Nat) (h : AH) : Option SR := match st with
  | .inr (.inl y) :: .inr (.inl x) :: st => sNx np lo (vJ (f x y) :: st) h
  | _ => none
def binD (f : Int32 → Int32 → Int32) (lo st : List AV) (np : Nat) (h : AH) : Option SR := match st with
  | .inl y :: .inl x :: st => if y = 0 then none else sNx np lo (vI (f x y) :: st) h
  | _ => none
def br1 (c : Int32 → Bool) (lo st : List AV) (np tg : Nat) (h : AH) : Option SR := match st with
  | .inl x :: st => bif c x then sNx tg lo st h else sNx np lo st h
  | _ => none
def br2 (c : Int32 → Int32 → Bool) (lo st : List AV) (np tg : Nat) (h : AH) : Option SR := match st with
  | .inl y :: .inl x :: st => bif c x y then sNx tg lo st h else sNx np lo st h
  | _ => none
def inb (j : Int32) (n : Nat) : Bool := !(decide (j < 0)) && Nat.blt j.toNatClampNeg n
/-- the script is read, no more: L ints -/
abbrev SC : Type := Nat × (Nat → Int32)
def aldI (sc : SC) (t : Nat → Bool) (lo st : List AV) (np : Nat) (h : AH) : Option SR := match st with
  | .inl j :: .inr (.inr (.inl (i, c))) :: st =>
    bif Nat.beq c 901 then (bif t 0 && inb j sc.1 then sNx np lo (vI (sc.2 j.toNatClampNeg) :: st) h else none) else match isA c with
    | some (q, n) => bif t q && inb j n then sNx np lo (vI (hG h i c j.toNatClampNeg) :: st) h else none
    | none => none
  | _ => none
def narT (q : Nat) (x : Int32) : Int32 := match q with
  | 1 => x.toInt8.toInt32
  | 2 => x &&& 1
  | _ => x
def astI (t : Nat → Bool) (lo st : List AV) (np : Nat) (h : AH) : Option SR := match st with
  | .inl x :: .inl j :: .inr (.inr (.inl (i, c))) :: st => match isA c with
    | some (q, n) => bif t q && inb j n then sNx np lo st (sG h i c j.toNatClampNeg (narT q x)) else none
    | none => none
  | _ => none
def aty : ArrayType → Nat
  | .int => 0
  | .byte => 1
  | .boolean => 2
  | .long => 3
  | _ => 9
/-- the throw of a new exception with a text: its five instructions -/
def thrP (cx : Nat) (K : List (Nat × Instr × Nat)) (pc e : Nat) : Bool := match fnd K (pc + 3), fnd K (pc + 4) with
  | some (.dup, _), some (.ldc _, _) => match fnd K (pc + 6), fnd K (pc + 9) with
    | some (.invokespecial ic, _), some (.athrow, _) => match fnd (mTL.getD cx []) ic with
      | some (q, _, _) => Nat.beq q (600 + e)
      | none => false
    | _, _ => false
  | some (.dup, _), some (.ldc_w _, _) => match fnd K (pc + 7), fnd K (pc + 10) with
    | some (.invokespecial ic, _), some (.athrow, _) => match fnd (mTL.getD cx []) ic with
      | some (q, _, _) => Nat.beq q (600 + e)
      | none => false
    | _, _ => false
  | _, _ => false
def ivk (kd : Nat) (m : Nat) (lo st : List AV) (np : Nat) (h : AH) : Option SR :=
  bif Nat.blt m 252 && Nat.beq (mkd m) kd then
    bif Nat.beq kd 1 then bif Nat.ble (mna m) st.length && Nat.ble (cats (st.drop (mna m))) 8 then some (.inr (.inr (.inl (m, (st.take (mna m)).reverse, st.drop (mna m))))) else none
    else match st.drop (mna m) with
      | .inr (.inr (.inl (i, c))) :: rest => bif isO c (mcx m) && Nat.ble (cats rest) 8 then some (.inr (.inr (.inl (m, vR i c :: (st.take (mna m)).reverse, rest)))) else none
      | _ => none
  else none
def stp (sc : SC) (y : Nat) (K : List (Nat × Instr × Nat)) (i : Instr) (np pc : Nat) (lo st : List AV) (h : AH) : Option SR :=
  match i with
  | .iconst n => sNx np lo (vI (Int32.ofInt n) :: st) h
  | .bipush n => sNx np lo (vI (Int8.ofInt n).toInt32 :: st) h
  | .sipush n => sNx np lo (vI (Int16.ofInt n).toInt32 :: st) h
  | .lconst n => sNx np lo (vJ (Int64.ofNat (n : Nat)) :: st) h
  | .ldc k => match fnd (sTL.getD (mcx y) []) k with
    | some s => sNx np lo (vR s 900 :: st) h
    | none => none
  | .ldc_w k => match fnd (sTL.getD (mcx y) []) k with
    | some s => sNx np lo (vR s 900 :: st) h
    | none => none
  | .ldc2_w k => match fnd (lTL.getD (mcx y) []) k with
    | some (v, _) => sNx np lo (vJ v :: st) h
    | none => none
  | .iload k => ldI lo st np k h
  | .iload_n k => ldI lo st np k.val h
  | .lload k => ldJ lo st np k h
  | .lload_n k => ldJ lo st np k.val h
  | .aload k => ldA lo st np k h
  | .aload_n k => ldA lo st np k.val h
  | .istore k => stI lo st np k h
  | .istore_n k => stI lo st np k.val h
  | .lstore k => stJ lo st np k h
  | .lstore_n k => stJ lo st np k.val h
  | .astore k => stA lo st np k h
  | .astore_n k => stA lo st np k.val h
  | .iinc k n => match lo[k]? with
    | some (.inl x) => bif nlo lo k then sNx np (lo.set k (vI (x + Int32.ofInt n))) st h else none
    | _ => none
  | .iadd => bin (· + ·) lo st np h
  | .isub => bin (· - ·) lo st np h
  | .imul => bin (· * ·) lo st np h
  | .iand => bin (· &&& ·) lo st np h
  | .ior => bin (· ||| ·) lo st np h
  | .ishl => bin (fun x y => x <<< (y &&& 31)) lo st np h
  | .ishr => bin (fun x y => x >>> (y &&& 31)) lo st np h
  | .idiv => binD (· / ·) lo st np h
  | .irem => binD (fun x y => x - x / y * y) lo st np h
  | .ladd => binJ (· + ·) lo st np h
  | .lmul => binJ (· * ·) lo st np h
  | .lcmp => match st with
    | .inr (.inl y) :: .inr (.inl x) :: st => sNx np lo (vI (lg_cmp x y) :: st) h
    | _ => none
  | .i2l => match st with
    | .inl x :: st => sNx np lo (vJ x.toInt64 :: st) h
    | _ => none
  | .i2b => match st with
    | .inl x :: st => sNx np lo (vI x.toInt8.toInt32 :: st) h
    | _ => none
  | .dup => match st with
    | .inl x :: st => sNx np lo (vI x :: vI x :: st) h
    | .inr (.inr (.inl p)) :: st => sNx np lo (.inr (.inr (.inl p)) :: .inr (.inr (.inl p)) :: st) h
    | _ => none
  | .dup2 => match st with
    | .inl x :: .inr (.inr (.inl p)) :: st => sNx np lo (vI x :: .inr (.inr (.inl p)) :: vI x :: .inr (.inr (.inl p)) :: st) h
    | _ => none
  | .pop => match st with
    | .inl _ :: st => sNx np lo st h
    | .inr (.inr (.inl _)) :: st => sNx np lo st h
    | _ => none
  | .ifCond .eq t => br1 (fun x => decide (x = 0)) lo st np t.toNat h
  | .ifCond .ne t => br1 (fun x => !decide (x = 0)) lo st np t.toNat h
  | .ifCond .lt t => br1 (fun x => decide (x < 0)) lo st np t.toNat h
  | .ifCond .ge t => br1 (fun x => decide (0 ≤ x)) lo st np t.toNat h
  | .ifCond .gt t => br1 (fun x => decide (0 < x)) lo st np t.toNat h
  | .ifCond .le t => br1 (fun x => decide (x ≤ 0)) lo st np t.toNat h
  | .if_icmp .eq t => br2 (fun x y => decide (x = y)) lo st np t.toNat h
  | .if_icmp .ne t => br2 (fun x y => !decide (x = y)) lo st np t.toNat h
  | .if_icmp .lt t => br2 (fun x y => decide (x < y)) lo st np t.toNat h
  | .if_icmp .ge t => br2 (fun x y => decide (y ≤ x)) lo st np t.toNat h
  | .if_icmp .gt t => br2 (fun x y => decide (y < x)) lo st np t.toNat h
  | .if_icmp .le t => br2 (fun x y => decide (x ≤ y)) lo st np t.toNat h
  | .goto t => sNx t.toNat lo st h
  | .ifnull _ => match st with
    | .inr (.inr (.inl _)) :: st => sNx np lo st h
    | _ => none
  | .tableswitch d a b os => match st with
    | .inl x :: st => if x.toInt < a ∨ b < x.toInt then sNx d.toNat lo st h else match os[(x.toInt - a).toNat]? with
      | some t => sNx t.toNat lo st h
      | none => none
    | _ => none
  | .getfield k => match fnd (fTL.getD (mcx y) []) k, st with
    | some (ci, f, ty, _), .inr (.inr (.inl (i, c))) :: st => bif isO c ci then (match ty with
        | 0 => sNx np lo (vI (hG h i c f) :: st) h
        | 1 => sNx np lo (vJ (hQ h i c f) :: st) h
        | _ => match hR h i c f with
          | some p => sNx np lo (.inr (.inr (.inl p)) :: st) h
          | none => none) else none
    | _, _ => none
  | .putfield k => match fnd (fTL.getD (mcx y) []) k, st with
    | some (ci, f, ty, _), v :: .inr (.inr (.inl (i, c))) :: st => bif isO c ci && (!((cls9.getD ci ("", jT0, 0)).2.1 f).2.2.2 || (Nat.beq (mkd y) 2 && Nat.beq ci (mcx y))) then (match ty, v with
        | 0, .inl x => sNx np lo st (sG h i c f x)
        | 1, .inr (.inl x) => sNx np lo st (sQ h i c f x)
        | 2, .inr (.inr (.inl p)) => bif Nat.blt p.2 900 then sNx np lo st (sR h i c f p) else none
        | _, _ => none) else none
    | _, _ => none
  | .iaload => aldI sc (fun q => Nat.beq q 0) lo st np h
  | .baload => aldI sc (fun q => Nat.beq q 1 || Nat.beq q 2) lo st np h
  | .iastore => astI (fun q => Nat.beq q 0) lo st np h
  | .bastore => astI (fun q => Nat.beq q 1 || Nat.beq q 2) lo st np h
  | .laload => match st with
    | .inl j :: .inr (.inr (.inl (i, c))) :: st => match isA c with
      | some (q, n) => bif Nat.beq q 3 && inb j n then sNx np lo (vJ (hQ h i c j.toNatClampNeg) :: st) h else none
      | none => none
    | _ => none
  | .lastore => match st with
    | .inr (.inl x) :: .inl j :: .inr (.inr (.inl (i, c))) :: st => match isA c with
      | some (q, n) => bif Nat.beq q 3 && inb j n then sNx np lo st (sQ h i c j.toNatClampNeg x) else none
      | none => none
    | _ => none
  | .aaload => match st with
    | .inl j :: .inr (.inr (.inl (i, c))) :: st => match isA c with
      | some (q, n) => bif Nat.beq q 4 && inb j n then (match hR h i c j.toNatClampNeg with
        | some p => sNx np lo (.inr (.inr (.inl p)) :: st) h
        | none => none) else none
      | none => none
    | _ => none
  | .aastore => match st with
    | .inr (.inr (.inl p)) :: .inl j :: .inr (.inr (.inl (i, c))) :: st => match isA c with
      | some (q, n) => bif Nat.beq q 4 && inb j n && isO p.2 3 then sNx np lo st (sR h i c j.toNatClampNeg p) else none
      | none => none
    | _ => none
  | .arraylength => match st with
    | .inr (.inr (.inl (_, c))) :: st => bif Nat.beq c 901 then sNx np lo (vI (Int32.ofNat sc.1) :: st) h else match isA c with
      | some (_, n) => sNx np lo (vI (Int32.ofNat n) :: st) h
      | none => none
    | _ => none
  | .newarray t => match st with
    | .inl n :: st => match isA (nm h.1.1).2 with
      | some (q, k) => bif Nat.beq q (aty t) && Nat.blt q 4 && !(decide (n < 0)) && Nat.beq n.toNatClampNeg k && Nat.blt h.1.1 nmN then sNx np lo (.inr (.inr (.inl (nm h.1.1))) :: st) (alc h k) else none
      | none => none
    | _ => none
  | .anewarray _ => match st with
    | .inl n :: st => match isA (nm h.1.1).2 with
      | some (q, k) => bif Nat.beq q 4 && Nat.beq (mcx y) 4 && !(decide (n < 0)) && Nat.beq n.toNatClampNeg k && Nat.blt h.1.1 nmN then sNx np lo (.inr (.inr (.inl (nm h.1.1))) :: st) (alc h k) else none
      | none => none
    | _ => none
  | .new k => match fnd (cTL.getD (mcx y) []) k with
    | some (0, ci, _, _, _) => bif isO (nm h.1.1).2 ci && Nat.blt h.1.1 nmN then sNx np lo (.inr (.inr (.inl (nm h.1.1))) :: st) (alc h (fcn ci)) else none
    | some (_, e, _, _, _) => bif thrP (mcx y) K pc e && Nat.ble (cats st) 8 then some (.inr (.inr (.inr e))) else none
    | none => none
  | .invokespecial k => match fnd (mTL.getD (mcx y) []) k with
    | some (m, _, _) => bif Nat.beq m 500 then (match st with
        | .inr (.inr (.inl _)) :: st => bif Nat.ble (cats st) 8 then sNx np lo st h else none
        | _ => none) else ivk 2 m lo st np h
    | none => none
  | .invokestatic k => match fnd (mTL.getD (mcx y) []) k with
    | some (m, _, _) => bif Nat.beq m 503 then (match st with
        | .inl y :: .inl x :: st => bif Nat.ble (cats st) 8 then sNx np lo (vI (if x < y then y else x) :: st) h else none
        | _ => none)
      else bif Nat.beq m 504 then (match st with
        | .inl y :: .inl x :: st => bif Nat.ble (cats st) 8 then sNx np lo (vI (if y < x then y else x) :: st) h else none
        | _ => none)
      else bif Nat.beq m 505 then (match st with
        | .inl n :: .inl dp :: .inr (.inr (.inl (i, c))) :: .inl sp :: .inr (.inr (.inl (j, d))) :: st => match isA d, isA c with
          | some (0, n0), some (0, n1) => bif Nat.ble (cats st) 8 && !(decide (sp < 0)) && !(decide (dp < 0)) && !(decide (n < 0)) && Nat.ble (sp.toNatClampNeg + n.toNatClampNeg) n0 && Nat.ble (dp.toNatClampNeg + n.toNatClampNeg) n1 then
              sNx np lo st (sW h i c (va_cpy (hG h j d) (hG h i c) sp.toNatClampNeg dp.toNatClampNeg n.toNatClampNeg)) else none
          | _, _ => none
        | _ => none)
      else ivk 1 m lo st np h
    | none => none
  | .invokevirtual k => match fnd (mTL.getD (mcx y) []) k with
    | some (m, _, _) => bif Nat.beq m 501 then (match st with
        | .inr (.inr (.inl (i, c))) :: st => bif Nat.beq c 900 && Nat.blt i strN && Nat.ble (cats st) 8 then sNx np lo (vI (Int32.ofNat (txt i).length) :: st) h else none
        | _ => none)
      else bif Nat.beq m 502 then (match st with
        | .inl j :: .inr (.inr (.inl (i, c))) :: st => bif Nat.beq c 900 && Nat.blt i strN && inb j (txt i).length && Nat.ble (cats st) 8 then sNx np lo (vI ((txt i).getD j.toNatClampNeg 0) :: st) h else none
        | _ => none)
      else ivk 0 m lo st np h
    | none => none
  | .ireturn => match st with
    | [.inl x] => match mRt.getD y none with
      | some .int => some (.inr (.inl (some (vI x))))
      | some .boolean => if x = 0 ∨ x = 1 then some (.inr (.inl (some (vI x)))) else none
      | _ => none
    | _ => none
  | .lreturn => match st with
    | [.inr (.inl x)] => match mRt.getD y none with
      | some .long => some (.inr (.inl (some (vJ x))))
      | _ => none
    | _ => none
  | .return_ => match st with
    | [] => match mRt.getD y none with
      | none => some (.inr (.inl none))
      | _ => none
    | _ => none
  | _ => none
/-- what a method's end is: an answer (none of a void one), or a thrown exception's number -/
abbrev RS : Type := (Option AV) ⊕ Nat
def hnd (y e pc : Nat) : Option Nat := (hndL.find? (fun q => Nat.beq q.1 y && Nat.beq q.2.1 e && Nat.ble q.2.2.1 pc && Nat.blt pc q.2.2.2.1)).map (fun q => q.2.2.2.2.1)
/-- a handler begins with the storing of its exception, which is not read again -/
def hnIn (K : List (Nat × Instr × Nat)) (lo : List AV) (hp : Nat) : Option (Nat × List AV) := match fnd K hp with
  | some (.astore k, np) => bif nlo lo k && Nat.blt k lo.length then some (np, lo.set k vU) else none
  | some (.astore_n k, np) => bif nlo lo k.val && Nat.blt k.val lo.length then some (np, lo.set k.val vU) else none
  | _ => none
def exN (sc : SC) (call : Nat → List AV → AH → Option (RS × AH)) (y : Nat) (K : List (Nat × Instr × Nat)) : Nat → Nat → List AV → List AV → AH → Option (RS × AH)
  | 0, _, _, _, _ => none
  | n + 1, pc, lo, st, h => match fnd K pc with
    | none => none
    | some (i, np) => match stp sc y K i np pc lo st h with
      | none => none
      | some (.inl (pc', lo', st', h')) => exN sc call y K n pc' lo' st' h'
      | some (.inr (.inl v)) => some (.inl v, h)
      | some (.inr (.inr (.inl (m, as, rest)))) => match call m as h with
        | none => none
        | some (.inl v, h') => exN sc call y K n np lo (v.toList ++ rest) h'
        | some (.inr e, h') => match hnd y e pc with
          | none => some (.inr e, h')
          | some hp => match hnIn K lo hp with
            | some (np', lo') => exN sc call y K n np' lo' [] h'
            | none => none
      | some (.inr (.inr (.inr e))) => some (.inr e, bump h)
/-- the locals at a method's begin -/
def elo : List AV → List AV
  | [] => []
  | .inr (.inl x) :: r => .inr (.inl x) :: vU :: elo r
  | v :: r => v :: elo r
def lo0 (as : List AV) (n : Nat) : List AV := elo as ++ List.replicate (n - (elo as).length) vU
def runM (sc : SC) (N : Nat) : Nat → Nat → List AV → AH → Option (RS × AH)
  | 0, _, _, _ => none
  | d + 1, y, as, h => bif Nat.ble (elo as).length (mmx y) then exN sc (runM sc N d) y (code9 y) N 0 (lo0 as (mmx y)) [] h else none
