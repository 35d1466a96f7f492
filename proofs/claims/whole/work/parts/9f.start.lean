/-! THE START: a machine that knows no script -/
def aln0 (np : Nat) (lo st : List AV) (h : AH) : Option SR := match st with
  | .inr (.inr (.inl (_, c))) :: st => bif Nat.beq c 901 then none else match isA c with
    | some (_, n) => sNx np lo (vI (Int32.ofNat n) :: st) h
    | none => none
  | _ => none
def stp0 (y : Nat) (K : List (Nat × Instr × Nat)) (i : Instr) (np pc : Nat) (lo st : List AV) (h : AH) : Option SR := match i with
  | .arraylength => aln0 np lo st h
  | _ => stp (0, fun _ => 0) y K i np pc lo st h
def exN0 (call : Nat → List AV → AH → Option (RS × AH)) (y : Nat) (K : List (Nat × Instr × Nat)) : Nat → Nat → List AV → List AV → AH → Option (RS × AH)
  | 0, _, _, _, _ => none
  | n + 1, pc, lo, st, h => match fnd K pc with
    | none => none
    | some (i, np) => match stp0 y K i np pc lo st h with
      | some (.inl (pc', lo', st', h')) => exN0 call y K n pc' lo' st' h'
      | some (.inr (.inl v)) => some (.inl v, h)
      | some (.inr (.inr (.inl (m, as, rest)))) => match call m as h with
        | some (.inl v, h') => exN0 call y K n np lo (v.toList ++ rest) h'
        | _ => none
      | _ => none
def runM0 (N : Nat) : Nat → Nat → List AV → AH → Option (RS × AH)
  | 0, _, _, _ => none
  | d + 1, y, as, h => bif Nat.ble (elo as).length (mmx y) then exN0 (runM0 N d) y (code9 y) N 0 (lo0 as (mmx y)) [] h else none
/-- from pc to where it stands at 'stop' first -/
def exS (sc : SC) (call : Nat → List AV → AH → Option (RS × AH)) (y : Nat) (K : List (Nat × Instr × Nat)) (stop : Nat) : Nat → Nat → List AV → List AV → AH → Option (List AV × List AV × AH)
  | 0, _, _, _, _ => none
  | n + 1, pc, lo, st, h => bif Nat.beq pc stop then some (lo, st, h) else match fnd K pc with
    | none => none
    | some (i, np) => match stp sc y K i np pc lo st h with
      | some (.inl (pc', lo', st', h')) => exS sc call y K stop n pc' lo' st' h'
      | some (.inr (.inr (.inl (m, as, rest)))) => match call m as h with
        | some (.inl v, h') => exS sc call y K stop n np lo (v.toList ++ rest) h'
        | _ => none
      | _ => none
def exS0 (call : Nat → List AV → AH → Option (RS × AH)) (y : Nat) (K : List (Nat × Instr × Nat)) (stop : Nat) : Nat → Nat → List AV → List AV → AH → Option (List AV × List AV × AH)
  | 0, _, _, _, _ => none
  | n + 1, pc, lo, st, h => bif Nat.beq pc stop then some (lo, st, h) else match fnd K pc with
    | none => none
    | some (i, np) => match stp0 y K i np pc lo st h with
      | some (.inl (pc', lo', st', h')) => exS0 call y K stop n pc' lo' st' h'
      | some (.inr (.inr (.inl (m, as, rest)))) => match call m as h with
        | some (.inl v, h') => exS0 call y K stop n np lo (v.toList ++ rest) h'
        | _ => none
      | _ => none
theorem aldI0 {sc : SC} {t : Nat → Bool} {lo st : List AV} {np : Nat} {h : AH} {X : SR} (e : aldI (0, fun _ => 0) t lo st np h = some X) : aldI sc t lo st np h = some X := by
  unfold aldI at e ⊢
  split at e
  · rename_i j i c st'
    dsimp only at e ⊢
    cases hc : Nat.beq c 901 with
    | true =>
      rw [hc] at e
      have : inb j 0 = false := by
        unfold inb
        have : Nat.blt j.toNatClampNeg 0 = false := by
          cases hb : Nat.blt j.toNatClampNeg 0 with
          | false => rfl
          | true => exact absurd (Nat.le_of_ble_eq_true hb) (Nat.not_lt_zero _)
        rw [this, Bool.and_false]
      rw [this, Bool.and_false] at e
      cases e
    | false => rw [hc] at e; exact e
  · cases e
theorem aln0_ok {sc : SC} {y : Nat} {K : List (Nat × Instr × Nat)} {np pc : Nat} {lo st : List AV} {h : AH} {X : SR} (e : aln0 np lo st h = some X) : stp sc y K .arraylength np pc lo st h = some X := by
  unfold aln0 at e
  unfold stp
  dsimp only
  split at e
  · rename_i i c st'
    dsimp only
    cases hc : Nat.beq c 901 with
    | true => rw [hc] at e; cases e
    | false => rw [hc] at e; exact e
  · cases e
theorem stp0_ok {sc : SC} {y : Nat} {K : List (Nat × Instr × Nat)} {i : Instr} {np pc : Nat} {lo st : List AV} {h : AH} {X : SR} (e : stp0 y K i np pc lo st h = some X) : stp sc y K i np pc lo st h = some X := by
  cases i
  case iaload => exact (aldI0 (sc := sc) (t := fun q => Nat.beq q 0) (lo := lo) (st := st) (np := np) (h := h) (X := X) e : aldI sc (fun q => Nat.beq q 0) lo st np h = some X)
  case baload => exact (aldI0 (sc := sc) (t := fun q => Nat.beq q 1 || Nat.beq q 2) (lo := lo) (st := st) (np := np) (h := h) (X := X) e : aldI sc (fun q => Nat.beq q 1 || Nat.beq q 2) lo st np h = some X)
  case arraylength => exact aln0_ok e
  case ifCond k9 t9 => cases k9 <;> first | exact e | (cases e; done)
  case if_icmp k9 t9 => cases k9 <;> first | exact e | (cases e; done)
  all_goals first
    | (cases e; done)
    | exact e
theorem exN0_ok {sc : SC} {call call' : Nat → List AV → AH → Option (RS × AH)} {y : Nat} {K : List (Nat × Instr × Nat)} (hcall : ∀ mm as h q, call mm as h = some q → call' mm as h = some q) :
    ∀ (n pc : Nat) (lo st : List AV) (h : AH) (q : RS × AH), exN0 call y K n pc lo st h = some q → exN sc call' y K n pc lo st h = some q := by
  intro n
  induction n with
  | zero => intro pc lo st h q e; cases e
  | succ n ih =>
    intro pc lo st h q e
    unfold exN0 at e
    unfold exN
    cases hf : fnd K pc with
    | none => rw [hf] at e; cases e
    | some ip =>
      obtain ⟨i, np⟩ := ip
      rw [hf] at e
      dsimp only at e ⊢
      cases hs : stp0 y K i np pc lo st h with
      | none => rw [hs] at e; cases e
      | some X =>
        rw [hs] at e
        rw [stp0_ok (sc := sc) hs]
        rcases X with ⟨pc', lo', st', h'⟩ | v | ⟨mm, as, rest⟩ | e9
        · exact ih pc' lo' st' h' q e
        · exact e
        · dsimp only at e ⊢
          cases hc : call mm as h with
          | none => rw [hc] at e; cases e
          | some rr =>
            rw [hcall _ _ _ _ hc]
            rw [hc] at e
            obtain ⟨r1, h1⟩ := rr
            rcases r1 with v | e9
            · exact ih np lo _ h1 q e
            · cases e
        · cases e
theorem runM0_ok {sc : SC} {N : Nat} : ∀ (d y : Nat) (as : List AV) (h : AH) (q : RS × AH), runM0 N d y as h = some q → runM sc N d y as h = some q := by
  intro d
  induction d with
  | zero => intro y as h q e; cases e
  | succ d ih =>
    intro y as h q e
    unfold runM0 at e
    unfold runM
    cases hb : Nat.ble (elo as).length (mmx y) with
    | false => rw [hb] at e; cases e
    | true =>
      rw [hb] at e
      exact exN0_ok ih _ _ _ _ _ _ e
theorem exS0_ok {sc : SC} {call call' : Nat → List AV → AH → Option (RS × AH)} {y stop : Nat} {K : List (Nat × Instr × Nat)} (hcall : ∀ mm as h q, call mm as h = some q → call' mm as h = some q) :
    ∀ (n pc : Nat) (lo st : List AV) (h : AH) (q : List AV × List AV × AH), exS0 call y K stop n pc lo st h = some q → exS sc call' y K stop n pc lo st h = some q := by
  intro n
  induction n with
  | zero => intro pc lo st h q e; cases e
  | succ n ih =>
    intro pc lo st h q e
    unfold exS0 at e
    unfold exS
    cases hp : Nat.beq pc stop with
    | true => rw [hp] at e; exact e
    | false =>
      rw [hp] at e
      dsimp only [cond] at e ⊢
      cases hf : fnd K pc with
      | none => rw [hf] at e; cases e
      | some ip =>
        obtain ⟨i, np⟩ := ip
        rw [hf] at e
        dsimp only at e ⊢
        cases hs : stp0 y K i np pc lo st h with
        | none => rw [hs] at e; cases e
        | some X =>
          rw [hs] at e
          rw [stp0_ok (sc := sc) hs]
          rcases X with ⟨pc', lo', st', h'⟩ | v | ⟨mm, as, rest⟩ | e9
          · exact ih pc' lo' st' h' q e
          · cases e
          · dsimp only at e ⊢
            cases hc : call mm as h with
            | none => rw [hc] at e; cases e
            | some rr =>
              rw [hcall _ _ _ _ hc]
              rw [hc] at e
              obtain ⟨r1, h1⟩ := rr
              rcases r1 with v | e9
              · exact ih np lo _ h1 q e
              · cases e
          · cases e
def hE : AH := ((0, 0, 0), fun _ _ _ => none, fun _ _ _ => 0, fun _ _ _ => 0)
def lo23 : List AV := [vR 0 901, vR 0 20, vR 0 70, vR 0 90, vI (nI 0), vU, vU]
/-- cells at the start -/
def fkL : List (Nat × Nat × Int32) := [(20, 1, -nI 1), (21, 1, nI 0), (55, 4, nI 0), (62, 1, nI 0), (62, 2, nI 0), (0, 11, nI 1), (0, 12, nI 1), (0, 13, nI 1), (0, 14, nI 0), (1, 4, nI 1), (3, 0, nI 1), (2, 0, nI 0), (5, 0, -nI 1), (4, 0, nI 0), (6, 0, nI 0), (7, 0, nI 0), (8, 0, nI 0), (9, 0, nI 0), (10, 0, -nI 1), (11, 0, -nI 1), (12, 0, nI 0), (13, 0, nI 0), (14, 0, nI 0), (15, 0, nI 0),
  (70, 2, nI 0), (70, 3, nI 0), (70, 14, nI 0), (70, 15, -nI 1), (70, 27, nI 0), (71, 0, nI 1), (71, 1, nI 1), (71, 2, nI 1), (71, 3, nI 1), (71, 4, nI 0), (71, 11, nI 1), (71, 5, nI 0), (71, 6, nI 0), (71, 7, nI 0), (71, 8, nI 0), (71, 9, nI 0), (71, 10, nI 0), (71, 39, -nI 1), (71, 33, nI 0), (71, 34, nI 0), (71, 35, nI 0), (71, 36, nI 0), (71, 37, nI 0), (71, 38, nI 0), (71, 369, nI 0), (71, 370, nI 0), (71, 371, nI 0), (71, 372, nI 0), (71, 373, -nI 1), (71, 374, -nI 1), (71, 375, nI 0), (71, 376, nI 0), (71, 377, nI 0), (71, 378, nI 0)]
def fkG (h : AH) : Bool := fkL.all (fun q => decide (h.2.2.2 0 q.1 q.2.1 = q.2.2))
def fkR (h : AH) : Bool := (List.range 216).all (fun n => match KD (nm n).2 with
  | .inl ci => (List.range (fcn ci)).all (fun k => decide (ftc ci k = 0) || decide (ftc ci k = 1) || decide (h.2.1 (nm n).1 (nm n).2 k = cutR R0 (nm n).1 (nm n).2 k))
  | .inr (q, m) => !(Nat.beq q 4) || (List.range m).all (fun k => decide (h.2.1 (nm n).1 (nm n).2 k = cutR R0 (nm n).1 (nm n).2 k)))
def start0 : Option (List AV × List AV × AH) := exS0 (runM0 3000 20) 251 (code9 251) 23 100 0 (lo0 [vR 0 901] 7) [] hE
def chk0 : Bool := match start0 with
  | some (lo, st, h) => decide (lo = lo23) && decide (st = []) && decide (h.1 = (216, 216, 22346)) && fkG h && fkR h
  | none => false
theorem chk0_t : chk0 = true := by decide +kernel
theorem start_h : ∃ h : AH, start0 = some (lo23, [], h) ∧ h.1 = (216, 216, 22346) ∧ fkG h = true ∧ fkR h = true := by
  have e := chk0_t
  unfold chk0 at e
  cases hs : start0 with
  | none => rw [hs] at e; cases e
  | some q =>
    obtain ⟨lo, st, h⟩ := q
    rw [hs] at e
    simp only [Bool.and_eq_true, decide_eq_true_eq] at e
    obtain ⟨⟨⟨⟨e1, e2⟩, e3⟩, e4⟩, e5⟩ := e
    exact ⟨h, by rw [e1, e2], e3, e4, e5⟩
