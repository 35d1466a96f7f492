/-- from pc to where it stands at 'stop' first -/
def exS (sc : SC) (call : Nat → List AV → AH → Option (RS × AH)) (y : Nat) (K : List (Nat × Instr × Nat)) (stop : Nat) : Nat → Nat → List AV → List AV → AH → Option (List AV × List AV × AH)
  | 0, _, _, _, _ => none
  | n + 1, pc, lo, st, h => bif Nat.beq pc stop then some (lo, st, h) else match fnd K pc with
    | none => none
    | some (i, np) => match stp sc y K i np pc lo st h with
      | some (.inl (pc', lo', st', h')) => exS sc call y K stop n pc' lo' st' h'
      | some (.inr (.inr (.inl (m, as, rest)))) => match call m as h with
        | some (.inl v, h') => exS sc call y K stop n np lo (v.toList ++ rest) h'
        | _ => none
      | _ => none
def hE : AH := ((0, 0, 0), fun _ _ _ => none, fun _ _ _ => 0, fun _ _ _ => 0)
def start (sc : SC) : Option (List AV × List AV × AH) := exS sc (runM sc 3000 20) mL_law k_251 23 100 0 (lo0 [vR 0 901] 7) [] hE
theorem test1 : ((start (0, fun _ => 0)).map (fun q => q.2.2.1)) = some (216, 216, 22346) := by decide +kernel
