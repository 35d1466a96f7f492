/-! THE LAW'S BEGIN: of the script it reads four cells, and of these no more than some hundred and eighty things -/
section ENT
variable {sc : SC} {call : Nat → List AV → AH → Option (Option AV × AH)} {y : Nat} {K : List (Nat × Instr × Nat)}
theorem ex_nx {n pc np pc' : Nat} {i : Instr} {lo st lo' st' : List AV} {h h' : AH} (hf : fnd K pc = some (i, np)) (hs : stp sc y i np lo st h = some (.inl (pc', lo', st', h'))) : exN sc call y K (n + 1) pc lo st h = exN sc call y K n pc' lo' st' h' := by
  rw [exN, hf]
  dsimp only
  rw [hs]
theorem ex_cl {n pc np m : Nat} {i : Instr} {lo st as rest : List AV} {h h' : AH} {v : Option AV} (hf : fnd K pc = some (i, np)) (hs : stp sc y i np lo st h = some (.inr (.inr (m, as, rest)))) (hc : call m as h = some (v, h')) : exN sc call y K (n + 1) pc lo st h = exN sc call y K n np lo (v.toList ++ rest) h' := by
  rw [exN, hf]
  dsimp only
  rw [hs]
  dsimp only
  rw [hc]
theorem ex_rt {n pc np : Nat} {i : Instr} {lo st : List AV} {h : AH} {v : Option AV} (hf : fnd K pc = some (i, np)) (hs : stp sc y i np lo st h = some (.inr (.inl v))) : exN sc call y K (n + 1) pc lo st h = some (v, h) := by
  rw [exN, hf]
  dsimp only
  rw [hs]
def cellV (sc : SC) (k : Nat) : Int32 := if k < sc.1 then sc.2 k else 0
def nnV (x : Int32) : Nat := x.toBitVec.toNat % 2147483648
theorem nn_and (x : Int32) : x &&& 2147483647 = nI (nnV x) := by
  refine Int32.toBitVec_inj.mp ?_
  rw [nI_bv]
  refine BitVec.eq_of_toNat_eq ?_
  rw [Int32.toBitVec_and, BitVec.toNat_and, BitVec.toNat_ofNat]
  have e : (2147483647 : Int32).toBitVec.toNat = 2 ^ 31 - 1 := by decide
  have : nnV x < 2147483648 := Nat.mod_lt _ (by decide)
  rw [e, Nat.and_two_pow_sub_one_eq_mod, Nat.mod_eq_of_lt (show nnV x < 2 ^ 32 by omega)]
  rfl
theorem b_ok {N d n : Nat} {x : Int32} {h : AH} (hn : 1 ≤ n) (hn2 : n ≤ 100) : runM sc (N + 6) (d + 1) 97 [vI x, vI (nI n)] h = some (some (vI (nI (nnV x % n))), h) := by
  have e0 : runM sc (N + 6) (d + 1) 97 [vI x, vI (nI n)] h = exN sc (runM sc (N + 6) d) 97 (code9 97) (N + 6) 0 [vI x, vI (nI n)] [] h := rfl
  rw [e0]
  refine (ex_nx rfl rfl).trans ?_
  refine (ex_nx (st' := [vI 2147483647, vI x]) rfl rfl).trans ?_
  refine (ex_nx (st' := [vI (x &&& 2147483647)]) rfl rfl).trans ?_
  refine (ex_nx rfl rfl).trans ?_
  have hlt : nnV x < 2147483648 := Nat.mod_lt _ (by decide)
  have e1 : stp sc 97 .irem 6 [vI x, vI (nI n)] [vI (nI n), vI (x &&& 2147483647)] h = some (.inl (6, [vI x, vI (nI n)], [vI (nI (nnV x % n))], h)) := by
    unfold stp binD
    dsimp only
    rw [if_neg (n_ne0 (by omega) hn), nn_and, n_rem (by omega) (by omega) hn]
  refine (ex_nx rfl e1).trans ?_
  exact ex_rt rfl rfl
theorem c_ok {N d k : Nat} {h : AH} (hL : sc.1 ≤ 260) (hk : k ≤ 3) : runM sc (N + 10) (d + 1) 96 [vR 0 901, vI (nI k)] h = some (some (vI (cellV sc k)), h) := by
  have e0 : runM sc (N + 10) (d + 1) 96 [vR 0 901, vI (nI k)] h = exN sc (runM sc (N + 10) d) 96 (code9 96) (N + 10) 0 [vR 0 901, vI (nI k)] [] h := rfl
  rw [e0]
  refine (ex_nx rfl rfl).trans ?_
  refine (ex_nx rfl rfl).trans ?_
  refine (ex_nx (st' := [vI (nI sc.1), vI (nI k)]) rfl rfl).trans ?_
  have hle : nI sc.1 ≤ nI k ↔ sc.1 ≤ k := by rw [Int32.le_iff_toInt_le, n_ti (by omega), n_ti (by omega)]; omega
  unfold cellV
  by_cases hc : k < sc.1
  · rw [if_pos hc]
    have e1 : stp sc 96 (.if_icmp .ge 12) 6 [vR 0 901, vI (nI k)] [vI (nI sc.1), vI (nI k)] h = some (.inl (6, [vR 0 901, vI (nI k)], [], h)) := by
      show (bif decide (nI sc.1 ≤ nI k) then _ else _) = _
      rw [decide_eq_false (fun z => by have := hle.mp z; omega)]
      rfl
    refine (ex_nx rfl e1).trans ?_
    refine (ex_nx rfl rfl).trans ?_
    refine (ex_nx rfl rfl).trans ?_
    have e2 : stp sc 96 .iaload 9 [vR 0 901, vI (nI k)] [vI (nI k), vR 0 901] h = some (.inl (9, [vR 0 901, vI (nI k)], [vI (sc.2 k)], h)) := by
      unfold stp aldI
      dsimp only
      rw [n_inb hc (by omega), n_clamp (by omega)]
      rfl
    refine (ex_nx rfl e2).trans ?_
    refine (ex_nx rfl rfl).trans ?_
    exact ex_rt rfl rfl
  · rw [if_neg hc]
    have e1 : stp sc 96 (.if_icmp .ge 12) 6 [vR 0 901, vI (nI k)] [vI (nI sc.1), vI (nI k)] h = some (.inl (12, [vR 0 901, vI (nI k)], [], h)) := by
      show (bif decide (nI sc.1 ≤ nI k) then _ else _) = _
      rw [decide_eq_true (hle.mpr (by omega))]
      rfl
    refine (ex_nx rfl e1).trans ?_
    refine (ex_nx rfl rfl).trans ?_
    exact ex_rt rfl rfl
theorem bit_01 (x : Int32) : x &&& 1 = nI 0 ∨ x &&& 1 = nI 1 := by
  have h1 : (x &&& 1).toBitVec.toNat = x.toBitVec.toNat % 2 := by
    rw [Int32.toBitVec_and, BitVec.toNat_and]
    have e : (1 : Int32).toBitVec.toNat = 2 ^ 1 - 1 := by decide
    rw [e, Nat.and_two_pow_sub_one_eq_mod]
  have h2 : x.toBitVec.toNat % 2 = 0 ∨ x.toBitVec.toNat % 2 = 1 := by omega
  rcases h2 with h2 | h2
  · left
    refine Int32.toBitVec_inj.mp (BitVec.eq_of_toNat_eq ?_)
    rw [h1, h2]; rfl
  · right
    refine Int32.toBitVec_inj.mp (BitVec.eq_of_toNat_eq ?_)
    rw [h1, h2]; rfl
/-- the law's locals at pc 64 -/
abbrev loE (p s c sp d : Nat) : List AV := [vR 0 901, vI (nI p), vI (nI s), vI (nI c), vI (nI sp), vI (nI d), vU, vU, vU, vU, vU, vU, vU, vU, vU, vU]
abbrev loI (v1 v2 v3 v4 : AV) : List AV := [vR 0 901, v1, v2, v3, v4, vU, vU, vU, vU, vU, vU, vU, vU, vU, vU, vU]
theorem ent_ok {h : AH} (hL : sc.1 ≤ 260) : ∃ p s c sp d n : Nat, p < 3 ∧ s < 3 ∧ c < 3 ∧ d < 4 ∧ ((c = 0 ∧ sp = 1) ∨ (c ≠ 0 ∧ (sp = 2 ∨ sp = 3))) ∧
    exN sc (runM sc 100000 30) 130 (code9 130) n 0 (lo0 [vR 0 901] 16) [] h = exN sc (runM sc 100000 30) 130 (code9 130) 100000 64 (loE p s c sp d) [] h := by
  obtain ⟨p, hp⟩ : ∃ p, p = nnV (cellV sc 0) % 3 := ⟨_, rfl⟩
  obtain ⟨s, hs⟩ : ∃ p, p = nnV (cellV sc 1) % 3 := ⟨_, rfl⟩
  obtain ⟨c, hc⟩ : ∃ p, p = nnV (cellV sc 2) % 3 := ⟨_, rfl⟩
  obtain ⟨d, hd⟩ : ∃ p, p = nnV (cellV sc 3) % 4 := ⟨_, rfl⟩
  have lp : p < 3 := by omega
  have ls : s < 3 := by omega
  have lc : c < 3 := by omega
  have ld : d < 4 := by omega
  have A : ∀ n, exN sc (runM sc 100000 30) 130 (code9 130) (n + 18) 0 (lo0 [vR 0 901] 16) [] h = exN sc (runM sc 100000 30) 130 (code9 130) n 30 (loI (vI (nI p)) (vI (nI s)) (vI (nI c)) vU) [] h := by
    intro n
    refine (ex_nx rfl rfl).trans ?_
    refine (ex_nx (st' := [vI (nI 0), vR 0 901]) rfl rfl).trans ?_
    refine (ex_cl (as := [vR 0 901, vI (nI 0)]) rfl rfl (c_ok (N := 99990) (d := 29) hL (by decide))).trans ?_
    refine (ex_nx (st' := [vI (nI 3), vI (cellV sc 0)]) rfl rfl).trans ?_
    refine (ex_cl (as := [vI (cellV sc 0), vI (nI 3)]) rfl rfl (b_ok (N := 99994) (d := 29) (by decide) (by decide))).trans ?_
    rw [← hp]
    refine (ex_nx (lo' := loI (vI (nI p)) vU vU vU) rfl rfl).trans ?_
    refine (ex_nx rfl rfl).trans ?_
    refine (ex_nx (st' := [vI (nI 1), vR 0 901]) rfl rfl).trans ?_
    refine (ex_cl (as := [vR 0 901, vI (nI 1)]) rfl rfl (c_ok (N := 99990) (d := 29) hL (by decide))).trans ?_
    refine (ex_nx (st' := [vI (nI 3), vI (cellV sc 1)]) rfl rfl).trans ?_
    refine (ex_cl (as := [vI (cellV sc 1), vI (nI 3)]) rfl rfl (b_ok (N := 99994) (d := 29) (by decide) (by decide))).trans ?_
    rw [← hs]
    refine (ex_nx (lo' := loI (vI (nI p)) (vI (nI s)) vU vU) rfl rfl).trans ?_
    refine (ex_nx rfl rfl).trans ?_
    refine (ex_nx (st' := [vI (nI 2), vR 0 901]) rfl rfl).trans ?_
    refine (ex_cl (as := [vR 0 901, vI (nI 2)]) rfl rfl (c_ok (N := 99990) (d := 29) hL (by decide))).trans ?_
    refine (ex_nx (st' := [vI (nI 3), vI (cellV sc 2)]) rfl rfl).trans ?_
    refine (ex_cl (as := [vI (cellV sc 2), vI (nI 3)]) rfl rfl (b_ok (N := 99994) (d := 29) (by decide) (by decide))).trans ?_
    rw [← hc]
    exact ex_nx (lo' := loI (vI (nI p)) (vI (nI s)) (vI (nI c)) vU) rfl rfl
  have B : ∀ n sp, exN sc (runM sc 100000 30) 130 (code9 130) (n + 6) 53 (loI (vI (nI p)) (vI (nI s)) (vI (nI c)) (vI (nI sp))) [] h = exN sc (runM sc 100000 30) 130 (code9 130) n 64 (loE p s c sp d) [] h := by
    intro n sp
    refine (ex_nx rfl rfl).trans ?_
    refine (ex_nx (st' := [vI (nI 3), vR 0 901]) rfl rfl).trans ?_
    refine (ex_cl (as := [vR 0 901, vI (nI 3)]) rfl rfl (c_ok (N := 99990) (d := 29) hL (by decide))).trans ?_
    refine (ex_nx (st' := [vI (nI 4), vI (cellV sc 3)]) rfl rfl).trans ?_
    refine (ex_cl (as := [vI (cellV sc 3), vI (nI 4)]) rfl rfl (b_ok (N := 99994) (d := 29) (by decide) (by decide))).trans ?_
    rw [← hd]
    exact ex_nx (lo' := loE p s c sp d) rfl rfl
  by_cases h0 : c = 0
  · refine ⟨p, s, c, 1, d, 100006 + 6 + 18, lp, ls, lc, ld, Or.inl ⟨h0, rfl⟩, (A _).trans ?_⟩
    refine (ex_nx (st' := [vI (nI 1)]) rfl rfl).trans ?_
    refine (ex_nx (st' := [vI (nI c), vI (nI 1)]) rfl rfl).trans ?_
    have e1 : stp sc 130 (.ifCond .le 49) 35 (loI (vI (nI p)) (vI (nI s)) (vI (nI c)) vU) [vI (nI c), vI (nI 1)] h = some (.inl (49, loI (vI (nI p)) (vI (nI s)) (vI (nI c)) vU, [vI (nI 1)], h)) := by
      show (bif decide (nI c ≤ 0) then _ else _) = _
      rw [decide_eq_true ((n_le0 (by omega)).mpr (Or.inl h0))]
      rfl
    refine (ex_nx rfl e1).trans ?_
    refine (ex_nx (st' := [vI (nI 0), vI (nI 1)]) rfl rfl).trans ?_
    refine (ex_nx (st' := [vI (nI 1 + nI 0)]) rfl rfl).trans ?_
    rw [show nI 1 + nI 0 = nI 1 from by decide]
    refine (ex_nx (lo' := loI (vI (nI p)) (vI (nI s)) (vI (nI c)) (vI (nI 1))) rfl rfl).trans ?_
    exact B _ 1
  · have C : ∀ sp, nI 1 + (nI 1 + (cellV sc 2 >>> (nI 3 &&& 31) &&& nI 1)) = nI sp → exN sc (runM sc 100000 30) 130 (code9 130) (100000 + 6 + 15 + 18) 0 (lo0 [vR 0 901] 16) [] h = exN sc (runM sc 100000 30) 130 (code9 130) 100000 64 (loE p s c sp d) [] h := by
      intro sp hsp
      refine (A _).trans ?_
      refine (ex_nx (st' := [vI (nI 1)]) rfl rfl).trans ?_
      refine (ex_nx (st' := [vI (nI c), vI (nI 1)]) rfl rfl).trans ?_
      have e1 : stp sc 130 (.ifCond .le 49) 35 (loI (vI (nI p)) (vI (nI s)) (vI (nI c)) vU) [vI (nI c), vI (nI 1)] h = some (.inl (35, loI (vI (nI p)) (vI (nI s)) (vI (nI c)) vU, [vI (nI 1)], h)) := by
        show (bif decide (nI c ≤ 0) then _ else _) = _
        rw [decide_eq_false (fun z => by have := (n_le0 (by omega)).mp z; omega)]
        rfl
      refine (ex_nx rfl e1).trans ?_
      refine (ex_nx (st' := [vI (nI 1), vI (nI 1)]) rfl rfl).trans ?_
      refine (ex_nx rfl rfl).trans ?_
      refine (ex_nx (st' := [vI (nI 2), vR 0 901, vI (nI 1), vI (nI 1)]) rfl rfl).trans ?_
      refine (ex_cl (as := [vR 0 901, vI (nI 2)]) rfl rfl (c_ok (N := 99990) (d := 29) hL (by decide))).trans ?_
      refine (ex_nx (st' := [vI (nI 3), vI (cellV sc 2), vI (nI 1), vI (nI 1)]) rfl rfl).trans ?_
      refine (ex_nx (st' := [vI (cellV sc 2 >>> (nI 3 &&& 31)), vI (nI 1), vI (nI 1)]) rfl rfl).trans ?_
      refine (ex_nx (st' := [vI (nI 1), vI (cellV sc 2 >>> (nI 3 &&& 31)), vI (nI 1), vI (nI 1)]) rfl rfl).trans ?_
      refine (ex_nx (st' := [vI (cellV sc 2 >>> (nI 3 &&& 31) &&& nI 1), vI (nI 1), vI (nI 1)]) rfl rfl).trans ?_
      refine (ex_nx (st' := [vI (nI 1 + (cellV sc 2 >>> (nI 3 &&& 31) &&& nI 1)), vI (nI 1)]) rfl rfl).trans ?_
      refine (ex_nx rfl rfl).trans ?_
      refine (ex_nx (st' := [vI (nI 1 + (nI 1 + (cellV sc 2 >>> (nI 3 &&& 31) &&& nI 1)))]) rfl rfl).trans ?_
      rw [hsp]
      refine (ex_nx (lo' := loI (vI (nI p)) (vI (nI s)) (vI (nI c)) (vI (nI sp))) rfl rfl).trans ?_
      exact B _ sp
    rcases bit_01 (cellV sc 2 >>> (nI 3 &&& 31)) with z | z
    · exact ⟨p, s, c, 2, d, _, lp, ls, lc, ld, Or.inr ⟨h0, Or.inl rfl⟩, C 2 (by rw [show (nI 1 : Int32) = 1 from rfl] at *; rw [z]; decide)⟩
    · exact ⟨p, s, c, 3, d, _, lp, ls, lc, ld, Or.inr ⟨h0, Or.inr rfl⟩, C 3 (by rw [show (nI 1 : Int32) = 1 from rfl] at *; rw [z]; decide)⟩
end ENT
