/-! THE CLASS'S ROWS OF MOUNTS AND ITS VOLUMES: what its reading methods answer -/
section SM
variable {sc : SC} {d i n : Nat} {g : Gs} {Φ : RS → Gs → Prop}
theorem s41 {m : Int32} (hn : g.1 i 0 11 = nI n) (h40 : n ≤ 40) (k : Φ (.inl (some (vI (eo (fst9 n fun r => decide (g.1 i 6 r = m)))))) g) : Rn sc (d + 1) 41 [vR i 0, vI m] g Φ := by
  refine Rn.of rfl (v41_0 ?_)
  refine srch (W := fun q => Xe sc d 41 2 [vR i 0, vI m, vI (nI q)] [] g Φ) (n := n) (p := fun r => decide (g.1 i 6 r = m)) (fun q hq hp hW => ?_) (fun q hs hq hp => ?_) (fun hs => ?_)
  · refine v41_2 ?_
    simp (disch := omega) only [nI_ltI, nI_eq, nI_clamp, nI_add, nI_mul, inb_nI, nI_neg1, nI_ne1, nI_n1e, nI_neg1e, Nat.not_lt_zero, Nat.lt_irrefl, true_and, and_true, true_implies, false_implies, not_true_eq_false, not_false_eq_true, implies_true, forall_const, forall_eq, if_true, if_false, Nat.zero_add, Nat.add_zero, hn, hq]
    exact ⟨fun he => absurd he (of_decide_eq_false hp), fun _ => hW⟩
  · refine v41_2 ?_
    rw [hs] at k
    simp (disch := omega) only [nI_ltI, nI_eq, nI_clamp, nI_add, nI_mul, inb_nI, nI_neg1, nI_ne1, nI_n1e, nI_neg1e, Nat.not_lt_zero, Nat.lt_irrefl, true_and, and_true, true_implies, false_implies, not_true_eq_false, not_false_eq_true, implies_true, forall_const, forall_eq, if_true, if_false, Nat.zero_add, Nat.add_zero, hn, hq]
    exact ⟨fun _ => k, fun he => absurd (of_decide_eq_true hp) he⟩
  · refine v41_2 ?_
    rw [hs] at k
    simp (disch := omega) only [nI_ltI, nI_eq, nI_clamp, nI_add, nI_mul, inb_nI, nI_neg1, nI_ne1, nI_n1e, nI_neg1e, Nat.not_lt_zero, Nat.lt_irrefl, true_and, and_true, true_implies, false_implies, not_true_eq_false, not_false_eq_true, implies_true, forall_const, forall_eq, if_true, if_false, Nat.zero_add, Nat.add_zero, hn]
    exact k
theorem s42 {r : Nat} {dd : Int32} (hn : g.1 i 0 11 = nI n) (h40 : n ≤ 40) (hr : r < n) (k : Φ (.inl (some (vI (eo (fst9 n fun o => decide (g.1 i 10 o = g.1 i 6 r ∧ g.1 i 11 o = dd)))))) g) : Rn sc (d + 1) 42 [vR i 0, vI (nI r), vI dd] g Φ := by
  refine Rn.of rfl (v42_0 ?_)
  refine srch (W := fun q => Xe sc d 42 2 [vR i 0, vI (nI r), vI dd, vI (nI q)] [] g Φ) (n := n) (p := fun o => decide (g.1 i 10 o = g.1 i 6 r ∧ g.1 i 11 o = dd)) (fun q hq hp hW => ?_) (fun q hs hq hp => ?_) (fun hs => ?_)
  · refine v42_2 ?_
    simp (disch := omega) only [nI_ltI, nI_eq, nI_clamp, nI_add, nI_mul, inb_nI, nI_neg1, nI_ne1, nI_n1e, nI_neg1e, Nat.not_lt_zero, Nat.lt_irrefl, true_and, and_true, true_implies, false_implies, not_true_eq_false, not_false_eq_true, implies_true, forall_const, forall_eq, if_true, if_false, Nat.zero_add, Nat.add_zero, hn, hq]
    exact ⟨fun h1 => ⟨fun h2 => absurd ⟨h1, h2⟩ (of_decide_eq_false hp), fun _ => hW⟩, fun _ => hW⟩
  · refine v42_2 ?_
    rw [hs] at k
    obtain ⟨p1, p2⟩ := of_decide_eq_true hp
    simp (disch := omega) only [nI_ltI, nI_eq, nI_clamp, nI_add, nI_mul, inb_nI, nI_neg1, nI_ne1, nI_n1e, nI_neg1e, Nat.not_lt_zero, Nat.lt_irrefl, true_and, and_true, true_implies, false_implies, not_true_eq_false, not_false_eq_true, implies_true, forall_const, forall_eq, if_true, if_false, Nat.zero_add, Nat.add_zero, hn, hq]
    exact ⟨fun h1 => ⟨fun h2 => k, fun h2 => absurd p2 h2⟩, fun h1 => absurd p1 h1⟩
  · refine v42_2 ?_
    rw [hs] at k
    simp (disch := omega) only [nI_ltI, nI_eq, nI_clamp, nI_add, nI_mul, inb_nI, nI_neg1, nI_ne1, nI_n1e, nI_neg1e, Nat.not_lt_zero, Nat.lt_irrefl, true_and, and_true, true_implies, false_implies, not_true_eq_false, not_false_eq_true, implies_true, forall_const, forall_eq, if_true, if_false, Nat.zero_add, Nat.add_zero, hn]
    exact k
theorem s43 {r : Nat} (hn : g.1 i 0 11 = nI n) (h40 : n ≤ 40) (hr : r < n) (k : Φ (.inl (some (vI (if g.1 i 10 r < nI 0 then -nI 1 else eo (fst9 n fun o => decide (g.1 i 6 o = g.1 i 10 r)))))) g) : Rn sc (d + 2) 43 [vR i 0, vI (nI r)] g Φ := by
  refine Rn.of rfl (v43_0 ?_)
  simp (disch := omega) only [nI_ltI, nI_eq, nI_clamp, nI_add, nI_mul, inb_nI, nI_neg1, nI_ne1, nI_n1e, nI_neg1e, Nat.not_lt_zero, Nat.lt_irrefl, true_and, and_true, true_implies, false_implies, not_true_eq_false, not_false_eq_true, implies_true, forall_const, forall_eq, if_true, if_false, Nat.zero_add, Nat.add_zero]
  refine ⟨fun h => ?_, fun h => ?_⟩
  · rw [if_pos h] at k; exact k
  · rw [if_neg h] at k
    exact s41 hn h40 ⟨_, rfl, k⟩
theorem s44 {r : Nat} (hn : g.1 i 0 11 = nI n) (h40 : n ≤ 40) (hr : r < n) (k : Φ (.inl (some (vI (if (fst9 n fun o => decide (g.1 i 10 o = g.1 i 6 r)).isSome then nI 1 else nI 0)))) g) : Rn sc (d + 1) 44 [vR i 0, vI (nI r)] g Φ := by
  refine Rn.of rfl (v44_0 ?_)
  refine srch (W := fun q => Xe sc d 44 2 [vR i 0, vI (nI r), vI (nI q)] [] g Φ) (n := n) (p := fun o => decide (g.1 i 10 o = g.1 i 6 r)) (fun q hq hp hW => ?_) (fun q hs hq hp => ?_) (fun hs => ?_)
  · refine v44_2 ?_
    simp (disch := omega) only [nI_ltI, nI_eq, nI_clamp, nI_add, nI_mul, inb_nI, nI_neg1, nI_ne1, nI_n1e, nI_neg1e, Nat.not_lt_zero, Nat.lt_irrefl, true_and, and_true, true_implies, false_implies, not_true_eq_false, not_false_eq_true, implies_true, forall_const, forall_eq, if_true, if_false, Nat.zero_add, Nat.add_zero, hn, hq]
    exact ⟨fun he => absurd he (of_decide_eq_false hp), fun _ => hW⟩
  · refine v44_2 ?_
    rw [hs] at k
    simp (disch := omega) only [nI_ltI, nI_eq, nI_clamp, nI_add, nI_mul, inb_nI, nI_neg1, nI_ne1, nI_n1e, nI_neg1e, Nat.not_lt_zero, Nat.lt_irrefl, true_and, and_true, true_implies, false_implies, not_true_eq_false, not_false_eq_true, implies_true, forall_const, forall_eq, if_true, if_false, Nat.zero_add, Nat.add_zero, hn, hq]
    exact ⟨fun _ => k, fun he => absurd (of_decide_eq_true hp) he⟩
  · refine v44_2 ?_
    rw [hs] at k
    simp (disch := omega) only [nI_ltI, nI_eq, nI_clamp, nI_add, nI_mul, inb_nI, nI_neg1, nI_ne1, nI_n1e, nI_neg1e, Nat.not_lt_zero, Nat.lt_irrefl, true_and, and_true, true_implies, false_implies, not_true_eq_false, not_false_eq_true, implies_true, forall_const, forall_eq, if_true, if_false, Nat.zero_add, Nat.add_zero, hn]
    exact k
theorem s45 {sp : Int32} (hn : g.1 i 0 11 = nI n) (h40 : n ≤ 40) (k : Φ (.inl (some (vI (match fst9 n fun o => decide (g.1 i 7 o = sp ∧ g.1 i 10 o < nI 0) with
    | some q => nI q
    | none => nI 0)))) g) : Rn sc (d + 1) 45 [vR i 0, vI sp] g Φ := by
  refine Rn.of rfl (v45_0 ?_)
  refine srch (W := fun q => Xe sc d 45 2 [vR i 0, vI sp, vI (nI q)] [] g Φ) (n := n) (p := fun o => decide (g.1 i 7 o = sp ∧ g.1 i 10 o < nI 0)) (fun q hq hp hW => ?_) (fun q hs hq hp => ?_) (fun hs => ?_)
  · refine v45_2 ?_
    simp (disch := omega) only [nI_ltI, nI_eq, nI_clamp, nI_add, nI_mul, inb_nI, nI_neg1, nI_ne1, nI_n1e, nI_neg1e, Nat.not_lt_zero, Nat.lt_irrefl, true_and, and_true, true_implies, false_implies, not_true_eq_false, not_false_eq_true, implies_true, forall_const, forall_eq, if_true, if_false, Nat.zero_add, Nat.add_zero, hn, hq]
    exact ⟨fun h1 => ⟨fun h2 => absurd ⟨h1, h2⟩ (of_decide_eq_false hp), fun _ => hW⟩, fun _ => hW⟩
  · refine v45_2 ?_
    rw [hs] at k
    obtain ⟨p1, p2⟩ := of_decide_eq_true hp
    simp (disch := omega) only [nI_ltI, nI_eq, nI_clamp, nI_add, nI_mul, inb_nI, nI_neg1, nI_ne1, nI_n1e, nI_neg1e, Nat.not_lt_zero, Nat.lt_irrefl, true_and, and_true, true_implies, false_implies, not_true_eq_false, not_false_eq_true, implies_true, forall_const, forall_eq, if_true, if_false, Nat.zero_add, Nat.add_zero, hn, hq]
    exact ⟨fun h1 => ⟨fun h2 => k, fun h2 => absurd p2 h2⟩, fun h1 => absurd p1 h1⟩
  · refine v45_2 ?_
    rw [hs] at k
    simp (disch := omega) only [nI_ltI, nI_eq, nI_clamp, nI_add, nI_mul, inb_nI, nI_neg1, nI_ne1, nI_n1e, nI_neg1e, Nat.not_lt_zero, Nat.lt_irrefl, true_and, and_true, true_implies, false_implies, not_true_eq_false, not_false_eq_true, implies_true, forall_const, forall_eq, if_true, if_false, Nat.zero_add, Nat.add_zero, hn]
    exact k
end SM
