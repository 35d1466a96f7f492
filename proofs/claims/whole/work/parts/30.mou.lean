/-! THE CLASS'S ROWS OF MOUNTS AND ITS VOLUMES -/
section SM
variable {sc : SC} {d i n : Nat} {g : Gs} {Φ : RS → Gs → Prop}
theorem s41 {m : Int32} (hn : g.1 i 0 11 = nI n) (h40 : n ≤ 40) (k : Φ (.inl (some (vI (eo (fst9 n fun r => decide (g.1 i 6 r = m)))))) g) : Rn sc (d + 1) 41 [vR i 0, vI m] g Φ := by
  refine Rn.of rfl (v41_0 ?_)
  refine srch (W := fun q => Xe sc d 41 2 [vR i 0, vI m, vI (nI q)] [] g Φ) (n := n) (p := fun r => decide (g.1 i 6 r = m)) (fun q hq hp hW => ?_) (fun q hs hq hp => ?_) (fun hs => ?_)
  · refine v41_2 ?_
    simp (disch := omega) only [nI_ltI, nI_eq, nI_clamp, nI_add, nI_mul, inb_nI, nI_neg1, nI_ne1, nI_n1e, nI_neg1e, Nat.not_lt_zero, Nat.lt_irrefl, true_and, and_true, true_implies, false_implies, not_true_eq_false, not_false_eq_true, implies_true, forall_const, forall_eq, if_true, if_false, Nat.zero_add, Nat.add_zero, hn, hq]
    exact ⟨fun he => absurd he (of_decide_eq_false hp), fun _ => hW⟩
  · refine v41_2 ?_
    rw [hs] at k
    simp (disch := omega) only [nI_ltI, nI_eq, nI_clamp, nI_add, nI_mul, inb_nI, nI_neg1, nI_ne1, nI_n1e, nI_neg1e, Nat.not_lt_zero, Nat.lt_irrefl, true_and, and_true, true_implies, false_implies, not_true_eq_false, not_false_eq_true, implies_true, forall_const, forall_eq, if_true, if_false, Nat.zero_add, Nat.add_zero, hn, hq]
    exact ⟨fun _ => k, fun he => absurd (of_decide_eq_true hp) he⟩
  · refine v41_2 ?_
    rw [hs] at k
    simp (disch := omega) only [nI_ltI, nI_eq, nI_clamp, nI_add, nI_mul, inb_nI, nI_neg1, nI_ne1, nI_n1e, nI_neg1e, Nat.not_lt_zero, Nat.lt_irrefl, true_and, and_true, true_implies, false_implies, not_true_eq_false, not_false_eq_true, implies_true, forall_const, forall_eq, if_true, if_false, Nat.zero_add, Nat.add_zero, hn]
    exact k
theorem s42 {r : Nat} {dd : Int32} (hn : g.1 i 0 11 = nI n) (h40 : n ≤ 40) (hr : r < n) (k : Φ (.inl (some (vI (eo (fst9 n fun o => decide (g.1 i 10 o = g.1 i 6 r ∧ g.1 i 11 o = dd)))))) g) : Rn sc (d + 1) 42 [vR i 0, vI (nI r), vI dd] g Φ := by
  refine Rn.of rfl (v42_0 ?_)
  refine srch (W := fun q => Xe sc d 42 2 [vR i 0, vI (nI r), vI dd, vI (nI q)] [] g Φ) (n := n) (p := fun o => decide (g.1 i 10 o = g.1 i 6 r ∧ g.1 i 11 o = dd)) (fun q hq hp hW => ?_) (fun q hs hq hp => ?_) (fun hs => ?_)
  · refine v42_2 ?_
    simp (disch := omega) only [nI_ltI, nI_eq, nI_clamp, nI_add, nI_mul, inb_nI, nI_neg1, nI_ne1, nI_n1e, nI_neg1e, Nat.not_lt_zero, Nat.lt_irrefl, true_and, and_true, true_implies, false_implies, not_true_eq_false, not_false_eq_true, implies_true, forall_const, forall_eq, if_true, if_false, Nat.zero_add, Nat.add_zero, hn, hq]
    exact ⟨fun h1 => ⟨fun h2 => absurd ⟨h1, h2⟩ (of_decide_eq_false hp), fun _ => hW⟩, fun _ => hW⟩
  · refine v42_2 ?_
    rw [hs] at k
    obtain ⟨p1, p2⟩ := of_decide_eq_true hp
    simp (disch := omega) only [nI_ltI, nI_eq, nI_clamp, nI_add, nI_mul, inb_nI, nI_neg1, nI_ne1, nI_n1e, nI_neg1e, Nat.not_lt_zero, Nat.lt_irrefl, true_and, and_true, true_implies, false_implies, not_true_eq_false, not_false_eq_true, implies_true, forall_const, forall_eq, if_true, if_false, Nat.zero_add, Nat.add_zero, hn, hq]
    exact ⟨fun h1 => ⟨fun h2 => k, fun h2 => absurd p2 h2⟩, fun h1 => absurd p1 h1⟩
  · refine v42_2 ?_
    rw [hs] at k
    simp (disch := omega) only [nI_ltI, nI_eq, nI_clamp, nI_add, nI_mul, inb_nI, nI_neg1, nI_ne1, nI_n1e, nI_neg1e, Nat.not_lt_zero, Nat.lt_irrefl, true_and, and_true, true_implies, false_implies, not_true_eq_false, not_false_eq_true, implies_true, forall_const, forall_eq, if_true, if_false, Nat.zero_add, Nat.add_zero, hn]
    exact k
theorem s44 {r : Nat} (hn : g.1 i 0 11 = nI n) (h40 : n ≤ 40) (hr : r < n) (k : Φ (.inl (some (vI (if (fst9 n fun o => decide (g.1 i 10 o = g.1 i 6 r)).isSome then nI 1 else nI 0)))) g) : Rn sc (d + 1) 44 [vR i 0, vI (nI r)] g Φ := by
  refine Rn.of rfl (v44_0 ?_)
  refine srch (W := fun q => Xe sc d 44 2 [vR i 0, vI (nI r), vI (nI q)] [] g Φ) (n := n) (p := fun o => decide (g.1 i 10 o = g.1 i 6 r)) (fun q hq hp hW => ?_) (fun q hs hq hp => ?_) (fun hs => ?_)
  · refine v44_2 ?_
    simp (disch := omega) only [nI_ltI, nI_eq, nI_clamp, nI_add, nI_mul, inb_nI, nI_neg1, nI_ne1, nI_n1e, nI_neg1e, Nat.not_lt_zero, Nat.lt_irrefl, true_and, and_true, true_implies, false_implies, not_true_eq_false, not_false_eq_true, implies_true, forall_const, forall_eq, if_true, if_false, Nat.zero_add, Nat.add_zero, hn, hq]
    exact ⟨fun he => absurd he (of_decide_eq_false hp), fun _ => hW⟩
  · refine v44_2 ?_
    rw [hs] at k
    simp (disch := omega) only [nI_ltI, nI_eq, nI_clamp, nI_add, nI_mul, inb_nI, nI_neg1, nI_ne1, nI_n1e, nI_neg1e, Nat.not_lt_zero, Nat.lt_irrefl, true_and, and_true, true_implies, false_implies, not_true_eq_false, not_false_eq_true, implies_true, forall_const, forall_eq, if_true, if_false, Nat.zero_add, Nat.add_zero, hn, hq]
    exact ⟨fun _ => k, fun he => absurd (of_decide_eq_true hp) he⟩
  · refine v44_2 ?_
    rw [hs] at k
    simp (disch := omega) only [nI_ltI, nI_eq, nI_clamp, nI_add, nI_mul, inb_nI, nI_neg1, nI_ne1, nI_n1e, nI_neg1e, Nat.not_lt_zero, Nat.lt_irrefl, true_and, and_true, true_implies, false_implies, not_true_eq_false, not_false_eq_true, implies_true, forall_const, forall_eq, if_true, if_false, Nat.zero_add, Nat.add_zero, hn]
    exact k
theorem s45 {sp : Int32} (hn : g.1 i 0 11 = nI n) (h40 : n ≤ 40) (k : Φ (.inl (some (vI (nI ((fst9 n fun o => decide (g.1 i 7 o = sp ∧ g.1 i 10 o < nI 0)).getD 0))))) g) : Rn sc (d + 1) 45 [vR i 0, vI sp] g Φ := by
  refine Rn.of rfl (v45_0 ?_)
  refine srch (W := fun q => Xe sc d 45 2 [vR i 0, vI sp, vI (nI q)] [] g Φ) (n := n) (p := fun o => decide (g.1 i 7 o = sp ∧ g.1 i 10 o < nI 0)) (fun q hq hp hW => ?_) (fun q hs hq hp => ?_) (fun hs => ?_)
  · refine v45_2 ?_
    simp (disch := omega) only [nI_ltI, nI_eq, nI_clamp, nI_add, nI_mul, inb_nI, nI_neg1, nI_ne1, nI_n1e, nI_neg1e, Nat.not_lt_zero, Nat.lt_irrefl, true_and, and_true, true_implies, false_implies, not_true_eq_false, not_false_eq_true, implies_true, forall_const, forall_eq, if_true, if_false, Nat.zero_add, Nat.add_zero, hn, hq]
    exact ⟨fun h1 => ⟨fun h2 => absurd ⟨h1, h2⟩ (of_decide_eq_false hp), fun _ => hW⟩, fun _ => hW⟩
  · refine v45_2 ?_
    rw [hs] at k
    obtain ⟨p1, p2⟩ := of_decide_eq_true hp
    simp (disch := omega) only [nI_ltI, nI_eq, nI_clamp, nI_add, nI_mul, inb_nI, nI_neg1, nI_ne1, nI_n1e, nI_neg1e, Nat.not_lt_zero, Nat.lt_irrefl, true_and, and_true, true_implies, false_implies, not_true_eq_false, not_false_eq_true, implies_true, forall_const, forall_eq, if_true, if_false, Nat.zero_add, Nat.add_zero, hn, hq]
    exact ⟨fun h1 => ⟨fun h2 => k, fun h2 => absurd p2 h2⟩, fun h1 => absurd p1 h1⟩
  · refine v45_2 ?_
    rw [hs] at k
    simp (disch := omega) only [nI_ltI, nI_eq, nI_clamp, nI_add, nI_mul, inb_nI, nI_neg1, nI_ne1, nI_n1e, nI_neg1e, Nat.not_lt_zero, Nat.lt_irrefl, true_and, and_true, true_implies, false_implies, not_true_eq_false, not_false_eq_true, implies_true, forall_const, forall_eq, if_true, if_false, Nat.zero_add, Nat.add_zero, hn]
    exact k
theorem s46 {r v sz : Nat} {dd : Int32} (hr : r < 40) (hv : g.1 i 8 r = nI v) (v4 : v < 4) (hs : g.1 i 3 v = nI sz) (s12 : sz ≤ 12) (ho : ∀ e, e < sz → g.1 i 5 (v * 12 + e) = -nI 1 ∨ ∃ o, o < sz ∧ g.1 i 5 (v * 12 + e) = nI o)
    (k : Φ (.inl (some (vI (if blw (fun e => g.1 i 5 (v * 12 + e)) (g.1 i 9 r) 12 (if dd < nI sz then dd else -nI 1) = true then nI 1 else nI 0)))) g) : Rn sc (d + 2) 46 [vR i 0, vI (nI r), vI dd] g Φ := by
  have loop : ∀ f q x, q + f = 12 → (x < nI 0 ∨ ∃ e, e < sz ∧ x = nI e) → Φ (.inl (some (vI (if blw (fun e => g.1 i 5 (v * 12 + e)) (g.1 i 9 r) f x = true then nI 1 else nI 0)))) g → Xe sc (d + 1) 46 26 [vR i 0, vI (nI r), vI dd, vI x, vI (nI q)] [] g Φ := by
    intro f
    induction f with
    | zero =>
      intro q x hq hx k
      refine v46_26 ?_
      obtain rfl : q = 12 := by omega
      simp (disch := omega) only [nI_ltI, nI_eq, nI_clamp, nI_add, nI_mul, inb_nI, nI_neg1, nI_ne1, nI_n1e, nI_neg1e, Nat.not_lt_zero, Nat.lt_irrefl, true_and, and_true, true_implies, false_implies, not_true_eq_false, not_false_eq_true, implies_true, forall_const, forall_eq, if_true, if_false, Nat.zero_add, Nat.add_zero]
      exact k
    | succ f ih =>
      intro q x hq hx k
      have hq2 : q < 12 := by omega
      refine v46_26 ?_
      simp (disch := omega) only [nI_ltI, nI_eq, nI_clamp, nI_add, nI_mul, inb_nI, nI_neg1, nI_ne1, nI_n1e, nI_neg1e, Nat.not_lt_zero, Nat.lt_irrefl, true_and, and_true, true_implies, false_implies, not_true_eq_false, not_false_eq_true, implies_true, forall_const, forall_eq, if_true, if_false, Nat.zero_add, Nat.add_zero, hq2, hv]
      unfold blw at k
      refine ⟨fun h1 => ?_, fun h1 => ⟨fun h2 => ?_, fun h2 => ?_⟩⟩
      · rw [if_pos h1] at k; exact k
      · rw [if_neg h1, if_pos h2] at k; exact k
      · rw [if_neg h1, if_neg h2] at k
        obtain ⟨e, he, rfl⟩ := hx.resolve_left h1
        simp (disch := omega) only [nI_ltI, nI_eq, nI_clamp, nI_add, nI_mul, inb_nI, nI_neg1, nI_ne1, nI_n1e, nI_neg1e, Nat.not_lt_zero, Nat.lt_irrefl, true_and, and_true, true_implies, false_implies, not_true_eq_false, not_false_eq_true, implies_true, forall_const, forall_eq, if_true, if_false, Nat.zero_add, Nat.add_zero]
        rw [nI_clamp (by omega)] at k
        refine ih (q + 1) _ (by omega) ?_ k
        rcases ho e he with h3 | ⟨o, h3, h4⟩
        · rw [h3]; exact Or.inl nI_neg1
        · exact Or.inr ⟨o, h3, h4⟩
  refine Rn.of rfl (v46_0 ?_)
  simp (disch := omega) only [nI_ltI, nI_eq, nI_clamp, nI_add, nI_mul, inb_nI, nI_neg1, nI_ne1, nI_n1e, nI_neg1e, Nat.not_lt_zero, Nat.lt_irrefl, true_and, and_true, true_implies, false_implies, not_true_eq_false, not_false_eq_true, implies_true, forall_const, forall_eq, if_true, if_false, Nat.zero_add, Nat.add_zero, hv, hs]
  refine ⟨fun h => ?_, fun h => ?_⟩
  · rw [if_pos h] at k
    refine loop 12 0 dd rfl ?_ k
    by_cases h0 : dd < nI 0
    · exact Or.inl h0
    · obtain ⟨e, he, rfl⟩ := nI_of (show ¬ dd < 0 from h0)
      exact Or.inr ⟨e, (nI_ltI he (by omega)).mp h, rfl⟩
  · rw [if_neg h] at k
    exact loop 12 0 _ rfl (Or.inl nI_neg1) k
theorem s48_12 (hn : g.1 i 0 11 = nI n) (h40 : n ≤ 40) (k : Φ (.inl (some (vI (nI (cntF (fun r => decide (¬ g.1 i 12 r = nI 0)) n))))) g) : Rn sc (d + 1) 48 [vR i 0, vR i 12] g Φ := by
  refine Rn.of rfl (v48_0_12 ?_)
  refine turns (W := fun q => Xe sc d 48 4 [vR i 0, vR i 12, vI (nI (cntF (fun r => decide (¬ g.1 i 12 r = nI 0)) q)), vI (nI q)] [] g Φ) (n := n) (fun q hq hW => ?_) ?_
  · refine v48_4_12 ?_
    simp (disch := omega) only [nI_ltI, nI_eq, nI_clamp, nI_add, nI_mul, inb_nI, nI_neg1, nI_ne1, nI_n1e, nI_neg1e, Nat.not_lt_zero, Nat.lt_irrefl, true_and, and_true, true_implies, false_implies, not_true_eq_false, not_false_eq_true, implies_true, forall_const, forall_eq, if_true, if_false, Nat.zero_add, Nat.add_zero, hn, hq]
    refine ⟨fun h => ?_, fun h => ?_⟩
    · unfold cntF at hW
      rw [decide_eq_false (not_not_intro h)] at hW
      exact hW
    · unfold cntF at hW
      rw [decide_eq_true h] at hW
      exact hW
  · refine v48_4_12 ?_
    simp (disch := omega) only [nI_ltI, nI_eq, nI_clamp, nI_add, nI_mul, inb_nI, nI_neg1, nI_ne1, nI_n1e, nI_neg1e, Nat.not_lt_zero, Nat.lt_irrefl, true_and, and_true, true_implies, false_implies, not_true_eq_false, not_false_eq_true, implies_true, forall_const, forall_eq, if_true, if_false, Nat.zero_add, Nat.add_zero, hn]
    exact k
theorem s48_13 (hn : g.1 i 0 11 = nI n) (h40 : n ≤ 40) (k : Φ (.inl (some (vI (nI (cntF (fun r => decide (¬ g.1 i 13 r = nI 0)) n))))) g) : Rn sc (d + 1) 48 [vR i 0, vR i 13] g Φ := by
  refine Rn.of rfl (v48_0_13 ?_)
  refine turns (W := fun q => Xe sc d 48 4 [vR i 0, vR i 13, vI (nI (cntF (fun r => decide (¬ g.1 i 13 r = nI 0)) q)), vI (nI q)] [] g Φ) (n := n) (fun q hq hW => ?_) ?_
  · refine v48_4_13 ?_
    simp (disch := omega) only [nI_ltI, nI_eq, nI_clamp, nI_add, nI_mul, inb_nI, nI_neg1, nI_ne1, nI_n1e, nI_neg1e, Nat.not_lt_zero, Nat.lt_irrefl, true_and, and_true, true_implies, false_implies, not_true_eq_false, not_false_eq_true, implies_true, forall_const, forall_eq, if_true, if_false, Nat.zero_add, Nat.add_zero, hn, hq]
    refine ⟨fun h => ?_, fun h => ?_⟩
    · unfold cntF at hW
      rw [decide_eq_false (not_not_intro h)] at hW
      exact hW
    · unfold cntF at hW
      rw [decide_eq_true h] at hW
      exact hW
  · refine v48_4_13 ?_
    simp (disch := omega) only [nI_ltI, nI_eq, nI_clamp, nI_add, nI_mul, inb_nI, nI_neg1, nI_ne1, nI_n1e, nI_neg1e, Nat.not_lt_zero, Nat.lt_irrefl, true_and, and_true, true_implies, false_implies, not_true_eq_false, not_false_eq_true, implies_true, forall_const, forall_eq, if_true, if_false, Nat.zero_add, Nat.add_zero, hn]
    exact k
theorem s48_14 (hn : g.1 i 0 11 = nI n) (h40 : n ≤ 40) (k : Φ (.inl (some (vI (nI (cntF (fun r => decide (¬ g.1 i 14 r = nI 0)) n))))) g) : Rn sc (d + 1) 48 [vR i 0, vR i 14] g Φ := by
  refine Rn.of rfl (v48_0_14 ?_)
  refine turns (W := fun q => Xe sc d 48 4 [vR i 0, vR i 14, vI (nI (cntF (fun r => decide (¬ g.1 i 14 r = nI 0)) q)), vI (nI q)] [] g Φ) (n := n) (fun q hq hW => ?_) ?_
  · refine v48_4_14 ?_
    simp (disch := omega) only [nI_ltI, nI_eq, nI_clamp, nI_add, nI_mul, inb_nI, nI_neg1, nI_ne1, nI_n1e, nI_neg1e, Nat.not_lt_zero, Nat.lt_irrefl, true_and, and_true, true_implies, false_implies, not_true_eq_false, not_false_eq_true, implies_true, forall_const, forall_eq, if_true, if_false, Nat.zero_add, Nat.add_zero, hn, hq]
    refine ⟨fun h => ?_, fun h => ?_⟩
    · unfold cntF at hW
      rw [decide_eq_false (not_not_intro h)] at hW
      exact hW
    · unfold cntF at hW
      rw [decide_eq_true h] at hW
      exact hW
  · refine v48_4_14 ?_
    simp (disch := omega) only [nI_ltI, nI_eq, nI_clamp, nI_add, nI_mul, inb_nI, nI_neg1, nI_ne1, nI_n1e, nI_neg1e, Nat.not_lt_zero, Nat.lt_irrefl, true_and, and_true, true_implies, false_implies, not_true_eq_false, not_false_eq_true, implies_true, forall_const, forall_eq, if_true, if_false, Nat.zero_add, Nat.add_zero, hn]
    exact k
theorem s48_15 (hn : g.1 i 0 11 = nI n) (h40 : n ≤ 40) (k : Φ (.inl (some (vI (nI (cntF (fun r => decide (¬ g.1 i 15 r = nI 0)) n))))) g) : Rn sc (d + 1) 48 [vR i 0, vR i 15] g Φ := by
  refine Rn.of rfl (v48_0_15 ?_)
  refine turns (W := fun q => Xe sc d 48 4 [vR i 0, vR i 15, vI (nI (cntF (fun r => decide (¬ g.1 i 15 r = nI 0)) q)), vI (nI q)] [] g Φ) (n := n) (fun q hq hW => ?_) ?_
  · refine v48_4_15 ?_
    simp (disch := omega) only [nI_ltI, nI_eq, nI_clamp, nI_add, nI_mul, inb_nI, nI_neg1, nI_ne1, nI_n1e, nI_neg1e, Nat.not_lt_zero, Nat.lt_irrefl, true_and, and_true, true_implies, false_implies, not_true_eq_false, not_false_eq_true, implies_true, forall_const, forall_eq, if_true, if_false, Nat.zero_add, Nat.add_zero, hn, hq]
    refine ⟨fun h => ?_, fun h => ?_⟩
    · unfold cntF at hW
      rw [decide_eq_false (not_not_intro h)] at hW
      exact hW
    · unfold cntF at hW
      rw [decide_eq_true h] at hW
      exact hW
  · refine v48_4_15 ?_
    simp (disch := omega) only [nI_ltI, nI_eq, nI_clamp, nI_add, nI_mul, inb_nI, nI_neg1, nI_ne1, nI_n1e, nI_neg1e, Nat.not_lt_zero, Nat.lt_irrefl, true_and, and_true, true_implies, false_implies, not_true_eq_false, not_false_eq_true, implies_true, forall_const, forall_eq, if_true, if_false, Nat.zero_add, Nat.add_zero, hn]
    exact k
def factD (D : Nat → Nat → Int32) (r : Nat) (w : Int32) : Int32 := if w = nI 0 then D 7 r else if w = nI 1 then D 8 r else if w = nI 2 then D 9 r else if w = nI 3 then D 10 r else if w = nI 4 then D 11 r else if w = nI 5 then D 12 r else if w = nI 6 then D 13 r else if w = nI 7 then D 14 r else D 15 r
theorem s49 {r : Nat} {w : Int32} (hr : r < 40) (k : Φ (.inl (some (vI (factD (g.1 i) r w)))) g) : Rn sc (d + 1) 49 [vR i 0, vI (nI r), vI w] g Φ := by
  refine Rn.of rfl (v49_0 ?_)
  unfold factD at k
  simp (disch := omega) only [nI_ltI, nI_eq, nI_clamp, nI_add, nI_mul, inb_nI, nI_neg1, nI_ne1, nI_n1e, nI_neg1e, Nat.not_lt_zero, Nat.lt_irrefl, true_and, and_true, true_implies, false_implies, not_true_eq_false, not_false_eq_true, implies_true, forall_const, forall_eq, if_true, if_false, Nat.zero_add, Nat.add_zero]
  refine ⟨fun h => ?_, fun h => ?_⟩
  · rw [if_pos h] at k; exact k
  · rw [if_neg h] at k
    refine ⟨fun h => ?_, fun h => ?_⟩
    · rw [if_pos h] at k; exact k
    · rw [if_neg h] at k
      refine ⟨fun h => ?_, fun h => ?_⟩
      · rw [if_pos h] at k; exact k
      · rw [if_neg h] at k
        refine ⟨fun h => ?_, fun h => ?_⟩
        · rw [if_pos h] at k; exact k
        · rw [if_neg h] at k
          refine ⟨fun h => ?_, fun h => ?_⟩
          · rw [if_pos h] at k; exact k
          · rw [if_neg h] at k
            refine ⟨fun h => ?_, fun h => ?_⟩
            · rw [if_pos h] at k; exact k
            · rw [if_neg h] at k
              refine ⟨fun h => ?_, fun h => ?_⟩
              · rw [if_pos h] at k; exact k
              · rw [if_neg h] at k
                refine ⟨fun h => ?_, fun h => ?_⟩
                · rw [if_pos h] at k; exact k
                · rw [if_neg h] at k
                  exact k
def countD (D : Nat → Nat → Int32) (n : Nat) (w : Int32) : Int32 := if w = nI 0 then D 1 4 else if w = nI 1 then D 0 12 else if w = nI 2 then D 0 11 else if w = nI 3 then nI (cntF (fun r => decide (¬ D 12 r = nI 0)) n) else if w = nI 4 then nI (cntF (fun r => decide (¬ D 13 r = nI 0)) n) else if w = nI 5 then nI (cntF (fun r => decide (¬ D 14 r = nI 0)) n) else if w = nI 6 then nI (cntF (fun r => decide (¬ D 15 r = nI 0)) n) else if w = nI 7 then D 0 13 else D 0 14
theorem s47 {w : Int32} (hn : g.1 i 0 11 = nI n) (h40 : n ≤ 40) (k : Φ (.inl (some (vI (countD (g.1 i) n w)))) g) : Rn sc (d + 2) 47 [vR i 0, vI w] g Φ := by
  refine Rn.of rfl (v47_0 ?_)
  unfold countD at k
  refine ⟨fun h => ?_, fun h => ?_⟩
  · rw [if_pos h] at k; exact k
  · rw [if_neg h] at k
    refine ⟨fun h => ?_, fun h => ?_⟩
    · rw [if_pos h] at k; exact k
    · rw [if_neg h] at k
      refine ⟨fun h => ?_, fun h => ?_⟩
      · rw [if_pos h] at k; exact k
      · rw [if_neg h] at k
        refine ⟨fun h => ?_, fun h => ?_⟩
        · rw [if_pos h] at k; exact s48_12 hn h40 ⟨_, rfl, k⟩
        · rw [if_neg h] at k
          refine ⟨fun h => ?_, fun h => ?_⟩
          · rw [if_pos h] at k; exact s48_13 hn h40 ⟨_, rfl, k⟩
          · rw [if_neg h] at k
            refine ⟨fun h => ?_, fun h => ?_⟩
            · rw [if_pos h] at k; exact s48_14 hn h40 ⟨_, rfl, k⟩
            · rw [if_neg h] at k
              refine ⟨fun h => ?_, fun h => ?_⟩
              · rw [if_pos h] at k; exact s48_15 hn h40 ⟨_, rfl, k⟩
              · rw [if_neg h] at k
                refine ⟨fun h => ?_, fun h => ?_⟩
                · rw [if_pos h] at k; exact k
                · rw [if_neg h] at k
                  exact k
theorem s85 {vn : Nat} {m : Int32} (hn : g.1 i 1 4 = nI vn) (h4 : vn ≤ 4) (k : Φ (.inl (some (vI (eo (fst9 vn fun r => decide (g.1 i 2 r = m)))))) g) : Rn sc (d + 1) 85 [vR i 1, vI m] g Φ := by
  refine Rn.of rfl (v85_0 ?_)
  refine srch (W := fun q => Xe sc d 85 2 [vR i 1, vI m, vI (nI q)] [] g Φ) (n := vn) (p := fun r => decide (g.1 i 2 r = m)) (fun q hq hp hW => ?_) (fun q hs hq hp => ?_) (fun hs => ?_)
  · refine v85_2 ?_
    simp (disch := omega) only [nI_ltI, nI_eq, nI_clamp, nI_add, nI_mul, inb_nI, nI_neg1, nI_ne1, nI_n1e, nI_neg1e, Nat.not_lt_zero, Nat.lt_irrefl, true_and, and_true, true_implies, false_implies, not_true_eq_false, not_false_eq_true, implies_true, forall_const, forall_eq, if_true, if_false, Nat.zero_add, Nat.add_zero, hn, hq]
    exact ⟨fun he => absurd he (of_decide_eq_false hp), fun _ => hW⟩
  · refine v85_2 ?_
    rw [hs] at k
    simp (disch := omega) only [nI_ltI, nI_eq, nI_clamp, nI_add, nI_mul, inb_nI, nI_neg1, nI_ne1, nI_n1e, nI_neg1e, Nat.not_lt_zero, Nat.lt_irrefl, true_and, and_true, true_implies, false_implies, not_true_eq_false, not_false_eq_true, implies_true, forall_const, forall_eq, if_true, if_false, Nat.zero_add, Nat.add_zero, hn, hq]
    exact ⟨fun _ => k, fun he => absurd (of_decide_eq_true hp) he⟩
  · refine v85_2 ?_
    rw [hs] at k
    simp (disch := omega) only [nI_ltI, nI_eq, nI_clamp, nI_add, nI_mul, inb_nI, nI_neg1, nI_ne1, nI_n1e, nI_neg1e, Nat.not_lt_zero, Nat.lt_irrefl, true_and, and_true, true_implies, false_implies, not_true_eq_false, not_false_eq_true, implies_true, forall_const, forall_eq, if_true, if_false, Nat.zero_add, Nat.add_zero, hn]
    exact k
theorem s86 {v sz : Nat} {o m : Int32} (v4 : v < 4) (hs : g.1 i 3 v = nI sz) (s1 : 1 ≤ sz) (s12 : sz ≤ 12) (k : Φ (.inl (some (vI (eo ((fst9 (sz - 1) fun e => decide (g.1 i 5 (v * 12 + (e + 1)) = o ∧ g.1 i 4 (v * 12 + (e + 1)) = m)).map (· + 1)))))) g) : Rn sc (d + 1) 86 [vR i 1, vI (nI v), vI o, vI m] g Φ := by
  refine Rn.of rfl (v86_0 ?_)
  suffices H : ∀ w5, Xe sc d 86 3 [vR i 1, vI (nI v), vI o, vI m, vI (nI (0 + 1)), w5] [] g Φ from H vU
  refine srch (W := fun q => ∀ w5, Xe sc d 86 3 [vR i 1, vI (nI v), vI o, vI m, vI (nI (q + 1)), w5] [] g Φ) (n := sz - 1) (p := fun e => decide (g.1 i 5 (v * 12 + (e + 1)) = o ∧ g.1 i 4 (v * 12 + (e + 1)) = m)) (fun q hq hp hW => ?_) (fun q hf hq hp => ?_) (fun hf => ?_)
  · intro w5
    refine v86_3 ?_
    have hq2 : q + 1 < sz := by omega
    simp (disch := omega) only [nI_ltI, nI_eq, nI_clamp, nI_add, nI_mul, inb_nI, nI_neg1, nI_ne1, nI_n1e, nI_neg1e, Nat.not_lt_zero, Nat.lt_irrefl, true_and, and_true, true_implies, false_implies, not_true_eq_false, not_false_eq_true, implies_true, forall_const, forall_eq, if_true, if_false, Nat.zero_add, Nat.add_zero, hs, hq2]
    exact ⟨fun h1 => ⟨fun h2 => absurd ⟨h1, h2⟩ (of_decide_eq_false hp), fun _ => hW _⟩, fun _ => hW _⟩
  · intro w5
    refine v86_3 ?_
    have hq2 : q + 1 < sz := by omega
    rw [hf] at k
    obtain ⟨p1, p2⟩ := of_decide_eq_true hp
    simp (disch := omega) only [nI_ltI, nI_eq, nI_clamp, nI_add, nI_mul, inb_nI, nI_neg1, nI_ne1, nI_n1e, nI_neg1e, Nat.not_lt_zero, Nat.lt_irrefl, true_and, and_true, true_implies, false_implies, not_true_eq_false, not_false_eq_true, implies_true, forall_const, forall_eq, if_true, if_false, Nat.zero_add, Nat.add_zero, hs, hq2]
    exact ⟨fun h1 => ⟨fun h2 => k, fun h2 => absurd p2 h2⟩, fun h1 => absurd p1 h1⟩
  · intro w5
    refine v86_3 ?_
    have hq2 : ¬ sz - 1 + 1 < sz := by omega
    rw [hf] at k
    simp (disch := omega) only [nI_ltI, nI_eq, nI_clamp, nI_add, nI_mul, inb_nI, nI_neg1, nI_ne1, nI_n1e, nI_neg1e, Nat.not_lt_zero, Nat.lt_irrefl, true_and, and_true, true_implies, false_implies, not_true_eq_false, not_false_eq_true, implies_true, forall_const, forall_eq, if_true, if_false, Nat.zero_add, Nat.add_zero, hs, hq2]
    exact k
end SM
