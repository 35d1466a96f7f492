/-! SIGHT: whether a place is among the seen ones -/
section SG
variable {sc : SC} {d N : Nat} {g : Gs} {Φ : RS → Gs → Prop} {a b : Int32}
theorem s77 (hn : g.1 0 50 4 = nI N) (hN : N ≤ 480) (k : Φ (.inl (some (vI (if (fst9 N fun t => decide (g.1 0 51 t = a ∧ g.1 0 52 t = b)).isSome = true then nI 1 else nI 0)))) g) : Rn sc (d + 1) 77 [vR 0 50, vI a, vI b] g Φ := by
  refine Rn.of rfl (v77_0 ?_)
  refine srch (W := fun q => Xe sc d 77 2 [vR 0 50, vI a, vI b, vI (nI q)] [] g Φ) (n := N) (p := fun t => decide (g.1 0 51 t = a ∧ g.1 0 52 t = b)) (fun q hq hp hW => ?_) (fun q hs hq hp => ?_) (fun hs => ?_)
  · have hp2 := of_decide_eq_false hp
    refine v77_2 ?_
    simp (disch := omega) only [u3_nc, u3_ek, u3_nk, upd_e, upd_n, dU_nk, dU_nc, dU_e, nI_ltI, nI_eq, nI_clamp, nI_add, nI_mul, inb_nI, nI_neg1, nI_ne1, nI_n1e, nI_neg1e, Nat.not_lt_zero, Nat.lt_irrefl, true_and, and_true, true_implies, false_implies, not_true_eq_false, not_false_eq_true, implies_true, forall_const, forall_eq, if_true, if_false, Nat.reduceEqDiff, eq_self, Nat.one_ne_zero, Nat.zero_ne_one, Nat.zero_add, Nat.add_zero, hn, hq]
    exact ⟨fun h1 => ⟨fun h2 => absurd ⟨h1, h2⟩ hp2, fun _ => hW⟩, fun _ => hW⟩
  · obtain ⟨h1, h2⟩ := of_decide_eq_true hp
    rw [hs] at k
    refine v77_2 ?_
    simp (disch := omega) only [u3_nc, u3_ek, u3_nk, upd_e, upd_n, dU_nk, dU_nc, dU_e, nI_ltI, nI_eq, nI_clamp, nI_add, nI_mul, inb_nI, nI_neg1, nI_ne1, nI_n1e, nI_neg1e, Nat.not_lt_zero, Nat.lt_irrefl, true_and, and_true, true_implies, false_implies, not_true_eq_false, not_false_eq_true, implies_true, forall_const, forall_eq, if_true, if_false, Nat.reduceEqDiff, eq_self, Nat.one_ne_zero, Nat.zero_ne_one, Nat.zero_add, Nat.add_zero, hn, hq, h1, h2]
    exact k
  · rw [hs] at k
    refine v77_2 ?_
    simp (disch := omega) only [u3_nc, u3_ek, u3_nk, upd_e, upd_n, dU_nk, dU_nc, dU_e, nI_ltI, nI_eq, nI_clamp, nI_add, nI_mul, inb_nI, nI_neg1, nI_ne1, nI_n1e, nI_neg1e, Nat.not_lt_zero, Nat.lt_irrefl, true_and, and_true, true_implies, false_implies, not_true_eq_false, not_false_eq_true, implies_true, forall_const, forall_eq, if_true, if_false, Nat.reduceEqDiff, eq_self, Nat.one_ne_zero, Nat.zero_ne_one, Nat.zero_add, Nat.add_zero, hn]
    exact k
end SG
