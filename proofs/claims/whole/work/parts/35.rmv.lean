/-! THE REFERENCE'S ROWS: removing -/
section MRM
variable {sc : SC} {d w : Nat} {g : Gs} {Φ : RS → Gs → Prop} {D : Nat → Nat → Int32}
theorem s150 {q : Nat} (h : MC g w D) (hq : q < nR D) (k : ∀ g', MC g' w (aRem D q (nR D)) → Fm w g g' → Φ (.inl none) g') : Rn sc (d + 2) 150 [vR 0 70, vI (nI q)] g Φ := by
  have w10 := h.l
  have hn := h.n
  have hw := h.w
  have h40 := h.r.2
  have hrk := h.r
  obtain ⟨m1, m2, m3, m4, m5⟩ := h.m
  obtain ⟨n, hnn⟩ : ∃ n, n = nR D := ⟨_, rfl⟩
  rw [← hnn] at hn h40 k hq m5
  have e1 : nI n + (-nI 1) = nI (n - 1) := by
    obtain ⟨z, rfl⟩ : ∃ z, n = z + 1 := ⟨n - 1, by omega⟩
    show nI (z + 1) + -nI 1 = nI z
    rw [← nI_pred z]
    exact (Int32.sub_eq_add_neg ..).symm
  refine Rn.of rfl (v150_0 ?_)
  simp (disch := omega) only [u3_nc, u3_ek, u3_nk, upd_e, upd_n, dU_nk, dU_nc, dU_e, nI_ltI, nI_eq, nI_clamp, nI_add, nI_mul, inb_nI, nI_neg1, nI_ne1, nI_n1e, nI_neg1e, Nat.not_lt_zero, Nat.lt_irrefl, true_and, and_true, true_implies, false_implies, not_true_eq_false, not_false_eq_true, implies_true, forall_const, forall_eq, if_true, if_false, Nat.reduceEqDiff, eq_self, Nat.one_ne_zero, Nat.zero_ne_one, Nat.zero_add, Nat.add_zero, hw, hn, e1]
  -- the loop, from index j on
  have loop : ∀ (f j : Nat) (g1 : Gs), j + f = 369 + 10 * (n - 1) → 369 + 10 * q ≤ j → g1.1 0 70 2 = nI w →
      (∀ x, g1.1 0 71 x = if 780 * w + (369 + 10 * q) ≤ x ∧ x < 780 * w + j then g.1 0 71 (x + 10) else if x = 780 * w + 2 then nI (n - 1) else g.1 0 71 x) → Fm w g g1 →
      Xe sc (d + 1) 150 12 [vR 0 70, vI (nI q), vI (nI j)] [] g1 Φ := by
    intro f
    induction f with
    | zero =>
      intro j g1 hj hqj hw1 hA hF
      have hn1 : g1.1 0 71 (780 * w + 2) = nI (n - 1) := by rw [hA, if_neg (by omega), if_pos rfl]
      refine v150_12 ?_
      have hno : ¬ j < 369 + 10 * (n - 1) := by omega
      simp (disch := omega) only [u3_nc, u3_ek, u3_nk, upd_e, upd_n, dU_nk, dU_nc, dU_e, nI_ltI, nI_eq, nI_clamp, nI_add, nI_mul, inb_nI, nI_neg1, nI_ne1, nI_n1e, nI_neg1e, Nat.not_lt_zero, Nat.lt_irrefl, true_and, and_true, true_implies, false_implies, not_true_eq_false, not_false_eq_true, implies_true, forall_const, forall_eq, if_true, if_false, Nat.reduceEqDiff, eq_self, Nat.one_ne_zero, Nat.zero_ne_one, Nat.zero_add, Nat.add_zero, hw1, hn1, hno]
      refine k g1 ⟨hw1, w10, ?_, rok_aRem (by omega), RMV.same sameV_aRem h.vk hF.2 h.v, h.vk.same sameV_aRem⟩ hF
      unfold RMM
      rw [nR_aRem h40]
      have r0 : ∀ x, x ≠ 11 → aRem D q n 0 x = D 0 x := fun x hx => by unfold aRem; rw [if_neg (by omega), if_neg (by omega)]
      refine ⟨?_, ?_, ?_, ?_, fun r hr x hx => ?_⟩
      · rw [hA, if_neg (by omega), if_neg (by omega), r0 12 (by decide)]; exact m1
      · rw [hn1]; unfold aRem; rw [if_neg (by omega), if_pos ⟨rfl, rfl⟩]
      · rw [hA, if_neg (by omega), if_neg (by omega), r0 13 (by decide)]; exact m3
      · rw [hA, if_neg (by omega), if_neg (by omega), r0 14 (by decide)]; exact m4
      · rw [hA]
        unfold aRem
        by_cases hrq : q ≤ r
        · rw [if_pos (by omega), if_pos (by omega)]
          have e2 : 780 * w + (369 + 10 * r + x) + 10 = 780 * w + (369 + 10 * (r + 1) + x) := by omega
          rw [e2]
          exact m5 (r + 1) (by omega) x hx
        · rw [if_neg (by omega), if_neg (by omega), if_neg (by omega), if_neg (by omega)]
          exact m5 r (by omega) x hx
    | succ f ih =>
      intro j g1 hj hqj hw1 hA hF
      have hn1 : g1.1 0 71 (780 * w + 2) = nI (n - 1) := by rw [hA, if_neg (by omega), if_pos rfl]
      refine v150_12 ?_
      have hlt : j < 369 + 10 * (n - 1) := by omega
      simp (disch := omega) only [u3_nc, u3_ek, u3_nk, upd_e, upd_n, dU_nk, dU_nc, dU_e, nI_ltI, nI_eq, nI_clamp, nI_add, nI_mul, inb_nI, nI_neg1, nI_ne1, nI_n1e, nI_neg1e, Nat.not_lt_zero, Nat.lt_irrefl, true_and, and_true, true_implies, false_implies, not_true_eq_false, not_false_eq_true, implies_true, forall_const, forall_eq, if_true, if_false, Nat.reduceEqDiff, eq_self, Nat.one_ne_zero, Nat.zero_ne_one, Nat.zero_add, Nat.add_zero, hw1, hn1, hlt]
      refine ih (j + 1) _ (by omega) (by omega) ?_ (fun x => ?_) (hF.tr (Fm.put (by unfold MW; omega)))
      · simp (disch := omega) only [u3_nc, u3_ek, u3_nk, upd_e, upd_n, dU_nk, dU_nc, dU_e, nI_ltI, nI_eq, nI_clamp, nI_add, nI_mul, inb_nI, nI_neg1, nI_ne1, nI_n1e, nI_neg1e, Nat.not_lt_zero, Nat.lt_irrefl, true_and, and_true, true_implies, false_implies, not_true_eq_false, not_false_eq_true, implies_true, forall_const, forall_eq, if_true, if_false, Nat.reduceEqDiff, eq_self, Nat.one_ne_zero, Nat.zero_ne_one, Nat.zero_add, Nat.add_zero]; exact hw1
      · show u3 g1.1 0 71 (780 * w + j) (g1.1 0 71 (780 * w + (j + 10))) 0 71 x = _
        by_cases hx : x = 780 * w + j
        · subst hx
          rw [u3_ek rfl, hA, if_neg (by omega), if_neg (by omega), if_pos (by omega)]
          rfl
        · rw [u3_nk hx, hA]
          by_cases hc : 780 * w + (369 + 10 * q) ≤ x ∧ x < 780 * w + j
          · rw [if_pos hc, if_pos (by omega)]
          · rw [if_neg hc]
            rw [if_neg (show ¬ (780 * w + (369 + 10 * q) ≤ x ∧ x < 780 * w + (j + 1)) by omega)]
  refine loop (369 + 10 * (n - 1) - (369 + 10 * q)) _ _ (by omega) (Nat.le_refl _) ?_ (fun x => ?_) (Fm.put (by unfold MW; omega))
  · simp (disch := omega) only [u3_nc, u3_ek, u3_nk, upd_e, upd_n, dU_nk, dU_nc, dU_e, nI_ltI, nI_eq, nI_clamp, nI_add, nI_mul, inb_nI, nI_neg1, nI_ne1, nI_n1e, nI_neg1e, Nat.not_lt_zero, Nat.lt_irrefl, true_and, and_true, true_implies, false_implies, not_true_eq_false, not_false_eq_true, implies_true, forall_const, forall_eq, if_true, if_false, Nat.reduceEqDiff, eq_self, Nat.one_ne_zero, Nat.zero_ne_one, Nat.zero_add, Nat.add_zero]; exact hw
  · show u3 g.1 0 71 (780 * w + 2) (nI (n - 1)) 0 71 x = _
    rw [if_neg (by omega)]
    by_cases hx : x = 780 * w + 2
    · subst hx; rw [u3_ek rfl, if_pos rfl]
    · rw [u3_nk hx, if_neg hx]
/-- 780 cells of a window copied into another one -/
theorem s132 {a b : Nat} (ha : a < 10) (hb : b < 10) (hab : a ≠ b) (k : ∀ g', Fr (fun i c => i = 0 ∧ c = 71) g g' → (∀ x, x < 780 → g'.1 0 71 (780 * b + x) = g.1 0 71 (780 * a + x)) → (∀ x, ¬ (780 * b ≤ x ∧ x < 780 * b + 780) → g'.1 0 71 x = g.1 0 71 x) → Φ (.inl none) g') : Rn sc (d + 1) 132 [vR 0 70, vI (nI a), vI (nI b)] g Φ := by
  refine Rn.of rfl (v132_0 ?_)
  refine turnsS (σ := Gs) (W := fun q g1 => Xe sc d 132 2 [vR 0 70, vI (nI a), vI (nI b), vI (nI q)] [] g1 Φ) (I := fun q g1 => Fr (fun i c => i = 0 ∧ c = 71) g g1 ∧ ∀ x, g1.1 0 71 x = if 780 * b ≤ x ∧ x < 780 * b + q then g.1 0 71 (780 * a + (x - 780 * b)) else g.1 0 71 x) (n := 780) (fun q g1 hq ⟨i1, i2⟩ hW => ?_) (fun g1 ⟨i1, i2⟩ => ?_) g ⟨Fr.rf g, fun x => by rw [if_neg (by omega)]⟩
  · refine v132_2 ?_
    simp (disch := omega) only [u3_nc, u3_ek, u3_nk, upd_e, upd_n, dU_nk, dU_nc, dU_e, nI_ltI, nI_eq, nI_clamp, nI_add, nI_mul, inb_nI, nI_neg1, nI_ne1, nI_n1e, nI_neg1e, Nat.not_lt_zero, Nat.lt_irrefl, true_and, and_true, true_implies, false_implies, not_true_eq_false, not_false_eq_true, implies_true, forall_const, forall_eq, if_true, if_false, Nat.reduceEqDiff, eq_self, Nat.one_ne_zero, Nat.zero_ne_one, Nat.zero_add, Nat.add_zero, hq]
    refine hW _ ⟨i1.tr (Fr.u3 (Fr.rf g1) ⟨rfl, rfl⟩), fun x => ?_⟩
    show u3 g1.1 0 71 (780 * b + q) (g1.1 0 71 (780 * a + q)) 0 71 x = _
    by_cases hx : x = 780 * b + q
    · subst hx
      rw [u3_ek rfl, i2, if_neg (by omega), if_pos (by omega), Nat.add_sub_cancel_left]
    · rw [u3_nk hx, i2]
      by_cases hc : 780 * b ≤ x ∧ x < 780 * b + q
      · rw [if_pos hc, if_pos (by omega)]
      · rw [if_neg hc, if_neg (by omega)]
  · refine v132_2 ?_
    simp (disch := omega) only [u3_nc, u3_ek, u3_nk, upd_e, upd_n, dU_nk, dU_nc, dU_e, nI_ltI, nI_eq, nI_clamp, nI_add, nI_mul, inb_nI, nI_neg1, nI_ne1, nI_n1e, nI_neg1e, Nat.not_lt_zero, Nat.lt_irrefl, true_and, and_true, true_implies, false_implies, not_true_eq_false, not_false_eq_true, implies_true, forall_const, forall_eq, if_true, if_false, Nat.reduceEqDiff, eq_self, Nat.one_ne_zero, Nat.zero_ne_one, Nat.zero_add, Nat.add_zero]
    refine k g1 i1 (fun x hx => ?_) (fun x hx => ?_)
    · rw [i2, if_pos (by omega), Nat.add_sub_cancel_left]
    · rw [i2, if_neg (by omega)]
end MRM
