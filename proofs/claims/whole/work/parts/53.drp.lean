/-! THE LAST SPACE IS DROPPED, by the class's changer and by the reference -/
def drp : Nat → (Nat → Nat → Int32) → (Nat → Nat → Int32)
  | 0, E => E
  | q + 1, E => drp q (if E 7 q = E 0 12 then aRem E q (nR E) else E)
noncomputable def aDrp (D : Nat → Nat → Int32) : Nat → Nat → Int32 := drp (nR D) (dU D 0 12 (D 0 12 + -nI 1))
theorem aRem_0 {E : Nat → Nat → Int32} {q n k : Nat} (h : k ≠ 11) : aRem E q n 0 k = E 0 k := by
  unfold aRem
  rw [if_neg (by omega), if_neg (fun q => h q.2)]
section DP
variable {sc : SC} {d i w x M : Nat} {g : Gs} {Φ : RS → Gs → Prop} {D : Nat → Nat → Int32}
theorem s17L (hi : fm i = i) : ∀ (q : Nat) (E : Nat → Nat → Int32) (g : Gs), At g i E → ROK E → q ≤ nR E → (∀ g', At g' i (drp q E) → ROK (drp q E) → Fr (PD i) g g' → Φ (.inl (some (vI (nI (nR (drp q E)))))) g') → Xe sc (d + 2) 17 23 [vR i 40, vI (nI q - nI 1)] [] g Φ := by
  intro q
  induction q with
  | zero =>
    intro E g hA rk hq k
    have h11 : g.1 i 0 11 = nI (nR E) := hA.k (by decide) rk.1
    refine v17_23 ⟨fun _ => ?_, fun h => absurd (by decide +kernel) h⟩
    rw [hi, h11]
    exact k g hA rk (Fr.rf g)
  | succ q ih =>
    intro E g hA rk hq k
    have n40 := rk.2
    have e7 : g.1 i 7 = E 7 := hA 7 (by decide)
    have e0 : g.1 i 0 = E 0 := hA 0 (by decide)
    unfold drp at k
    rw [show nI (q + 1) - nI 1 = nI q from nI_pred q]
    have hnn : ¬ nI q < nI 0 := nI_nn (by omega)
    refine v17_23 ?_
    simp (disch := omega) only [u3_nc, u3_ek, u3_nk, upd_e, upd_n, dU_nk, dU_nc, dU_e, nI_ltI, nI_eq, nI_clamp, nI_add, nI_mul, inb_nI, nI_neg1, nI_ne1, nI_n1e, nI_neg1e, Nat.not_lt_zero, Nat.lt_irrefl, true_and, and_true, true_implies, false_implies, not_true_eq_false, not_false_eq_true, implies_true, forall_const, forall_eq, if_true, if_false, Nat.reduceEqDiff, eq_self, Nat.one_ne_zero, Nat.zero_ne_one, Nat.zero_add, Nat.add_zero, hnn, hi, e7, e0]
    rw [show nI q + -nI 1 = nI q - nI 1 from (Int32.sub_eq_add_neg _ _).symm]
    refine ⟨fun h => ?_, fun h => ?_⟩
    · rw [if_pos h] at k
      refine s38A hA rk (by omega) (fun g' a' f' => ⟨rfl, ?_⟩)
      exact ih _ g' a' (rok_aRem n40) (by rw [nR_aRem n40]; omega) (fun g2 a2 r2 f2 => k g2 a2 r2 (f'.tr f2))
    · rw [if_neg h] at k
      exact ih E g hA rk (by omega) k
theorem s17 (hi : fm i = i) (hA : At g i D) (rk : ROK D) (k : ∀ g', At g' i (aDrp D) → ROK (aDrp D) → Fr (PD i) g g' → Φ (.inl (some (vI (nI (nR (aDrp D)))))) g') : Rn sc (d + 3) 17 [vR i 40] g Φ := by
  have e0 : g.1 i 0 = D 0 := hA 0 (by decide)
  have h11 : g.1 i 0 11 = nI (nR D) := hA.k (by decide) rk.1
  refine Rn.of rfl (v17_0 ?_)
  rw [hi, e0]
  intro G1 hG
  subst hG
  rw [u3_nk (by decide), h11, Int32.sub_eq_add_neg (D 0 12)]
  refine s17L hi (nR D) (dU D 0 12 (D 0 12 + -nI 1)) _ (At.uc hA) (rok_dU (by decide) rk) (by rw [nR_dU (by decide)]; exact Nat.le_refl _) (fun g' a' r' f' => k g' a' r' ?_)
  exact Fr.tr (by exact Fr.u3 (Fr.rf _) ⟨rfl, by decide⟩) f'
theorem s226L : ∀ (q : Nat) (E : Nat → Nat → Int32) (g : Gs), MC g w E → q ≤ nR E → (∀ g', MC g' w (drp q E) → Fm w g g' → Φ (.inl (some (vI (nI (nR (drp q E)))))) g') → Xe sc (d + 2) 226 47 [vR 0 70, vI (nI q - nI 1)] [] g Φ := by
  intro q
  induction q with
  | zero =>
    intro E g hA hq k
    have hw := hA.w
    have w10 := hA.l
    have hn := hA.n
    refine v226_47 ⟨fun _ => ?_, fun h => absurd (by decide +kernel) h⟩
    simp (disch := omega) only [u3_nc, u3_ek, u3_nk, upd_e, upd_n, dU_nk, dU_nc, dU_e, nI_ltI, nI_eq, nI_clamp, nI_add, nI_mul, inb_nI, nI_neg1, nI_ne1, nI_n1e, nI_neg1e, Nat.not_lt_zero, Nat.lt_irrefl, true_and, and_true, true_implies, false_implies, not_true_eq_false, not_false_eq_true, implies_true, forall_const, forall_eq, if_true, if_false, Nat.reduceEqDiff, eq_self, Nat.one_ne_zero, Nat.zero_ne_one, Nat.zero_add, Nat.add_zero, hw, hn]
    exact k g hA (Fm.rf w g)
  | succ q ih =>
    intro E g hA hq k
    have n40 := hA.r.2
    have hw := hA.w
    have w10 := hA.l
    have f1 := hA.m.f1 q (by omega)
    have c1 := hA.m.1
    unfold drp at k
    rw [show nI (q + 1) - nI 1 = nI q from nI_pred q]
    have hnn : ¬ nI q < nI 0 := nI_nn (by omega)
    refine v226_47 ?_
    simp (disch := omega) only [u3_nc, u3_ek, u3_nk, upd_e, upd_n, dU_nk, dU_nc, dU_e, nI_ltI, nI_eq, nI_clamp, nI_add, nI_mul, inb_nI, nI_neg1, nI_ne1, nI_n1e, nI_neg1e, Nat.not_lt_zero, Nat.lt_irrefl, true_and, and_true, true_implies, false_implies, not_true_eq_false, not_false_eq_true, implies_true, forall_const, forall_eq, if_true, if_false, Nat.reduceEqDiff, eq_self, Nat.one_ne_zero, Nat.zero_ne_one, Nat.zero_add, Nat.add_zero, hnn, hw, f1, c1]
    rw [show nI q + -nI 1 = nI q - nI 1 from (Int32.sub_eq_add_neg _ _).symm]
    refine ⟨fun h => ?_, fun h => ?_⟩
    · rw [if_pos h] at k
      refine s150 hA (by omega) (fun g' a' f' => ⟨rfl, ?_⟩)
      exact ih _ g' a' (by rw [nR_aRem n40]; omega) (fun g2 a2 f2 => k g2 a2 (f'.tr f2))
    · rw [if_neg h] at k
      exact ih E g hA (by omega) k
end DP
