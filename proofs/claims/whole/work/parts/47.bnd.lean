/-! BIND, by the class's changer and by the reference -/
def BIT (D : Nat → Nat → Int32) : Prop := ∀ a, a < nR D → (D 14 a = nI 0 ∨ D 14 a = nI 1) ∧ (D 15 a = nI 0 ∨ D 15 a = nI 1)
theorem bit_1 {v : Int32} (h : v = nI 0 ∨ v = nI 1) : v = nI 1 ↔ ¬ v = nI 0 := by
  rcases h with rfl | rfl
  · exact ⟨fun q => absurd q (by decide +kernel), fun q => absurd rfl q⟩
  · exact ⟨fun _ => by decide +kernel, fun _ => rfl⟩
section BN
variable {sc : SC} {d i w m s M : Nat} {g : Gs} {Φ : RS → Gs → Prop} {D : Nat → Nat → Int32} {dd t : Int32}
theorem s2 (hi : fm i = i) (hA : At g i D) (hw : CW D M) (gn : GNN D) (gb : GRB D) (hm : m < nR D) (hs : s < nR D) (ht : ¬ t < nI 0)
    (k : ∀ g', At g' i (aBd D s t m dd).2 → Fr (PC i) g g' → Φ (.inl (some (vI (aBd D s t m dd).1))) g') : Rn sc (d + 5) 2 [vR i 40, vI (nI s), vI t, vI (nI m), vI dd] g Φ := by
  have n40 := hw.1.2
  unfold aBd at k
  refine Rn.of rfl (v2_0 ?_)
  simp (disch := omega) only [u3_nc, u3_ek, u3_nk, upd_e, upd_n, dU_nk, dU_nc, dU_e, nI_ltI, nI_eq, nI_clamp, nI_add, nI_mul, inb_nI, nI_neg1, nI_ne1, nI_n1e, nI_neg1e, Nat.not_lt_zero, Nat.lt_irrefl, true_and, and_true, true_implies, false_implies, not_true_eq_false, not_false_eq_true, implies_true, forall_const, forall_eq, if_true, if_false, Nat.reduceEqDiff, eq_self, Nat.one_ne_zero, Nat.zero_ne_one, Nat.zero_add, Nat.add_zero, hi]
  refine s42A hA hw.1 hm ⟨_, rfl, ?_⟩
  rw [(eo_isSome (o := onP D m dd) (fun j h => (fst9_some h).1) n40).1]
  have e14 : g.1 i 14 = D 14 := hA 14 (by decide)
  have e7 : g.1 i 7 = D 7 := hA 7 (by decide)
  simp (disch := omega) only [u3_nc, u3_ek, u3_nk, upd_e, upd_n, dU_nk, dU_nc, dU_e, nI_ltI, nI_eq, nI_clamp, nI_add, nI_mul, inb_nI, nI_neg1, nI_ne1, nI_n1e, nI_neg1e, Nat.not_lt_zero, Nat.lt_irrefl, true_and, and_true, true_implies, false_implies, not_true_eq_false, not_false_eq_true, implies_true, forall_const, forall_eq, if_true, if_false, Nat.reduceEqDiff, eq_self, Nat.one_ne_zero, Nat.zero_ne_one, Nat.zero_add, Nat.add_zero, hi, e14, e7]
  refine ⟨fun h0 => ⟨fun h2 => ⟨fun h3 => ?_, fun h3 => ?_⟩, fun h2 => ?_⟩, fun h0 => ?_⟩
  · rw [if_neg h0, if_neg (fun q => q h2), if_neg (fun q => q h3)] at k
    unfold aTl at k
    refine s6 hi hA hw hm (fun g1 f1 hG => ⟨_, rfl, ?_⟩)
    rw [cpbM_n1 n40]
    have hcl := cntC_le (m := m) (dd := dd) n40
    rw [show ((folL D m).filter (cpb D m dd)).length = cntC D m dd from rfl]
    have a1 : At g1 i D := hA.fr f1 (by omega)
    have h11 : g1.1 i 0 11 = nI (nR D) := a1.k (by decide) hw.1.1
    have e7 : g1.1 i 7 = D 7 := a1 7 (by decide)
    have e8 : g1.1 i 8 = D 8 := a1 8 (by decide)
    simp (disch := omega) only [u3_nc, u3_ek, u3_nk, upd_e, upd_n, dU_nk, dU_nc, dU_e, nI_ltI, nI_eq, nI_clamp, nI_add, nI_mul, inb_nI, nI_neg1, nI_ne1, nI_n1e, nI_neg1e, Nat.not_lt_zero, Nat.lt_irrefl, true_and, and_true, true_implies, false_implies, not_true_eq_false, not_false_eq_true, implies_true, forall_const, forall_eq, if_true, if_false, Nat.reduceEqDiff, eq_self, Nat.one_ne_zero, Nat.zero_ne_one, Nat.zero_add, Nat.add_zero, hi, h11, e7, e8]
    refine ⟨fun h1 => ?_, fun h1 => ?_⟩
    · rw [if_pos h1] at k
      exact k g1 a1 (f1.wk (by omega))
    · rw [if_neg h1] at k
      have h40 : nR D < 40 := by omega
      refine s37A a1 hw.1 h40 (fun g2 a2 f2 => ⟨_, rfl, ?_⟩)
      have hnn : ¬ nI (nR D) < nI 0 := nI_nn (by omega)
      have e12 : g2.1 i 12 s = D 12 s := by rw [a2 12 (by decide)]; exact aAdd_old (by omega) (by decide)
      have e13 : g2.1 i 13 s = D 13 s := by rw [a2 13 (by decide)]; exact aAdd_old (by omega) (by decide)
      simp (disch := omega) only [u3_nc, u3_ek, u3_nk, upd_e, upd_n, dU_nk, dU_nc, dU_e, nI_ltI, nI_eq, nI_clamp, nI_add, nI_mul, inb_nI, nI_neg1, nI_ne1, nI_n1e, nI_neg1e, Nat.not_lt_zero, Nat.lt_irrefl, true_and, and_true, true_implies, false_implies, not_true_eq_false, not_false_eq_true, implies_true, forall_const, forall_eq, if_true, if_false, Nat.reduceEqDiff, eq_self, Nat.one_ne_zero, Nat.zero_ne_one, Nat.zero_add, Nat.add_zero, hnn, hi, e12, e13]
      have hP := PUT_new (sp := D 7 m) (v := D 8 s) (t := t) (gp := D 12 s) (ms := D 13 s) (dd := dd) hw gn gb hm (hw.2.2.2 s hs).1 ht (by omega)
      rw [← aStd_new hm] at hP
      have a3 : At (u3 (u3 g2.1 i 12 (nR D) (D 12 s)) i 13 (nR D) (D 13 s), g2.2) i (aRow D (D 7 m) (D 8 s) t (D 12 s) (D 13 s)) := At.uc (At.uc a2)
      have f3 : Fr (PD i) g2 (u3 (u3 g2.1 i 12 (nR D) (D 12 s)) i 13 (nR D) (D 13 s), g2.2) := by repeat (first | exact Fr.rf _ | refine Fr.u3 ?_ ⟨rfl, by decide⟩)
      refine s7 hi a3 hP ((hG.fr f2 (by omega)).fr f3 (by omega)) (fun g4 a4 f4 => ⟨rfl, ?_⟩)
      exact k g4 a4 ((f1.wk (by omega)).tr ((f2.wk (by omega)).tr ((f3.wk (by omega)).tr (f4.wk (by omega)))))
  · rw [if_neg h0, if_neg (fun q => q h2), if_pos h3] at k
    exact k g hA (Fr.rf g)
  · rw [if_neg h0, if_pos h2] at k
    exact k g hA (Fr.rf g)
  · rw [if_pos (Decidable.not_not.mp h0)] at k
    exact k g hA (Fr.rf g)
theorem s163 (h : MC g w D) (hw : CW D M) (gn : GNN D) (gb : GRB D) (bt : BIT D) (hm : m < nR D) (hs : s < nR D) (ht : ¬ t < nI 0)
    (k : ∀ g', MC g' w (aBd D s t m dd).2 → FR w g g' → Φ (.inl (some (vI (aBd D s t m dd).1))) g') : Rn sc (d + 8) 163 [vR 0 70, vI (nI s), vI t, vI (nI m), vI dd] g Φ := by
  have n40 := hw.1.2
  have w10 := h.l
  unfold aBd at k
  refine Rn.of rfl (v163_0 ?_)
  refine s147 h.w h.l h.m h.r hm ⟨_, rfl, ?_⟩
  rw [show (fst9 (nR D) fun o => decide (D 10 o = D 6 m ∧ D 11 o = dd)) = onP D m dd from rfl, (eo_isSome (o := onP D m dd) (fun j h => (fst9_some h).1) n40).2]
  have w0 := h.w
  have q8 := h.m.f8 s hs
  have q1 := h.m.f1 s hs
  have q1m := h.m.f1 m hm
  simp (disch := omega) only [u3_nc, u3_ek, u3_nk, upd_e, upd_n, dU_nk, dU_nc, dU_e, nI_ltI, nI_eq, nI_clamp, nI_add, nI_mul, inb_nI, nI_neg1, nI_ne1, nI_n1e, nI_neg1e, Nat.not_lt_zero, Nat.lt_irrefl, true_and, and_true, true_implies, false_implies, not_true_eq_false, not_false_eq_true, implies_true, forall_const, forall_eq, if_true, if_false, Nat.reduceEqDiff, eq_self, Nat.one_ne_zero, Nat.zero_ne_one, Nat.zero_add, Nat.add_zero, w0, q8, q1, q1m, bit_1 (bt s hs).1]
  refine ⟨fun h0 => ⟨fun h2 => ?_, fun h2 => ⟨fun h3 => ?_, fun h3 => ?_⟩⟩, fun h0 => ?_⟩
  · rw [if_neg h0, if_pos h2] at k
    exact k g h (FR.rf w g)
  · rw [if_neg h0, if_neg h2, if_neg (fun q => q h3)] at k
    unfold aTl at k
    refine s152 h gn hm (fun g1 f1 hM => ⟨_, rfl, ?_⟩)
    have m1 : MC g1 w D := h.fr f1 (by simp) (by simp)
    have w1 := m1.w
    have n1 := m1.n
    have hcl := cntC_le (m := m) (dd := dd) n40
    have F1 : FR w g g1 := FR.p f1 (by omega)
    simp (disch := omega) only [u3_nc, u3_ek, u3_nk, upd_e, upd_n, dU_nk, dU_nc, dU_e, nI_ltI, nI_eq, nI_clamp, nI_add, nI_mul, inb_nI, nI_neg1, nI_ne1, nI_n1e, nI_neg1e, Nat.not_lt_zero, Nat.lt_irrefl, true_and, and_true, true_implies, false_implies, not_true_eq_false, not_false_eq_true, implies_true, forall_const, forall_eq, if_true, if_false, Nat.reduceEqDiff, eq_self, Nat.one_ne_zero, Nat.zero_ne_one, Nat.zero_add, Nat.add_zero, w1, n1]
    refine s154 m1 hw (Nat.le_refl _) hm hM ⟨_, rfl, ?_⟩
    rw [show ((folL D m).filter (cpb D m dd)).length = cntC D m dd from rfl]
    have q1 := m1.m.f1 m hm
    have q2 := m1.m.f2 s hs
    simp (disch := omega) only [u3_nc, u3_ek, u3_nk, upd_e, upd_n, dU_nk, dU_nc, dU_e, nI_ltI, nI_eq, nI_clamp, nI_add, nI_mul, inb_nI, nI_neg1, nI_ne1, nI_n1e, nI_neg1e, Nat.not_lt_zero, Nat.lt_irrefl, true_and, and_true, true_implies, false_implies, not_true_eq_false, not_false_eq_true, implies_true, forall_const, forall_eq, if_true, if_false, Nat.reduceEqDiff, eq_self, Nat.one_ne_zero, Nat.zero_ne_one, Nat.zero_add, Nat.add_zero, w1, q1, q2]
    rw [show nR D + 1 + cntC D m dd = nR D + (1 + cntC D m dd) by omega]
    refine ⟨fun h1 => ?_, fun h1 => ?_⟩
    · rw [if_pos h1] at k
      exact k g1 m1 F1
    · rw [if_neg h1] at k
      have h40 : nR D < 40 := by omega
      have hP := PUT_new (sp := D 7 m) (v := D 8 s) (t := t) (gp := D 12 s) (ms := D 13 s) (dd := dd) hw gn gb hm (hw.2.2.2 s hs).1 ht (by omega)
      have hcn := cnt_new (sp := D 7 m) (v := D 8 s) (t := t) (gp := D 12 s) (ms := D 13 s) (dd := dd) hw h40 hm
      rw [← aStd_new hm] at hP hcn
      refine s143 m1 h40 (fun g2 m2 F2 => ⟨_, rfl, ?_⟩)
      have w2 := m2.w
      have r2 : nR (aAdd D (nR D) (D 7 m) (D 8 s) t) = nR D + 1 := nR_aAdd h40
      have q0 := m2.m.f0 m (by omega)
      rw [aAdd_old (by omega) (by decide)] at q0
      have q6 := m2.m.f6 s (by omega)
      rw [aAdd_old (by omega) (by decide)] at q6
      have q7 := m2.m.f7 s (by omega)
      rw [aAdd_old (by omega) (by decide)] at q7
      simp (disch := omega) only [u3_nc, u3_ek, u3_nk, upd_e, upd_n, dU_nk, dU_nc, dU_e, nI_ltI, nI_eq, nI_clamp, nI_add, nI_mul, inb_nI, nI_neg1, nI_ne1, nI_n1e, nI_neg1e, Nat.not_lt_zero, Nat.lt_irrefl, true_and, and_true, true_implies, false_implies, not_true_eq_false, not_false_eq_true, implies_true, forall_const, forall_eq, if_true, if_false, Nat.reduceEqDiff, eq_self, Nat.one_ne_zero, Nat.zero_ne_one, Nat.zero_add, Nat.add_zero, w2, q0, q6, q7]
      have p2 := m2.put (r := nR D) (k := 6) (v := D 12 s) (by omega) (by decide)
      have p3 := p2.put (r := nR D) (k := 7) (v := D 13 s) (by rw [nR_dU (by omega)]; omega) (by decide)
      have p4 := p3.put (r := nR D) (k := 4) (v := D 6 m) (by rw [nR_dU (by omega), nR_dU (by omega)]; omega) (by decide)
      have p5 := p4.put (r := nR D) (k := 5) (v := dd) (by rw [nR_dU (by omega), nR_dU (by omega), nR_dU (by omega)]; omega) (by decide)
      have F5 : Fm w g2 (u3 (u3 (u3 (u3 g2.1 0 71 (780 * w + (369 + 10 * nR D + 6)) (D 12 s)) 0 71 (780 * w + (369 + 10 * nR D + 7)) (D 13 s)) 0 71 (780 * w + (369 + 10 * nR D + 4)) (D 6 m)) 0 71 (780 * w + (369 + 10 * nR D + 5)) dd, g2.2) := (Fm.tr (Fm.tr (Fm.tr (MC.putF (r := nR D) (k := 6) (by omega) (by decide)) (MC.putF (r := nR D) (k := 7) (by omega) (by decide))) (MC.putF (r := nR D) (k := 4) (by omega) (by decide))) (MC.putF (r := nR D) (k := 5) (by omega) (by decide)) : _)
      have e5 : dU (dU (dU (dU (aAdd D (nR D) (D 7 m) (D 8 s) t) (6 + 6) (nR D) (D 12 s)) (6 + 7) (nR D) (D 13 s)) (6 + 4) (nR D) (D 6 m)) (6 + 5) (nR D) dd = aStd (aRow D (D 7 m) (D 8 s) t (D 12 s) (D 13 s)) m (nR D) dd := by unfold aStd aRow; rw [dU_nc (by decide), dU_nc (by decide), aAdd_old (by omega) (by decide)]
      rw [e5] at p5
      refine s160 p5 hP ((hM.fr F2.1 (by simp) (by simp)).fr F5.1 (by simp) (by simp)) (fun g3 m3 f3 j3 l3 => ⟨_, rfl, ?_⟩)
      rw [hcn]
      simp (disch := omega) only [u3_nc, u3_ek, u3_nk, upd_e, upd_n, dU_nk, dU_nc, dU_e, nI_ltI, nI_eq, nI_clamp, nI_add, nI_mul, inb_nI, nI_neg1, nI_ne1, nI_n1e, nI_neg1e, Nat.not_lt_zero, Nat.lt_irrefl, true_and, and_true, true_implies, false_implies, not_true_eq_false, not_false_eq_true, implies_true, forall_const, forall_eq, if_true, if_false, Nat.reduceEqDiff, eq_self, Nat.one_ne_zero, Nat.zero_ne_one, Nat.zero_add, Nat.add_zero]
      exact k g3 m3 (F1.tr ((FR.m F2).tr ((FR.m F5).tr ⟨f3.wk (by omega), j3, l3⟩)))
  · rw [if_neg h0, if_neg h2, if_pos h3] at k
    exact k g h (FR.rf w g)
  · rw [if_pos (Decidable.not_not.mp h0)] at k
    exact k g h (FR.rf w g)
end BN
