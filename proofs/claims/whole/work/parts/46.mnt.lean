/-! MOUNT AND BIND, by the class's changer and by the reference -/
theorem dU_cm {D : Nat → Nat → Int32} {c k c2 k2 : Nat} {v v2 : Int32} (h : c ≠ c2) : dU (dU D c k v) c2 k2 v2 = dU (dU D c2 k2 v2) c k v := by
  funext a b
  unfold dU
  by_cases h1 : a = c ∧ b = k
  · rw [if_pos h1, if_neg (fun q => h (h1.1.symm.trans q.1)), if_pos h1]
  · rw [if_neg h1, if_neg h1]
/-- the new row before it is put -/
def aRow (D : Nat → Nat → Int32) (sp v t gp ms : Int32) : Nat → Nat → Int32 := dU (dU (aAdd D (nR D) sp v t) 12 (nR D) gp) 13 (nR D) ms
theorem aRow_0 {D : Nat → Nat → Int32} {sp v t : Int32} : aRow D sp v t (nI 0) (nI 0) = aAdd D (nR D) sp v t := by
  unfold aRow
  rw [dU_self (D := aAdd D (nR D) sp v t) (by unfold aAdd; simp (disch := omega) only [u3_nc, u3_ek, u3_nk, upd_e, upd_n, dU_nk, dU_nc, dU_e, nI_ltI, nI_eq, nI_clamp, nI_add, nI_mul, inb_nI, nI_neg1, nI_ne1, nI_n1e, nI_neg1e, Nat.not_lt_zero, Nat.lt_irrefl, true_and, and_true, true_implies, false_implies, not_true_eq_false, not_false_eq_true, implies_true, forall_const, forall_eq, if_true, if_false, Nat.reduceEqDiff, eq_self, Nat.one_ne_zero, Nat.zero_ne_one, Nat.zero_add, Nat.add_zero])]
  exact dU_self (by unfold aAdd; simp (disch := omega) only [u3_nc, u3_ek, u3_nk, upd_e, upd_n, dU_nk, dU_nc, dU_e, nI_ltI, nI_eq, nI_clamp, nI_add, nI_mul, inb_nI, nI_neg1, nI_ne1, nI_n1e, nI_neg1e, Nat.not_lt_zero, Nat.lt_irrefl, true_and, and_true, true_implies, false_implies, not_true_eq_false, not_false_eq_true, implies_true, forall_const, forall_eq, if_true, if_false, Nat.reduceEqDiff, eq_self, Nat.one_ne_zero, Nat.zero_ne_one, Nat.zero_add, Nat.add_zero])
theorem aStd_new {D : Nat → Nat → Int32} {sp v t gp ms dd : Int32} {m : Nat} (hm : m < nR D) : aStd (aRow D sp v t gp ms) m (nR D) dd = aNew D sp v t (D 6 m) dd gp ms := by
  unfold aStd aRow aNew
  rw [dU_nc (by decide), dU_nc (by decide), aAdd_old (by omega) (by decide)]
  rw [dU_cm (c := 13) (c2 := 10) (by decide), dU_cm (c := 12) (c2 := 10) (by decide), dU_cm (c := 13) (c2 := 11) (by decide), dU_cm (c := 12) (c2 := 11) (by decide)]
noncomputable def cntC (D : Nat → Nat → Int32) (m : Nat) (dd : Int32) : Nat := ((folL D m).filter (cpb D m dd)).length
theorem cntC_le {D : Nat → Nat → Int32} {m : Nat} {dd : Int32} (h : nR D ≤ 40) : cntC D m dd ≤ 40 := by
  unfold cntC
  have h1 := (List.Sublist.length_le (List.filter_sublist (p := cpb D m dd) (l := folL D m)))
  have h2 := folL_len (D := D) (r := m)
  omega
def GRB (D : Nat → Nat → Int32) : Prop := ∃ b, D 0 14 = nI b ∧ b < 2 ^ 30
theorem cnt_new {D : Nat → Nat → Int32} {m M : Nat} {sp v t gp ms dd : Int32} (hw : CW D M) (h40 : nR D < 40) (hm : m < nR D) : (folL D m).filter (cpb (aNew D sp v t (D 6 m) dd gp ms) m dd) = (folL D m).filter (cpb D m dd) := by
  refine List.filter_congr (fun f hf => ?_)
  have hfn := folL_lt hf
  by_cases he : f = m
  · unfold cpb; rw [he, decide_eq_false (fun q => q rfl), Bool.false_and, Bool.false_and]
  · exact aNew_cpb hw h40 hm hfn he
theorem PUT_new {D : Nat → Nat → Int32} {m M : Nat} {sp v t gp ms dd : Int32} (hw : CW D M) (gn : GNN D) (gb : GRB D) (hm : m < nR D) (hv : ∃ z, z < nV D ∧ v = nI z) (ht : ¬ t < nI 0) (hc : nR D + (1 + cntC D m dd) ≤ 40) : PUT D (aNew D sp v t (D 6 m) dd gp ms) m (nR D) dd M := by
  have h40 : nR D < 40 := by omega
  refine ⟨aNew_CW hw h40 hv ht, ?_, by omega, gn, ?_, ?_, by omega, ?_, ?_, fun f hf => ?_, aNew_11, ?_⟩
  · rw [aNew_nR h40]; omega
  · rw [aNew_nR h40]; omega
  · rw [aNew_nR h40]; omega
  · rw [aNew_old (by omega) (by decide)]
  · rw [aNew_014]; exact gb
  · have := folL_lt hf
    rw [aNew_old (by omega) (by decide), aNew_old (by omega) (by decide)]
    exact ⟨rfl, rfl⟩
  · rw [aNew_nR h40, cnt_new hw h40 hm]
    unfold cntC at hc
    omega
theorem cpbM_n1 {D : Nat → Nat → Int32} {m : Nat} {dd : Int32} (h40 : nR D ≤ 40) : cpbM D m dd (-nI 1) = cpb D m dd := by
  funext f
  unfold cpbM cpb
  cases ho : onP D f dd with
  | none => rw [decide_eq_true (Or.inl eo_none)]; rfl
  | some j =>
    have hj := (fst9_some ho).1
    have hd : decide (eo (some j) < nI 0 ∨ eo (some j) = -nI 1) = false := decide_eq_false (fun q => q.elim (fun h => nI_nn (show j < 2 ^ 31 by omega) h) (fun h => nI_ne1 (show j < 2 ^ 31 by omega) h))
    rw [hd]
    rfl
/-- a new mount on a place: the answer and what comes of D -/
noncomputable def aTl (D : Nat → Nat → Int32) (m : Nat) (v t gp ms dd : Int32) : Int32 × (Nat → Nat → Int32) :=
  if 40 < nR D + (1 + cntC D m dd) then (-nI 8, D) else (nI (1 + cntC D m dd), aPut D (aRow D (D 7 m) v t gp ms) m (nR D) dd)
noncomputable def aMnt (D : Nat → Nat → Int32) (m : Nat) (v dd : Int32) : Int32 × (Nat → Nat → Int32) :=
  if (onP D m dd).isSome = true then (-nI 1, D) else aTl D m v (nI 0) (nI 0) (nI 0) dd
noncomputable def aBd (D : Nat → Nat → Int32) (s : Nat) (t : Int32) (m : Nat) (dd : Int32) : Int32 × (Nat → Nat → Int32) :=
  if (onP D m dd).isSome = true then (-nI 1, D) else if ¬ D 14 s = nI 0 then (-nI 2, D) else if ¬ D 7 s = D 7 m then (-nI 7, D) else aTl D m (D 8 s) t (D 12 s) (D 13 s) dd
abbrev PC (i : Nat) : Nat → Nat → Prop := fun i' c => i' = i ∧ (c < 16 ∨ (30 ≤ c ∧ c ≤ 42))
abbrev PR : Nat → Nat → Prop := fun i c => i = 0 ∧ 70 ≤ c ∧ c ≤ 76
def FR (w : Nat) (g g' : Gs) : Prop := Fr PR g g' ∧ (∀ j, ¬ MW w j → g'.1 0 71 j = g.1 0 71 j) ∧ ∀ k, k ≠ 8 → g'.1 0 70 k = g.1 0 70 k
theorem FR.rf (w : Nat) (g : Gs) : FR w g g := ⟨Fr.rf g, fun _ _ => rfl, fun _ _ => rfl⟩
theorem FR.tr {w : Nat} {a b c : Gs} (h1 : FR w a b) (h2 : FR w b c) : FR w a c := ⟨h1.1.tr h2.1, fun j hj => (h2.2.1 j hj).trans (h1.2.1 j hj), fun j hj => (h2.2.2 j hj).trans (h1.2.2 j hj)⟩
theorem FR.m {w : Nat} {a b : Gs} (h : Fm w a b) : FR w a b := ⟨h.1.wk (fun i c q => ⟨q.1, by omega, by omega⟩), h.2, fun k _ => by rw [h.1.1 0 70 (by omega)]⟩
theorem FR.p {w : Nat} {P : Nat → Nat → Prop} {a b : Gs} (h : Fr P a b) (hp : ∀ i c, P i c → i = 0 ∧ 72 ≤ c ∧ c ≤ 76) : FR w a b := ⟨h.wk (fun i c q => by have := hp i c q; omega), fun j _ => by rw [h.1 0 71 (fun q => by have := hp _ _ q; omega)], fun k _ => by rw [h.1 0 70 (fun q => by have := hp _ _ q; omega)]⟩
theorem eo_isSome {o : Option Nat} {N : Nat} (h : ∀ j, o = some j → j < N) (hN : N ≤ 40) : (eo o < nI 0 ↔ ¬ o.isSome = true) ∧ (eo o = -nI 1 ↔ ¬ o.isSome = true) := by
  cases o with
  | none => exact ⟨⟨fun _ => Bool.false_ne_true, fun _ => eo_none⟩, ⟨fun _ => Bool.false_ne_true, fun _ => rfl⟩⟩
  | some j =>
    have := h j rfl
    exact ⟨⟨fun q => absurd q (nI_nn (show j < 2 ^ 31 by omega)), fun q => absurd rfl q⟩, ⟨fun q => absurd q (nI_ne1 (show j < 2 ^ 31 by omega)), fun q => absurd rfl q⟩⟩
section MB
variable {sc : SC} {d i w m M : Nat} {g : Gs} {Φ : RS → Gs → Prop} {D : Nat → Nat → Int32} {dd : Int32}
theorem s1 {v : Int32} (hi : fm i = i) (hA : At g i D) (hw : CW D M) (gn : GNN D) (gb : GRB D) (hm : m < nR D) (hv : ∃ z, z < nV D ∧ v = nI z)
    (k : ∀ g', At g' i (aMnt D m v dd).2 → Fr (PC i) g g' → Φ (.inl (some (vI (aMnt D m v dd).1))) g') : Rn sc (d + 5) 1 [vR i 40, vI (nI m), vI dd, vI v] g Φ := by
  have n40 := hw.1.2
  unfold aMnt at k
  refine Rn.of rfl (v1_0 ?_)
  simp (disch := omega) only [u3_nc, u3_ek, u3_nk, upd_e, upd_n, dU_nk, dU_nc, dU_e, nI_ltI, nI_eq, nI_clamp, nI_add, nI_mul, inb_nI, nI_neg1, nI_ne1, nI_n1e, nI_neg1e, Nat.not_lt_zero, Nat.lt_irrefl, true_and, and_true, true_implies, false_implies, not_true_eq_false, not_false_eq_true, implies_true, forall_const, forall_eq, if_true, if_false, Nat.reduceEqDiff, eq_self, Nat.one_ne_zero, Nat.zero_ne_one, Nat.zero_add, Nat.add_zero, hi]
  refine s42A hA hw.1 hm ⟨_, rfl, ?_⟩
  rw [(eo_isSome (o := onP D m dd) (fun j h => (fst9_some h).1) n40).1]
  refine ⟨fun h0 => ?_, fun h0 => ?_⟩
  · rw [if_neg h0] at k
    unfold aTl at k
    refine s6 hi hA hw hm (fun g1 f1 hG => ⟨_, rfl, ?_⟩)
    rw [cpbM_n1 n40]
    have hcl := cntC_le (m := m) (dd := dd) n40
    rw [show ((folL D m).filter (cpb D m dd)).length = cntC D m dd from rfl]
    have a1 : At g1 i D := hA.fr f1 (by omega)
    have h11 : g1.1 i 0 11 = nI (nR D) := a1.k (by decide) hw.1.1
    have e7 : g1.1 i 7 = D 7 := a1 7 (by decide)
    simp (disch := omega) only [u3_nc, u3_ek, u3_nk, upd_e, upd_n, dU_nk, dU_nc, dU_e, nI_ltI, nI_eq, nI_clamp, nI_add, nI_mul, inb_nI, nI_neg1, nI_ne1, nI_n1e, nI_neg1e, Nat.not_lt_zero, Nat.lt_irrefl, true_and, and_true, true_implies, false_implies, not_true_eq_false, not_false_eq_true, implies_true, forall_const, forall_eq, if_true, if_false, Nat.reduceEqDiff, eq_self, Nat.one_ne_zero, Nat.zero_ne_one, Nat.zero_add, Nat.add_zero, h11, e7]
    refine ⟨fun h1 => ?_, fun h1 => ?_⟩
    · rw [if_pos h1] at k
      exact k g1 a1 (f1.wk (by omega))
    · rw [if_neg h1, aRow_0] at k
      have h40 : nR D < 40 := by omega
      refine s37A a1 hw.1 h40 (fun g2 a2 f2 => ⟨_, rfl, ?_⟩)
      have hnn : ¬ nI (nR D) < nI 0 := nI_nn (by omega)
      simp (disch := omega) only [u3_nc, u3_ek, u3_nk, upd_e, upd_n, dU_nk, dU_nc, dU_e, nI_ltI, nI_eq, nI_clamp, nI_add, nI_mul, inb_nI, nI_neg1, nI_ne1, nI_n1e, nI_neg1e, Nat.not_lt_zero, Nat.lt_irrefl, true_and, and_true, true_implies, false_implies, not_true_eq_false, not_false_eq_true, implies_true, forall_const, forall_eq, if_true, if_false, Nat.reduceEqDiff, eq_self, Nat.one_ne_zero, Nat.zero_ne_one, Nat.zero_add, Nat.add_zero, hnn]
      have hP := PUT_new (sp := D 7 m) (v := v) (t := nI 0) (gp := nI 0) (ms := nI 0) (dd := dd) hw gn gb hm hv (by decide +kernel) (by omega)
      rw [← aStd_new hm, aRow_0] at hP
      refine s7 hi a2 hP (hG.fr f2 (by omega)) (fun g3 a3 f3 => ⟨rfl, ?_⟩)
      exact k g3 a3 ((f1.wk (by omega)).tr ((f2.wk (by omega)).tr (f3.wk (by omega))))
  · rw [if_pos (Decidable.not_not.mp h0)] at k
    exact k g hA (Fr.rf g)
theorem s162 {v : Int32} (h : MC g w D) (hw : CW D M) (gn : GNN D) (gb : GRB D) (hm : m < nR D) (hv : ∃ z, z < nV D ∧ v = nI z)
    (k : ∀ g', MC g' w (aMnt D m v dd).2 → FR w g g' → Φ (.inl (some (vI (aMnt D m v dd).1))) g') : Rn sc (d + 8) 162 [vR 0 70, vI (nI m), vI dd, vI v] g Φ := by
  have n40 := hw.1.2
  unfold aMnt at k
  refine Rn.of rfl (v162_0 ?_)
  refine s147 h.w h.l h.m h.r hm ⟨_, rfl, ?_⟩
  rw [show (fst9 (nR D) fun o => decide (D 10 o = D 6 m ∧ D 11 o = dd)) = onP D m dd from rfl, (eo_isSome (o := onP D m dd) (fun j h => (fst9_some h).1) n40).2]
  refine ⟨fun h0 => ?_, fun h0 => ?_⟩
  · rw [if_neg h0] at k
    unfold aTl at k
    refine s152 h gn hm (fun g1 f1 hM => ⟨_, rfl, ?_⟩)
    have m1 : MC g1 w D := h.fr f1 (by simp) (by simp)
    have w1 := m1.w
    have w10 := m1.l
    have n1 := m1.n
    have hcl := cntC_le (m := m) (dd := dd) n40
    have F1 : FR w g g1 := FR.p f1 (by omega)
    simp (disch := omega) only [u3_nc, u3_ek, u3_nk, upd_e, upd_n, dU_nk, dU_nc, dU_e, nI_ltI, nI_eq, nI_clamp, nI_add, nI_mul, inb_nI, nI_neg1, nI_ne1, nI_n1e, nI_neg1e, Nat.not_lt_zero, Nat.lt_irrefl, true_and, and_true, true_implies, false_implies, not_true_eq_false, not_false_eq_true, implies_true, forall_const, forall_eq, if_true, if_false, Nat.reduceEqDiff, eq_self, Nat.one_ne_zero, Nat.zero_ne_one, Nat.zero_add, Nat.add_zero, w1, n1]
    refine s154 m1 hw (Nat.le_refl _) hm hM ⟨_, rfl, ?_⟩
    rw [show ((folL D m).filter (cpb D m dd)).length = cntC D m dd from rfl]
    have q1 := m1.m.f1 m hm
    simp (disch := omega) only [u3_nc, u3_ek, u3_nk, upd_e, upd_n, dU_nk, dU_nc, dU_e, nI_ltI, nI_eq, nI_clamp, nI_add, nI_mul, inb_nI, nI_neg1, nI_ne1, nI_n1e, nI_neg1e, Nat.not_lt_zero, Nat.lt_irrefl, true_and, and_true, true_implies, false_implies, not_true_eq_false, not_false_eq_true, implies_true, forall_const, forall_eq, if_true, if_false, Nat.reduceEqDiff, eq_self, Nat.one_ne_zero, Nat.zero_ne_one, Nat.zero_add, Nat.add_zero, w1, q1]
    rw [show nR D + 1 + cntC D m dd = nR D + (1 + cntC D m dd) by omega]
    refine ⟨fun h1 => ?_, fun h1 => ?_⟩
    · rw [if_pos h1] at k
      exact k g1 m1 F1
    · rw [if_neg h1, aRow_0] at k
      have h40 : nR D < 40 := by omega
      have hP := PUT_new (sp := D 7 m) (v := v) (t := nI 0) (gp := nI 0) (ms := nI 0) (dd := dd) hw gn gb hm hv (by decide +kernel) (by omega)
      have hcn := cnt_new (sp := D 7 m) (v := v) (t := nI 0) (gp := nI 0) (ms := nI 0) (dd := dd) hw h40 hm
      rw [← aStd_new hm, aRow_0] at hP hcn
      refine s143 m1 h40 (fun g2 m2 F2 => ⟨_, rfl, ?_⟩)
      have w2 := m2.w
      have r2 : nR (aAdd D (nR D) (D 7 m) v (nI 0)) = nR D + 1 := nR_aAdd h40
      have q0 := m2.m.f0 m (by omega)
      rw [aAdd_old (by omega) (by decide)] at q0
      simp (disch := omega) only [u3_nc, u3_ek, u3_nk, upd_e, upd_n, dU_nk, dU_nc, dU_e, nI_ltI, nI_eq, nI_clamp, nI_add, nI_mul, inb_nI, nI_neg1, nI_ne1, nI_n1e, nI_neg1e, Nat.not_lt_zero, Nat.lt_irrefl, true_and, and_true, true_implies, false_implies, not_true_eq_false, not_false_eq_true, implies_true, forall_const, forall_eq, if_true, if_false, Nat.reduceEqDiff, eq_self, Nat.one_ne_zero, Nat.zero_ne_one, Nat.zero_add, Nat.add_zero, w2, q0]
      have p4 := m2.put (r := nR D) (k := 4) (v := D 6 m) (by omega) (by decide)
      have p5 := p4.put (r := nR D) (k := 5) (v := dd) (by rw [nR_dU (by omega)]; omega) (by decide)
      have F5 : Fm w g2 (u3 (u3 g2.1 0 71 (780 * w + (369 + 10 * nR D + 4)) (D 6 m)) 0 71 (780 * w + (369 + 10 * nR D + 5)) dd, g2.2) := (Fm.tr (MC.putF (r := nR D) (k := 4) (by omega) (by decide)) (MC.putF (r := nR D) (k := 5) (by omega) (by decide)) : _)
      have e5 : dU (dU (aAdd D (nR D) (D 7 m) v (nI 0)) (6 + 4) (nR D) (D 6 m)) (6 + 5) (nR D) dd = aStd (aAdd D (nR D) (D 7 m) v (nI 0)) m (nR D) dd := by unfold aStd; rw [aAdd_old (by omega) (by decide)]
      rw [e5] at p5
      refine s160 p5 hP ((hM.fr F2.1 (by simp) (by simp)).fr F5.1 (by simp) (by simp)) (fun g3 m3 f3 j3 l3 => ⟨_, rfl, ?_⟩)
      rw [hcn]
      simp (disch := omega) only [u3_nc, u3_ek, u3_nk, upd_e, upd_n, dU_nk, dU_nc, dU_e, nI_ltI, nI_eq, nI_clamp, nI_add, nI_mul, inb_nI, nI_neg1, nI_ne1, nI_n1e, nI_neg1e, Nat.not_lt_zero, Nat.lt_irrefl, true_and, and_true, true_implies, false_implies, not_true_eq_false, not_false_eq_true, implies_true, forall_const, forall_eq, if_true, if_false, Nat.reduceEqDiff, eq_self, Nat.one_ne_zero, Nat.zero_ne_one, Nat.zero_add, Nat.add_zero]
      exact k g3 m3 (F1.tr ((FR.m F2).tr ((FR.m F5).tr ⟨f3.wk (by omega), j3, l3⟩)))
  · rw [if_pos (Decidable.not_not.mp h0)] at k
    exact k g h (FR.rf w g)
end MB
