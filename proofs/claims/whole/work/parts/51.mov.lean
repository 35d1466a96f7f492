/-! MOVE, by the class's changer and by the reference -/
def UNQ (D : Nat → Nat → Int32) : Prop := ∀ a b, a < nR D → b < nR D → ¬ D 10 a = -nI 1 → D 10 a = D 10 b → D 11 a = D 11 b → a = b
noncomputable def cntM (D : Nat → Nat → Int32) (m x : Nat) (dd : Int32) : Nat := ((folL D m).filter (cpbM D m dd (nI x))).length
noncomputable def aMov (D : Nat → Nat → Int32) (x m : Nat) (dd : Int32) : Int32 × (Nat → Nat → Int32) :=
  if ¬ aRef D x m dd = nI 0 then (aRef D x m dd, D) else if 40 < nR D + cntM D m x dd then (-nI 8, D) else (nI (cntM D m x dd), aPut D D m x dd)
theorem aRef_ne {D : Nat → Nat → Int32} {x m : Nat} {dd : Int32} (h : aRef D x m dd = nI 0) : x ≠ m := by
  intro e
  subst e
  unfold aRef at h
  split at h
  · exact absurd h (by decide +kernel)
  · split at h
    · exact absurd h (by decide +kernel)
    · split at h
      · exact absurd h (by decide +kernel)
      · split at h
        · exact absurd h (by decide +kernel)
        · split at h
          · exact absurd h (by decide +kernel)
          · split at h
            · exact absurd h (by decide +kernel)
            · rw [if_pos (Or.inr (by unfold und; rw [if_pos rfl]))] at h
              exact absurd h (by decide +kernel)
theorem cntM_le {D : Nat → Nat → Int32} {m x : Nat} {dd : Int32} (h : nR D ≤ 40) : cntM D m x dd ≤ 40 := by
  unfold cntM
  have h1 := (List.Sublist.length_le (List.filter_sublist (p := cpbM D m dd (nI x)) (l := folL D m)))
  have h2 := folL_len (D := D) (r := m)
  omega
theorem aStd_c {D : Nat → Nat → Int32} {m x c k : Nat} {dd : Int32} (h : c ≠ 10 ∧ c ≠ 11) : aStd D m x dd c k = D c k := by
  unfold aStd; rw [dU_nc h.2, dU_nc h.1]
theorem aStd_k {D : Nat → Nat → Int32} {m x c k : Nat} {dd : Int32} (h : k ≠ x) : aStd D m x dd c k = D c k := by
  unfold aStd; rw [dU_nk h, dU_nk h]
theorem aStd_nR {D : Nat → Nat → Int32} {m x : Nat} {dd : Int32} : nR (aStd D m x dd) = nR D := by unfold aStd; rw [nR_dU (by omega), nR_dU (by omega)]
theorem cpbM_std {D : Nat → Nat → Int32} {m x M f : Nat} {dd : Int32} (hw : CW D M) (uq : UNQ D) (hx : x < nR D) (hm : m < nR D) (hf : f < nR D) : cpbM D m dd (nI x) f = cpb (aStd D m x dd) m dd f := by
  have n40 := hw.1.2
  unfold cpbM cpb
  by_cases hfm : f = m
  · rw [decide_eq_false (fun q => q hfm), Bool.false_and, Bool.false_and]
  rw [hasD_same (D := D) (E := aStd D m x dd) (aStd_c (by decide)) (aStd_c (by decide)) (funext fun _ => aStd_c (by decide)) (funext fun _ => aStd_c (by decide))]
  have e : decide (eo (onP D f dd) < nI 0 ∨ eo (onP D f dd) = nI x) = (onP (aStd D m x dd) f dd).isNone := by
    refine bool_iff ?_
    unfold onP
    rw [fst9_isNone, aStd_nR, aStd_c (by decide), decide_eq_true_iff]
    have ex10 : aStd D m x dd 10 x = D 6 m := by unfold aStd; rw [dU_nc (by decide), dU_e rfl rfl]
    have atx : decide (aStd D m x dd 10 x = D 6 f ∧ aStd D m x dd 11 x = dd) = false := decide_eq_false (fun q => by
      rw [ex10] at q
      exact hfm (hw.2.2.1.uq n40 hm hf q.1).symm)
    cases ho : fst9 (nR D) (fun o => decide (D 10 o = D 6 f ∧ D 11 o = dd)) with
    | none =>
      refine ⟨fun _ o hon => ?_, fun _ => Or.inl eo_none⟩
      by_cases hox : o = x
      · rw [hox]; exact atx
      · rw [aStd_k hox, aStd_k hox]; exact fst9_none ho o hon
    | some j =>
      obtain ⟨j1, j2, j3⟩ := fst9_some ho
      have j4 := of_decide_eq_true j2
      refine ⟨fun q o hon => ?_, fun q => ?_⟩
      · have hjx : j = x := by
          rcases q with q | q
          · exact absurd q (nI_nn (show j < 2 ^ 31 by omega))
          · exact (nI_eq (show j < 2 ^ 31 by omega) (show x < 2 ^ 31 by omega)).mp q
        by_cases hox : o = x
        · rw [hox]; exact atx
        · rw [aStd_k hox, aStd_k hox]
          refine decide_eq_false (fun z => hox ?_)
          subst hjx
          refine uq o j hon j1 ?_ (z.1.trans j4.1.symm) (z.2.trans j4.2.symm)
          rw [z.1]
          exact fun q => num_nn hw hf (by rw [q]; exact nI_neg1)
      · by_cases hjx : j = x
        · exact Or.inr (by rw [hjx]; rfl)
        · have := q j j1
          rw [aStd_k hjx, aStd_k hjx, j2] at this
          cases this
  rw [e]
section MV
variable {sc : SC} {d i w x m M : Nat} {g : Gs} {Φ : RS → Gs → Prop} {D : Nat → Nat → Int32} {dd : Int32}
theorem cnt_std (hw : CW D M) (uq : UNQ D) (hx : x < nR D) (hm : m < nR D) : (folL D m).filter (cpb (aStd D m x dd) m dd) = (folL D m).filter (cpbM D m dd (nI x)) := List.filter_congr (fun _ hf => (cpbM_std hw uq hx hm (folL_lt hf)).symm)
theorem PUT_std (hw : CW D M) (gn : GNN D) (gb : GRB D) (uq : UNQ D) (hx : x < nR D) (hm : m < nR D) (hxm : x ≠ m) (hc : nR D + cntM D m x dd ≤ 40) : PUT D (aStd D m x dd) m x dd M := by
  have h1 : CW (aStd D m x dd) M := (hw.du (Or.inr (by decide))).du (Or.inr (by decide))
  refine ⟨h1, by rw [aStd_nR]; exact Nat.le_refl _, hw.1.2, gn, by rw [aStd_nR]; exact hx, by rw [aStd_nR]; exact hm, hxm, (aStd_c (by decide)).symm, ?_, fun f hf => ⟨aStd_c (by decide), aStd_c (by decide)⟩, ?_, ?_⟩
  · rw [aStd_c (by decide)]; exact gb
  · unfold aStd; exact dU_e rfl rfl
  · rw [aStd_nR, cnt_std hw uq hx hm]; exact hc
theorem s3 (hi : fm i = i) (hA : At g i D) (hw : CW D M) (gn : GNN D) (gb : GRB D) (ok : OKP D) (uq : UNQ D) (hm : m < nR D) (hx : x < nR D)
    (k : ∀ g', At g' i (aMov D x m dd).2 → Fr (PC i) g g' → Φ (.inl (some (vI (aMov D x m dd).1))) g') : Rn sc (d + 5) 3 [vR i 40, vI (nI x), vI (nI m), vI dd] g Φ := by
  have n40 := hw.1.2
  unfold aMov at k
  refine Rn.of rfl (v3_0 ?_)
  refine s4 hi hA hw ok hm hx ⟨_, rfl, ?_⟩
  refine ⟨fun h0 => ?_, fun h0 => ?_⟩
  · rw [if_neg (fun q => q h0)] at k
    refine s6 hi hA hw hm (fun g1 f1 hG => ⟨_, rfl, ?_⟩)
    have hcl := cntM_le (m := m) (x := x) (dd := dd) n40
    rw [show ((folL D m).filter (cpbM D m dd (nI x))).length = cntM D m x dd from rfl]
    have a1 : At g1 i D := hA.fr f1 (by omega)
    have h11 : g1.1 i 0 11 = nI (nR D) := a1.k (by decide) hw.1.1
    simp (disch := omega) only [u3_nc, u3_ek, u3_nk, upd_e, upd_n, dU_nk, dU_nc, dU_e, nI_ltI, nI_eq, nI_clamp, nI_add, nI_mul, inb_nI, nI_neg1, nI_ne1, nI_n1e, nI_neg1e, Nat.not_lt_zero, Nat.lt_irrefl, true_and, and_true, true_implies, false_implies, not_true_eq_false, not_false_eq_true, implies_true, forall_const, forall_eq, if_true, if_false, Nat.reduceEqDiff, eq_self, Nat.one_ne_zero, Nat.zero_ne_one, Nat.zero_add, Nat.add_zero, hi, h11]
    refine ⟨fun h1 => ?_, fun h1 => ?_⟩
    · rw [if_pos h1] at k
      exact k g1 a1 (f1.wk (by omega))
    · rw [if_neg h1] at k
      refine s7 hi a1 (PUT_std hw gn gb uq hx hm (aRef_ne h0) (by omega)) hG (fun g2 a2 f2 => ⟨rfl, ?_⟩)
      exact k g2 a2 ((f1.wk (by omega)).tr (f2.wk (by omega)))
  · rw [if_pos h0] at k
    exact k g hA (Fr.rf g)
theorem s165 (h : MC g w D) (hw : CW D M) (gn : GNN D) (gb : GRB D) (bt : BIT D) (ok : OKP D) (rk : RNK D) (uq : UNQ D) (hm : m < nR D) (hx : x < nR D)
    (k : ∀ g', MC g' w (aMov D x m dd).2 → FR w g g' → Φ (.inl (some (vI (aMov D x m dd).1))) g') : Rn sc (d + 8) 165 [vR 0 70, vI (nI x), vI (nI m), vI dd] g Φ := by
  have n40 := hw.1.2
  have w0 := h.w
  have w10 := h.l
  have q4 := h.m.f4 x hx
  have q5 := h.m.f5 x hx
  unfold aMov at k
  refine Rn.of rfl (v165_0 ?_)
  refine s164 h hw gn bt ok rk hm hx ⟨_, rfl, ?_⟩
  refine ⟨fun h0 => ?_, fun h0 => ?_⟩
  · rw [if_neg (fun q => q h0)] at k
    simp (disch := omega) only [u3_nc, u3_ek, u3_nk, upd_e, upd_n, dU_nk, dU_nc, dU_e, nI_ltI, nI_eq, nI_clamp, nI_add, nI_mul, inb_nI, nI_neg1, nI_ne1, nI_n1e, nI_neg1e, Nat.not_lt_zero, Nat.lt_irrefl, true_and, and_true, true_implies, false_implies, not_true_eq_false, not_false_eq_true, implies_true, forall_const, forall_eq, if_true, if_false, Nat.reduceEqDiff, eq_self, Nat.one_ne_zero, Nat.zero_ne_one, Nat.zero_add, Nat.add_zero, w0, q4, q5]
    refine s152 h gn hm (fun g1 f1 hM => ⟨_, rfl, ?_⟩)
    have m1 : MC g1 w D := h.fr f1 (by simp) (by simp)
    have w1 := m1.w
    have n1 := m1.n
    have q0 := m1.m.f0 m hm
    have F1 : FR w g g1 := FR.p f1 (by omega)
    have hcl := cntM_le (m := m) (x := x) (dd := dd) n40
    simp (disch := omega) only [u3_nc, u3_ek, u3_nk, upd_e, upd_n, dU_nk, dU_nc, dU_e, nI_ltI, nI_eq, nI_clamp, nI_add, nI_mul, inb_nI, nI_neg1, nI_ne1, nI_n1e, nI_neg1e, Nat.not_lt_zero, Nat.lt_irrefl, true_and, and_true, true_implies, false_implies, not_true_eq_false, not_false_eq_true, implies_true, forall_const, forall_eq, if_true, if_false, Nat.reduceEqDiff, eq_self, Nat.one_ne_zero, Nat.zero_ne_one, Nat.zero_add, Nat.add_zero, w1, n1, q0]
    have p4 := m1.put (r := x) (k := 4) (v := D 6 m) hx (by decide)
    have p5 := p4.put (r := x) (k := 5) (v := dd) (by rw [nR_dU (by omega)]; exact hx) (by decide)
    have p5' : MC (u3 (u3 g1.1 0 71 (780 * w + (369 + 10 * x + 4)) (D 6 m)) 0 71 (780 * w + (369 + 10 * x + 5)) dd, g1.2) w (aStd D m x dd) := p5
    have F5 : Fm w g1 (u3 (u3 g1.1 0 71 (780 * w + (369 + 10 * x + 4)) (D 6 m)) 0 71 (780 * w + (369 + 10 * x + 5)) dd, g1.2) := (Fm.tr (MC.putF (r := x) (k := 4) (by omega) (by decide)) (MC.putF (r := x) (k := 5) (by omega) (by decide)) : _)
    have h1 : CW (aStd D m x dd) M := (hw.du (Or.inr (by decide))).du (Or.inr (by decide))
    have hM5 := hM.fr F5.1 (by simp) (by simp)
    refine s154 p5' h1 (by rw [aStd_nR]; exact Nat.le_refl _) (by rw [aStd_nR]; exact hm) hM5 ⟨_, rfl, ?_⟩
    rw [cnt_std hw uq hx hm, show ((folL D m).filter (cpbM D m dd (nI x))).length = cntM D m x dd from rfl]
    simp (disch := omega) only [u3_nc, u3_ek, u3_nk, upd_e, upd_n, dU_nk, dU_nc, dU_e, nI_ltI, nI_eq, nI_clamp, nI_add, nI_mul, inb_nI, nI_neg1, nI_ne1, nI_n1e, nI_neg1e, Nat.not_lt_zero, Nat.lt_irrefl, true_and, and_true, true_implies, false_implies, not_true_eq_false, not_false_eq_true, implies_true, forall_const, forall_eq, if_true, if_false, Nat.reduceEqDiff, eq_self, Nat.one_ne_zero, Nat.zero_ne_one, Nat.zero_add, Nat.add_zero]
    refine ⟨fun h2 => ?_, fun h2 => ?_⟩
    · rw [if_pos h2] at k
      have p6 := p5'.put (r := x) (k := 4) (v := D 10 x) (by rw [aStd_nR]; exact hx) (by decide)
      have p7 := p6.put (r := x) (k := 5) (v := D 11 x) (by rw [nR_dU (by omega), aStd_nR]; exact hx) (by decide)
      have eD : dU (dU (aStd D m x dd) (6 + 4) x (D 10 x)) (6 + 5) x (D 11 x) = D := by
        funext c z
        unfold dU aStd dU
        by_cases hz : z = x
        · subst hz
          by_cases hc : c = 11
          · subst hc; simp
          · by_cases hc2 : c = 10
            · subst hc2; simp
            · simp [hc, hc2]
        · simp [hz]
      rw [eD] at p7
      have F7 : Fm w g1 (u3 (u3 (u3 (u3 g1.1 0 71 (780 * w + (369 + 10 * x + 4)) (D 6 m)) 0 71 (780 * w + (369 + 10 * x + 5)) dd) 0 71 (780 * w + (369 + 10 * x + 4)) (D 10 x)) 0 71 (780 * w + (369 + 10 * x + 5)) (D 11 x), g1.2) := (Fm.tr (Fm.tr F5 (MC.putF (r := x) (k := 4) (by omega) (by decide))) (MC.putF (r := x) (k := 5) (by omega) (by decide)) : _)
      simp (disch := omega) only [u3_nc, u3_ek, u3_nk, upd_e, upd_n, dU_nk, dU_nc, dU_e, nI_ltI, nI_eq, nI_clamp, nI_add, nI_mul, inb_nI, nI_neg1, nI_ne1, nI_n1e, nI_neg1e, Nat.not_lt_zero, Nat.lt_irrefl, true_and, and_true, true_implies, false_implies, not_true_eq_false, not_false_eq_true, implies_true, forall_const, forall_eq, if_true, if_false, Nat.reduceEqDiff, eq_self, Nat.one_ne_zero, Nat.zero_ne_one, Nat.zero_add, Nat.add_zero, w1]
      exact k _ p7 (F1.tr (FR.m F7))
    · rw [if_neg h2] at k
      refine s160 p5' (PUT_std hw gn gb uq hx hm (aRef_ne h0) (by omega)) hM5 (fun g3 m3 f3 j3 l3 => ⟨_, rfl, ?_⟩)
      rw [cnt_std hw uq hx hm]
      exact k g3 m3 (F1.tr ((FR.m F5).tr ⟨f3.wk (by omega), j3, l3⟩))
  · rw [if_pos h0] at k
    exact k g h (FR.rf w g)
end MV
