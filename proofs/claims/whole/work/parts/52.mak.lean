/-! MAKE, by the class's changer and by the reference -/
def oth (D : Nat → Nat → Int32) (x : Nat) : Bool := (fst9 (nR D) fun o => decide (o ≠ x ∧ D 12 o = D 12 x)).isSome
theorem cnt_oth {D : Nat → Nat → Int32} {x : Nat} (hx : x < nR D) : 1 < cntF (fun r => decide (D 12 r = D 12 x)) (nR D) ↔ oth D x = true := by
  rw [← filter_len]
  have hxm : x ∈ (List.range (nR D)).filter (fun r => decide (D 12 r = D 12 x)) := List.mem_filter.mpr ⟨List.mem_range.mpr hx, decide_eq_true rfl⟩
  have hnd : ((List.range (nR D)).filter (fun r => decide (D 12 r = D 12 x))).Nodup := List.Pairwise.sublist List.filter_sublist List.nodup_range
  unfold oth
  cases ho : fst9 (nR D) (fun o => decide (o ≠ x ∧ D 12 o = D 12 x)) with
  | none =>
    refine ⟨fun h => ?_, fun h => absurd h Bool.false_ne_true⟩
    have := nodup_sub _ [x] hnd (fun y hy => by
      obtain ⟨h1, h2⟩ := List.mem_filter.mp hy
      have h3 := of_decide_eq_false (fst9_none ho y (List.mem_range.mp h1))
      by_cases e : y = x
      · rw [e]; exact List.mem_singleton.mpr rfl
      · exact absurd ⟨e, of_decide_eq_true h2⟩ h3)
    rw [List.length_singleton] at this
    omega
  | some o =>
    obtain ⟨o1, o2, -⟩ := fst9_some ho
    obtain ⟨o3, o4⟩ := of_decide_eq_true o2
    refine ⟨fun _ => rfl, fun _ => ?_⟩
    have := nodup_sub [o, x] _ (List.nodup_cons.mpr ⟨fun h => o3 (List.mem_singleton.mp h), List.nodup_cons.mpr ⟨fun h => (nomatch h), List.nodup_nil⟩⟩) (fun y hy => by
      rcases List.mem_cons.mp hy with e | e
      · rw [e]; exact (List.mem_filter (p := fun r => decide (D 12 r = D 12 x))).mpr ⟨List.mem_range.mpr o1, decide_eq_true o4⟩
      · rw [List.mem_singleton.mp e]; exact hxm)
    exact this
def aMak (D : Nat → Nat → Int32) (x : Nat) (kd : Int32) : Nat → Nat → Int32 :=
  if kd = nI 1 then (if D 12 x = nI 0 then dU (dU (dU D 14 x (if kd = nI 3 then nI 1 else nI 0)) 0 14 (D 0 14 + nI 1)) 12 x (D 0 14 + nI 1) else dU D 14 x (if kd = nI 3 then nI 1 else nI 0))
  else if kd = nI 2 then (if ¬ D 12 x = nI 0 ∧ oth D x = true then dU (dU (dU D 14 x (if kd = nI 3 then nI 1 else nI 0)) 13 x (D 12 x)) 12 x (nI 0) else dU (dU D 14 x (if kd = nI 3 then nI 1 else nI 0)) 12 x (nI 0))
  else dU (dU (dU D 14 x (if kd = nI 3 then nI 1 else nI 0)) 13 x (nI 0)) 12 x (nI 0)
section MK
variable {sc : SC} {d i w x M : Nat} {g : Gs} {Φ : RS → Gs → Prop} {D : Nat → Nat → Int32} {kd : Int32}
theorem s14 (hi : fm i = i) (hA : At g i D) (rk : ROK D) (hx : x < nR D) (k : Φ (.inl (some (vI (if oth D x = true then nI 1 else nI 0)))) g) : Rn sc (d + 1) 14 [vR i 40, vI (D 12 x), vI (nI x)] g Φ := by
  have n40 := rk.2
  have h11 : g.1 i 0 11 = nI (nR D) := hA.k (by decide) rk.1
  have e12 : g.1 i 12 = D 12 := hA 12 (by decide)
  unfold oth at k
  obtain ⟨n, hn⟩ : ∃ n, n = nR D := ⟨_, rfl⟩
  rw [← hn] at h11 n40 hx k
  refine Rn.of rfl (v14_0 ?_)
  refine srch (W := fun q => Xe sc d 14 2 [vR i 40, vI (D 12 x), vI (nI x), vI (nI q)] [] g Φ) (n := n) (p := fun o => decide (o ≠ x ∧ D 12 o = D 12 x)) (fun q hq hp hW => ?_) (fun q hs hq hp => ?_) (fun hs => ?_)
  · have hp2 := of_decide_eq_false hp
    refine v14_2 ?_
    simp (disch := omega) only [u3_nc, u3_ek, u3_nk, upd_e, upd_n, dU_nk, dU_nc, dU_e, nI_ltI, nI_eq, nI_clamp, nI_add, nI_mul, inb_nI, nI_neg1, nI_ne1, nI_n1e, nI_neg1e, Nat.not_lt_zero, Nat.lt_irrefl, true_and, and_true, true_implies, false_implies, not_true_eq_false, not_false_eq_true, implies_true, forall_const, forall_eq, if_true, if_false, Nat.reduceEqDiff, eq_self, Nat.one_ne_zero, Nat.zero_ne_one, Nat.zero_add, Nat.add_zero, hi, h11, hq, e12]
    exact ⟨fun _ => hW, fun h1 => ⟨fun h2 => absurd ⟨h1, h2⟩ hp2, fun _ => hW⟩⟩
  · obtain ⟨h1, h2⟩ := of_decide_eq_true hp
    rw [hs] at k
    refine v14_2 ?_
    simp (disch := omega) only [u3_nc, u3_ek, u3_nk, upd_e, upd_n, dU_nk, dU_nc, dU_e, nI_ltI, nI_eq, nI_clamp, nI_add, nI_mul, inb_nI, nI_neg1, nI_ne1, nI_n1e, nI_neg1e, Nat.not_lt_zero, Nat.lt_irrefl, true_and, and_true, true_implies, false_implies, not_true_eq_false, not_false_eq_true, implies_true, forall_const, forall_eq, if_true, if_false, Nat.reduceEqDiff, eq_self, Nat.one_ne_zero, Nat.zero_ne_one, Nat.zero_add, Nat.add_zero, hi, h11, hq, e12, h1, h2]
    exact k
  · rw [hs] at k
    refine v14_2 ?_
    simp (disch := omega) only [u3_nc, u3_ek, u3_nk, upd_e, upd_n, dU_nk, dU_nc, dU_e, nI_ltI, nI_eq, nI_clamp, nI_add, nI_mul, inb_nI, nI_neg1, nI_ne1, nI_n1e, nI_neg1e, Nat.not_lt_zero, Nat.lt_irrefl, true_and, and_true, true_implies, false_implies, not_true_eq_false, not_false_eq_true, implies_true, forall_const, forall_eq, if_true, if_false, Nat.reduceEqDiff, eq_self, Nat.one_ne_zero, Nat.zero_ne_one, Nat.zero_add, Nat.add_zero, hi, h11]
    exact k
theorem s13 (hi : fm i = i) (hA : At g i D) (rk : ROK D) (hx : x < nR D) (k : ∀ g', At g' i (aMak D x kd) → Fr (PD i) g g' → Φ (.inl (some (vI (aMak D x kd 12 x)))) g') : Rn sc (d + 2) 13 [vR i 40, vI (nI x), vI kd] g Φ := by
  have n40 := rk.2
  have e12 : g.1 i 12 = D 12 := hA 12 (by decide)
  have e0 : g.1 i 0 = D 0 := hA 0 (by decide)
  have s1n : ∀ {P : Prop}, kd = nI 1 → kd = nI 3 → P := fun h1 h3 => absurd (h1.symm.trans h3) (by decide +kernel)
  have s2n : ∀ {P : Prop}, kd = nI 2 → kd = nI 3 → P := fun h1 h3 => absurd (h1.symm.trans h3) (by decide +kernel)
  unfold aMak at k
  refine Rn.of rfl (v13_0 ?_)
  simp (disch := omega) only [u3_nc, u3_ek, u3_nk, upd_e, upd_n, dU_nk, dU_nc, dU_e, nI_ltI, nI_eq, nI_clamp, nI_add, nI_mul, inb_nI, nI_neg1, nI_ne1, nI_n1e, nI_neg1e, Nat.not_lt_zero, Nat.lt_irrefl, true_and, and_true, true_implies, false_implies, not_true_eq_false, not_false_eq_true, implies_true, forall_const, forall_eq, if_true, if_false, Nat.reduceEqDiff, eq_self, Nat.one_ne_zero, Nat.zero_ne_one, Nat.zero_add, Nat.add_zero, hi, e12, e0]
  refine ⟨fun h1 => ⟨fun h0 => ⟨fun h3 => s1n h1 h3, fun h3 => ?_⟩, fun h0 => ⟨fun h3 => s1n h1 h3, fun h3 => ?_⟩⟩, fun h1 => ⟨fun h2 => ⟨fun h0 => ⟨fun h3 => s2n h2 h3, fun h3 => ?_⟩, fun h0 => ?_⟩, fun h2 => ⟨fun h3 => ?_, fun h3 => ?_⟩⟩⟩
  · rw [if_pos h1, if_pos h0, if_neg h3] at k
    simp (disch := omega) only [u3_nc, u3_ek, u3_nk, upd_e, upd_n, dU_nk, dU_nc, dU_e, nI_ltI, nI_eq, nI_clamp, nI_add, nI_mul, inb_nI, nI_neg1, nI_ne1, nI_n1e, nI_neg1e, Nat.not_lt_zero, Nat.lt_irrefl, true_and, and_true, true_implies, false_implies, not_true_eq_false, not_false_eq_true, implies_true, forall_const, forall_eq, if_true, if_false, Nat.reduceEqDiff, eq_self, Nat.one_ne_zero, Nat.zero_ne_one, Nat.zero_add, Nat.add_zero] at k
    refine k _ ?_ (by repeat (first | exact Fr.rf _ | refine Fr.u3 ?_ ⟨rfl, by decide⟩))
    have := At.uc (c := 14) (k := x) (v := nI 0) (At.uc (c := 12) (k := x) (v := D 0 14 + nI 1) (At.uc (c := 0) (k := 14) (v := D 0 14 + nI 1) hA))
    rw [dU_cm (c := 12) (c2 := 14) (by decide), dU_cm (c := 0) (c2 := 14) (by decide)] at this
    exact this
  · rw [if_pos h1, if_neg h0, if_neg h3] at k
    simp (disch := omega) only [u3_nc, u3_ek, u3_nk, upd_e, upd_n, dU_nk, dU_nc, dU_e, nI_ltI, nI_eq, nI_clamp, nI_add, nI_mul, inb_nI, nI_neg1, nI_ne1, nI_n1e, nI_neg1e, Nat.not_lt_zero, Nat.lt_irrefl, true_and, and_true, true_implies, false_implies, not_true_eq_false, not_false_eq_true, implies_true, forall_const, forall_eq, if_true, if_false, Nat.reduceEqDiff, eq_self, Nat.one_ne_zero, Nat.zero_ne_one, Nat.zero_add, Nat.add_zero] at k
    refine k _ ?_ (by repeat (first | exact Fr.rf _ | refine Fr.u3 ?_ ⟨rfl, by decide⟩))
    have := At.uc (c := 14) (k := x) (v := nI 0) (At.uc (c := 12) (k := x) (v := D 12 x) hA)
    rw [dU_self (D := D) rfl] at this
    exact this
  · rw [if_neg h1, if_pos h2, if_neg (fun q => q.1 h0), if_neg h3] at k
    simp (disch := omega) only [u3_nc, u3_ek, u3_nk, upd_e, upd_n, dU_nk, dU_nc, dU_e, nI_ltI, nI_eq, nI_clamp, nI_add, nI_mul, inb_nI, nI_neg1, nI_ne1, nI_n1e, nI_neg1e, Nat.not_lt_zero, Nat.lt_irrefl, true_and, and_true, true_implies, false_implies, not_true_eq_false, not_false_eq_true, implies_true, forall_const, forall_eq, if_true, if_false, Nat.reduceEqDiff, eq_self, Nat.one_ne_zero, Nat.zero_ne_one, Nat.zero_add, Nat.add_zero] at k
    refine k _ ?_ (by repeat (first | exact Fr.rf _ | refine Fr.u3 ?_ ⟨rfl, by decide⟩))
    have := At.uc (c := 14) (k := x) (v := nI 0) (At.uc (c := 12) (k := x) (v := nI 0) hA)
    rw [dU_cm (c := 12) (c2 := 14) (by decide)] at this
    exact this
  · rw [if_neg h1, if_pos h2] at k
    refine s14 hi hA rk hx ⟨_, rfl, ?_⟩
    cases ho : oth D x with
    | true =>
      refine ⟨fun h => absurd h (by decide +kernel), fun _ => ⟨fun h3 => s2n h2 h3, fun h3 => ?_⟩⟩
      rw [if_pos ⟨h0, ho⟩, if_neg h3] at k
      simp (disch := omega) only [u3_nc, u3_ek, u3_nk, upd_e, upd_n, dU_nk, dU_nc, dU_e, nI_ltI, nI_eq, nI_clamp, nI_add, nI_mul, inb_nI, nI_neg1, nI_ne1, nI_n1e, nI_neg1e, Nat.not_lt_zero, Nat.lt_irrefl, true_and, and_true, true_implies, false_implies, not_true_eq_false, not_false_eq_true, implies_true, forall_const, forall_eq, if_true, if_false, Nat.reduceEqDiff, eq_self, Nat.one_ne_zero, Nat.zero_ne_one, Nat.zero_add, Nat.add_zero] at k
      refine k _ ?_ (by repeat (first | exact Fr.rf _ | refine Fr.u3 ?_ ⟨rfl, by decide⟩))
      have := At.uc (c := 14) (k := x) (v := nI 0) (At.uc (c := 12) (k := x) (v := nI 0) (At.uc (c := 13) (k := x) (v := D 12 x) hA))
      rw [dU_cm (c := 12) (c2 := 14) (by decide), dU_cm (c := 13) (c2 := 14) (by decide)] at this
      exact this
    | false =>
      refine ⟨fun _ => ⟨fun h3 => s2n h2 h3, fun h3 => ?_⟩, fun h => absurd rfl h⟩
      rw [if_neg (fun q => by rw [ho] at q; cases q.2), if_neg h3] at k
      simp (disch := omega) only [u3_nc, u3_ek, u3_nk, upd_e, upd_n, dU_nk, dU_nc, dU_e, nI_ltI, nI_eq, nI_clamp, nI_add, nI_mul, inb_nI, nI_neg1, nI_ne1, nI_n1e, nI_neg1e, Nat.not_lt_zero, Nat.lt_irrefl, true_and, and_true, true_implies, false_implies, not_true_eq_false, not_false_eq_true, implies_true, forall_const, forall_eq, if_true, if_false, Nat.reduceEqDiff, eq_self, Nat.one_ne_zero, Nat.zero_ne_one, Nat.zero_add, Nat.add_zero] at k
      refine k _ ?_ (by repeat (first | exact Fr.rf _ | refine Fr.u3 ?_ ⟨rfl, by decide⟩))
      have := At.uc (c := 14) (k := x) (v := nI 0) (At.uc (c := 12) (k := x) (v := nI 0) hA)
      rw [dU_cm (c := 12) (c2 := 14) (by decide)] at this
      exact this
  · rw [if_neg h1, if_neg h2, if_pos h3] at k
    simp (disch := omega) only [u3_nc, u3_ek, u3_nk, upd_e, upd_n, dU_nk, dU_nc, dU_e, nI_ltI, nI_eq, nI_clamp, nI_add, nI_mul, inb_nI, nI_neg1, nI_ne1, nI_n1e, nI_neg1e, Nat.not_lt_zero, Nat.lt_irrefl, true_and, and_true, true_implies, false_implies, not_true_eq_false, not_false_eq_true, implies_true, forall_const, forall_eq, if_true, if_false, Nat.reduceEqDiff, eq_self, Nat.one_ne_zero, Nat.zero_ne_one, Nat.zero_add, Nat.add_zero] at k
    refine k _ ?_ (by repeat (first | exact Fr.rf _ | refine Fr.u3 ?_ ⟨rfl, by decide⟩))
    have := At.uc (c := 14) (k := x) (v := nI 1) (At.uc (c := 13) (k := x) (v := nI 0) (At.uc (c := 12) (k := x) (v := nI 0) hA))
    rw [dU_cm (c := 13) (c2 := 14) (by decide), dU_cm (c := 12) (c2 := 14) (by decide), dU_cm (c := 12) (c2 := 13) (by decide)] at this
    exact this
  · rw [if_neg h1, if_neg h2, if_neg h3] at k
    simp (disch := omega) only [u3_nc, u3_ek, u3_nk, upd_e, upd_n, dU_nk, dU_nc, dU_e, nI_ltI, nI_eq, nI_clamp, nI_add, nI_mul, inb_nI, nI_neg1, nI_ne1, nI_n1e, nI_neg1e, Nat.not_lt_zero, Nat.lt_irrefl, true_and, and_true, true_implies, false_implies, not_true_eq_false, not_false_eq_true, implies_true, forall_const, forall_eq, if_true, if_false, Nat.reduceEqDiff, eq_self, Nat.one_ne_zero, Nat.zero_ne_one, Nat.zero_add, Nat.add_zero] at k
    refine k _ ?_ (by repeat (first | exact Fr.rf _ | refine Fr.u3 ?_ ⟨rfl, by decide⟩))
    have := At.uc (c := 14) (k := x) (v := nI 0) (At.uc (c := 13) (k := x) (v := nI 0) (At.uc (c := 12) (k := x) (v := nI 0) hA))
    rw [dU_cm (c := 13) (c2 := 14) (by decide), dU_cm (c := 12) (c2 := 14) (by decide), dU_cm (c := 12) (c2 := 13) (by decide)] at this
    exact this
theorem s169 (h : MC g w D) (gn : GNN D) (hx : x < nR D) (k : ∀ g', MC g' w (aMak D x kd) → Fm w g g' → Φ (.inl none) g') : Rn sc (d + 4) 169 [vR 0 70, vI (nI x), vI kd] g Φ := by
  have n40 := h.r.2
  have w0 := h.w
  have w10 := h.l
  have q6 := h.m.f6 x hx
  have c4 := h.m.2.2.2.1
  have gp := gnn_pos (gn x hx).1
  have F : ∀ {v : Int32} {k : Nat} (G : Gm), k < 10 → Fm w g (G, g.2) → Fm w g (u3 G 0 71 (780 * w + (369 + 10 * x + k)) v, g.2) := fun G hk hf => hf.tr (MC.putF (g := (G, g.2)) (by omega) hk)
  have body : ∀ sec : Int32, (if kd = nI 3 then nI 1 else nI 0) = sec → MC (u3 g.1 0 71 (780 * w + (369 + 10 * x + 8)) sec, g.2) w (dU D 14 x sec) ∧ Fm w g (u3 g.1 0 71 (780 * w + (369 + 10 * x + 8)) sec, g.2) := fun sec _ => ⟨h.put (k := 8) hx (by decide), F g.1 (by decide) (Fm.rf w g)⟩
  refine Rn.of rfl (v169_0 ?_)
  simp (disch := omega) only [u3_nc, u3_ek, u3_nk, upd_e, upd_n, dU_nk, dU_nc, dU_e, nI_ltI, nI_eq, nI_clamp, nI_add, nI_mul, inb_nI, nI_neg1, nI_ne1, nI_n1e, nI_neg1e, Nat.not_lt_zero, Nat.lt_irrefl, true_and, and_true, true_implies, false_implies, not_true_eq_false, not_false_eq_true, implies_true, forall_const, forall_eq, if_true, if_false, Nat.reduceEqDiff, eq_self, Nat.one_ne_zero, Nat.zero_ne_one, Nat.zero_add, Nat.add_zero, w0, q6, c4, gp]
  have main : ∀ sec : Int32, (if kd = nI 3 then nI 1 else nI 0) = sec →
      ((kd = nI 1 → (D 12 x = nI 0 → Φ (.inl none) (u3 (u3 (u3 g.1 0 71 (780 * w + (369 + 10 * x + 8)) sec) 0 71 (780 * w + 4) (D 0 14 + nI 1)) 0 71 (780 * w + (369 + 10 * x + 6)) (D 0 14 + nI 1), g.2)) ∧ (¬ D 12 x = nI 0 → Φ (.inl none) (u3 g.1 0 71 (780 * w + (369 + 10 * x + 8)) sec, g.2))) ∧
       (¬ kd = nI 1 → (kd = nI 2 → (¬ D 12 x = nI 0 → oth D x = true → Φ (.inl none) (u3 (u3 (u3 g.1 0 71 (780 * w + (369 + 10 * x + 8)) sec) 0 71 (780 * w + (369 + 10 * x + 7)) (D 12 x)) 0 71 (780 * w + (369 + 10 * x + 6)) (nI 0), g.2)) ∧ ((¬ (¬ D 12 x = nI 0 ∧ oth D x = true)) → Φ (.inl none) (u3 (u3 g.1 0 71 (780 * w + (369 + 10 * x + 8)) sec) 0 71 (780 * w + (369 + 10 * x + 6)) (nI 0), g.2))) ∧
        (¬ kd = nI 2 → Φ (.inl none) (u3 (u3 (u3 g.1 0 71 (780 * w + (369 + 10 * x + 8)) sec) 0 71 (780 * w + (369 + 10 * x + 7)) (nI 0)) 0 71 (780 * w + (369 + 10 * x + 6)) (nI 0), g.2)))) := by
    intro sec hs
    obtain ⟨m1, F1⟩ := body sec hs
    have hx1 : x < nR (dU D 14 x sec) := by rw [nR_dU (by omega)]; exact hx
    unfold aMak at k
    rw [hs] at k
    refine ⟨fun h1 => ⟨fun h0 => ?_, fun h0 => ?_⟩, fun h1 => ⟨fun h2 => ⟨fun h0 ho => ?_, fun h0 => ?_⟩, fun h2 => ?_⟩⟩
    · rw [if_pos h1, if_pos h0] at k
      have m2 := m1.putS (k := 4) (v := D 0 14 + nI 1) (by decide)
      rw [if_neg (by decide : ¬ (4 = 1))] at m2
      refine k _ (m2.put (k := 6) (v := D 0 14 + nI 1) (by rw [nR_dU (by omega)]; exact hx1) (by decide)) ?_
      exact F _ (by decide) (F1.tr (Fm.put (g := (u3 g.1 0 71 (780 * w + (369 + 10 * x + 8)) sec, g.2)) (by unfold MW; omega)))
    · rw [if_pos h1, if_neg h0] at k
      exact k _ m1 F1
    · rw [if_neg h1, if_pos h2, if_pos ⟨h0, ho⟩] at k
      have m2 := m1.put (k := 7) (v := D 12 x) hx1 (by decide)
      refine k _ (m2.put (k := 6) (v := nI 0) (by rw [nR_dU (by omega)]; exact hx1) (by decide)) ?_
      exact F _ (by decide) (F _ (by decide) F1)
    · rw [if_neg h1, if_pos h2, if_neg h0] at k
      refine k _ (m1.put (k := 6) (v := nI 0) hx1 (by decide)) ?_
      exact F _ (by decide) F1
    · rw [if_neg h1, if_neg h2] at k
      have m2 := m1.put (k := 7) (v := nI 0) hx1 (by decide)
      refine k _ (m2.put (k := 6) (v := nI 0) (by rw [nR_dU (by omega)]; exact hx1) (by decide)) ?_
      exact F _ (by decide) (F _ (by decide) F1)
  have two : ∀ sec : Int32, (if kd = nI 3 then nI 1 else nI 0) = sec → kd = nI 2 → ¬ kd = nI 1 → ¬ D 12 x = nI 0 → Rn sc (d + 3) 168 [vR 0 70, vI (D 12 x)] (u3 g.1 0 71 (780 * w + (369 + 10 * x + 8)) sec, g.2) (fun r g1 => ∃ r2 : Int32, r = .inl (some (vI r2)) ∧ g1 = (u3 g.1 0 71 (780 * w + (369 + 10 * x + 8)) sec, g.2) ∧ (nI 1 < r2 ↔ oth D x = true)) := by
    intro sec hs h2 h1 h0
    obtain ⟨m1, F1⟩ := body sec hs
    refine s168 m1.w m1.l m1.m m1.r ⟨_, rfl, rfl, ?_⟩
    rw [nR_dU (by omega)]
    have e : (fun r => decide (dU D 14 x sec 12 r = D 12 x)) = (fun r => decide (D 12 r = D 12 x)) := funext fun r => by rw [dU_nc (by decide)]
    rw [e, ← cnt_oth hx, nI_ltI (by omega) (by have := cntF_le (fun r => decide (D 12 r = D 12 x)) (nR D); omega)]
  refine ⟨fun h3 => ?_, fun h3 => ?_⟩
  · obtain ⟨a1, a2⟩ := main (nI 1) (if_pos h3)
    refine ⟨fun h1 => ⟨fun h0 => (a1 h1).1 h0, fun h0 => (a1 h1).2 h0⟩, fun h1 => ⟨fun h2 => ⟨fun h0 => ?_, fun h0 => ?_⟩, fun h2 => (a2 h1).2 h2⟩⟩
    · refine (two (nI 1) (if_pos h3) h2 h1 h0).mono (fun r g1 q => ?_)
      obtain ⟨r2, e1, e2, e3⟩ := q
      subst e2
      refine ⟨r2, e1, ?_⟩
      simp (disch := omega) only [u3_nc, u3_ek, u3_nk, upd_e, upd_n, dU_nk, dU_nc, dU_e, nI_ltI, nI_eq, nI_clamp, nI_add, nI_mul, inb_nI, nI_neg1, nI_ne1, nI_n1e, nI_neg1e, Nat.not_lt_zero, Nat.lt_irrefl, true_and, and_true, true_implies, false_implies, not_true_eq_false, not_false_eq_true, implies_true, forall_const, forall_eq, if_true, if_false, Nat.reduceEqDiff, eq_self, Nat.one_ne_zero, Nat.zero_ne_one, Nat.zero_add, Nat.add_zero, w0]
      exact ⟨fun h => ((a2 h1).1 h2).1 h0 (e3.mp h), fun h => ((a2 h1).1 h2).2 (fun q => h (e3.mpr q.2))⟩
    · exact ((a2 h1).1 h2).2 (fun q => h0 q.1)
  · obtain ⟨a1, a2⟩ := main (nI 0) (if_neg h3)
    refine ⟨fun h1 => ⟨fun h0 => (a1 h1).1 h0, fun h0 => (a1 h1).2 h0⟩, fun h1 => ⟨fun h2 => ⟨fun h0 => ?_, fun h0 => ?_⟩, fun h2 => (a2 h1).2 h2⟩⟩
    · refine (two (nI 0) (if_neg h3) h2 h1 h0).mono (fun r g1 q => ?_)
      obtain ⟨r2, e1, e2, e3⟩ := q
      subst e2
      refine ⟨r2, e1, ?_⟩
      simp (disch := omega) only [u3_nc, u3_ek, u3_nk, upd_e, upd_n, dU_nk, dU_nc, dU_e, nI_ltI, nI_eq, nI_clamp, nI_add, nI_mul, inb_nI, nI_neg1, nI_ne1, nI_n1e, nI_neg1e, Nat.not_lt_zero, Nat.lt_irrefl, true_and, and_true, true_implies, false_implies, not_true_eq_false, not_false_eq_true, implies_true, forall_const, forall_eq, if_true, if_false, Nat.reduceEqDiff, eq_self, Nat.one_ne_zero, Nat.zero_ne_one, Nat.zero_add, Nat.add_zero, w0]
      exact ⟨fun h => ((a2 h1).1 h2).1 h0 (e3.mp h), fun h => ((a2 h1).1 h2).2 (fun q => h (e3.mpr q.2))⟩
    · exact ((a2 h1).1 h2).2 (fun q => h0 q.1)
end MK
