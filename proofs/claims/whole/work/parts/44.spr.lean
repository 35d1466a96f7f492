/-! SPREADS' LOOP; counting the copies before they are made -/
theorem upto_nth {D : Nat → Nat → Int32} {r q N : Nat} (hN : nR D ≤ N) (hq : q < N) (hm : q ∈ folL D r) : ∃ t, ∃ h : t < (folL D r).length, upto (folL D r) q = (folL D r).take t ∧ (folL D r)[t] = q ∧ upto (folL D r) (q + 1) = (folL D r).take (t + 1) := by
  obtain ⟨h1, h2⟩ := upto_take (D := D) (r := r) hN (Nat.le_of_lt hq)
  obtain ⟨h3, h4⟩ := upto_take (D := D) (r := r) hN hq
  have hs := upto_s (l := folL D r) (q := q)
  rw [if_pos hm] at hs
  obtain ⟨t, ht⟩ : ∃ t, t = (upto (folL D r) q).length := ⟨_, rfl⟩
  have hl : (upto (folL D r) (q + 1)).length = t + 1 := by rw [hs, List.length_append, ← ht]; rfl
  rw [hl] at h3 h4
  rw [← ht] at h1 h2
  refine ⟨t, by omega, h1, ?_, h3⟩
  rw [hs, List.take_succ_eq_append_getElem (by omega), ← h1] at h3
  have := List.append_cancel_left h3
  exact (List.cons.inj this).1.symm
def cpbM (D : Nat → Nat → Int32) (m : Nat) (dd mv : Int32) (f : Nat) : Bool := decide (f ≠ m) && (hasD D f dd && decide (eo (onP D f dd) < nI 0 ∨ eo (onP D f dd) = mv))
section LQ
variable {sc : SC} {d i w x m r M : Nat} {g : Gs} {Φ : RS → Gs → Prop} {D Ds D0 : Nat → Nat → Int32} {l : List Nat} {own its dd : Int32} {b : Nat}
theorem s160L (h : MC g w Ds) (hw : CW Ds M) (h0 : nR D0 ≤ nR Ds) (gn : GNN D0) (hx : x < nR Ds) (hm : m < nR Ds) (h40 : nR Ds + ((folL D0 r).filter (cpb Ds m dd)).length ≤ 40) (h13 : ∀ f ∈ folL D0 r, Ds 13 f = D0 13 f) (h11 : Ds 11 x = dd)
    (hM : Mrk g.1 D0 (folL D0 r)) (hO : OLD g.1 0 70 8 74 75 D0 (folL D0 r) own its b (gK D0 (folL D0 r)))
    (k : ∀ g', MC g' w ((folL D0 r).foldl (cp1 D0 (folL D0 r) own its b m x dd) Ds) → Fm w g g' → Φ (.inl (some (vI (nI ((folL D0 r).filter (cpb Ds m dd)).length)))) g') : Xe sc (d + 6) 160 60 [vR 0 70, vI (nI x), vI (nI m), vI dd, vI own, vI (nI (nR Ds)), vI (nI 0), vI (nI 0)] [] g Φ := by
  have n40 := h.r.2
  have hd := folL_nd D0 r
  have hl : ∀ f ∈ folL D0 r, f < nR Ds := fun f hf => by have := folL_lt hf; omega
  obtain ⟨N, hN⟩ : ∃ N, N = nR Ds := ⟨_, rfl⟩
  suffices H : Xe sc (d + 6) 160 60 [vR 0 70, vI (nI x), vI (nI m), vI dd, vI own, vI (nI N), vI (nI ((upto (folL D0 r) 0).filter (cpb Ds m dd)).length), vI (nI 0)] [] g Φ by rw [hN] at H; exact H
  refine turnsS (σ := Gs) (W := fun q s => Xe sc (d + 6) 160 60 [vR 0 70, vI (nI x), vI (nI m), vI dd, vI own, vI (nI N), vI (nI ((upto (folL D0 r) q).filter (cpb Ds m dd)).length), vI (nI q)] [] s Φ)
    (I := fun q s => Fm w g s ∧ MC s w ((upto (folL D0 r) q).foldl (cp1 D0 (folL D0 r) own its b m x dd) Ds)) (n := N)
    (fun q s hq ⟨i1, i2⟩ hW => ?_) (fun s ⟨i1, i2⟩ => ?_) g ⟨Fm.rf w g, h⟩
  · obtain ⟨E, hE⟩ : ∃ E, E = (upto (folL D0 r) q).foldl (cp1 D0 (folL D0 r) own its b m x dd) Ds := ⟨_, rfl⟩
    rw [← hE] at i2
    obtain ⟨u1, u2⟩ := upto_take (D := D0) (r := r) h0 (by omega : q ≤ nR Ds)
    have hE' := hE
    rw [u1] at hE'
    obtain ⟨j1, j2, j3, j4, j5, j6, j7⟩ := cpI hw hd hl hx h40 _ u2 E hE'
    have hM2 := hM.fr i1.1 (by simp) (by simp)
    have hO2 := hO.fr i1.1 (by simp) (by simp) (by simp)
    have eE := j1.1.2
    obtain ⟨c, hc⟩ : ∃ c, c = ((upto (folL D0 r) q).filter (cpb Ds m dd)).length := ⟨_, rfl⟩
    rw [← hc]
    have hs := upto_s (l := folL D0 r) (q := q)
    refine v160_60 ?_
    simp (disch := omega) only [u3_nc, u3_ek, u3_nk, upd_e, upd_n, dU_nk, dU_nc, dU_e, nI_ltI, nI_eq, nI_clamp, nI_add, nI_mul, inb_nI, nI_neg1, nI_ne1, nI_n1e, nI_neg1e, Nat.not_lt_zero, Nat.lt_irrefl, true_and, and_true, true_implies, false_implies, not_true_eq_false, not_false_eq_true, implies_true, forall_const, forall_eq, if_true, if_false, Nat.reduceEqDiff, eq_self, Nat.one_ne_zero, Nat.zero_ne_one, Nat.zero_add, Nat.add_zero, hq]
    refine s153 (l := folL D0 r) i2 j1 (by omega) (by omega) (hM2.1 q (by omega)) ⟨_, rfl, ?_⟩
    by_cases hql : q ∈ folL D0 r
    · rw [if_pos hql] at hs
      obtain ⟨t, ht, t1, t2, t3⟩ := upto_nth h0 (by omega : q < nR Ds) hql
      have hE2 := hE
      rw [t1] at hE2
      obtain ⟨r1, r2⟩ := cpI_room hw hd hl hx h40 ht hE2
      rw [t2] at r1 r2
      rw [hs] at hW
      simp only [List.filter_append, List.length_append, List.foldl_append, ← hE, ← hc] at hW
      by_cases hb : cpb E m dd q = true
      · rw [if_pos ⟨hql, hb⟩]
        have hb2 : cpb Ds m dd q = true := r1 ▸ hb
        have e1 : (List.filter (cpb Ds m dd) [q]).length = 1 := by simp [hb2]
        rw [e1] at hW
        simp (disch := omega) only [u3_nc, u3_ek, u3_nk, upd_e, upd_n, dU_nk, dU_nc, dU_e, nI_ltI, nI_eq, nI_clamp, nI_add, nI_mul, inb_nI, nI_neg1, nI_ne1, nI_n1e, nI_neg1e, Nat.not_lt_zero, Nat.lt_irrefl, true_and, and_true, true_implies, false_implies, not_true_eq_false, not_false_eq_true, implies_true, forall_const, forall_eq, if_true, if_false, Nat.reduceEqDiff, eq_self, Nat.one_ne_zero, Nat.zero_ne_one, Nat.zero_add, Nat.add_zero]
        refine s159 i2 (r2 hb) (by omega) (by omega) (folL_lt hql) (by omega) gn hM2 hO2 (by rw [j3 13 q (by decide) (by omega)]; exact h13 q hql) (by rw [j3 11 x (by decide) hx]; exact h11) (fun g' m' f' => ⟨rfl, hW g' ⟨i1.tr f', ?_⟩⟩)
        rw [List.foldl_cons, List.foldl_nil]
        unfold cp1
        rw [if_pos hb]
        exact m'
      · rw [if_neg (fun q => hb q.2)]
        have hb2 : ¬ cpb Ds m dd q = true := fun q => hb (r1 ▸ q)
        have e1 : (List.filter (cpb Ds m dd) [q]).length = 0 := by simp [hb2]
        rw [e1] at hW
        simp (disch := omega) only [u3_nc, u3_ek, u3_nk, upd_e, upd_n, dU_nk, dU_nc, dU_e, nI_ltI, nI_eq, nI_clamp, nI_add, nI_mul, inb_nI, nI_neg1, nI_ne1, nI_n1e, nI_neg1e, Nat.not_lt_zero, Nat.lt_irrefl, true_and, and_true, true_implies, false_implies, not_true_eq_false, not_false_eq_true, implies_true, forall_const, forall_eq, if_true, if_false, Nat.reduceEqDiff, eq_self, Nat.one_ne_zero, Nat.zero_ne_one, Nat.zero_add, Nat.add_zero]
        refine hW s ⟨i1, ?_⟩
        rw [List.foldl_cons, List.foldl_nil]
        unfold cp1
        rw [if_neg hb]
        exact i2
    · rw [if_neg hql] at hs
      rw [hs, ← hE, ← hc] at hW
      rw [if_neg (fun q => hql q.1)]
      simp (disch := omega) only [u3_nc, u3_ek, u3_nk, upd_e, upd_n, dU_nk, dU_nc, dU_e, nI_ltI, nI_eq, nI_clamp, nI_add, nI_mul, inb_nI, nI_neg1, nI_ne1, nI_n1e, nI_neg1e, Nat.not_lt_zero, Nat.lt_irrefl, true_and, and_true, true_implies, false_implies, not_true_eq_false, not_false_eq_true, implies_true, forall_const, forall_eq, if_true, if_false, Nat.reduceEqDiff, eq_self, Nat.one_ne_zero, Nat.zero_ne_one, Nat.zero_add, Nat.add_zero]
      exact hW s ⟨i1, i2⟩
  · refine v160_60 ?_
    simp (disch := omega) only [u3_nc, u3_ek, u3_nk, upd_e, upd_n, dU_nk, dU_nc, dU_e, nI_ltI, nI_eq, nI_clamp, nI_add, nI_mul, inb_nI, nI_neg1, nI_ne1, nI_n1e, nI_neg1e, Nat.not_lt_zero, Nat.lt_irrefl, true_and, and_true, true_implies, false_implies, not_true_eq_false, not_false_eq_true, implies_true, forall_const, forall_eq, if_true, if_false, Nat.reduceEqDiff, eq_self, Nat.one_ne_zero, Nat.zero_ne_one, Nat.zero_add, Nat.add_zero]
    have e : upto (folL D0 r) N = folL D0 r := by
      obtain ⟨z, hz⟩ : ∃ z, N = nR D0 + z := ⟨N - nR D0, by omega⟩
      rw [hz]; exact folL_rngN z
    rw [e] at i2 ⊢
    exact k s i2 i1
theorem s154 (h : MC g w D) (hw : CW D M) (h0 : nR D0 ≤ nR D) (hm : m < nR D) (hM : Mrk g.1 D0 (folL D0 r)) (k : Φ (.inl (some (vI (nI ((folL D0 r).filter (cpb D m dd)).length)))) g) : Rn sc (d + 7) 154 [vR 0 70, vI (nI m), vI dd] g Φ := by
  have n40 := h.r.2
  have hn := h.n
  have hww := h.w
  have w10 := h.l
  obtain ⟨N, hN⟩ : ∃ N, N = nR D := ⟨_, rfl⟩
  rw [← hN] at hn
  refine Rn.of rfl (v154_0 ?_)
  refine turns (W := fun q => Xe sc (d + 6) 154 5 [vR 0 70, vI (nI m), vI dd, vI (nI ((upto (folL D0 r) q).filter (cpb D m dd)).length), vI (nI q)] [] g Φ) (n := N) (fun q hq hW => ?_) ?_
  · obtain ⟨c, hc⟩ : ∃ c, c = ((upto (folL D0 r) q).filter (cpb D m dd)).length := ⟨_, rfl⟩
    rw [← hc]
    have hq40 : q < 40 := by omega
    refine v154_5 ?_
    simp (disch := omega) only [u3_nc, u3_ek, u3_nk, upd_e, upd_n, dU_nk, dU_nc, dU_e, nI_ltI, nI_eq, nI_clamp, nI_add, nI_mul, inb_nI, nI_neg1, nI_ne1, nI_n1e, nI_neg1e, Nat.not_lt_zero, Nat.lt_irrefl, true_and, and_true, true_implies, false_implies, not_true_eq_false, not_false_eq_true, implies_true, forall_const, forall_eq, if_true, if_false, Nat.reduceEqDiff, eq_self, Nat.one_ne_zero, Nat.zero_ne_one, Nat.zero_add, Nat.add_zero, hww, hn, hq, hq40]
    refine s153 (l := folL D0 r) h hw (by omega) hm (hM.1 q (by omega)) ⟨_, rfl, ?_⟩
    have hs := upto_s (l := folL D0 r) (q := q)
    by_cases hql : q ∈ folL D0 r
    · rw [if_pos hql] at hs
      rw [hs, List.filter_append, List.length_append, ← hc] at hW
      by_cases hb : cpb D m dd q = true
      · rw [if_pos ⟨hql, hb⟩]
        rw [show (List.filter (cpb D m dd) [q]).length = 1 by simp [hb]] at hW
        simp (disch := omega) only [u3_nc, u3_ek, u3_nk, upd_e, upd_n, dU_nk, dU_nc, dU_e, nI_ltI, nI_eq, nI_clamp, nI_add, nI_mul, inb_nI, nI_neg1, nI_ne1, nI_n1e, nI_neg1e, Nat.not_lt_zero, Nat.lt_irrefl, true_and, and_true, true_implies, false_implies, not_true_eq_false, not_false_eq_true, implies_true, forall_const, forall_eq, if_true, if_false, Nat.reduceEqDiff, eq_self, Nat.one_ne_zero, Nat.zero_ne_one, Nat.zero_add, Nat.add_zero]
        exact hW
      · rw [if_neg (fun q => hb q.2)]
        rw [show (List.filter (cpb D m dd) [q]).length = 0 by simp [hb]] at hW
        simp (disch := omega) only [u3_nc, u3_ek, u3_nk, upd_e, upd_n, dU_nk, dU_nc, dU_e, nI_ltI, nI_eq, nI_clamp, nI_add, nI_mul, inb_nI, nI_neg1, nI_ne1, nI_n1e, nI_neg1e, Nat.not_lt_zero, Nat.lt_irrefl, true_and, and_true, true_implies, false_implies, not_true_eq_false, not_false_eq_true, implies_true, forall_const, forall_eq, if_true, if_false, Nat.reduceEqDiff, eq_self, Nat.one_ne_zero, Nat.zero_ne_one, Nat.zero_add, Nat.add_zero]
        exact hW
    · rw [if_neg hql] at hs
      rw [hs, ← hc] at hW
      rw [if_neg (fun q => hql q.1)]
      simp (disch := omega) only [u3_nc, u3_ek, u3_nk, upd_e, upd_n, dU_nk, dU_nc, dU_e, nI_ltI, nI_eq, nI_clamp, nI_add, nI_mul, inb_nI, nI_neg1, nI_ne1, nI_n1e, nI_neg1e, Nat.not_lt_zero, Nat.lt_irrefl, true_and, and_true, true_implies, false_implies, not_true_eq_false, not_false_eq_true, implies_true, forall_const, forall_eq, if_true, if_false, Nat.reduceEqDiff, eq_self, Nat.one_ne_zero, Nat.zero_ne_one, Nat.zero_add, Nat.add_zero]
      exact hW
  · have e : upto (folL D0 r) N = folL D0 r := by
      obtain ⟨z, hz⟩ : ∃ z, N = nR D0 + z := ⟨N - nR D0, by omega⟩
      rw [hz]; exact folL_rngN z
    rw [e]
    refine v154_5 ?_
    simp (disch := omega) only [u3_nc, u3_ek, u3_nk, upd_e, upd_n, dU_nk, dU_nc, dU_e, nI_ltI, nI_eq, nI_clamp, nI_add, nI_mul, inb_nI, nI_neg1, nI_ne1, nI_n1e, nI_neg1e, Nat.not_lt_zero, Nat.lt_irrefl, true_and, and_true, true_implies, false_implies, not_true_eq_false, not_false_eq_true, implies_true, forall_const, forall_eq, if_true, if_false, Nat.reduceEqDiff, eq_self, Nat.one_ne_zero, Nat.zero_ne_one, Nat.zero_add, Nat.add_zero, hww, hn]
    exact ⟨fun _ => k, fun _ => k⟩
theorem s6 {mv : Int32} (hi : fm i = i) (hA : At g i D) (hw : CW D M) (hm : m < nR D) (k : ∀ g', Fr (PF i) g g' → GD g'.1 i D (folL D m) → Φ (.inl (some (vI (nI ((folL D m).filter (cpbM D m dd mv)).length)))) g') : Rn sc (d + 3) 6 [vR i 40, vI (nI m), vI dd, vI mv] g Φ := by
  refine Rn.of rfl (v6_0 ?_)
  refine s19 (fun c hc => by rw [hi]; exact hA c hc) hw.1 hm (fun g1 f1 hG => ⟨rfl, ?_⟩)
  have n40 := hw.1.2
  have hlen := folL_len (D := D) (r := m)
  have hA1 : At g1 i D := fun c hc => (f1.1 i c (by omega)).trans (hA c hc)
  suffices H : ∀ w6 w7, Xe sc (d + 2) 6 14 [vR i 40, vI (nI m), vI dd, vI mv, vI (nI (((folL D m).take 0).filter (cpbM D m dd mv)).length), vI (nI 0), w6, w7] [] g1 Φ from H vU vU
  refine turns (W := fun q => ∀ w6 w7, Xe sc (d + 2) 6 14 [vR i 40, vI (nI m), vI dd, vI mv, vI (nI (((folL D m).take q).filter (cpbM D m dd mv)).length), vI (nI q), w6, w7] [] g1 Φ) (n := (folL D m).length) (fun q hq hW w6 w7 => ?_) (fun w6 w7 => ?_)
  · obtain ⟨f, hf⟩ : ∃ f, f = (folL D m)[q] := ⟨_, rfl⟩
    have ht : (folL D m)[q]? = some f := by rw [hf]; exact List.getElem?_eq_getElem hq
    have hfn := folL_lt (by rw [hf]; exact List.getElem_mem hq : f ∈ folL D m)
    obtain ⟨c, hc⟩ : ∃ c, c = (((folL D m).take q).filter (cpbM D m dd mv)).length := ⟨_, rfl⟩
    rw [← hc]
    rw [List.take_succ_eq_append_getElem hq, ← hf, List.filter_append, List.length_append, ← hc] at hW
    obtain ⟨g33, g34, g35⟩ := hG.2 q f ht
    have h7 := hG.1
    have hrow := hw.2.2.1.row (by omega) hfn
    have hf0 : ¬ nI f < nI 0 := nI_nn (by omega)
    have yes : cpbM D m dd mv f = true → ∀ w6 w7, Xe sc (d + 2) 6 14 [vR i 40, vI (nI m), vI dd, vI mv, vI (nI (c + 1)), vI (nI (q + 1)), w6, w7] [] g1 Φ := fun hb => by
      rw [show (List.filter (cpbM D m dd mv) [f]).length = 1 by simp [hb]] at hW; exact hW
    have no : ¬ cpbM D m dd mv f = true → ∀ w6 w7, Xe sc (d + 2) 6 14 [vR i 40, vI (nI m), vI dd, vI mv, vI (nI c), vI (nI (q + 1)), w6, w7] [] g1 Φ := fun hb => by
      rw [show (List.filter (cpbM D m dd mv) [f]).length = 0 by simp [hb]] at hW; exact hW
    unfold cpbM at yes no
    refine v6_14 ?_
    simp (disch := omega) only [u3_nc, u3_ek, u3_nk, upd_e, upd_n, dU_nk, dU_nc, dU_e, nI_ltI, nI_eq, nI_clamp, nI_add, nI_mul, inb_nI, nI_neg1, nI_ne1, nI_n1e, nI_neg1e, Nat.not_lt_zero, Nat.lt_irrefl, true_and, and_true, true_implies, false_implies, not_true_eq_false, not_false_eq_true, implies_true, forall_const, forall_eq, if_true, if_false, Nat.reduceEqDiff, eq_self, Nat.one_ne_zero, Nat.zero_ne_one, Nat.zero_add, Nat.add_zero, h7, hq, hi, g33]
    refine s41A hA1 hw.1 ⟨_, rfl, ?_⟩
    rw [hrow]
    show (nI f < nI 0 → _) ∧ (¬ nI f < nI 0 → _)
    refine ⟨fun h => absurd h hf0, fun _ => ?_⟩
    rw [show eo (some f) = nI f from rfl, nI_eq (by omega) (by omega)]
    refine ⟨fun hfm => no (by rw [decide_eq_false (fun h => h hfm)]; exact Bool.false_ne_true) _ _, fun hfm => ?_⟩
    refine s46A hA1 hw hfn ⟨_, rfl, ?_⟩
    by_cases hh : hasD D f dd = true
    · rw [if_pos hh]
      rw [hh, decide_eq_true hfm] at yes no
      simp (disch := omega) only [u3_nc, u3_ek, u3_nk, upd_e, upd_n, dU_nk, dU_nc, dU_e, nI_ltI, nI_eq, nI_clamp, nI_add, nI_mul, inb_nI, nI_neg1, nI_ne1, nI_n1e, nI_neg1e, Nat.not_lt_zero, Nat.lt_irrefl, true_and, and_true, true_implies, false_implies, not_true_eq_false, not_false_eq_true, implies_true, forall_const, forall_eq, if_true, if_false, Nat.reduceEqDiff, eq_self, Nat.one_ne_zero, Nat.zero_ne_one, Nat.zero_add, Nat.add_zero]
      refine s42A hA1 hw.1 hfn ⟨_, rfl, ?_⟩
      refine ⟨fun h1 => yes (by rw [decide_eq_true (Or.inl h1)]; rfl) _ _, fun h1 => ⟨fun h2 => yes (by rw [decide_eq_true (Or.inr h2)]; rfl) _ _, fun h2 => no (by rw [decide_eq_false (fun q => q.elim h1 h2)]; exact Bool.false_ne_true) _ _⟩⟩
    · rw [if_neg hh]
      simp (disch := omega) only [u3_nc, u3_ek, u3_nk, upd_e, upd_n, dU_nk, dU_nc, dU_e, nI_ltI, nI_eq, nI_clamp, nI_add, nI_mul, inb_nI, nI_neg1, nI_ne1, nI_n1e, nI_neg1e, Nat.not_lt_zero, Nat.lt_irrefl, true_and, and_true, true_implies, false_implies, not_true_eq_false, not_false_eq_true, implies_true, forall_const, forall_eq, if_true, if_false, Nat.reduceEqDiff, eq_self, Nat.one_ne_zero, Nat.zero_ne_one, Nat.zero_add, Nat.add_zero]
      exact no (by rw [Bool.eq_false_iff.mpr hh, Bool.false_and, Bool.and_false]; exact Bool.false_ne_true) _ _
  · have h7 := hG.1
    refine v6_14 ?_
    simp (disch := omega) only [u3_nc, u3_ek, u3_nk, upd_e, upd_n, dU_nk, dU_nc, dU_e, nI_ltI, nI_eq, nI_clamp, nI_add, nI_mul, inb_nI, nI_neg1, nI_ne1, nI_n1e, nI_neg1e, Nat.not_lt_zero, Nat.lt_irrefl, true_and, and_true, true_implies, false_implies, not_true_eq_false, not_false_eq_true, implies_true, forall_const, forall_eq, if_true, if_false, Nat.reduceEqDiff, eq_self, Nat.one_ne_zero, Nat.zero_ne_one, Nat.zero_add, Nat.add_zero, h7]
    rw [List.take_length]
    exact k g1 f1 hG
end LQ
