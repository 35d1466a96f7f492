/-! THE LOOPS OF COPIES: the class over its list, the reference over its marks -/
theorem folL_rngN {D : Nat → Nat → Int32} {r : Nat} : ∀ k, (List.range (nR D + k)).filter (fun x => decide (x ∈ folL D r)) = folL D r := by
  intro k
  induction k with
  | zero => exact folL_rng
  | succ k ih =>
    rw [← Nat.add_assoc, List.range_succ, List.filter_append, ih]
    have : nR D + k ∉ folL D r := fun h => by have := folL_lt h; omega
    simp [this]
def upto (l : List Nat) (q : Nat) : List Nat := (List.range q).filter (fun x => decide (x ∈ l))
theorem upto_s {l : List Nat} {q : Nat} : upto l (q + 1) = if q ∈ l then upto l q ++ [q] else upto l q := by
  unfold upto
  rw [List.range_succ, List.filter_append]
  by_cases h : q ∈ l
  · rw [if_pos h]; simp [h]
  · rw [if_neg h]; simp [h]
theorem upto_take {D : Nat → Nat → Int32} {r q N : Nat} (hN : nR D ≤ N) (hq : q ≤ N) : upto (folL D r) q = (folL D r).take (upto (folL D r) q).length ∧ (upto (folL D r) q).length ≤ (folL D r).length := by
  obtain ⟨k, rfl⟩ : ∃ k, N = nR D + k := ⟨N - nR D, by omega⟩
  have h1 : upto (folL D r) (nR D + k) = folL D r := folL_rngN k
  have h2 : ∀ j, ∃ X, upto (folL D r) (q + j) = upto (folL D r) q ++ X := by
    intro j
    induction j with
    | zero => exact ⟨[], (List.append_nil _).symm⟩
    | succ j ih =>
      obtain ⟨X, hX⟩ := ih
      rw [← Nat.add_assoc, upto_s, hX]
      by_cases h : q + j ∈ folL D r
      · rw [if_pos h]; exact ⟨X ++ [q + j], List.append_assoc _ _ _⟩
      · rw [if_neg h]; exact ⟨X, rfl⟩
  obtain ⟨X, hX⟩ := h2 (nR D + k - q)
  rw [show q + (nR D + k - q) = nR D + k by omega, h1] at hX
  obtain ⟨U, hU⟩ : ∃ U, U = upto (folL D r) q := ⟨_, rfl⟩
  rw [← hU] at hX ⊢
  have hl := congrArg List.length hX
  rw [List.length_append] at hl
  refine ⟨?_, by omega⟩
  rw [hX, List.take_left']
  rfl
theorem nodup_take {l : List Nat} {q : Nat} (hd : l.Nodup) (hq : q < l.length) : l[q] ∉ l.take q := fun hm => by
  obtain ⟨j, hj, e⟩ := List.mem_iff_getElem.mp hm
  rw [List.getElem_take] at e
  rw [List.length_take] at hj
  have := (List.getElem_inj hd).mp e
  omega
theorem cpI_room {D0 Ds D : Nat → Nat → Int32} {L l : List Nat} {own its dd : Int32} {b m x M q : Nat} (hw : CW Ds M) (hd : l.Nodup) (hl : ∀ f ∈ l, f < nR Ds) (hx : x < nR Ds) (h40 : nR Ds + (l.filter (cpb Ds m dd)).length ≤ 40) (hq : q < l.length) (hD : D = (l.take q).foldl (cp1 D0 L own its b m x dd) Ds) : cpb D m dd l[q] = cpb Ds m dd l[q] ∧ (cpb D m dd l[q] = true → nR D < 40) := by
  obtain ⟨i1, i2, i3, i4, i5, i6, i7⟩ := cpI (D0 := D0) (L := L) (own := own) (its := its) (b := b) hw hd hl hx h40 q (by omega) D hD
  have hc := i4 _ (hl _ (List.getElem_mem hq)) (nodup_take hd hq)
  refine ⟨hc, fun h => ?_⟩
  rw [hc] at h
  have h1 : ((l.take (q + 1)).filter (cpb Ds m dd)).length ≤ (l.filter (cpb Ds m dd)).length := (List.Sublist.filter _ (List.take_sublist _ _)).length_le
  rw [List.take_succ_eq_append_getElem hq, List.filter_append, List.length_append, show (List.filter (cpb Ds m dd) [l[q]]).length = 1 by simp [h]] at h1
  omega
section LP
variable {sc : SC} {d i w x m r M : Nat} {g : Gs} {Φ : RS → Gs → Prop} {D Ds D0 : Nat → Nat → Int32} {l : List Nat} {own its dd : Int32} {b : Nat}
theorem eo_none : eo none < nI 0 := by decide +kernel
theorem s7L {w6 : AV} (hi : fm i = i) (hA : At g i Ds) (hw : CW Ds M) (hd : l.Nodup) (hl : ∀ f ∈ l, f < nR Ds) (hx : x < nR Ds) (hm : m < nR Ds) (h40 : nR Ds + (l.filter (cpb Ds m dd)).length ≤ 40) (h6 : ∀ f ∈ l, Ds 6 f = D0 6 f)
    (hG : GD g.1 i D0 l) (hO : OLD g.1 i 40 4 41 42 D0 l own its b (gK D0 l)) (hK : gK D0 l ≤ 40)
    (k : ∀ g', At g' i (l.foldl (cp1 D0 l own its b m x dd) Ds) → Fr (PD i) g g' → Φ (.inl none) g') : Xe sc (d + 3) 7 91 [vR i 40, vI (nI x), vI (nI m), vI dd, vI own, vI (nI 0), w6] [] g Φ := by
  have hll : l.length ≤ 40 := by
    have := nodup_len _ l hd hl
    have := hw.1.2
    omega
  revert w6
  refine turnsS (σ := Gs) (W := fun q s => ∀ {w6 : AV}, Xe sc (d + 3) 7 91 [vR i 40, vI (nI x), vI (nI m), vI dd, vI own, vI (nI q), w6] [] s Φ)
    (I := fun q s => Fr (PD i) g s ∧ At s i ((l.take q).foldl (cp1 D0 l own its b m x dd) Ds)) (n := l.length)
    (fun q s hq ⟨i1, i2⟩ hW w6 => ?_) (fun s ⟨i1, i2⟩ w6 => ?_) g ⟨Fr.rf g, hA⟩
  · obtain ⟨E, hE⟩ : ∃ E, E = (l.take q).foldl (cp1 D0 l own its b m x dd) Ds := ⟨_, rfl⟩
    obtain ⟨j1, j2, j3, j4, j5, j6, j7⟩ := cpI hw hd hl hx h40 q (by omega) E hE
    have hG2 := hG.fr i1 (by omega)
    have hO2 := hO.fr i1 (by omega) (by omega) (by omega)
    obtain ⟨f, hf⟩ : ∃ f, f = l[q] := ⟨_, rfl⟩
    have ht : l[q]? = some f := by rw [hf]; exact List.getElem?_eq_getElem hq
    have hfl : f ∈ l := by rw [hf]; exact List.getElem_mem hq
    have hfn := hl f hfl
    have hs : (l.take (q + 1)).foldl (cp1 D0 l own its b m x dd) Ds = cp1 D0 l own its b m x dd E f := by
      rw [List.take_succ_eq_append_getElem hq, ← hf, List.foldl_append, ← hE]; rfl
    rw [← hE] at i2
    rw [hs] at hW
    have hfE : f < nR E := by omega
    have hmE : m < nR E := by omega
    have hxE : x < nR E := by omega
    have eE := j1.1.2
    have e6 : D0 6 f = E 6 f := by rw [← h6 f hfl, j3 6 f (by decide) hfn]
    obtain ⟨g33, g34, g35⟩ := hG2.2 q f ht
    have h7 := hG2.1
    have hrow := j1.2.2.1.row (by omega) hfE
    rw [← e6] at hrow
    have hf0 : ¬ nI f < nI 0 := nI_nn (by omega)
    have skip : ¬ cpb E m dd f = true → ∀ {w6 : AV}, Xe sc (d + 3) 7 91 [vR i 40, vI (nI x), vI (nI m), vI dd, vI own, vI (nI (q + 1)), w6] [] s Φ := fun hc => hW s ⟨i1, by unfold cp1; rw [if_neg hc]; exact i2⟩
    refine v7_91 ?_
    simp (disch := omega) only [u3_nc, u3_ek, u3_nk, upd_e, upd_n, dU_nk, dU_nc, dU_e, nI_ltI, nI_eq, nI_clamp, nI_add, nI_mul, inb_nI, nI_neg1, nI_ne1, nI_n1e, nI_neg1e, Nat.not_lt_zero, Nat.lt_irrefl, true_and, and_true, true_implies, false_implies, not_true_eq_false, not_false_eq_true, implies_true, forall_const, forall_eq, if_true, if_false, Nat.reduceEqDiff, eq_self, Nat.one_ne_zero, Nat.zero_ne_one, Nat.zero_add, Nat.add_zero, h7, hq, hi, g33]
    refine s41A i2 j1.1 ⟨_, rfl, ?_⟩
    rw [hrow]
    show (nI f < nI 0 → _) ∧ (¬ nI f < nI 0 → _)
    refine ⟨fun h => absurd h hf0, fun _ => ?_⟩
    rw [show eo (some f) = nI f from rfl, nI_eq (by omega) (by omega)]
    refine ⟨fun hfm => skip (by unfold cpb; rw [decide_eq_false (fun h => h hfm)]; exact Bool.false_ne_true), fun hfm => ?_⟩
    refine s46A i2 j1 hfE ⟨_, rfl, ?_⟩
    by_cases hh : hasD E f dd = true
    · rw [if_pos hh]
      simp (disch := omega) only [u3_nc, u3_ek, u3_nk, upd_e, upd_n, dU_nk, dU_nc, dU_e, nI_ltI, nI_eq, nI_clamp, nI_add, nI_mul, inb_nI, nI_neg1, nI_ne1, nI_n1e, nI_neg1e, Nat.not_lt_zero, Nat.lt_irrefl, true_and, and_true, true_implies, false_implies, not_true_eq_false, not_false_eq_true, implies_true, forall_const, forall_eq, if_true, if_false, Nat.reduceEqDiff, eq_self, Nat.one_ne_zero, Nat.zero_ne_one, Nat.zero_add, Nat.add_zero]
      refine s42A i2 j1.1 hfE ⟨_, rfl, ?_⟩
      cases ho : onP E f dd with
      | none =>
        have hc : cpb E m dd f = true := by unfold cpb; rw [decide_eq_true hfm, hh, ho]; rfl
        have hn40 : nR E < 40 := (cpI_room hw hd hl hx h40 hq hE).2 (by rw [← hf]; exact hc)
        have e34 : s.1 i 34 q = D0 12 f := g34
        have don : ∀ g', At g' i (cp1 D0 l own its b m x dd E f) → Fr (PD i) s g' → ∀ {w6 : AV}, Xe sc (d + 3) 7 91 [vR i 40, vI (nI x), vI (nI m), vI dd, vI own, vI (nI (q + 1)), w6] [] g' Φ := fun g' h1 h2 => hW g' ⟨i1.tr h2, h1⟩
        refine ⟨fun _ => ⟨fun hs2 => ?_, fun hs2 => ?_⟩, fun h => absurd eo_none h⟩
        · rw [e34] at hs2
          refine s10 (fl := true) hi i2 j1.1 hn40 hxE hfE hG2 ht hll hO2 hK (fun g' a' f' => ⟨rfl, don g' ?_ f'⟩)
          unfold cp1
          rw [if_pos hc, if_pos hs2, if_pos hs2]
          exact a'
        · rw [e34] at hs2
          refine s10 (fl := false) hi i2 j1.1 hn40 hxE hfE hG2 ht hll hO2 hK (fun g' a' f' => ⟨rfl, don g' ?_ f'⟩)
          unfold cp1
          rw [if_pos hc, if_neg hs2, if_neg hs2]
          exact a'
      | some j =>
        have hj : j < nR E := (fst9_some ho).1
        have hj0 : ¬ nI j < nI 0 := nI_nn (by omega)
        refine ⟨fun h => absurd h hj0, fun _ => ?_⟩
        refine skip (by unfold cpb; rw [ho, show (some j).isNone = false from rfl, Bool.and_false, Bool.and_false]; exact Bool.false_ne_true)
    · rw [if_neg hh]
      simp (disch := omega) only [u3_nc, u3_ek, u3_nk, upd_e, upd_n, dU_nk, dU_nc, dU_e, nI_ltI, nI_eq, nI_clamp, nI_add, nI_mul, inb_nI, nI_neg1, nI_ne1, nI_n1e, nI_neg1e, Nat.not_lt_zero, Nat.lt_irrefl, true_and, and_true, true_implies, false_implies, not_true_eq_false, not_false_eq_true, implies_true, forall_const, forall_eq, if_true, if_false, Nat.reduceEqDiff, eq_self, Nat.one_ne_zero, Nat.zero_ne_one, Nat.zero_add, Nat.add_zero]
      refine skip (by unfold cpb; rw [Bool.eq_false_iff.mpr hh, Bool.false_and, Bool.and_false]; exact Bool.false_ne_true)
  · have h7 := (hG.fr i1 (by omega)).1
    refine v7_91 ?_
    simp (disch := omega) only [u3_nc, u3_ek, u3_nk, upd_e, upd_n, dU_nk, dU_nc, dU_e, nI_ltI, nI_eq, nI_clamp, nI_add, nI_mul, inb_nI, nI_neg1, nI_ne1, nI_n1e, nI_neg1e, Nat.not_lt_zero, Nat.lt_irrefl, true_and, and_true, true_implies, false_implies, not_true_eq_false, not_false_eq_true, implies_true, forall_const, forall_eq, if_true, if_false, Nat.reduceEqDiff, eq_self, Nat.one_ne_zero, Nat.zero_ne_one, Nat.zero_add, Nat.add_zero, h7]
    rw [List.take_length] at i2
    exact k s i2 i1
theorem s153 {f : Nat} (h : MC g w D) (hw : CW D M) (hf : f < nR D) (hm : m < nR D) (h72 : g.1 0 72 f = if f ∈ l then nI 1 else nI 0) (k : Φ (.inl (some (vI (if f ∈ l ∧ cpb D m dd f = true then nI 1 else nI 0)))) g) : Rn sc (d + 6) 153 [vR 0 70, vI (nI f), vI (nI m), vI dd] g Φ := by
  have h40 := h.r.2
  obtain ⟨⟨v, hv, h8⟩, h9⟩ := hw.2.2.2 f hf
  refine Rn.of rfl (v153_0 ?_)
  simp (disch := omega) only [u3_nc, u3_ek, u3_nk, upd_e, upd_n, dU_nk, dU_nc, dU_e, nI_ltI, nI_eq, nI_clamp, nI_add, nI_mul, inb_nI, nI_neg1, nI_ne1, nI_n1e, nI_neg1e, Nat.not_lt_zero, Nat.lt_irrefl, true_and, and_true, true_implies, false_implies, not_true_eq_false, not_false_eq_true, implies_true, forall_const, forall_eq, if_true, if_false, Nat.reduceEqDiff, eq_self, Nat.one_ne_zero, Nat.zero_ne_one, Nat.zero_add, Nat.add_zero, h72]
  by_cases hfl : f ∈ l
  · rw [if_pos hfl]
    simp (disch := omega) only [u3_nc, u3_ek, u3_nk, upd_e, upd_n, dU_nk, dU_nc, dU_e, nI_ltI, nI_eq, nI_clamp, nI_add, nI_mul, inb_nI, nI_neg1, nI_ne1, nI_n1e, nI_neg1e, Nat.not_lt_zero, Nat.lt_irrefl, true_and, and_true, true_implies, false_implies, not_true_eq_false, not_false_eq_true, implies_true, forall_const, forall_eq, if_true, if_false, Nat.reduceEqDiff, eq_self, Nat.one_ne_zero, Nat.zero_ne_one, Nat.zero_add, Nat.add_zero]
    refine ⟨fun he => ?_, fun he => ?_⟩
    · rw [if_neg (fun q => by have := q.2; unfold cpb at this; rw [decide_eq_false (fun h => h he), Bool.false_and] at this; cases this)] at k
      exact k
    · refine s146 h.w h.l h.m h.r h.v h.vk hf h8 hv h9 ⟨_, rfl, ?_⟩
      by_cases hh : hasD D f dd = true
      · rw [if_pos hh]
        simp (disch := omega) only [u3_nc, u3_ek, u3_nk, upd_e, upd_n, dU_nk, dU_nc, dU_e, nI_ltI, nI_eq, nI_clamp, nI_add, nI_mul, inb_nI, nI_neg1, nI_ne1, nI_n1e, nI_neg1e, Nat.not_lt_zero, Nat.lt_irrefl, true_and, and_true, true_implies, false_implies, not_true_eq_false, not_false_eq_true, implies_true, forall_const, forall_eq, if_true, if_false, Nat.reduceEqDiff, eq_self, Nat.one_ne_zero, Nat.zero_ne_one, Nat.zero_add, Nat.add_zero]
        refine s147 h.w h.l h.m h.r hf ⟨_, rfl, ?_⟩
        rw [show (fst9 (nR D) fun o => decide (D 10 o = D 6 f ∧ D 11 o = dd)) = onP D f dd from rfl]
        cases ho : onP D f dd with
        | none =>
          rw [if_pos ⟨hfl, by unfold cpb; rw [decide_eq_true he, hh, ho]; rfl⟩] at k
          exact ⟨fun _ => k, fun h => absurd rfl h⟩
        | some j =>
          rw [if_neg (fun q => by have := q.2; unfold cpb at this; rw [ho, show (some j).isNone = false from rfl, Bool.and_false, Bool.and_false] at this; cases this)] at k
          have hj : j < nR D := (fst9_some ho).1
          exact ⟨fun h => absurd h (by show ¬ nI j = -nI 1; exact fun q => nI_ne1 (by omega) q), fun _ => k⟩
      · rw [if_neg hh]
        rw [if_neg (fun q => by have := q.2; unfold cpb at this; rw [Bool.eq_false_iff.mpr hh, Bool.false_and, Bool.and_false] at this; cases this)] at k
        simp (disch := omega) only [u3_nc, u3_ek, u3_nk, upd_e, upd_n, dU_nk, dU_nc, dU_e, nI_ltI, nI_eq, nI_clamp, nI_add, nI_mul, inb_nI, nI_neg1, nI_ne1, nI_n1e, nI_neg1e, Nat.not_lt_zero, Nat.lt_irrefl, true_and, and_true, true_implies, false_implies, not_true_eq_false, not_false_eq_true, implies_true, forall_const, forall_eq, if_true, if_false, Nat.reduceEqDiff, eq_self, Nat.one_ne_zero, Nat.zero_ne_one, Nat.zero_add, Nat.add_zero]
        exact k
  · rw [if_neg hfl]
    rw [if_neg (fun q => hfl q.1)] at k
    simp (disch := omega) only [u3_nc, u3_ek, u3_nk, upd_e, upd_n, dU_nk, dU_nc, dU_e, nI_ltI, nI_eq, nI_clamp, nI_add, nI_mul, inb_nI, nI_neg1, nI_ne1, nI_n1e, nI_neg1e, Nat.not_lt_zero, Nat.lt_irrefl, true_and, and_true, true_implies, false_implies, not_true_eq_false, not_false_eq_true, implies_true, forall_const, forall_eq, if_true, if_false, Nat.reduceEqDiff, eq_self, Nat.one_ne_zero, Nat.zero_ne_one, Nat.zero_add, Nat.add_zero]
    exact k
end LP
