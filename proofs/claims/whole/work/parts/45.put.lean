/-! PUT: a mount on its place, and its copies on the followers -/
theorem CW.du {D : Nat → Nat → Int32} {M c k : Nat} {v : Int32} (h : CW D M) (hc : (c = 0 ∧ k ≠ 11 ∧ k ≠ 13) ∨ 10 ≤ c) : CW (dU D c k v) M := by
  obtain ⟨r, vk, nb, rw'⟩ := h
  have hr : nR (dU D c k v) = nR D := nR_dU (by omega)
  have hs : SameV D (dU D c k v) := sameV_dU (by omega)
  have e : ∀ c' k', (c' = 0 ∧ k' = 13) ∨ (6 ≤ c' ∧ c' < 10) → dU D c k v c' k' = D c' k' := fun c' k' hq => by
    by_cases h2 : c' = c
    · rw [dU_nk (by omega)]
    · rw [dU_nc h2]
  refine ⟨rok_dU (by omega) r, vk.same hs, ?_, fun a ha => ?_⟩
  · unfold NB mk nmr
    rw [hr, e 0 13 (by omega)]
    refine ⟨nb.1, nb.2.1, nb.2.2.1, fun a ha => ?_⟩
    rw [e 6 a (by omega)]
    refine ⟨(nb.2.2.2 a ha).1, (nb.2.2.2 a ha).2.1, fun b hb => ?_⟩
    rw [e 6 b (by omega)]
    exact (nb.2.2.2 a ha).2.2 b hb
  · rw [hr] at ha
    rw [sameV_nV hs, e 8 a (by omega), e 9 a (by omega)]
    exact rw' a ha
theorem onP_dU {D : Nat → Nat → Int32} {c k f : Nat} {v dd : Int32} (hc : (c = 0 ∧ k ≠ 11) ∨ 12 ≤ c) : onP (dU D c k v) f dd = onP D f dd := by
  unfold onP
  rw [nR_dU (by omega)]
  refine fst9_congr (fun o ho => ?_)
  rw [dU_nc (by omega), dU_nc (by omega), dU_nc (by omega)]
theorem cpb_dU {D : Nat → Nat → Int32} {c k m : Nat} {v dd : Int32} (hc : (c = 0 ∧ k ≠ 11) ∨ 12 ≤ c) : cpb (dU D c k v) m dd = cpb D m dd := by
  funext f
  unfold cpb
  rw [onP_dU hc, hasD_same (D := D) (dU_nc (by omega)) (dU_nc (by omega)) (funext fun _ => dU_nc (by omega)) (funext fun _ => dU_nc (by omega))]
/-- what spreads does once the mount stands on its place -/
noncomputable def aSpr (D0 D : Nat → Nat → Int32) (m x : Nat) (dd : Int32) : Nat → Nat → Int32 :=
  if D 12 m = nI 0 then D
  else if D 12 x = nI 0 then (folL D0 m).foldl (cp1 D0 (folL D0 m) (D 12 m) (nI ((D 0 14).toNatClampNeg + 1)) ((D 0 14).toNatClampNeg + 1) m x dd) (dU (dU (dU D 0 14 (nI ((D 0 14).toNatClampNeg + 1))) 12 x (nI ((D 0 14).toNatClampNeg + 1))) 0 14 (nI ((D 0 14).toNatClampNeg + 1 + nwg D0 (folL D0 m) (D 12 m) (gK D0 (folL D0 m)))))
  else (folL D0 m).foldl (cp1 D0 (folL D0 m) (D 12 m) (D 12 x) (D 0 14).toNatClampNeg m x dd) (dU D 0 14 (nI ((D 0 14).toNatClampNeg + nwg D0 (folL D0 m) (D 12 m) (gK D0 (folL D0 m)))))
def aStd (D : Nat → Nat → Int32) (m x : Nat) (dd : Int32) : Nat → Nat → Int32 := dU (dU D 10 x (D 6 m)) 11 x dd
noncomputable def aPut (D0 D : Nat → Nat → Int32) (m x : Nat) (dd : Int32) : Nat → Nat → Int32 := aSpr D0 (aStd D m x dd) m x dd
abbrev P7 (i : Nat) : Nat → Nat → Prop := fun i' c => i' = i ∧ (c < 16 ∨ (40 ≤ c ∧ c ≤ 42))
abbrev P160 : Nat → Nat → Prop := fun i c => i = 0 ∧ (70 ≤ c ∧ c ≤ 71 ∨ c = 74 ∨ c = 75)
/-- what a put needs of the two states -/
def PUT (D0 D : Nat → Nat → Int32) (m x : Nat) (dd : Int32) (M : Nat) : Prop := CW D M ∧ nR D0 ≤ nR D ∧ nR D0 ≤ 40 ∧ GNN D0 ∧ x < nR D ∧ m < nR D ∧ x ≠ m ∧ D0 12 m = D 12 m ∧ (∃ b, D 0 14 = nI b ∧ b < 2 ^ 30) ∧ (∀ f ∈ folL D0 m, D 6 f = D0 6 f ∧ D 13 f = D0 13 f) ∧ D 11 x = dd ∧ nR D + ((folL D0 m).filter (cpb D m dd)).length ≤ 40
section PT
variable {sc : SC} {d i w x m M : Nat} {g : Gs} {Φ : RS → Gs → Prop} {D D0 : Nat → Nat → Int32} {dd : Int32}
theorem s7 (hi : fm i = i) (hA : At g i D) (hp : PUT D0 (aStd D m x dd) m x dd M) (hG : GD g.1 i D0 (folL D0 m))
    (k : ∀ g', At g' i (aPut D0 D m x dd) → Fr (P7 i) g g' → Φ (.inl none) g') : Rn sc (d + 4) 7 [vR i 40, vI (nI x), vI (nI m), vI dd] g Φ := by
  have hr : nR (aStd D m x dd) = nR D := by unfold aStd; rw [nR_dU (by omega), nR_dU (by omega)]
  obtain ⟨p1, p2, p3, p4, p5, p6, p7, p8, ⟨b, p9, pb⟩, p10, p11, p12⟩ := hp
  have n40 := p1.1.2
  rw [hr] at p5 p6 n40
  have e12 : ∀ z, aStd D m x dd 12 z = D 12 z := fun z => by unfold aStd; rw [dU_nc (by omega), dU_nc (by omega)]
  have e14 : D 0 14 = nI b := by rw [← p9]; unfold aStd; rw [dU_nc (by omega), dU_nc (by omega)]
  have ecl : (D 0 14).toNatClampNeg = b := by rw [e14, nI_clamp (by omega)]
  have ecl2 : (aStd D m x dd 0 14).toNatClampNeg = b := by rw [p9, nI_clamp (by omega)]
  have g6 : g.1 i 6 = D 6 := hA 6 (by decide)
  have g12 : g.1 i 12 = D 12 := hA 12 (by decide)
  have g14 : g.1 i 0 14 = nI b := hA.k (by decide) e14
  have a2 : At (u3 (u3 g.1 i 10 x (D 6 m)) i 11 x dd, g.2) i (aStd D m x dd) := At.uc (At.uc hA)
  have hll : (folL D0 m).length ≤ 40 := by have := folL_len (D := D0) (r := m); omega
  have hl : ∀ f ∈ folL D0 m, f < nR (aStd D m x dd) := fun f hf => by have := folL_lt hf; omega
  have hK := gK_spec (D := D0) (fun x hx => folL_lt hx : ∀ x ∈ folL D0 m, x < nR D0) p3
  unfold aPut aSpr at k
  rw [e12, e12, ecl2] at k
  refine Rn.of rfl (v7_0 ?_)
  simp (disch := omega) only [u3_nc, u3_ek, u3_nk, upd_e, upd_n, dU_nk, dU_nc, dU_e, nI_ltI, nI_eq, nI_clamp, nI_add, nI_mul, inb_nI, nI_neg1, nI_ne1, nI_n1e, nI_neg1e, Nat.not_lt_zero, Nat.lt_irrefl, true_and, and_true, true_implies, false_implies, not_true_eq_false, not_false_eq_true, implies_true, forall_const, forall_eq, if_true, if_false, Nat.reduceEqDiff, eq_self, Nat.one_ne_zero, Nat.zero_ne_one, Nat.zero_add, Nat.add_zero, hi, g6, g12, g14]
  refine ⟨fun h0 => ?_, fun h0 => ⟨fun h1 => ?_, fun h1 => ?_⟩⟩
  · rw [if_pos h0] at k
    exact k _ a2 (by repeat (first | exact Fr.rf _ | refine Fr.u3 ?_ ⟨rfl, by decide⟩))
  · rw [if_neg h0, if_pos h1] at k
    have f5 : Fr (P7 i) g (u3 (u3 (u3 (u3 g.1 i 10 x (D 6 m)) i 11 x dd) i 0 14 (nI (b + 1))) i 12 x (nI (b + 1)), g.2) := by repeat (first | exact Fr.rf _ | refine Fr.u3 ?_ ⟨rfl, by decide⟩)
    have a5 : At (u3 (u3 (u3 (u3 g.1 i 10 x (D 6 m)) i 11 x dd) i 0 14 (nI (b + 1))) i 12 x (nI (b + 1)), g.2) i (dU (dU (aStd D m x dd) 0 14 (nI (b + 1))) 12 x (nI (b + 1))) := At.uc (At.uc a2)
    have hG5 := hG.fr f5 (by omega)
    refine s8 (l := folL D0 m) (b := b + 1) hi a5 (by rw [dU_nc (by decide), dU_e rfl rfl]) hG5 hll hK (fun g6 f6 a6 o6 => ⟨rfl, ?_⟩)
    have c6 : CW (dU (dU (dU (aStd D m x dd) 0 14 (nI (b + 1))) 12 x (nI (b + 1))) 0 14 (nI (b + 1 + nwg D0 (folL D0 m) (D 12 m) (gK D0 (folL D0 m))))) M := ((p1.du (by omega)).du (by omega)).du (by omega)
    refine s7L (l := folL D0 m) hi a6 c6 (folL_nd _ _) ?_ ?_ ?_ ?_ ?_ (hG5.fr f6 (by omega)) o6 hK.2.1 (fun g' a' f' => k g' a' ?_)
    · rw [nR_dU (by omega), nR_dU (by omega), nR_dU (by omega)]; exact hl
    · rw [nR_dU (by omega), nR_dU (by omega), nR_dU (by omega), hr]; exact p5
    · rw [nR_dU (by omega), nR_dU (by omega), nR_dU (by omega), hr]; exact p6
    · rw [nR_dU (by omega), nR_dU (by omega), nR_dU (by omega), cpb_dU (by omega), cpb_dU (by omega), cpb_dU (by omega)]; exact p12
    · intro f hf
      rw [dU_nc (by omega), dU_nc (by omega), dU_nc (by omega)]; exact (p10 f hf).1
    · exact (f5.tr (f6.wk (by omega))).tr (f'.wk (by omega))
  · rw [if_neg h0, if_neg h1] at k
    have f5 : Fr (P7 i) g (u3 (u3 g.1 i 10 x (D 6 m)) i 11 x dd, g.2) := by repeat (first | exact Fr.rf _ | refine Fr.u3 ?_ ⟨rfl, by decide⟩)
    have hG5 := hG.fr f5 (by omega)
    refine s8 (l := folL D0 m) (b := b) hi a2 p9 hG5 hll hK (fun g6 f6 a6 o6 => ⟨rfl, ?_⟩)
    refine s7L (l := folL D0 m) hi a6 (p1.du (by omega)) (folL_nd _ _) ?_ ?_ ?_ ?_ ?_ (hG5.fr f6 (by omega)) o6 hK.2.1 (fun g' a' f' => k g' a' ?_)
    · rw [nR_dU (by omega)]; exact hl
    · rw [nR_dU (by omega), hr]; exact p5
    · rw [nR_dU (by omega), hr]; exact p6
    · rw [nR_dU (by omega), cpb_dU (by omega)]; exact p12
    · intro f hf
      rw [dU_nc (by omega)]; exact (p10 f hf).1
    · exact (f5.tr (f6.wk (by omega))).tr (f'.wk (by omega))
theorem s160 (h : MC g w D) (hp : PUT D0 D m x dd M) (hM : Mrk g.1 D0 (folL D0 m))
    (k : ∀ g', MC g' w (aSpr D0 D m x dd) → Fr P160 g g' → (∀ j, ¬ MW w j → g'.1 0 71 j = g.1 0 71 j) → (∀ k, k ≠ 8 → g'.1 0 70 k = g.1 0 70 k) → Φ (.inl (some (vI (nI ((folL D0 m).filter (cpb D m dd)).length)))) g') : Rn sc (d + 7) 160 [vR 0 70, vI (nI x), vI (nI m), vI dd] g Φ := by
  obtain ⟨p1, p2, p3, p4, p5, p6, p7, p8, ⟨b, p9, pb⟩, p10, p11, p12⟩ := hp
  have n40 := p1.1.2
  have w10 := h.l
  have hw := h.w
  have fm6 := h.m.f6 m p6
  have fx6 := h.m.f6 x p5
  have c4 := h.m.2.2.2.1
  rw [p9] at c4
  have ecl : (D 0 14).toNatClampNeg = b := by rw [p9, nI_clamp (by omega)]
  unfold aSpr at k
  rw [ecl] at k
  refine Rn.of rfl (v160_0 ?_)
  simp (disch := omega) only [u3_nc, u3_ek, u3_nk, upd_e, upd_n, dU_nk, dU_nc, dU_e, nI_ltI, nI_eq, nI_clamp, nI_add, nI_mul, inb_nI, nI_neg1, nI_ne1, nI_n1e, nI_neg1e, Nat.not_lt_zero, Nat.lt_irrefl, true_and, and_true, true_implies, false_implies, not_true_eq_false, not_false_eq_true, implies_true, forall_const, forall_eq, if_true, if_false, Nat.reduceEqDiff, eq_self, Nat.one_ne_zero, Nat.zero_ne_one, Nat.zero_add, Nat.add_zero, hw, fm6, fx6, c4]
  refine ⟨fun h0 => ?_, fun h0 => ⟨fun h1 => ?_, fun h1 => ?_⟩⟩
  · rw [if_pos h0, show folL D0 m = [] from if_pos (p8.trans h0)] at k
    exact k g h (Fr.rf g) (fun _ _ => rfl) (fun _ _ => rfl)
  · rw [if_neg h0, if_pos h1] at k
    have m1 := h.putS (k := 4) (v := nI (b + 1)) (by decide)
    rw [if_neg (by decide : ¬ (4 = 1))] at m1
    have m2 := m1.put (r := x) (k := 6) (v := nI (b + 1)) (by rw [nR_dU (by omega)]; exact p5) (by decide)
    have F2 : Fm w g (u3 (u3 g.1 0 71 (780 * w + 4) (nI (b + 1))) 0 71 (780 * w + (369 + 10 * x + 6)) (nI (b + 1)), g.2) := (Fm.tr (Fm.put (by unfold MW; omega)) (MC.putF (r := x) (k := 6) (by omega) (by decide)) : _)
    have hM2 := hM.fr F2.1 (by simp) (by simp)
    refine s157 (x := x) (r := m) (D0 := D0) (b := b + 1) (its := nI (b + 1)) m2 (by rw [nR_dU (by omega), nR_dU (by omega)]; exact p5) (dU_e rfl rfl) (by rw [dU_nc (by decide)]; exact dU_e rfl rfl) hM2 p3 (fun g3 f3 j3 l3 m3 o3 => ⟨rfl, ?_⟩)
    have hw3 := m3.w
    have hn3 := m3.n
    rw [nR_dU (by omega), nR_dU (by omega), nR_dU (by omega)] at hn3
    simp (disch := omega) only [u3_nc, u3_ek, u3_nk, upd_e, upd_n, dU_nk, dU_nc, dU_e, nI_ltI, nI_eq, nI_clamp, nI_add, nI_mul, inb_nI, nI_neg1, nI_ne1, nI_n1e, nI_neg1e, Nat.not_lt_zero, Nat.lt_irrefl, true_and, and_true, true_implies, false_implies, not_true_eq_false, not_false_eq_true, implies_true, forall_const, forall_eq, if_true, if_false, Nat.reduceEqDiff, eq_self, Nat.one_ne_zero, Nat.zero_ne_one, Nat.zero_add, Nat.add_zero, hw3, hn3]
    have c6 : CW (dU (dU (dU D 0 14 (nI (b + 1))) 12 x (nI (b + 1))) 0 14 (nI (b + 1 + nwg D0 (folL D0 m) (D 12 m) (gK D0 (folL D0 m))))) M := ((p1.du (by omega)).du (by omega)).du (by omega)
    have er : nR (dU (dU (dU D 0 14 (nI (b + 1))) 12 x (nI (b + 1))) 0 14 (nI (b + 1 + nwg D0 (folL D0 m) (D 12 m) (gK D0 (folL D0 m))))) = nR D := by rw [nR_dU (by omega), nR_dU (by omega), nR_dU (by omega)]
    have ec : cpb (dU (dU (dU D 0 14 (nI (b + 1))) 12 x (nI (b + 1))) 0 14 (nI (b + 1 + nwg D0 (folL D0 m) (D 12 m) (gK D0 (folL D0 m))))) m dd = cpb D m dd := by rw [cpb_dU (by omega), cpb_dU (by omega), cpb_dU (by omega)]
    have := s160L (sc := sc) (d := d) (Φ := Φ) (x := x) (m := m) (r := m) (D0 := D0) (own := D 12 m) (its := nI (b + 1)) (b := b + 1) (dd := dd) m3 c6 (by rw [er]; exact p2) p4 (by rw [er]; exact p5) (by rw [er]; exact p6) (by rw [er, ec]; exact p12) (fun f hf => by rw [dU_nc (by omega), dU_nc (by omega), dU_nc (by omega)]; exact (p10 f hf).2) (by rw [dU_nc (by omega), dU_nc (by omega), dU_nc (by omega)]; exact p11) (hM2.fr f3 (by simp) (by simp)) o3 (fun g' m' f' => by
      rw [ec]
      refine k g' m' ((F2.1.wk (by omega)).tr ((f3.wk (by omega)).tr (f'.1.wk (by omega)))) (fun j hj => by rw [f'.2 j hj, j3 j hj]; exact F2.2 j hj) (fun z hz => by rw [f'.1.1 0 70 (by omega), l3 z hz]; dsimp only; rw [u3_nc (by decide), u3_nc (by decide)]))
    rw [er] at this
    exact this
  · rw [if_neg h0, if_neg h1] at k
    refine s157 (x := x) (r := m) (D0 := D0) (b := b) (its := D 12 x) h p5 rfl p9 hM p3 (fun g3 f3 j3 l3 m3 o3 => ⟨rfl, ?_⟩)
    have hw3 := m3.w
    have hn3 := m3.n
    rw [nR_dU (by omega)] at hn3
    simp (disch := omega) only [u3_nc, u3_ek, u3_nk, upd_e, upd_n, dU_nk, dU_nc, dU_e, nI_ltI, nI_eq, nI_clamp, nI_add, nI_mul, inb_nI, nI_neg1, nI_ne1, nI_n1e, nI_neg1e, Nat.not_lt_zero, Nat.lt_irrefl, true_and, and_true, true_implies, false_implies, not_true_eq_false, not_false_eq_true, implies_true, forall_const, forall_eq, if_true, if_false, Nat.reduceEqDiff, eq_self, Nat.one_ne_zero, Nat.zero_ne_one, Nat.zero_add, Nat.add_zero, hw3, hn3]
    have er : nR (dU D 0 14 (nI (b + nwg D0 (folL D0 m) (D 12 m) (gK D0 (folL D0 m))))) = nR D := by rw [nR_dU (by omega)]
    have ec : cpb (dU D 0 14 (nI (b + nwg D0 (folL D0 m) (D 12 m) (gK D0 (folL D0 m))))) m dd = cpb D m dd := by rw [cpb_dU (by omega)]
    have := s160L (sc := sc) (d := d) (Φ := Φ) (x := x) (m := m) (r := m) (D0 := D0) (own := D 12 m) (its := D 12 x) (b := b) (dd := dd) m3 (p1.du (by omega)) (by rw [er]; exact p2) p4 (by rw [er]; exact p5) (by rw [er]; exact p6) (by rw [er, ec]; exact p12) (fun f hf => by rw [dU_nc (by omega)]; exact (p10 f hf).2) (by rw [dU_nc (by omega)]; exact p11) (hM.fr f3 (by simp) (by simp)) o3 (fun g' m' f' => by
      rw [ec]
      exact k g' m' ((f3.wk (by omega)).tr (f'.1.wk (by omega))) (fun j hj => by rw [f'.2 j hj, j3 j hj]) (fun z hz => by rw [f'.1.1 0 70 (by omega), l3 z hz]))
    rw [er] at this
    exact this
end PT
