/-! NAMING THE COPIES' GROUPS, in the class and in the reference -/
theorem dU_self {D : Nat → Nat → Int32} {c k : Nat} {v : Int32} (h : D c k = v) : dU D c k v = D := by
  funext c' k'
  unfold dU
  by_cases hk : c' = c ∧ k' = k
  · rw [if_pos hk, hk.1, hk.2, h]
  · rw [if_neg hk]
theorem dU_twice {D : Nat → Nat → Int32} {c k : Nat} {v v2 : Int32} : dU (dU D c k v) c k v2 = dU D c k v2 := by
  funext c' k'
  unfold dU
  by_cases hk : c' = c ∧ k' = k
  · rw [if_pos hk, if_pos hk]
  · rw [if_neg hk, if_neg hk, if_neg hk]
theorem GD.fr {P : Nat → Nat → Prop} {g g' : Gs} {i : Nat} {D : Nat → Nat → Int32} {l : List Nat} (h : GD g.1 i D l) (hf : Fr P g g') (hp : ∀ c, 30 ≤ c → c ≤ 35 → ¬ P i c) : GD g'.1 i D l := by
  refine ⟨by rw [hf.1 i 30 (hp _ (by decide) (by decide))]; exact h.1, fun t x ht => ?_⟩
  rw [hf.1 i 33 (hp _ (by decide) (by decide)), hf.1 i 34 (hp _ (by decide) (by decide)), hf.1 i 35 (hp _ (by decide) (by decide))]
  exact h.2 t x ht
theorem Mrk.fr {P : Nat → Nat → Prop} {g g' : Gs} {D : Nat → Nat → Int32} {l : List Nat} (h : Mrk g.1 D l) (hf : Fr P g g') (hp : ¬ P 0 72) (hq : ¬ P 0 73) : Mrk g'.1 D l := by
  refine ⟨fun x hx => ?_, fun x hx => ?_⟩
  · rw [hf.1 0 72 hp]; exact h.1 x hx
  · rw [hf.1 0 73 hq]; exact h.2 x hx
theorem OLD.fr {P : Nat → Nat → Prop} {g g' : Gs} {i cn kn co cf : Nat} {D : Nat → Nat → Int32} {l : List Nat} {own its : Int32} {b k : Nat} (h : OLD g.1 i cn kn co cf D l own its b k) (hf : Fr P g g') (h1 : ¬ P i cn) (h2 : ¬ P i co) (h3 : ¬ P i cf) : OLD g'.1 i cn kn co cf D l own its b k := by
  refine ⟨by rw [hf.1 i cn h1]; exact h.1, fun t ht => ?_⟩
  rw [hf.1 i co h2, hf.1 i cf h3]
  exact h.2 t ht
theorem OLD.add {G G' : Gm} {i cn kn co cf : Nat} {D : Nat → Nat → Int32} {l : List Nat} {own its : Int32} {b k : Nat} (h : OLD G i cn kn co cf D l own its b k) (h1 : G' i cn kn = nI (k + 1)) (h2 : ∀ t, G' i co t = if t = k then gch D l k else G i co t) (h3 : ∀ t, G' i cf t = if t = k then frs D l own its b k else G i cf t) : OLD G' i cn kn co cf D l own its b (k + 1) := by
  refine ⟨h1, fun t ht => ?_⟩
  rw [h2, h3]
  by_cases he : t = k
  · rw [if_pos he, if_pos he, he]; exact ⟨rfl, rfl⟩
  · rw [if_neg he, if_neg he]; exact h.2 t (by omega)
theorem u3_if {G : Gm} {i c k t : Nat} {v : Int32} : u3 G i c k v i c t = if t = k then v else G i c t := by
  by_cases h : t = k
  · rw [if_pos h, u3_ek h]
  · rw [if_neg h, u3_nk h]
abbrev P8 (i : Nat) : Nat → Nat → Prop := fun i' c => i' = i ∧ (c = 0 ∨ (40 ≤ c ∧ c ≤ 42))
abbrev P157 : Nat → Nat → Prop := fun i c => i = 0 ∧ (70 ≤ c ∧ c ≤ 71 ∨ c = 74 ∨ c = 75)
theorem At.k {g : Gs} {i c k : Nat} {v : Int32} {D : Nat → Nat → Int32} (h : At g i D) (hc : c < 16) (hv : D c k = v) : g.1 i c k = v := by rw [h c hc]; exact hv
section GO
variable {sc : SC} {d i w : Nat} {g : Gs} {Φ : RS → Gs → Prop} {D D0 : Nat → Nat → Int32} {l : List Nat} {own its : Int32} {b : Nat}
theorem s8 (hi : fm i = i) (hA : At g i D) (h14 : D 0 14 = nI b) (hG : GD g.1 i D0 l) (hl : l.length ≤ 40) (hK : gch D0 l (gK D0 l) = nI 0 ∧ gK D0 l ≤ 40 ∧ ∀ j, j < gK D0 l → ¬ gch D0 l j = nI 0)
    (k : ∀ g', Fr (P8 i) g g' → At g' i (dU D 0 14 (nI (b + nwg D0 l own (gK D0 l)))) → OLD g'.1 i 40 4 41 42 D0 l own its b (gK D0 l) → Φ (.inl none) g') : Rn sc (d + 2) 8 [vR i 40, vI own, vI its] g Φ := by
  refine Rn.of rfl (v8_0 ?_)
  have f0 : Fr (P8 i) g (u3 g.1 i 40 4 (nI 0), g.2) := Fr.u3 (Fr.rf g) ⟨rfl, by decide⟩
  simp (disch := omega) only [u3_nc, u3_ek, u3_nk, upd_e, upd_n, dU_nk, dU_nc, dU_e, nI_ltI, nI_eq, nI_clamp, nI_add, nI_mul, inb_nI, nI_neg1, nI_ne1, nI_n1e, nI_neg1e, Nat.not_lt_zero, Nat.lt_irrefl, true_and, and_true, true_implies, false_implies, not_true_eq_false, not_false_eq_true, implies_true, forall_const, forall_eq, if_true, if_false, Nat.reduceEqDiff, eq_self, Nat.one_ne_zero, Nat.zero_ne_one, Nat.zero_add, Nat.add_zero]
  refine s22 (hG.fr f0 (by omega)) hl ⟨_, rfl, ?_⟩
  refine turnsS (σ := Gs) (W := fun q s => Xe sc (d + 1) 8 14 [vR i 40, vI own, vI its, vI (gch D0 l q)] [] s Φ)
    (I := fun q s => Fr (P8 i) g s ∧ At s i (dU D 0 14 (nI (b + nwg D0 l own q))) ∧ OLD s.1 i 40 4 41 42 D0 l own its b q) (n := gK D0 l)
    (fun q s hq ⟨i1, i2, i3⟩ hW => ?_) (fun s ⟨i1, i2, i3⟩ => ?_) _ ⟨f0, ?_, u3_ek rfl, fun t ht => absurd ht (Nat.not_lt_zero t)⟩
  · have hG2 := hG.fr i1 (by omega)
    have h0 := hK.2.2 q hq
    have h40 := hK.2.1
    have h4 := i3.1
    have hc := i2.k (c := 0) (k := 14) (by decide) (dU_e rfl rfl)
    refine v8_14 ?_
    have hq40 : q < 40 := by omega
    simp (disch := omega) only [u3_nc, u3_ek, u3_nk, upd_e, upd_n, dU_nk, dU_nc, dU_e, nI_ltI, nI_eq, nI_clamp, nI_add, nI_mul, inb_nI, nI_neg1, nI_ne1, nI_n1e, nI_neg1e, Nat.not_lt_zero, Nat.lt_irrefl, true_and, and_true, true_implies, false_implies, not_true_eq_false, not_false_eq_true, implies_true, forall_const, forall_eq, if_true, if_false, Nat.reduceEqDiff, eq_self, Nat.one_ne_zero, Nat.zero_ne_one, Nat.zero_add, Nat.add_zero, h0, h4, hi, hc, hq40]
    refine ⟨fun ho => ?_, fun ho => ?_⟩
    · refine s22 (hG2.fr (P := P8 i) (by repeat (first | exact Fr.rf _ | refine Fr.u3 ?_ ⟨rfl, by decide⟩)) (by omega)) hl ⟨_, rfl, hW _ ⟨i1.tr (by repeat (first | exact Fr.rf _ | refine Fr.u3 ?_ ⟨rfl, by decide⟩)), ?_, ?_⟩⟩
      · rw [nwg_s, if_pos ho]
        exact At.ux (At.ux (At.ux i2 (by decide)) (by decide)) (by decide)
      · refine i3.add (by dsimp only; rw [u3_ek rfl]) (fun t => ?_) (fun t => ?_) <;> try dsimp only
        · rw [u3_nc (by decide), u3_nc (by decide)]; exact u3_if
        · rw [u3_nc (by decide), u3_if, u3_nc (by decide), show frs D0 l own its b q = its from if_pos ho]
    · refine s22 (hG2.fr (P := P8 i) (by repeat (first | exact Fr.rf _ | refine Fr.u3 ?_ ⟨rfl, by decide⟩)) (by omega)) hl ⟨_, rfl, hW _ ⟨i1.tr (by repeat (first | exact Fr.rf _ | refine Fr.u3 ?_ ⟨rfl, by decide⟩)), ?_, ?_⟩⟩
      · rw [nwg_s, if_neg ho]
        have := At.ux (i' := i) (c := 40) (k := 4) (v := nI (q + 1)) (At.ux (i' := i) (c := 42) (k := q) (v := nI (b + nwg D0 l own q + 1)) (At.uc (c := 0) (k := 14) (v := nI (b + nwg D0 l own q + 1)) (At.ux (i' := i) (c := 41) (k := q) (v := gch D0 l q) i2 (by decide))) (by decide)) (by decide)
        rw [dU_twice] at this
        exact this
      · refine i3.add (by dsimp only; rw [u3_ek rfl]) (fun t => ?_) (fun t => ?_) <;> try dsimp only
        · rw [u3_nc (by decide), u3_nc (by decide), u3_nc (by decide)]; exact u3_if
        · rw [u3_nc (by decide), u3_if, u3_nc (by decide), u3_nc (by decide), show frs D0 l own its b q = nI (b + nwg D0 l own (q + 1)) from if_neg ho, nwg_s, if_neg ho]
          rfl
  · refine v8_14 ?_
    rw [hK.1]
    simp (disch := omega) only [u3_nc, u3_ek, u3_nk, upd_e, upd_n, dU_nk, dU_nc, dU_e, nI_ltI, nI_eq, nI_clamp, nI_add, nI_mul, inb_nI, nI_neg1, nI_ne1, nI_n1e, nI_neg1e, Nat.not_lt_zero, Nat.lt_irrefl, true_and, and_true, true_implies, false_implies, not_true_eq_false, not_false_eq_true, implies_true, forall_const, forall_eq, if_true, if_false, Nat.reduceEqDiff, eq_self, Nat.one_ne_zero, Nat.zero_ne_one, Nat.zero_add, Nat.add_zero]
    exact k s i1 i2 i3
  · rw [show nwg D0 l own 0 = 0 from rfl, Nat.add_zero, dU_self h14]
    exact At.ux hA (by decide)
theorem s157 {x r : Nat} (h : MC g w D) (hx : x < nR D) (h12 : D 12 x = its) (h14 : D 0 14 = nI b) (hG : Mrk g.1 D0 (folL D0 r)) (h40 : nR D0 ≤ 40)
    (k : ∀ g', Fr P157 g g' → (∀ j, ¬ MW w j → g'.1 0 71 j = g.1 0 71 j) → (∀ k, k ≠ 8 → g'.1 0 70 k = g.1 0 70 k) → MC g' w (dU D 0 14 (nI (b + nwg D0 (folL D0 r) own (gK D0 (folL D0 r))))) → OLD g'.1 0 70 8 74 75 D0 (folL D0 r) own its b (gK D0 (folL D0 r)) → Φ (.inl none) g') : Rn sc (d + 3) 157 [vR 0 70, vI (nI x), vI own] g Φ := by
  have hK := gK_spec (D := D0) (fun x hx => folL_lt hx : ∀ x ∈ folL D0 r, x < nR D0) h40
  have hN := h.r.2
  refine Rn.of rfl (v157_0 ?_)
  have f0 : Fr P157 g (u3 g.1 0 70 8 (nI 0), g.2) := Fr.u3 (Fr.rf g) ⟨rfl, by decide⟩
  simp (disch := omega) only [u3_nc, u3_ek, u3_nk, upd_e, upd_n, dU_nk, dU_nc, dU_e, nI_ltI, nI_eq, nI_clamp, nI_add, nI_mul, inb_nI, nI_neg1, nI_ne1, nI_n1e, nI_neg1e, Nat.not_lt_zero, Nat.lt_irrefl, true_and, and_true, true_implies, false_implies, not_true_eq_false, not_false_eq_true, implies_true, forall_const, forall_eq, if_true, if_false, Nat.reduceEqDiff, eq_self, Nat.one_ne_zero, Nat.zero_ne_one, Nat.zero_add, Nat.add_zero]
  refine s156 (hG.fr f0 (by simp) (by simp)) h40 ⟨_, rfl, ?_⟩
  refine turnsS (σ := Gs) (W := fun q s => Xe sc (d + 2) 157 11 [vR 0 70, vI (nI x), vI own, vI (gch D0 (folL D0 r) q)] [] s Φ)
    (I := fun q s => Fr P157 g s ∧ (∀ j, ¬ MW w j → s.1 0 71 j = g.1 0 71 j) ∧ (∀ k, k ≠ 8 → s.1 0 70 k = g.1 0 70 k) ∧ MC s w (dU D 0 14 (nI (b + nwg D0 (folL D0 r) own q))) ∧ OLD s.1 0 70 8 74 75 D0 (folL D0 r) own its b q) (n := gK D0 (folL D0 r))
    (fun q s hq ⟨i1, j1, j2, i2, i3⟩ hW => ?_) (fun s ⟨i1, j1, j2, i2, i3⟩ => ?_) _ ⟨f0, fun j _ => (show u3 g.1 0 70 8 (nI 0) 0 71 j = g.1 0 71 j from u3_nc (by decide)), fun k hk => u3_nk hk, ?_, (show u3 g.1 0 70 8 (nI 0) 0 70 8 = nI 0 from u3_ek rfl), fun t ht => absurd ht (Nat.not_lt_zero t)⟩
  · have hG2 := hG.fr i1 (by simp) (by simp)
    have hk40 := hK.2.1
    have h0 := (gch_pos q (fun j hj => hK.2.2 j (by omega))).1
    have h4 := i3.1
    have hw := i2.w
    have w10 := i2.l
    have hx2 : x < nR (dU D 0 14 (nI (b + nwg D0 (folL D0 r) own q))) := by rw [nR_dU (by decide)]; exact hx
    have f6 := i2.m.f6 x hx2
    rw [dU_nc (by decide), h12] at f6
    have hc := i2.m.2.2.2.1
    rw [dU_e rfl rfl] at hc
    refine v157_11 ?_
    simp (disch := omega) only [u3_nc, u3_ek, u3_nk, upd_e, upd_n, dU_nk, dU_nc, dU_e, nI_ltI, nI_eq, nI_clamp, nI_add, nI_mul, inb_nI, nI_neg1, nI_ne1, nI_n1e, nI_neg1e, Nat.not_lt_zero, Nat.lt_irrefl, true_and, and_true, true_implies, false_implies, not_true_eq_false, not_false_eq_true, implies_true, forall_const, forall_eq, if_true, if_false, Nat.reduceEqDiff, eq_self, Nat.one_ne_zero, Nat.zero_ne_one, Nat.zero_add, Nat.add_zero, h0, h4, hw, f6, hc]
    refine ⟨fun ho => ?_, fun ho => ?_⟩
    · refine s156 (hG2.fr (P := P157) (by repeat (first | exact Fr.rf _ | refine Fr.u3 ?_ ⟨rfl, by decide⟩)) (by simp) (by simp)) h40 ⟨_, rfl, hW _ ⟨i1.tr (by repeat (first | exact Fr.rf _ | refine Fr.u3 ?_ ⟨rfl, by decide⟩)), fun j hj => ?_, fun k hk => ?_, ?_, ?_⟩⟩
      · rw [← j1 j hj]
        dsimp only; rw [u3_nc (by decide), u3_nc (by decide), u3_nc (by decide)]
      · rw [← j2 k hk]
        dsimp only; rw [u3_nk hk, u3_nc (by decide), u3_nc (by decide)]
      · rw [nwg_s, if_pos ho]
        have n74 : (74 : Nat) = 70 → q ≠ 2 := fun e => absurd e (by decide)
        have n75 : (75 : Nat) = 70 → q ≠ 2 := fun e => absurd e (by decide)
        have := MC.c70 (c := 70) (k := 8) (v := nI (q + 1)) (MC.c70 (c := 75) (k := q) (v := its) (MC.c70 (c := 74) (k := q) (v := gch D0 (folL D0 r) q) i2 (by decide) n74) (by decide) n75) (by decide) (by decide)
        exact this
      · refine i3.add (by dsimp only; rw [u3_ek rfl]) (fun t => ?_) (fun t => ?_) <;> try dsimp only
        · rw [u3_nc (by decide), u3_nc (by decide)]; exact u3_if
        · rw [u3_nc (by decide), u3_if, u3_nc (by decide), show frs D0 (folL D0 r) own its b q = its from if_pos ho]
    · refine s156 (hG2.fr (P := P157) (by repeat (first | exact Fr.rf _ | refine Fr.u3 ?_ ⟨rfl, by decide⟩)) (by simp) (by simp)) h40 ⟨_, rfl, hW _ ⟨i1.tr (by repeat (first | exact Fr.rf _ | refine Fr.u3 ?_ ⟨rfl, by decide⟩)), fun j hj => ?_, fun k hk => ?_, ?_, ?_⟩⟩
      · rw [← j1 j hj]
        have hne : j ≠ 780 * w + 4 := by intro e; apply hj; unfold MW; omega
        dsimp only; rw [u3_nc (by decide), u3_nc (by decide), u3_nk hne, u3_nc (by decide)]
      · rw [← j2 k hk]
        dsimp only; rw [u3_nk hk, u3_nc (by decide), u3_nc (by decide), u3_nc (by decide)]
      · rw [nwg_s, if_neg ho]
        have n74 : (74 : Nat) = 70 → q ≠ 2 := fun e => absurd e (by decide)
        have n75 : (75 : Nat) = 70 → q ≠ 2 := fun e => absurd e (by decide)
        have := MC.c70 (c := 70) (k := 8) (v := nI (q + 1)) (MC.c70 (c := 75) (k := q) (v := nI (b + nwg D0 (folL D0 r) own q + 1)) (MC.putS (k := 4) (v := nI (b + nwg D0 (folL D0 r) own q + 1)) (MC.c70 (c := 74) (k := q) (v := gch D0 (folL D0 r) q) i2 (by decide) n74) (by decide)) (by decide) n75) (by decide) (by decide)
        rw [if_neg (by decide : ¬ (4 = 1)), dU_twice] at this
        exact this
      · refine i3.add (by dsimp only; rw [u3_ek rfl]) (fun t => ?_) (fun t => ?_) <;> try dsimp only
        · rw [u3_nc (by decide), u3_nc (by decide), u3_nc (by decide)]; exact u3_if
        · rw [u3_nc (by decide), u3_if, u3_nc (by decide), u3_nc (by decide), show frs D0 (folL D0 r) own its b q = nI (b + nwg D0 (folL D0 r) own (q + 1)) from if_neg ho, nwg_s, if_neg ho]
          rfl
  · refine v157_11 ?_
    rw [hK.1]
    have hz : ¬ nI 0 < nI 0 := Int32.lt_irrefl
    simp (disch := omega) only [u3_nc, u3_ek, u3_nk, upd_e, upd_n, dU_nk, dU_nc, dU_e, nI_ltI, nI_eq, nI_clamp, nI_add, nI_mul, inb_nI, nI_neg1, nI_ne1, nI_n1e, nI_neg1e, Nat.not_lt_zero, Nat.lt_irrefl, true_and, and_true, true_implies, false_implies, not_true_eq_false, not_false_eq_true, implies_true, forall_const, forall_eq, if_true, if_false, Nat.reduceEqDiff, eq_self, Nat.one_ne_zero, Nat.zero_ne_one, Nat.zero_add, Nat.add_zero, hz]
    exact k s i1 j1 j2 i2 i3
  · rw [show nwg D0 (folL D0 r) own 0 = 0 from rfl, Nat.add_zero, dU_self h14]
    exact MC.c70 h (by decide) (by decide)
end GO
