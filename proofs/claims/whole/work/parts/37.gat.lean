/-! GATHER: the followers as the class lists them and as the reference marks them -/
/-- what gather leaves in the followers' lists -/
def GD (G : Gm) (i : Nat) (D : Nat → Nat → Int32) (l : List Nat) : Prop := G i 30 7 = nI l.length ∧ ∀ (t x : Nat), l[t]? = some x → G i 33 t = D 6 x ∧ G i 34 t = D 12 x ∧ G i 35 t = D 13 x
theorem GD.nil {G : Gm} {i : Nat} {D : Nat → Nat → Int32} (h : G i 30 7 = nI 0) : GD G i D [] := ⟨h, fun t x q => by rw [List.getElem?_nil] at q; cases q⟩
theorem RSt.of {g g' : Gs} {i n : Nat} {l : List Nat} (h : RSt g i n l) (h1 : g'.1 i 30 3 = g.1 i 30 3) (h2 : g'.1 i 31 = g.1 i 31) (h3 : g'.1 i 32 = g.1 i 32) : RSt g' i n l := by
  obtain ⟨a, b, c, e, f⟩ := h
  exact ⟨a, b, h1.trans c, fun t x q => by rw [h3]; exact e t x q, fun x q => by rw [h2]; exact f x q⟩
theorem s20z {sc : SC} {d i : Nat} {g : Gs} {Φ : RS → Gs → Prop} (k : Φ (.inl none) g) : Rn sc (d + 1) 20 [vR i 30, vI (nI 0)] g Φ := Rn.of rfl (v20_0 ⟨fun _ => k, fun h => absurd rfl h⟩)
theorem folL_lt {D : Nat → Nat → Int32} {r x : Nat} (h : x ∈ folL D r) : x < nR D := by
  unfold folL at h
  split at h
  · cases h
  · exact List.mem_range.mp (List.mem_filter.mp h).1
theorem folL_nd (D : Nat → Nat → Int32) (r : Nat) : (folL D r).Nodup := by
  unfold folL
  split
  · exact List.nodup_nil
  · exact List.Pairwise.sublist List.filter_sublist List.nodup_range
theorem folL_len {D : Nat → Nat → Int32} {r : Nat} : (folL D r).length ≤ nR D := nodup_len _ _ (folL_nd D r) (fun _ => folL_lt)
theorem folL_of {D : Nat → Nat → Int32} {r : Nat} (h : ¬ D 12 r = nI 0) : folL D r = (List.range (nR D)).filter (folB D r) := if_neg h
section GA
variable {sc : SC} {d i r : Nat} {g : Gs} {Φ : RS → Gs → Prop} {D : Nat → Nat → Int32}
theorem s19 (hD : ∀ c, c < 16 → g.1 (fm i) c = D c) (rk : ROK D) (hr : r < nR D) (k : ∀ g', Fr (PF i) g g' → GD g'.1 i D (folL D r) → Φ (.inl none) g') : Rn sc (d + 2) 19 [vR i 30, vI (nI r)] g Φ := by
  obtain ⟨n, hn⟩ : ∃ n, n = nR D := ⟨_, rfl⟩
  have h40 : n ≤ 40 := by rw [hn]; exact rk.2
  have h11 : D 0 11 = nI n := by rw [hn]; exact rk.1
  rw [← hn] at hr
  have g12 : g.1 (fm i) 12 = D 12 := hD 12 (by decide)
  refine Rn.of rfl (v19_0 ?_)
  simp (disch := omega) only [u3_nc, u3_ek, u3_nk, upd_e, upd_n, dU_nk, dU_nc, dU_e, nI_ltI, nI_eq, nI_clamp, nI_add, nI_mul, inb_nI, nI_neg1, nI_ne1, nI_n1e, nI_neg1e, Nat.not_lt_zero, Nat.lt_irrefl, true_and, and_true, true_implies, false_implies, not_true_eq_false, not_false_eq_true, implies_true, forall_const, forall_eq, if_true, if_false, Nat.reduceEqDiff, eq_self, Nat.one_ne_zero, Nat.zero_ne_one, Nat.zero_add, Nat.add_zero, g12]
  refine ⟨fun h0 => ?_, fun h0 => ?_⟩
  · refine k _ (Fr.u3 (Fr.rf g) ⟨rfl, by decide, by decide⟩) ?_
    rw [show folL D r = [] from if_pos h0]
    exact GD.nil (u3_ek rfl)
  -- the last loop: what was reached is listed
  have lst : ∀ g1 l, Fr (PF i) g g1 → g1.1 i 30 7 = nI 0 → RSt g1 i n l → (∀ x, x < n → (x ∈ l ↔ folB D r x = true)) → Xe sc (d + 1) 19 104 [vR i 30, vI (nI r), vI (nI 0)] [] g1 Φ := by
    intro g1 l f1 f2 f3 f4
    have kk : ∀ g', Fr (PF i) g g' → GD g'.1 i D ((List.range n).filter (folB D r)) → Φ (.inl none) g' := by
      rw [folL_of h0, ← hn] at k; exact k
    refine turnsS (σ := Gs) (W := fun q s => Xe sc (d + 1) 19 104 [vR i 30, vI (nI r), vI (nI q)] [] s Φ)
      (I := fun q s => Fr (PF i) g s ∧ s.1 i 31 = g1.1 i 31 ∧ GD s.1 i D ((List.range q).filter (folB D r))) (n := n)
      (fun q s hq ⟨i1, i2, i3⟩ hW => ?_) (fun s ⟨i1, i2, i3⟩ => ?_) g1 ⟨f1, rfl, GD.nil f2⟩
    · have hn1 : s.1 (fm i) 0 11 = nI n := by rw [i1.D (by decide), hD 0 (by decide)]; exact h11
      have e6 : s.1 (fm i) 6 = D 6 := by rw [i1.D (by decide), hD 6 (by decide)]
      have e12 : s.1 (fm i) 12 = D 12 := by rw [i1.D (by decide), hD 12 (by decide)]
      have e13 : s.1 (fm i) 13 = D 13 := by rw [i1.D (by decide), hD 13 (by decide)]
      obtain ⟨z, hz⟩ : ∃ z, z = ((List.range q).filter (folB D r)).length := ⟨_, rfl⟩
      have hzq : z ≤ q := by rw [hz, filter_len]; exact cntF_le _ _
      have hs7 := i3.1
      rw [← hz] at hs7
      have hb := f3.2.2.2.2 q hq
      have hm := f4 q hq
      refine v19_104 ?_
      simp (disch := omega) only [u3_nc, u3_ek, u3_nk, upd_e, upd_n, dU_nk, dU_nc, dU_e, nI_ltI, nI_eq, nI_clamp, nI_add, nI_mul, inb_nI, nI_neg1, nI_ne1, nI_n1e, nI_neg1e, Nat.not_lt_zero, Nat.lt_irrefl, true_and, and_true, true_implies, false_implies, not_true_eq_false, not_false_eq_true, implies_true, forall_const, forall_eq, if_true, if_false, Nat.reduceEqDiff, eq_self, Nat.one_ne_zero, Nat.zero_ne_one, Nat.zero_add, Nat.add_zero, hn1, hq, i2, hb, hs7, e6, e12, e13]
      by_cases hf : folB D r q = true
      · rw [if_pos (hm.mpr hf)]
        have hz40 : z < 40 := by omega
        simp (disch := omega) only [u3_nc, u3_ek, u3_nk, upd_e, upd_n, dU_nk, dU_nc, dU_e, nI_ltI, nI_eq, nI_clamp, nI_add, nI_mul, inb_nI, nI_neg1, nI_ne1, nI_n1e, nI_neg1e, Nat.not_lt_zero, Nat.lt_irrefl, true_and, and_true, true_implies, false_implies, not_true_eq_false, not_false_eq_true, implies_true, forall_const, forall_eq, if_true, if_false, Nat.reduceEqDiff, eq_self, Nat.one_ne_zero, Nat.zero_ne_one, Nat.zero_add, Nat.add_zero, hs7, hz40]
        refine hW _ ⟨i1.tr (by repeat (first | exact Fr.rf _ | refine Fr.u3 ?_ ⟨rfl, by decide, by decide⟩)), ?_, ?_, fun t x ht => ?_⟩
        · show u3 (u3 (u3 (u3 s.1 i 33 z _) i 34 z _) i 35 z _) i 30 7 _ i 31 = _
          rw [u3_rowc (by decide), u3_rowc (by decide), u3_rowc (by decide), u3_rowc (by decide)]
          exact i2
        · show u3 (u3 (u3 (u3 s.1 i 33 z _) i 34 z _) i 35 z _) i 30 7 _ i 30 7 = _
          rw [u3_ek rfl, List.range_succ, List.filter_append, List.length_append, ← hz]
          simp [hf]
        · show u3 (u3 (u3 (u3 s.1 i 33 z _) i 34 z _) i 35 z _) i 30 7 _ i 33 t = _ ∧ u3 (u3 (u3 (u3 s.1 i 33 z _) i 34 z _) i 35 z _) i 30 7 _ i 34 t = _ ∧ u3 (u3 (u3 (u3 s.1 i 33 z _) i 34 z _) i 35 z _) i 30 7 _ i 35 t = _
          rw [List.range_succ, List.filter_append, show List.filter (folB D r) [q] = [q] by simp [hf]] at ht
          by_cases he : t = z
          · rw [he, hz, List.getElem?_append_right (Nat.le_refl _), Nat.sub_self] at ht
            cases ht
            rw [he]
            simp (disch := omega) only [u3_nc, u3_ek, u3_nk, upd_e, upd_n, dU_nk, dU_nc, dU_e, nI_ltI, nI_eq, nI_clamp, nI_add, nI_mul, inb_nI, nI_neg1, nI_ne1, nI_n1e, nI_neg1e, Nat.not_lt_zero, Nat.lt_irrefl, true_and, and_true, true_implies, false_implies, not_true_eq_false, not_false_eq_true, implies_true, forall_const, forall_eq, if_true, if_false, Nat.reduceEqDiff, eq_self, Nat.one_ne_zero, Nat.zero_ne_one, Nat.zero_add, Nat.add_zero]
          · have hlt : t < z := by
              have := (List.getElem?_eq_some_iff.mp ht).1
              rw [List.length_append, ← hz] at this
              simp at this
              omega
            rw [List.getElem?_append_left (by omega)] at ht
            simp (disch := omega) only [u3_nc, u3_ek, u3_nk, upd_e, upd_n, dU_nk, dU_nc, dU_e, nI_ltI, nI_eq, nI_clamp, nI_add, nI_mul, inb_nI, nI_neg1, nI_ne1, nI_n1e, nI_neg1e, Nat.not_lt_zero, Nat.lt_irrefl, true_and, and_true, true_implies, false_implies, not_true_eq_false, not_false_eq_true, implies_true, forall_const, forall_eq, if_true, if_false, Nat.reduceEqDiff, eq_self, Nat.one_ne_zero, Nat.zero_ne_one, Nat.zero_add, Nat.add_zero]
            exact i3.2 t x ht
      · rw [if_neg (fun q => hf (hm.mp q))]
        simp (disch := omega) only [u3_nc, u3_ek, u3_nk, upd_e, upd_n, dU_nk, dU_nc, dU_e, nI_ltI, nI_eq, nI_clamp, nI_add, nI_mul, inb_nI, nI_neg1, nI_ne1, nI_n1e, nI_neg1e, Nat.not_lt_zero, Nat.lt_irrefl, true_and, and_true, true_implies, false_implies, not_true_eq_false, not_false_eq_true, implies_true, forall_const, forall_eq, if_true, if_false, Nat.reduceEqDiff, eq_self, Nat.one_ne_zero, Nat.zero_ne_one, Nat.zero_add, Nat.add_zero]
        refine hW _ ⟨i1, i2, ?_⟩
        rw [List.range_succ, List.filter_append, show List.filter (folB D r) [q] = [] by simp [hf], List.append_nil]
        exact i3
    · have hn1 : s.1 (fm i) 0 11 = nI n := by rw [i1.D (by decide), hD 0 (by decide)]; exact h11
      refine v19_104 ?_
      simp (disch := omega) only [u3_nc, u3_ek, u3_nk, upd_e, upd_n, dU_nk, dU_nc, dU_e, nI_ltI, nI_eq, nI_clamp, nI_add, nI_mul, inb_nI, nI_neg1, nI_ne1, nI_n1e, nI_neg1e, Nat.not_lt_zero, Nat.lt_irrefl, true_and, and_true, true_implies, false_implies, not_true_eq_false, not_false_eq_true, implies_true, forall_const, forall_eq, if_true, if_false, Nat.reduceEqDiff, eq_self, Nat.one_ne_zero, Nat.zero_ne_one, Nat.zero_add, Nat.add_zero, hn1]
      exact kk _ i1 i3
  -- the second loop: what is reached from what was reached
  have mid : ∀ g1 l, Fr (PF i) g g1 → g1.1 i 30 7 = nI 0 → RSt g1 i n l → r ∈ l → (∀ x ∈ l, Fol D n r x) → Xe sc (d + 1) 19 64 [vR i 30, vI (nI r), vI (nI 0)] [] g1 Φ := by
    intro g1 l f1 f2 f3 f4 f5
    have fin : ∀ q s (l : List Nat), Fr (PF i) g s → s.1 i 30 7 = nI 0 → RSt s i n l → r ∈ l → (∀ x ∈ l, Fol D n r x) → (∀ (t x : Nat), t < q → l[t]? = some x → ¬ D 12 x = nI 0 → ∀ y, y < n → (D 12 y = D 12 x ∨ D 13 y = D 12 x) → y ∈ l) → l.length ≤ q → Xe sc (d + 1) 19 104 [vR i 30, vI (nI r), vI (nI 0)] [] s Φ := by
      intro q s l f1 f2 f3 f4 f5 f6 f7
      refine lst s l f1 f2 f3 (fun x hx => ⟨fun hm => folB_iff.mpr (hn ▸ f5 x hm), fun hm => ?_⟩)
      refine (hn ▸ folB_iff.mp hm : Fol D n r x) (fun x => x ∈ l) f4 (fun x y hx hy hxl h0 hc => ?_)
      obtain ⟨t, ht, he⟩ := List.mem_iff_getElem.mp hxl
      exact f6 t x (by omega) (List.getElem?_eq_some_iff.mpr ⟨ht, he⟩) h0 y hy hc
    refine turnsS (σ := Gs × List Nat) (W := fun q s => Xe sc (d + 1) 19 64 [vR i 30, vI (nI r), vI (nI q)] [] s.1 Φ)
      (I := fun q s => Fr (PF i) g s.1 ∧ s.1.1 i 30 7 = nI 0 ∧ RSt s.1 i n s.2 ∧ r ∈ s.2 ∧ (∀ x ∈ s.2, Fol D n r x) ∧ ∀ (t x : Nat), t < q → s.2[t]? = some x → ¬ D 12 x = nI 0 → ∀ y, y < n → (D 12 y = D 12 x ∨ D 13 y = D 12 x) → y ∈ s.2) (n := 40)
      (fun q s hq ⟨i1, i2, i3, i4, i5, i6⟩ hW => ?_) (fun s ⟨i1, i2, i3, i4, i5, i6⟩ => ?_) (g1, l) ⟨f1, f2, f3, f4, f5, fun t x h => absurd h (Nat.not_lt_zero t)⟩
    · obtain ⟨g2, l2⟩ := s
      dsimp only at i1 i2 i3 i4 i5 i6 ⊢
      have hlen := nodup_len n _ i3.1 i3.2.1
      have hsz := i3.2.2.1
      refine v19_64 ?_
      rw [hsz]
      by_cases hq2 : q < l2.length
      · have hx := List.getElem?_eq_getElem hq2
        obtain ⟨x, hxe⟩ : ∃ x, x = l2[q] := ⟨_, rfl⟩
        rw [← hxe] at hx
        have hxl : x ∈ l2 := by rw [hxe]; exact List.getElem_mem hq2
        have hxn := i3.2.1 x hxl
        have hc := i3.2.2.2.1 q x hx
        have e12 : g2.1 (fm i) 12 = D 12 := by rw [i1.D (by decide), hD 12 (by decide)]
        have e13 : g2.1 (fm i) 13 = D 13 := by rw [i1.D (by decide), hD 13 (by decide)]
        have hn1 : g2.1 (fm i) 0 11 = nI n := by rw [i1.D (by decide), hD 0 (by decide)]; exact h11
        simp (disch := omega) only [u3_nc, u3_ek, u3_nk, upd_e, upd_n, dU_nk, dU_nc, dU_e, nI_ltI, nI_eq, nI_clamp, nI_add, nI_mul, inb_nI, nI_neg1, nI_ne1, nI_n1e, nI_neg1e, Nat.not_lt_zero, Nat.lt_irrefl, true_and, and_true, true_implies, false_implies, not_true_eq_false, not_false_eq_true, implies_true, forall_const, forall_eq, if_true, if_false, Nat.reduceEqDiff, eq_self, Nat.one_ne_zero, Nat.zero_ne_one, Nat.zero_add, Nat.add_zero, hq, hq2, hc, e12]
        by_cases h00 : D 12 x = nI 0
        · rw [h00]
          refine s20z ⟨rfl, hW (g2, l2) ⟨i1, i2, i3, i4, i5, fun t y ht hy hy0 => ?_⟩⟩
          by_cases he : t = q
          · subst he; rw [hx] at hy; cases hy; exact absurd h00 hy0
          · exact i6 t y (by omega) hy hy0
        · refine s20 hn1 h40 h00 i3 (fun g3 ext j1 j2 j3 j4 j5 => ⟨rfl, hW (g3, l2 ++ ext) ⟨i1.tr j1, j2.trans i2, j3, List.mem_append_left _ i4, fun y hy => ?_, fun t y ht hy hy0 z hz hzc => ?_⟩⟩)
          · rcases List.mem_append.mp hy with e | e
            · exact i5 y e
            · have := j4 y e
              rw [e12, e13] at this
              exact (i5 x hxl).step hxn (j3.2.1 y hy) h00 this
          · dsimp only at hy ⊢
            by_cases he : t = q
            · subst he
              rw [List.getElem?_append_left hq2, hx] at hy
              cases hy
              exact j5 z hz (by rw [e12, e13]; exact hzc)
            · rw [List.getElem?_append_left (by omega)] at hy
              exact List.mem_append_left _ (i6 t y (by omega) hy hy0 z hz hzc)
      · have hq3 : ¬ q < l2.length := hq2
        simp (disch := omega) only [u3_nc, u3_ek, u3_nk, upd_e, upd_n, dU_nk, dU_nc, dU_e, nI_ltI, nI_eq, nI_clamp, nI_add, nI_mul, inb_nI, nI_neg1, nI_ne1, nI_n1e, nI_neg1e, Nat.not_lt_zero, Nat.lt_irrefl, true_and, and_true, true_implies, false_implies, not_true_eq_false, not_false_eq_true, implies_true, forall_const, forall_eq, if_true, if_false, Nat.reduceEqDiff, eq_self, Nat.one_ne_zero, Nat.zero_ne_one, Nat.zero_add, Nat.add_zero, hq3]
        exact fin q g2 l2 i1 i2 i3 i4 i5 i6 (by omega)
    · obtain ⟨g2, l2⟩ := s
      dsimp only at i1 i2 i3 i4 i5 i6 ⊢
      have hlen := nodup_len n _ i3.1 i3.2.1
      refine v19_64 ?_
      have ff := fin 40 g2 l2 i1 i2 i3 i4 i5 i6 (by omega)
      rw [i3.2.2.1]
      have h41 : ¬ 40 < l2.length := by omega
      simp (disch := omega) only [u3_nc, u3_ek, u3_nk, upd_e, upd_n, dU_nk, dU_nc, dU_e, nI_ltI, nI_eq, nI_clamp, nI_add, nI_mul, inb_nI, nI_neg1, nI_ne1, nI_n1e, nI_neg1e, Nat.not_lt_zero, Nat.lt_irrefl, true_and, and_true, true_implies, false_implies, not_true_eq_false, not_false_eq_true, implies_true, forall_const, forall_eq, if_true, if_false, Nat.reduceEqDiff, eq_self, Nat.one_ne_zero, Nat.zero_ne_one, Nat.zero_add, Nat.add_zero, h41]
      exact ff
  -- the first loop: no one is reached
  refine turnsS (σ := Gs) (W := fun q s => Xe sc (d + 1) 19 20 [vR i 30, vI (nI r), vI (nI q)] [] s Φ)
    (I := fun q s => Fr (PF i) g s ∧ s.1 i 30 7 = nI 0 ∧ ∀ x, x < q → s.1 i 31 x = nI 0) (n := n)
    (fun q s hq ⟨i1, i2, i3⟩ hW => ?_) (fun s ⟨i1, i2, i3⟩ => ?_) _ ⟨Fr.u3 (Fr.rf g) ⟨rfl, by decide, by decide⟩, u3_ek rfl, fun x hx => absurd hx (Nat.not_lt_zero x)⟩
  · have hn1 : s.1 (fm i) 0 11 = nI n := by rw [i1.D (by decide), hD 0 (by decide)]; exact h11
    refine v19_20 ?_
    simp (disch := omega) only [u3_nc, u3_ek, u3_nk, upd_e, upd_n, dU_nk, dU_nc, dU_e, nI_ltI, nI_eq, nI_clamp, nI_add, nI_mul, inb_nI, nI_neg1, nI_ne1, nI_n1e, nI_neg1e, Nat.not_lt_zero, Nat.lt_irrefl, true_and, and_true, true_implies, false_implies, not_true_eq_false, not_false_eq_true, implies_true, forall_const, forall_eq, if_true, if_false, Nat.reduceEqDiff, eq_self, Nat.one_ne_zero, Nat.zero_ne_one, Nat.zero_add, Nat.add_zero, hn1, hq, narT20]
    refine hW _ ⟨i1.tr (by exact Fr.u3 (Fr.rf _) ⟨rfl, by decide, by decide⟩), ?_, fun x hx => ?_⟩
    · show u3 s.1 i 31 q _ i 30 7 = _
      rw [u3_nc (by decide)]; exact i2
    · show u3 s.1 i 31 q _ i 31 x = _
      by_cases he : x = q
      · exact u3_ek he
      · rw [u3_nk he]; exact i3 x (by omega)
  · have hn1 : s.1 (fm i) 0 11 = nI n := by rw [i1.D (by decide), hD 0 (by decide)]; exact h11
    have e12 : s.1 (fm i) 12 = D 12 := by rw [i1.D (by decide), hD 12 (by decide)]
    have e13 : s.1 (fm i) 13 = D 13 := by rw [i1.D (by decide), hD 13 (by decide)]
    have f0 : Fr (PF i) s (u3 s.1 i 30 3 (nI 0), s.2) := Fr.u3 (Fr.rf s) ⟨rfl, by decide, by decide⟩
    refine v19_20 ?_
    simp (disch := omega) only [u3_nc, u3_ek, u3_nk, upd_e, upd_n, dU_nk, dU_nc, dU_e, nI_ltI, nI_eq, nI_clamp, nI_add, nI_mul, inb_nI, nI_neg1, nI_ne1, nI_n1e, nI_neg1e, Nat.not_lt_zero, Nat.lt_irrefl, true_and, and_true, true_implies, false_implies, not_true_eq_false, not_false_eq_true, implies_true, forall_const, forall_eq, if_true, if_false, Nat.reduceEqDiff, eq_self, Nat.one_ne_zero, Nat.zero_ne_one, Nat.zero_add, Nat.add_zero, hn1, e12]
    refine s20 (l := []) (by rw [f0.D (by decide)]; exact hn1) h40 h0 ⟨List.nodup_nil, (fun x hx => nomatch hx), u3_ek rfl, (fun t x hx => by rw [List.getElem?_nil] at hx; cases hx), (fun x hx => ?_)⟩ (fun g3 ext j1 j2 j3 j4 j5 => ⟨rfl, mid g3 ext (i1.tr (f0.tr j1)) ?_ j3 ?_ (fun x hx => ?_)⟩)
    · show u3 s.1 i 30 3 (nI 0) i 31 x = _
      rw [u3_nc (by decide), i3 x hx]; rfl
    · rw [j2]
      show u3 s.1 i 30 3 (nI 0) i 30 7 = _
      rw [u3_nk (by decide)]; exact i2
    · refine j5 r hr (Or.inl ?_)
      show u3 s.1 i 30 3 (nI 0) (fm i) 12 r = _
      rw [u3_nc (by decide), e12]
    · have h1 := j4 x hx
      have h2 : D 12 x = D 12 r ∨ D 13 x = D 12 r := by
        rw [f0.D (by decide), f0.D (by decide), e12, e13] at h1; exact h1
      have hrf : Fol D n r r := fun S hr _ => hr
      exact hrf.step hr (j3.2.1 x hx) h0 h2
end GA
