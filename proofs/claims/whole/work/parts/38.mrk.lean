/-! THE REFERENCE'S MARKS; the followers' groups in their order -/
/-- what findFollowers leaves -/
def Mrk (G : Gm) (D : Nat → Nat → Int32) (l : List Nat) : Prop := (∀ x, x < 40 → G 0 72 x = if x ∈ l then nI 1 else nI 0) ∧ ∀ x, x < 40 → G 0 73 x = if x < nR D then D 12 x else nI 0
/-- groups and masters are not below 0 -/
def GNN (D : Nat → Nat → Int32) : Prop := ∀ x, x < nR D → ¬ D 12 x < nI 0 ∧ ¬ D 13 x < nI 0
theorem gnn_pos {v : Int32} (h : ¬ v < nI 0) : nI 0 < v ↔ ¬ v = nI 0 := by
  refine ⟨fun q e => by rw [e] at q; exact absurd q (by decide +kernel), fun q => ?_⟩
  rw [Int32.lt_iff_toInt_lt] at h ⊢
  have : v.toInt ≠ (nI 0).toInt := fun e => q (Int32.toInt_inj.mp e)
  omega
abbrev PM : Nat → Nat → Prop := fun i c => i = 0 ∧ (c = 72 ∨ c = 73)
theorem MC.fr {P : Nat → Nat → Prop} {g g' : Gs} {w : Nat} {D : Nat → Nat → Int32} (h : MC g w D) (hf : Fr P g g') (h1 : ¬ P 0 70) (h2 : ¬ P 0 71) : MC g' w D := by
  obtain ⟨a, b, c, e, f, k⟩ := h
  refine ⟨?_, b, ?_, e, ?_, k⟩
  · rw [hf.1 0 70 h1]; exact a
  · rw [hf.1 0 71 h2]; exact c
  · rw [hf.1 0 71 h2]; exact f
section GR
variable {sc : SC} {d w : Nat} {g : Gs} {Φ : RS → Gs → Prop} {D : Nat → Nat → Int32}
theorem s151 {x : Nat} {l : List Nat} (h : MC g w D) (gn : GNN D) (hx : x < nR D) (hm : ∀ x, x < 40 → g.1 0 72 x = if x ∈ l then nI 1 else nI 0)
    (k : ∀ b : Int32, (b = nI 1 ∧ x ∉ l ∧ (∃ m, m < nR D ∧ m ∈ l ∧ ¬ D 12 m = nI 0 ∧ (D 12 x = D 12 m ∨ D 13 x = D 12 m))) ∨ (b = nI 0 ∧ (x ∈ l ∨ ∀ m, m < nR D → m ∈ l → ¬ D 12 m = nI 0 → (D 12 x = D 12 m ∨ D 13 x = D 12 m) → False)) → Φ (.inl (some (vI b))) g) : Rn sc (d + 3) 151 [vR 0 70, vI (nI x)] g Φ := by
  have h40 := h.r.2
  have hw := h.w
  have w10 := h.l
  have hn := h.n
  have f6 := h.m.f6
  have f7 := h.m.f7
  have hmx := hm x (by omega)
  refine Rn.of rfl (v151_0 ?_)
  simp (disch := omega) only [u3_nc, u3_ek, u3_nk, upd_e, upd_n, dU_nk, dU_nc, dU_e, nI_ltI, nI_eq, nI_clamp, nI_add, nI_mul, inb_nI, nI_neg1, nI_ne1, nI_n1e, nI_neg1e, Nat.not_lt_zero, Nat.lt_irrefl, true_and, and_true, true_implies, false_implies, not_true_eq_false, not_false_eq_true, implies_true, forall_const, forall_eq, if_true, if_false, Nat.reduceEqDiff, eq_self, Nat.one_ne_zero, Nat.zero_ne_one, Nat.zero_add, Nat.add_zero, hmx]
  by_cases hxl : x ∈ l
  · rw [if_pos hxl]
    simp (disch := omega) only [u3_nc, u3_ek, u3_nk, upd_e, upd_n, dU_nk, dU_nc, dU_e, nI_ltI, nI_eq, nI_clamp, nI_add, nI_mul, inb_nI, nI_neg1, nI_ne1, nI_n1e, nI_neg1e, Nat.not_lt_zero, Nat.lt_irrefl, true_and, and_true, true_implies, false_implies, not_true_eq_false, not_false_eq_true, implies_true, forall_const, forall_eq, if_true, if_false, Nat.reduceEqDiff, eq_self, Nat.one_ne_zero, Nat.zero_ne_one, Nat.zero_add, Nat.add_zero]
    exact k _ (Or.inr ⟨rfl, Or.inl hxl⟩)
  · rw [if_neg hxl]
    simp (disch := omega) only [u3_nc, u3_ek, u3_nk, upd_e, upd_n, dU_nk, dU_nc, dU_e, nI_ltI, nI_eq, nI_clamp, nI_add, nI_mul, inb_nI, nI_neg1, nI_ne1, nI_n1e, nI_neg1e, Nat.not_lt_zero, Nat.lt_irrefl, true_and, and_true, true_implies, false_implies, not_true_eq_false, not_false_eq_true, implies_true, forall_const, forall_eq, if_true, if_false, Nat.reduceEqDiff, eq_self, Nat.one_ne_zero, Nat.zero_ne_one, Nat.zero_add, Nat.add_zero]
    obtain ⟨n, hn2⟩ : ∃ n, n = nR D := ⟨_, rfl⟩
    rw [← hn2] at hn f6 f7 h40 hx k
    refine turnsS (σ := Unit) (W := fun q _ => Xe sc (d + 2) 151 13 [vR 0 70, vI (nI x), vI (nI q)] [] g Φ) (I := fun q _ => ∀ m, m < q → m ∈ l → ¬ D 12 m = nI 0 → (D 12 x = D 12 m ∨ D 13 x = D 12 m) → False) (n := n) (fun q _ hq i1 hW => ?_) (fun _ i1 => ?_) () (fun m hm => absurd hm (Nat.not_lt_zero m))
    · have hmq := hm q (by omega)
      have skip : (q ∈ l → ¬ D 12 q = nI 0 → (D 12 x = D 12 q ∨ D 13 x = D 12 q) → False) → Xe sc (d + 2) 151 13 [vR 0 70, vI (nI x), vI (nI (q + 1))] [] g Φ := fun hs => hW () (fun m hm => by
        by_cases he : m = q
        · subst he; exact hs
        · exact i1 m (by omega))
      refine v151_13 ?_
      simp (disch := omega) only [u3_nc, u3_ek, u3_nk, upd_e, upd_n, dU_nk, dU_nc, dU_e, nI_ltI, nI_eq, nI_clamp, nI_add, nI_mul, inb_nI, nI_neg1, nI_ne1, nI_n1e, nI_neg1e, Nat.not_lt_zero, Nat.lt_irrefl, true_and, and_true, true_implies, false_implies, not_true_eq_false, not_false_eq_true, implies_true, forall_const, forall_eq, if_true, if_false, Nat.reduceEqDiff, eq_self, Nat.one_ne_zero, Nat.zero_ne_one, Nat.zero_add, Nat.add_zero, hw, hn, hq, hmq]
      by_cases hql : q ∈ l
      · rw [if_pos hql]
        have gq := (gn q (hn2 ▸ hq)).1
        simp (disch := omega) only [u3_nc, u3_ek, u3_nk, upd_e, upd_n, dU_nk, dU_nc, dU_e, nI_ltI, nI_eq, nI_clamp, nI_add, nI_mul, inb_nI, nI_neg1, nI_ne1, nI_n1e, nI_neg1e, Nat.not_lt_zero, Nat.lt_irrefl, true_and, and_true, true_implies, false_implies, not_true_eq_false, not_false_eq_true, implies_true, forall_const, forall_eq, if_true, if_false, Nat.reduceEqDiff, eq_self, Nat.one_ne_zero, Nat.zero_ne_one, Nat.zero_add, Nat.add_zero, f6, f7, hx, hq, gnn_pos gq]
        refine ⟨fun h0 => ⟨fun h1 => ?_, fun h1 => ⟨fun h2 => ?_, fun h2 => ?_⟩⟩, fun h0 => ?_⟩
        · exact k _ (Or.inl ⟨rfl, hxl, q, hq, hql, h0, Or.inl h1⟩)
        · exact k _ (Or.inl ⟨rfl, hxl, q, hq, hql, h0, Or.inr h2⟩)
        · exact skip (fun _ _ hc => hc.elim h1 h2)
        · exact skip (fun _ h1 _ => h0 h1)
      · rw [if_neg hql]
        simp (disch := omega) only [u3_nc, u3_ek, u3_nk, upd_e, upd_n, dU_nk, dU_nc, dU_e, nI_ltI, nI_eq, nI_clamp, nI_add, nI_mul, inb_nI, nI_neg1, nI_ne1, nI_n1e, nI_neg1e, Nat.not_lt_zero, Nat.lt_irrefl, true_and, and_true, true_implies, false_implies, not_true_eq_false, not_false_eq_true, implies_true, forall_const, forall_eq, if_true, if_false, Nat.reduceEqDiff, eq_self, Nat.one_ne_zero, Nat.zero_ne_one, Nat.zero_add, Nat.add_zero]
        exact skip (fun h => absurd h hql)
    · refine v151_13 ?_
      simp (disch := omega) only [u3_nc, u3_ek, u3_nk, upd_e, upd_n, dU_nk, dU_nc, dU_e, nI_ltI, nI_eq, nI_clamp, nI_add, nI_mul, inb_nI, nI_neg1, nI_ne1, nI_n1e, nI_neg1e, Nat.not_lt_zero, Nat.lt_irrefl, true_and, and_true, true_implies, false_implies, not_true_eq_false, not_false_eq_true, implies_true, forall_const, forall_eq, if_true, if_false, Nat.reduceEqDiff, eq_self, Nat.one_ne_zero, Nat.zero_ne_one, Nat.zero_add, Nat.add_zero, hw, hn]
      exact k _ (Or.inr ⟨rfl, Or.inr i1⟩)
theorem nodup_sub : ∀ (l m : List Nat), l.Nodup → (∀ x ∈ l, x ∈ m) → l.length ≤ m.length := by
  intro l
  induction l with
  | nil => intro m _ _; exact Nat.zero_le _
  | cons a r ih =>
    intro m hd h
    have ha := h a List.mem_cons_self
    obtain ⟨h1, h2⟩ := List.nodup_cons.mp hd
    have h3 := ih (m.erase a) h2 (fun x hx => (List.mem_erase_of_ne (show x ≠ a from fun e => h1 (e ▸ hx))).mpr (h x (List.mem_cons_of_mem _ hx)))
    rw [List.length_erase_of_mem ha] at h3
    have h4 := List.length_pos_of_mem ha
    rw [List.length_cons]
    omega
theorem Mrk.add {g : Gs} {D : Nat → Nat → Int32} {l : List Nat} {q : Nat} (h : Mrk g.1 D l) : Mrk (u3 g.1 0 72 q (nI 1)) D (q :: l) := by
  refine ⟨fun x hx => ?_, fun x hx => ?_⟩
  · by_cases he : x = q
    · rw [u3_ek he, if_pos (by rw [he]; exact List.mem_cons_self)]
    · rw [u3_nk he, h.1 x hx]
      by_cases hm : x ∈ l
      · rw [if_pos hm, if_pos (List.mem_cons_of_mem _ hm)]
      · rw [if_neg hm, if_neg (fun q => (List.mem_cons.mp q).elim he hm)]
  · rw [u3_nc (by decide)]; exact h.2 x hx
theorem Mrk.ext {G : Gm} {D : Nat → Nat → Int32} {l m : List Nat} (h : Mrk G D l) (e : ∀ x, x ∈ l ↔ x ∈ m) : Mrk G D m := ⟨fun x hx => by
  rw [h.1 x hx]
  by_cases hm : x ∈ l
  · rw [if_pos hm, if_pos ((e x).mp hm)]
  · rw [if_neg hm, if_neg (fun q => hm ((e x).mpr q))], h.2⟩
theorem s152 {r : Nat} (h : MC g w D) (gn : GNN D) (hr : r < nR D) (k : ∀ g', Fr PM g g' → Mrk g'.1 D (folL D r) → Φ (.inl (some (vI (nI (folL D r).length)))) g') : Rn sc (d + 4) 152 [vR 0 70, vI (nI r)] g Φ := by
  have h40 := h.r.2
  have hw := h.w
  have w10 := h.l
  have hn := h.n
  have f6 := h.m.f6
  obtain ⟨n, hn2⟩ : ∃ n, n = nR D := ⟨_, rfl⟩
  rw [← hn2] at hn f6 h40 hr
  -- all passes
  have pas : ∀ z g1 (l : List Nat) w4, Fr PM g g1 → Mrk g1.1 D l → l.Nodup → (∀ x ∈ l, x < n ∧ Fol D n r x) → r ∈ l → ¬ D 12 r = nI 0 → n + 1 ≤ z + l.length → Xe sc (d + 3) 152 70 [vR 0 70, vI (nI r), vI (nI l.length), vI (nI 1), w4] [] g1 Φ := by
    intro z
    induction z with
    | zero =>
      intro g1 l w4 f1 f2 f3 f4 f5 f6 f7
      have := nodup_len n l f3 (fun x hx => (f4 x hx).1)
      omega
    | succ z ih =>
      intro g1 l w4 f1 f2 f3 f4 f5 f6 f7
      refine v152_70 ?_
      simp (disch := omega) only [u3_nc, u3_ek, u3_nk, upd_e, upd_n, dU_nk, dU_nc, dU_e, nI_ltI, nI_eq, nI_clamp, nI_add, nI_mul, inb_nI, nI_neg1, nI_ne1, nI_n1e, nI_neg1e, Nat.not_lt_zero, Nat.lt_irrefl, true_and, and_true, true_implies, false_implies, not_true_eq_false, not_false_eq_true, implies_true, forall_const, forall_eq, if_true, if_false, Nat.reduceEqDiff, eq_self, Nat.one_ne_zero, Nat.zero_ne_one, Nat.zero_add, Nat.add_zero]
      -- one pass: what is added; a flag says whether something was
      suffices H : Xe sc (d + 3) 152 79 [vR 0 70, vI (nI r), vI (nI l.length), vI (nI (if l.length = l.length then 0 else 1)), vI (nI 0)] [] g1 Φ by
        rw [if_pos rfl] at H; exact H
      refine turnsS (σ := Gs × List Nat) (W := fun q s => Xe sc (d + 3) 152 79 [vR 0 70, vI (nI r), vI (nI s.2.length), vI (nI (if s.2.length = l.length then 0 else 1)), vI (nI q)] [] s.1 Φ)
        (I := fun q s => Fr PM g s.1 ∧ Mrk s.1.1 D s.2 ∧ s.2.Nodup ∧ (∀ x ∈ s.2, x < n ∧ Fol D n r x) ∧ r ∈ s.2 ∧ (∀ x ∈ l, x ∈ s.2) ∧ l.length ≤ s.2.length ∧ (s.2.length = l.length → (∀ x ∈ s.2, x ∈ l) ∧ ∀ x, x < q → x ∉ l → ∀ m, m < n → m ∈ l → ¬ D 12 m = nI 0 → (D 12 x = D 12 m ∨ D 13 x = D 12 m) → False)) (n := n)
        (fun q s hq ⟨i1, i2, i3, i4, i5, i6, i7, i8⟩ hW => ?_) (fun s ⟨i1, i2, i3, i4, i5, i6, i7, i8⟩ => ?_) (g1, l) ⟨f1, f2, f3, f4, f5, fun x hx => hx, Nat.le_refl _, fun _ => ⟨fun x hx => hx, fun x hx => absurd hx (Nat.not_lt_zero x)⟩⟩
      · obtain ⟨g2, l2⟩ := s
        dsimp only at i1 i2 i3 i4 i5 i6 i7 i8 ⊢
        have hM : MC g2 w D := h.fr i1 (by simp) (by simp)
        have hw2 := hM.w
        have hn3 := hM.n
        rw [← hn2] at hn3
        have hlen := nodup_len n l2 i3 (fun x hx => (i4 x hx).1)
        refine v152_79 ?_
        simp (disch := omega) only [u3_nc, u3_ek, u3_nk, upd_e, upd_n, dU_nk, dU_nc, dU_e, nI_ltI, nI_eq, nI_clamp, nI_add, nI_mul, inb_nI, nI_neg1, nI_ne1, nI_n1e, nI_neg1e, Nat.not_lt_zero, Nat.lt_irrefl, true_and, and_true, true_implies, false_implies, not_true_eq_false, not_false_eq_true, implies_true, forall_const, forall_eq, if_true, if_false, Nat.reduceEqDiff, eq_self, Nat.one_ne_zero, Nat.zero_ne_one, Nat.zero_add, Nat.add_zero, hw2, hn3, hq]
        refine s151 hM gn (hn2 ▸ hq) i2.1 (fun b hb => ⟨b, rfl, ?_⟩)
        rcases hb with ⟨rfl, hql, m, hm, hml, hm0, hmc⟩ | ⟨rfl, hno⟩
        · simp (disch := omega) only [u3_nc, u3_ek, u3_nk, upd_e, upd_n, dU_nk, dU_nc, dU_e, nI_ltI, nI_eq, nI_clamp, nI_add, nI_mul, inb_nI, nI_neg1, nI_ne1, nI_n1e, nI_neg1e, Nat.not_lt_zero, Nat.lt_irrefl, true_and, and_true, true_implies, false_implies, not_true_eq_false, not_false_eq_true, implies_true, forall_const, forall_eq, if_true, if_false, Nat.reduceEqDiff, eq_self, Nat.one_ne_zero, Nat.zero_ne_one, Nat.zero_add, Nat.add_zero, narT21]
          have hlt : l2.length < 40 := by
            have := nodup_len n (q :: l2) (List.nodup_cons.mpr ⟨hql, i3⟩) (fun x hx => by
              rcases List.mem_cons.mp hx with e | e
              · rw [e]; exact hq
              · exact (i4 x e).1)
            rw [List.length_cons] at this
            omega
          have he : ¬ l2.length + 1 = l.length := by omega
          have := hW (_, q :: l2) ⟨i1.tr (Fr.u3 (v := nI 1) (k := q) (Fr.rf g2) ⟨rfl, Or.inl rfl⟩), i2.add, List.nodup_cons.mpr ⟨hql, i3⟩, fun x hx => by
            rcases List.mem_cons.mp hx with e | e
            · rw [e]; exact ⟨hq, (i4 m hml).2.step (hn2 ▸ hm) hq hm0 hmc⟩
            · exact i4 x e, List.mem_cons_of_mem _ i5, fun x hx => List.mem_cons_of_mem _ (i6 x hx), Nat.le_succ_of_le i7, fun e => absurd e he⟩
          dsimp only [List.length_cons] at this
          rw [if_neg he] at this
          exact this
        · simp (disch := omega) only [u3_nc, u3_ek, u3_nk, upd_e, upd_n, dU_nk, dU_nc, dU_e, nI_ltI, nI_eq, nI_clamp, nI_add, nI_mul, inb_nI, nI_neg1, nI_ne1, nI_n1e, nI_neg1e, Nat.not_lt_zero, Nat.lt_irrefl, true_and, and_true, true_implies, false_implies, not_true_eq_false, not_false_eq_true, implies_true, forall_const, forall_eq, if_true, if_false, Nat.reduceEqDiff, eq_self, Nat.one_ne_zero, Nat.zero_ne_one, Nat.zero_add, Nat.add_zero]
          refine hW (g2, l2) ⟨i1, i2, i3, i4, i5, i6, i7, fun e => ⟨(i8 e).1, fun x hx hxl m hm hml hm0 hmc => ?_⟩⟩
          by_cases hxq : x = q
          · subst hxq
            rcases hno with hno | hno
            · exact hxl ((i8 e).1 x hno)
            · exact hno m (hn2 ▸ hm) (i6 m hml) hm0 hmc
          · exact (i8 e).2 x (by omega) hxl m hm hml hm0 hmc
      · obtain ⟨g2, l2⟩ := s
        dsimp only at i1 i2 i3 i4 i5 i6 i7 i8 ⊢
        have hM : MC g2 w D := h.fr i1 (by simp) (by simp)
        have hw2 := hM.w
        have hn3 := hM.n
        rw [← hn2] at hn3
        refine v152_79 ?_
        simp (disch := omega) only [u3_nc, u3_ek, u3_nk, upd_e, upd_n, dU_nk, dU_nc, dU_e, nI_ltI, nI_eq, nI_clamp, nI_add, nI_mul, inb_nI, nI_neg1, nI_ne1, nI_n1e, nI_neg1e, Nat.not_lt_zero, Nat.lt_irrefl, true_and, and_true, true_implies, false_implies, not_true_eq_false, not_false_eq_true, implies_true, forall_const, forall_eq, if_true, if_false, Nat.reduceEqDiff, eq_self, Nat.one_ne_zero, Nat.zero_ne_one, Nat.zero_add, Nat.add_zero, hw2, hn3]
        by_cases he : l2.length = l.length
        · rw [if_pos he]
          refine v152_70 ?_
          simp (disch := omega) only [u3_nc, u3_ek, u3_nk, upd_e, upd_n, dU_nk, dU_nc, dU_e, nI_ltI, nI_eq, nI_clamp, nI_add, nI_mul, inb_nI, nI_neg1, nI_ne1, nI_n1e, nI_neg1e, Nat.not_lt_zero, Nat.lt_irrefl, true_and, and_true, true_implies, false_implies, not_true_eq_false, not_false_eq_true, implies_true, forall_const, forall_eq, if_true, if_false, Nat.reduceEqDiff, eq_self, Nat.one_ne_zero, Nat.zero_ne_one, Nat.zero_add, Nat.add_zero]
          have hmem : ∀ x, x ∈ l2 ↔ x ∈ folL D r := fun x => by
            rw [folL_of f6, ← hn2, List.mem_filter, List.mem_range, folB_iff, ← hn2]
            refine ⟨fun hx => i4 x hx, fun ⟨_, hx⟩ => hx (fun x => x ∈ l2) i5 (fun a b ha hb hal h0 hc => ?_)⟩
            by_cases hbl : b ∈ l
            · exact i6 b hbl
            · exact absurd hc (fun hc => (i8 he).2 b hb hbl a ha ((i8 he).1 a hal) h0 hc)
          have hl : l2.length = (folL D r).length := Nat.le_antisymm (nodup_sub _ _ i3 (fun x hx => (hmem x).mp hx)) (nodup_sub _ _ (folL_nd D r) (fun x hx => (hmem x).mpr hx))
          rw [hl]
          exact k g2 i1 (i2.ext hmem)
        · rw [if_neg he]
          exact ih g2 l2 _ i1 i2 i3 i4 i5 f6 (by omega)
  refine Rn.of rfl (v152_0 ?_)
  refine turnsS (σ := Gs) (W := fun q s => Xe sc (d + 3) 152 2 [vR 0 70, vI (nI r), vI (nI q), vU, vU] [] s Φ)
    (I := fun q s => Fr PM g s ∧ ∀ x, x < q → s.1 0 72 x = nI 0 ∧ s.1 0 73 x = if x < n then D 12 x else nI 0) (n := 40)
    (fun q s hq ⟨i1, i2⟩ hW => ?_) (fun s ⟨i1, i2⟩ => ?_) g ⟨Fr.rf g, fun x hx => absurd hx (Nat.not_lt_zero x)⟩
  · have hM : MC s w D := h.fr i1 (by simp) (by simp)
    have hw2 := hM.w
    have hn3 := hM.n
    have f6 := hM.m.f6
    rw [← hn2] at hn3 f6
    have fin : ∀ v, (v = if q < n then D 12 q else nI 0) → Xe sc (d + 3) 152 2 [vR 0 70, vI (nI r), vI (nI (q + 1)), vU, vU] [] (u3 (u3 s.1 0 72 q (nI 0)) 0 73 q v, s.2) Φ := fun v hv => by
      refine hW _ ⟨i1.tr (by repeat (first | exact Fr.rf _ | refine Fr.u3 ?_ ⟨rfl, by decide⟩)), fun x hx => ?_⟩
      show u3 (u3 s.1 0 72 q (nI 0)) 0 73 q v 0 72 x = _ ∧ u3 (u3 s.1 0 72 q (nI 0)) 0 73 q v 0 73 x = _
      by_cases he : x = q
      · subst he
        simp (disch := omega) only [u3_nc, u3_ek, u3_nk, upd_e, upd_n, dU_nk, dU_nc, dU_e, nI_ltI, nI_eq, nI_clamp, nI_add, nI_mul, inb_nI, nI_neg1, nI_ne1, nI_n1e, nI_neg1e, Nat.not_lt_zero, Nat.lt_irrefl, true_and, and_true, true_implies, false_implies, not_true_eq_false, not_false_eq_true, implies_true, forall_const, forall_eq, if_true, if_false, Nat.reduceEqDiff, eq_self, Nat.one_ne_zero, Nat.zero_ne_one, Nat.zero_add, Nat.add_zero]
        exact hv
      · simp (disch := omega) only [u3_nc, u3_ek, u3_nk, upd_e, upd_n, dU_nk, dU_nc, dU_e, nI_ltI, nI_eq, nI_clamp, nI_add, nI_mul, inb_nI, nI_neg1, nI_ne1, nI_n1e, nI_neg1e, Nat.not_lt_zero, Nat.lt_irrefl, true_and, and_true, true_implies, false_implies, not_true_eq_false, not_false_eq_true, implies_true, forall_const, forall_eq, if_true, if_false, Nat.reduceEqDiff, eq_self, Nat.one_ne_zero, Nat.zero_ne_one, Nat.zero_add, Nat.add_zero]
        exact i2 x (by omega)
    refine v152_2 ?_
    simp (disch := omega) only [u3_nc, u3_ek, u3_nk, upd_e, upd_n, dU_nk, dU_nc, dU_e, nI_ltI, nI_eq, nI_clamp, nI_add, nI_mul, inb_nI, nI_neg1, nI_ne1, nI_n1e, nI_neg1e, Nat.not_lt_zero, Nat.lt_irrefl, true_and, and_true, true_implies, false_implies, not_true_eq_false, not_false_eq_true, implies_true, forall_const, forall_eq, if_true, if_false, Nat.reduceEqDiff, eq_self, Nat.one_ne_zero, Nat.zero_ne_one, Nat.zero_add, Nat.add_zero, hw2, hn3, hq, narT20]
    refine ⟨fun hqn => ?_, fun hqn => ?_⟩
    · simp (disch := omega) only [u3_nc, u3_ek, u3_nk, upd_e, upd_n, dU_nk, dU_nc, dU_e, nI_ltI, nI_eq, nI_clamp, nI_add, nI_mul, inb_nI, nI_neg1, nI_ne1, nI_n1e, nI_neg1e, Nat.not_lt_zero, Nat.lt_irrefl, true_and, and_true, true_implies, false_implies, not_true_eq_false, not_false_eq_true, implies_true, forall_const, forall_eq, if_true, if_false, Nat.reduceEqDiff, eq_self, Nat.one_ne_zero, Nat.zero_ne_one, Nat.zero_add, Nat.add_zero, f6, hqn]
      exact fin _ (if_pos hqn).symm
    · exact fin _ (if_neg hqn).symm
  · have hM : MC s w D := h.fr i1 (by simp) (by simp)
    have hw2 := hM.w
    have f6 := hM.m.f6
    rw [← hn2] at f6
    have m0 : Mrk s.1 D [] := ⟨fun x hx => by rw [(i2 x hx).1, if_neg (fun q => nomatch q)], fun x hx => by rw [← hn2]; exact (i2 x hx).2⟩
    refine v152_2 ?_
    simp (disch := omega) only [u3_nc, u3_ek, u3_nk, upd_e, upd_n, dU_nk, dU_nc, dU_e, nI_ltI, nI_eq, nI_clamp, nI_add, nI_mul, inb_nI, nI_neg1, nI_ne1, nI_n1e, nI_neg1e, Nat.not_lt_zero, Nat.lt_irrefl, true_and, and_true, true_implies, false_implies, not_true_eq_false, not_false_eq_true, implies_true, forall_const, forall_eq, if_true, if_false, Nat.reduceEqDiff, eq_self, Nat.one_ne_zero, Nat.zero_ne_one, Nat.zero_add, Nat.add_zero, hw2, f6, hr]
    refine ⟨fun h0 => ?_, fun h0 => ?_⟩
    · have e : folL D r = [] := if_pos h0
      rw [e] at k
      exact k s i1 m0
    · simp (disch := omega) only [u3_nc, u3_ek, u3_nk, upd_e, upd_n, dU_nk, dU_nc, dU_e, nI_ltI, nI_eq, nI_clamp, nI_add, nI_mul, inb_nI, nI_neg1, nI_ne1, nI_n1e, nI_neg1e, Nat.not_lt_zero, Nat.lt_irrefl, true_and, and_true, true_implies, false_implies, not_true_eq_false, not_false_eq_true, implies_true, forall_const, forall_eq, if_true, if_false, Nat.reduceEqDiff, eq_self, Nat.one_ne_zero, Nat.zero_ne_one, Nat.zero_add, Nat.add_zero, narT21]
      exact pas n _ [r] _ (i1.tr (Fr.u3 (Fr.rf s) ⟨rfl, Or.inl rfl⟩)) m0.add (by simp) (fun x hx => by rw [List.mem_singleton.mp hx]; exact ⟨hr, fun S hr _ => hr⟩) (List.mem_singleton.mpr rfl) h0 (Nat.le_refl _)
end GR
