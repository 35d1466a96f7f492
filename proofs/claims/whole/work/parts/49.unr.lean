/-! UNMOUNT by the reference -/
section UR
variable {sc : SC} {d w x M : Nat} {g : Gs} {Φ : RS → Gs → Prop} {D E : Nat → Nat → Int32} {dd v top nf : Int32}
theorem s166n (k : Φ (.inl (some (vI (nI 0)))) g) : Rn sc (d + 3) 166 [vR 0 70, vI (-nI 1), vI v, vI top] g Φ := Rn.of rfl (v166_0 ⟨fun _ => k, fun h => absurd rfl h⟩)
theorem s166 {y : Nat} (h : MC g w E) (hy : y < nR E) (k : Φ (.inl (some (vI (if E 8 y = v ∧ E 9 y = top ∧ E 15 y = nI 0 ∧ bsy E y = false then nI 1 else nI 0)))) g) : Rn sc (d + 4) 166 [vR 0 70, vI (nI y), vI v, vI top] g Φ := by
  have n40 := h.r.2
  have hw := h.w
  have w10 := h.l
  have f2 := h.m.f2 y hy
  have f3 := h.m.f3 y hy
  have f9 := h.m.f9 y hy
  refine Rn.of rfl (v166_0 ⟨fun h => absurd h (nI_ne1 (by omega)), fun _ => ?_⟩)
  simp (disch := omega) only [u3_nc, u3_ek, u3_nk, upd_e, upd_n, dU_nk, dU_nc, dU_e, nI_ltI, nI_eq, nI_clamp, nI_add, nI_mul, inb_nI, nI_neg1, nI_ne1, nI_n1e, nI_neg1e, Nat.not_lt_zero, Nat.lt_irrefl, true_and, and_true, true_implies, false_implies, not_true_eq_false, not_false_eq_true, implies_true, forall_const, forall_eq, if_true, if_false, Nat.reduceEqDiff, eq_self, Nat.one_ne_zero, Nat.zero_ne_one, Nat.zero_add, Nat.add_zero, hw, f2, f3, f9]
  have no : ¬ (E 8 y = v ∧ E 9 y = top ∧ E 15 y = nI 0 ∧ bsy E y = false) → Φ (.inl (some (vI (nI 0)))) g := fun h => by
    rw [if_neg h] at k; exact k
  refine ⟨fun h1 => ⟨fun h2 => ⟨fun h3 => ?_, fun h3 => no (fun q => h3 q.2.2.1)⟩, fun h2 => no (fun q => h2 q.2.1)⟩, fun h1 => no (fun q => h1 q.1)⟩
  refine s148 h.w h.l h.m h.r hy ⟨_, rfl, ?_⟩
  rw [show (fst9 (nR E) fun o => decide (E 10 o = E 6 y)).isSome = bsy E y from rfl]
  cases hb : bsy E y with
  | true => exact ⟨fun h => absurd h (by decide +kernel), fun _ => no (fun q => by rw [hb] at q; cases q.2.2.2)⟩
  | false =>
    rw [if_pos ⟨h1, h2, h3, hb⟩] at k
    exact ⟨fun _ => k, fun h => absurd rfl h⟩
theorem s167 (h : MC g w D) (hw : CW D M) (gn : GNN D) (bt : BIT D) (hx : x < nR D) (hp : D 10 x = -nI 1 ∨ ∃ u, u < nR D ∧ D 10 x = D 6 u)
    (k : ∀ g', MC g' w (aUnm D x).2 → FR w g g' → Φ (.inl (some (vI (aUnm D x).1))) g') : Rn sc (d + 5) 167 [vR 0 70, vI (nI x)] g Φ := by
  have n40 := hw.1.2
  have w10 := h.l
  have w0 := h.w
  have q9 := h.m.f9 x hx
  have q4 := h.m.f4 x hx
  unfold aUnm at k
  refine Rn.of rfl (v167_0 ?_)
  simp (disch := omega) only [u3_nc, u3_ek, u3_nk, upd_e, upd_n, dU_nk, dU_nc, dU_e, nI_ltI, nI_eq, nI_clamp, nI_add, nI_mul, inb_nI, nI_neg1, nI_ne1, nI_n1e, nI_neg1e, Nat.not_lt_zero, Nat.lt_irrefl, true_and, and_true, true_implies, false_implies, not_true_eq_false, not_false_eq_true, implies_true, forall_const, forall_eq, if_true, if_false, Nat.reduceEqDiff, eq_self, Nat.one_ne_zero, Nat.zero_ne_one, Nat.zero_add, Nat.add_zero, w0, q9, q4, bit_1 (bt x hx).2]
  refine ⟨fun h0 => ?_, fun h0 => ⟨fun h1 => ?_, fun h1 => ?_⟩⟩
  · rw [if_pos h0] at k
    exact k g h (FR.rf w g)
  · rw [if_neg h0, fst9_no (fun j hj => decide_eq_false (fun q => by rw [h1, (hw.2.2.1.2.2.2 j hj).1] at q; exact nI_ne1 (by have := hw.2.2.1.2.2.2 j hj; have := hw.2.2.1.2; omega) q))] at k
    exact k g h (FR.rf w g)
  · rw [if_neg h0] at k
    rcases hp with e | ⟨u, hu, e⟩
    · exact absurd e h1
    · have hrow := hw.2.2.1.row n40 hu
      rw [← e] at hrow
      rw [hrow] at k
      dsimp only at k
      refine s148 h.w h.l h.m h.r hx ⟨_, rfl, ?_⟩
      rw [show (fst9 (nR D) fun o => decide (D 10 o = D 6 x)).isSome = bsy D x from rfl]
      cases hb : bsy D x with
      | true =>
        rw [if_pos hb] at k
        exact ⟨fun h => absurd h (by decide +kernel), fun _ => k g h (FR.rf w g)⟩
      | false =>
        rw [if_neg (by rw [hb]; exact Bool.false_ne_true)] at k
        refine ⟨fun _ => ?_, fun h => absurd rfl h⟩
        have q2 := h.m.f2 x hx
        have q3 := h.m.f3 x hx
        have q5 := h.m.f5 x hx
        simp (disch := omega) only [u3_nc, u3_ek, u3_nk, upd_e, upd_n, dU_nk, dU_nc, dU_e, nI_ltI, nI_eq, nI_clamp, nI_add, nI_mul, inb_nI, nI_neg1, nI_ne1, nI_n1e, nI_neg1e, Nat.not_lt_zero, Nat.lt_irrefl, true_and, and_true, true_implies, false_implies, not_true_eq_false, not_false_eq_true, implies_true, forall_const, forall_eq, if_true, if_false, Nat.reduceEqDiff, eq_self, Nat.one_ne_zero, Nat.zero_ne_one, Nat.zero_add, Nat.add_zero, w0, q4, q2, q3, q5]
        refine s144 h.w h.l h.m h.r ⟨_, rfl, ?_⟩
        rw [hrow]
        rw [show eo (some u) = nI u from rfl]
        simp (disch := omega) only [u3_nc, u3_ek, u3_nk, upd_e, upd_n, dU_nk, dU_nc, dU_e, nI_ltI, nI_eq, nI_clamp, nI_add, nI_mul, inb_nI, nI_neg1, nI_ne1, nI_n1e, nI_neg1e, Nat.not_lt_zero, Nat.lt_irrefl, true_and, and_true, true_implies, false_implies, not_true_eq_false, not_false_eq_true, implies_true, forall_const, forall_eq, if_true, if_false, Nat.reduceEqDiff, eq_self, Nat.one_ne_zero, Nat.zero_ne_one, Nat.zero_add, Nat.add_zero, w0, q2, q3, q5]
        refine s152 h gn hu (fun g1 f1 hM => ⟨_, rfl, ?_⟩)
        have m1 : MC g1 w D := h.fr f1 (by simp) (by simp)
        have F1 : FR w g g1 := FR.p f1 (by omega)
        obtain ⟨l, hl⟩ : ∃ l, l = folL D u := ⟨_, rfl⟩
        obtain ⟨N, hN⟩ : ∃ N, N = nR D := ⟨_, rfl⟩
        have hup : upto l N = l := by rw [hN, hl]; exact folL_rngN 0
        obtain ⟨LL, hLL⟩ : ∃ LL : Nat → List Int32, LL = fun q => ((upto l q).filter (fun f => decide (f ≠ u))).map (D 6) := ⟨_, rfl⟩
        have hLn : LL N = numL D u := by rw [hLL]; dsimp only; rw [hup, hl]; rfl
        have hlen : ∀ q, (LL q).length ≤ q := fun q => by
          rw [hLL]; dsimp only
          rw [List.length_map]
          have h1 := (List.filter_sublist (p := fun f => decide (f ≠ u)) (l := upto l q)).length_le
          have h2 : (upto l q).length ≤ q := by
            unfold upto
            have := (List.filter_sublist (p := fun x => decide (x ∈ l)) (l := List.range q)).length_le
            rw [List.length_range] at this
            exact this
          omega
        rw [← hl] at hM ⊢
        -- the second loop
        have two : ∀ s x6, MC s w (aRem D x (nR D)) → FR w g s → (∀ (t : Nat) z, (LL N)[t]? = some z → s.1 0 76 t = z) → Xe sc (d + 4) 167 148 [vR 0 70, vI (nI x), vI (nI u), vI (D 11 x), vI (D 8 x), vI (D 9 x), vI x6, vI (nI (LL N).length), vI (nI 1), vI (nI 0), vU, vU] [] s Φ := by
          intro s0 x6 c1 c2 c3
          suffices H : ∀ w10 w11, Xe sc (d + 4) 167 148 [vR 0 70, vI (nI x), vI (nI u), vI (D 11 x), vI (D 8 x), vI (D 9 x), vI x6, vI (nI (LL N).length), vI (nI (((LL N).take 0).foldl (rmS (D 11 x) (D 8 x) (D 9 x)) (aRem D x (nR D), 1)).2), vI (nI 0), w10, w11] [] s0 Φ from H vU vU
          refine turnsS (σ := Gs) (W := fun q s => ∀ w10 w11, Xe sc (d + 4) 167 148 [vR 0 70, vI (nI x), vI (nI u), vI (D 11 x), vI (D 8 x), vI (D 9 x), vI x6, vI (nI (LL N).length), vI (nI (((LL N).take q).foldl (rmS (D 11 x) (D 8 x) (D 9 x)) (aRem D x (nR D), 1)).2), vI (nI q), w10, w11] [] s Φ)
            (I := fun q s => MC s w (((LL N).take q).foldl (rmS (D 11 x) (D 8 x) (D 9 x)) (aRem D x (nR D), 1)).1 ∧ FR w g s ∧ ∀ (t : Nat) z, (LL N)[t]? = some z → s.1 0 76 t = z) (n := (LL N).length)
            (fun q s hq ⟨i1, i2, i3⟩ hW ww wx => ?_) (fun s ⟨i1, i2, i3⟩ ww wx => ?_) s0 ⟨c1, c2, c3⟩
          · obtain ⟨p, hp⟩ : ∃ p, p = ((LL N).take q).foldl (rmS (D 11 x) (D 8 x) (D 9 x)) (aRem D x (nR D), 1) := ⟨_, rfl⟩
            rw [← hp] at i1 ⊢
            obtain ⟨nf, hnf⟩ : ∃ nf, nf = (LL N)[q] := ⟨_, rfl⟩
            have hnq := i3 q nf (by rw [hnf]; exact List.getElem?_eq_getElem hq)
            have hl40 := hlen N
            rw [List.take_succ_eq_append_getElem hq, ← hnf, List.foldl_append, ← hp, List.foldl_cons, List.foldl_nil] at hW
            have e40 := i1.r.2
            unfold rmS rmA rmN rmO at hW
            refine v167_148 ?_
            simp (disch := omega) only [u3_nc, u3_ek, u3_nk, upd_e, upd_n, dU_nk, dU_nc, dU_e, nI_ltI, nI_eq, nI_clamp, nI_add, nI_mul, inb_nI, nI_neg1, nI_ne1, nI_n1e, nI_neg1e, Nat.not_lt_zero, Nat.lt_irrefl, true_and, and_true, true_implies, false_implies, not_true_eq_false, not_false_eq_true, implies_true, forall_const, forall_eq, if_true, if_false, Nat.reduceEqDiff, eq_self, Nat.one_ne_zero, Nat.zero_ne_one, Nat.zero_add, Nat.add_zero, hq, hnq]
            refine s144 i1.w i1.l i1.m i1.r ⟨_, rfl, ?_⟩
            cases hf : fst9 (nR p.1) (fun r => decide (p.1 6 r = nf)) with
            | none =>
              rw [hf] at hW
              refine ⟨fun _ => ?_, fun h => absurd rfl h⟩
              refine s166n ⟨_, rfl, ⟨fun _ => ?_, fun h => absurd rfl h⟩⟩
              exact hW s ⟨i1, i2, i3⟩ _ _
            | some f =>
              rw [hf] at hW
              dsimp only at hW
              have hfn := (fst9_some hf).1
              refine ⟨fun h => absurd h (nI_ne1 (show f < 2 ^ 31 by omega)), fun _ => ?_⟩
              rw [show eo (some f) = nI f from rfl]
              refine s147 i1.w i1.l i1.m i1.r hfn ⟨_, rfl, ?_⟩
              rw [show (fst9 (nR p.1) fun o => decide (p.1 10 o = p.1 6 f ∧ p.1 11 o = D 11 x)) = onP p.1 f (D 11 x) from rfl]
              cases hy : onP p.1 f (D 11 x) with
              | none =>
                rw [hy] at hW
                refine s166n ⟨_, rfl, ⟨fun _ => ?_, fun h => absurd rfl h⟩⟩
                exact hW s ⟨i1, i2, i3⟩ _ _
              | some y =>
                rw [hy] at hW
                dsimp only at hW
                have hyn := (fst9_some hy).1
                rw [show eo (some y) = nI y from rfl]
                refine s166 i1 hyn ⟨_, rfl, ?_⟩
                by_cases hc : p.1 8 y = D 8 x ∧ p.1 9 y = D 9 x ∧ p.1 15 y = nI 0 ∧ bsy p.1 y = false
                · rw [if_pos hc] at hW ⊢
                  refine ⟨fun h => absurd h (by decide +kernel), fun _ => ?_⟩
                  refine s150 i1 hyn (fun g' m' f' => ⟨rfl, ?_⟩)
                  exact hW g' ⟨m', i2.tr (FR.m f'), fun t z hz => by rw [f'.1.1 0 76 (by omega)]; exact i3 t z hz⟩ _ _
                · rw [if_neg hc] at hW ⊢
                  exact ⟨fun _ => hW s ⟨i1, i2, i3⟩ _ _, fun h => absurd rfl h⟩
          · rw [List.take_length] at i1 ⊢
            have hl40 := hlen N
            refine v167_148 ?_
            simp (disch := omega) only [u3_nc, u3_ek, u3_nk, upd_e, upd_n, dU_nk, dU_nc, dU_e, nI_ltI, nI_eq, nI_clamp, nI_add, nI_mul, inb_nI, nI_neg1, nI_ne1, nI_n1e, nI_neg1e, Nat.not_lt_zero, Nat.lt_irrefl, true_and, and_true, true_implies, false_implies, not_true_eq_false, not_false_eq_true, implies_true, forall_const, forall_eq, if_true, if_false, Nat.reduceEqDiff, eq_self, Nat.one_ne_zero, Nat.zero_ne_one, Nat.zero_add, Nat.add_zero]
            rw [hLn] at i1 ⊢
            exact k s i1 i2
        obtain ⟨x6, hx6⟩ : ∃ x6, x6 = nI l.length := ⟨_, rfl⟩
        rw [← hx6]
        suffices H : Xe sc (d + 4) 167 85 [vR 0 70, vI (nI x), vI (nI u), vI (D 11 x), vI (D 8 x), vI (D 9 x), vI x6, vI (nI (LL 0).length), vI (nI 0), vU, vU, vU] [] g1 Φ by
          rw [show LL 0 = [] by rw [hLL]; rfl] at H; exact H
        refine turnsS (σ := Gs) (W := fun q s => Xe sc (d + 4) 167 85 [vR 0 70, vI (nI x), vI (nI u), vI (D 11 x), vI (D 8 x), vI (D 9 x), vI x6, vI (nI (LL q).length), vI (nI q), vU, vU, vU] [] s Φ)
          (I := fun q s => Fr (fun i c => i = 0 ∧ c = 76) g1 s ∧ ∀ (t : Nat) z, (LL q)[t]? = some z → s.1 0 76 t = z) (n := N)
          (fun q s hq ⟨i1, i3⟩ hW => ?_) (fun s ⟨i1, i3⟩ => ?_) g1 ⟨Fr.rf g1, fun t z hz => by rw [show LL 0 = [] by rw [hLL]; rfl] at hz; rw [List.getElem?_nil] at hz; cases hz⟩
        · have ms : MC s w D := m1.fr i1 (by simp) (by simp)
          have ws := ms.w
          have ns := ms.n
          rw [← hN] at ns
          have hm := (hM.fr i1 (by simp) (by simp)).1 q (by omega)
          have q0 := ms.m.f0 q (by omega)
          have hlq := hlen q
          have hs := upto_s (l := l) (q := q)
          have hL1 : LL (q + 1) = if q ∈ l ∧ q ≠ u then LL q ++ [D 6 q] else LL q := by
            rw [hLL]; dsimp only
            rw [hs]
            by_cases hql : q ∈ l
            · rw [if_pos hql, List.filter_append, List.map_append]
              by_cases hqu : q = u
              · rw [if_neg (fun h => h.2 hqu)]; simp [hqu]
              · rw [if_pos ⟨hql, hqu⟩]; simp [hqu]
            · rw [if_neg hql, if_neg (fun h => hql h.1)]
          refine v167_85 ?_
          simp (disch := omega) only [u3_nc, u3_ek, u3_nk, upd_e, upd_n, dU_nk, dU_nc, dU_e, nI_ltI, nI_eq, nI_clamp, nI_add, nI_mul, inb_nI, nI_neg1, nI_ne1, nI_n1e, nI_neg1e, Nat.not_lt_zero, Nat.lt_irrefl, true_and, and_true, true_implies, false_implies, not_true_eq_false, not_false_eq_true, implies_true, forall_const, forall_eq, if_true, if_false, Nat.reduceEqDiff, eq_self, Nat.one_ne_zero, Nat.zero_ne_one, Nat.zero_add, Nat.add_zero, ws, ns, hq, hm, q0]
          by_cases hql : q ∈ l
          · rw [if_pos hql]
            simp (disch := omega) only [u3_nc, u3_ek, u3_nk, upd_e, upd_n, dU_nk, dU_nc, dU_e, nI_ltI, nI_eq, nI_clamp, nI_add, nI_mul, inb_nI, nI_neg1, nI_ne1, nI_n1e, nI_neg1e, Nat.not_lt_zero, Nat.lt_irrefl, true_and, and_true, true_implies, false_implies, not_true_eq_false, not_false_eq_true, implies_true, forall_const, forall_eq, if_true, if_false, Nat.reduceEqDiff, eq_self, Nat.one_ne_zero, Nat.zero_ne_one, Nat.zero_add, Nat.add_zero]
            refine ⟨fun he => ?_, fun he => ?_⟩
            · rw [if_neg (fun h => h.2 he)] at hL1
              rw [hL1] at hW
              exact hW s ⟨i1, i3⟩
            · rw [if_pos ⟨hql, he⟩] at hL1
              rw [hL1, List.length_append] at hW
              refine hW _ ⟨i1.tr (by exact Fr.u3 (Fr.rf s) ⟨rfl, rfl⟩), fun t z hz => ?_⟩
              show u3 s.1 0 76 (LL q).length (D 6 q) 0 76 t = z
              by_cases het : t = (LL q).length
              · rw [u3_ek het]
                rw [het, List.getElem?_append_right (Nat.le_refl _), Nat.sub_self] at hz
                cases hz; rfl
              · rw [u3_nk het]
                have hlt : t < (LL q ++ [D 6 q]).length := (List.getElem?_eq_some_iff.mp hz).1
                rw [List.length_append] at hlt
                rw [List.getElem?_append_left (by simp at hlt; omega)] at hz
                exact i3 t z hz
          · rw [if_neg hql]
            rw [if_neg (fun h => hql h.1)] at hL1
            rw [hL1] at hW
            simp (disch := omega) only [u3_nc, u3_ek, u3_nk, upd_e, upd_n, dU_nk, dU_nc, dU_e, nI_ltI, nI_eq, nI_clamp, nI_add, nI_mul, inb_nI, nI_neg1, nI_ne1, nI_n1e, nI_neg1e, Nat.not_lt_zero, Nat.lt_irrefl, true_and, and_true, true_implies, false_implies, not_true_eq_false, not_false_eq_true, implies_true, forall_const, forall_eq, if_true, if_false, Nat.reduceEqDiff, eq_self, Nat.one_ne_zero, Nat.zero_ne_one, Nat.zero_add, Nat.add_zero]
            exact hW s ⟨i1, i3⟩
        · have ms : MC s w D := m1.fr i1 (by simp) (by simp)
          have ws := ms.w
          have ns := ms.n
          rw [← hN] at ns
          refine v167_85 ?_
          simp (disch := omega) only [u3_nc, u3_ek, u3_nk, upd_e, upd_n, dU_nk, dU_nc, dU_e, nI_ltI, nI_eq, nI_clamp, nI_add, nI_mul, inb_nI, nI_neg1, nI_ne1, nI_n1e, nI_neg1e, Nat.not_lt_zero, Nat.lt_irrefl, true_and, and_true, true_implies, false_implies, not_true_eq_false, not_false_eq_true, implies_true, forall_const, forall_eq, if_true, if_false, Nat.reduceEqDiff, eq_self, Nat.one_ne_zero, Nat.zero_ne_one, Nat.zero_add, Nat.add_zero, ws, ns]
          refine s150 ms hx (fun g' m' f' => ⟨rfl, ?_⟩)
          exact two g' x6 m' (F1.tr ((FR.p i1 (by omega)).tr (FR.m f'))) (fun t z hz => by rw [f'.1.1 0 76 (by omega)]; exact i3 t z hz)
end UR
