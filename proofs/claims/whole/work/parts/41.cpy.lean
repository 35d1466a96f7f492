/-! ONE COPY, in the class and in the reference -/
theorem dU_at {E D : Nat → Nat → Int32} {c0 k : Nat} {v : Int32} (h : ∀ c, c < 16 → E c = D c) : ∀ c, c < 16 → dU E c0 k v c = dU D c0 k v c := fun c hc => by
  funext k'
  unfold dU
  by_cases hk : c = c0 ∧ k' = k
  · rw [if_pos hk, if_pos hk]
  · rw [if_neg hk, if_neg hk, h c hc]
theorem aAdd_at {E D : Nat → Nat → Int32} {n : Nat} {sp v t : Int32} (h : ∀ c, c < 16 → E c = D c) : ∀ c, c < 16 → aAdd E n sp v t c = aAdd D n sp v t c := by
  unfold aAdd
  rw [h 0 (by decide)]
  exact dU_at (dU_at (dU_at (dU_at (dU_at (dU_at (dU_at (dU_at (dU_at (dU_at (dU_at (dU_at h)))))))))))
abbrev PD (i : Nat) : Nat → Nat → Prop := fun i' c => i' = i ∧ c < 16
def aNew (D : Nat → Nat → Int32) (sp v t o p v12 v13 : Int32) : Nat → Nat → Int32 :=
  dU (dU (dU (dU (aAdd D (nR D) sp v t) 10 (nR D) o) 11 (nR D) p) 12 (nR D) v12) 13 (nR D) v13
def aCpy (D : Nat → Nat → Int32) (x f : Nat) (v12 v13 : Int32) : Nat → Nat → Int32 := aNew D (D 7 f) (D 8 x) (D 9 x) (D 6 f) (D 11 x) v12 v13
theorem frO_0 {D : Nat → Nat → Int32} {l : List Nat} {own its : Int32} {b : Nat} (h : ∀ j, j < gK D l → ¬ gch D l j = nI 0) : frO D l own its b (nI 0) = nI 0 := by
  unfold frO
  rw [fst9_no (fun j hj => decide_eq_false (h j hj))]
theorem rok_n {D : Nat → Nat → Int32} (h : ROK D) : D 0 11 = nI (nR D) := h.1
section CP
variable {sc : SC} {d i w x f : Nat} {g : Gs} {Φ : RS → Gs → Prop} {D D0 : Nat → Nat → Int32} {l : List Nat} {own its : Int32} {b : Nat}
theorem s37A {sp v t : Int32} (hA : At g i D) (rk : ROK D) (h40 : nR D < 40) (k : ∀ g', At g' i (aAdd D (nR D) sp v t) → Fr (PD i) g g' → Φ (.inl (some (vI (nI (nR D))))) g') : Rn sc (d + 1) 37 [vR i 0, vI sp, vI v, vI t] g Φ :=
  s37 (hA.k (by decide) rk.1) h40 (fun g' hm => k g' (fun c hc => by rw [hm.1]; exact aAdd_at hA c hc) hm.2)
theorem s10 {t : Nat} {fl : Bool} (hi : fm i = i) (hA : At g i D) (rk : ROK D) (h40 : nR D < 40) (hx : x < nR D) (hf : f < nR D) (hG : GD g.1 i D0 l) (ht : l[t]? = some f) (hl : l.length ≤ 40) (hO : OLD g.1 i 40 4 41 42 D0 l own its b (gK D0 l)) (hK : gK D0 l ≤ 40)
    (k : ∀ g', At g' i (aCpy D x f (if fl = true then D 12 x else frO D0 l own its b (D0 12 f)) (if fl = true then D 13 x else frO D0 l own its b (D0 13 f))) → Fr (PD i) g g' → Φ (.inl none) g') : Rn sc (d + 3) 10 [vR i 40, vI (nI x), vI (nI f), vI (nI t), vI (if fl = true then nI 1 else nI 0)] g Φ := by
  have ht40 : t < 40 := by
    have := (List.getElem?_eq_some_iff.mp ht).1
    omega
  have e7 : g.1 i 7 = D 7 := hA 7 (by decide)
  have e8 : g.1 i 8 = D 8 := hA 8 (by decide)
  have e9 : g.1 i 9 = D 9 := hA 9 (by decide)
  obtain ⟨n, hn⟩ : ∃ n, n = nR D := ⟨_, rfl⟩
  refine Rn.of rfl (v10_0 ?_)
  simp (disch := omega) only [u3_nc, u3_ek, u3_nk, upd_e, upd_n, dU_nk, dU_nc, dU_e, nI_ltI, nI_eq, nI_clamp, nI_add, nI_mul, inb_nI, nI_neg1, nI_ne1, nI_n1e, nI_neg1e, Nat.not_lt_zero, Nat.lt_irrefl, true_and, and_true, true_implies, false_implies, not_true_eq_false, not_false_eq_true, implies_true, forall_const, forall_eq, if_true, if_false, Nat.reduceEqDiff, eq_self, Nat.one_ne_zero, Nat.zero_ne_one, Nat.zero_add, Nat.add_zero, hi, e7, e8, e9]
  refine s37A hA rk h40 (fun g1 a1 f1 => ⟨_, rfl, ?_⟩)
  unfold aCpy aNew at k
  rw [← hn] at a1 h40 hx hf k ⊢
  have o : ∀ c r, r ≠ n → 6 ≤ c → c < 16 → g1.1 i c r = D c r := fun c r hr hc hc2 => by rw [a1 c hc2]; exact aAdd_old hr hc
  have o6 := o 6 f (by omega) (by decide) (by decide)
  have o11 := o 11 x (by omega) (by decide) (by decide)
  have o12 := o 12 x (by omega) (by decide) (by decide)
  have o13 := o 13 x (by omega) (by decide) (by decide)
  have hG1 := hG.fr f1 (by omega)
  have hO1 := hO.fr f1 (by omega) (by omega) (by omega)
  obtain ⟨-, g34, g35⟩ := hG1.2 t f ht
  have hnn : ¬ nI n < nI 0 := nI_nn (by omega)
  simp (disch := omega) only [u3_nc, u3_ek, u3_nk, upd_e, upd_n, dU_nk, dU_nc, dU_e, nI_ltI, nI_eq, nI_clamp, nI_add, nI_mul, inb_nI, nI_neg1, nI_ne1, nI_n1e, nI_neg1e, Nat.not_lt_zero, Nat.lt_irrefl, true_and, and_true, true_implies, false_implies, not_true_eq_false, not_false_eq_true, implies_true, forall_const, forall_eq, if_true, if_false, Nat.reduceEqDiff, eq_self, Nat.one_ne_zero, Nat.zero_ne_one, Nat.zero_add, Nat.add_zero, hnn, hi, o6, o11]
  cases fl with
  | true =>
    rw [if_pos rfl, if_pos rfl] at k
    rw [if_pos rfl]
    simp (disch := omega) only [u3_nc, u3_ek, u3_nk, upd_e, upd_n, dU_nk, dU_nc, dU_e, nI_ltI, nI_eq, nI_clamp, nI_add, nI_mul, inb_nI, nI_neg1, nI_ne1, nI_n1e, nI_neg1e, Nat.not_lt_zero, Nat.lt_irrefl, true_and, and_true, true_implies, false_implies, not_true_eq_false, not_false_eq_true, implies_true, forall_const, forall_eq, if_true, if_false, Nat.reduceEqDiff, eq_self, Nat.one_ne_zero, Nat.zero_ne_one, Nat.zero_add, Nat.add_zero, hi, o12, o13]
    exact k _ (At.uc (At.uc (At.uc (At.uc a1)))) (f1.tr (by repeat (first | exact Fr.rf _ | refine Fr.u3 ?_ ⟨rfl, by decide⟩)))
  | false =>
    rw [if_neg (by decide), if_neg (by decide)] at k
    rw [if_neg (by decide)]
    simp (disch := omega) only [u3_nc, u3_ek, u3_nk, upd_e, upd_n, dU_nk, dU_nc, dU_e, nI_ltI, nI_eq, nI_clamp, nI_add, nI_mul, inb_nI, nI_neg1, nI_ne1, nI_n1e, nI_neg1e, Nat.not_lt_zero, Nat.lt_irrefl, true_and, and_true, true_implies, false_implies, not_true_eq_false, not_false_eq_true, implies_true, forall_const, forall_eq, if_true, if_false, Nat.reduceEqDiff, eq_self, Nat.one_ne_zero, Nat.zero_ne_one, Nat.zero_add, Nat.add_zero, hi, g34]
    have f2 : Fr (PD i) g1 (u3 (u3 g1.1 i 10 n (D 6 f)) i 11 n (D 11 x), g1.2) := by repeat (first | exact Fr.rf _ | refine Fr.u3 ?_ ⟨rfl, by decide⟩)
    refine s9 (hO1.fr f2 (by omega) (by omega) (by omega)) hK ⟨_, rfl, ?_⟩
    simp (disch := omega) only [u3_nc, u3_ek, u3_nk, upd_e, upd_n, dU_nk, dU_nc, dU_e, nI_ltI, nI_eq, nI_clamp, nI_add, nI_mul, inb_nI, nI_neg1, nI_ne1, nI_n1e, nI_neg1e, Nat.not_lt_zero, Nat.lt_irrefl, true_and, and_true, true_implies, false_implies, not_true_eq_false, not_false_eq_true, implies_true, forall_const, forall_eq, if_true, if_false, Nat.reduceEqDiff, eq_self, Nat.one_ne_zero, Nat.zero_ne_one, Nat.zero_add, Nat.add_zero, hi, g35]
    have f3 : Fr (PD i) g1 (u3 (u3 (u3 g1.1 i 10 n (D 6 f)) i 11 n (D 11 x)) i 12 n (frO D0 l own its b (D0 12 f)), g1.2) := by repeat (first | exact Fr.rf _ | refine Fr.u3 ?_ ⟨rfl, by decide⟩)
    refine s9 (hO1.fr f3 (by omega) (by omega) (by omega)) hK ⟨_, rfl, ?_⟩
    simp (disch := omega) only [u3_nc, u3_ek, u3_nk, upd_e, upd_n, dU_nk, dU_nc, dU_e, nI_ltI, nI_eq, nI_clamp, nI_add, nI_mul, inb_nI, nI_neg1, nI_ne1, nI_n1e, nI_neg1e, Nat.not_lt_zero, Nat.lt_irrefl, true_and, and_true, true_implies, false_implies, not_true_eq_false, not_false_eq_true, implies_true, forall_const, forall_eq, if_true, if_false, Nat.reduceEqDiff, eq_self, Nat.one_ne_zero, Nat.zero_ne_one, Nat.zero_add, Nat.add_zero, hi]
    exact k _ (At.uc (At.uc (At.uc (At.uc a1)))) (f1.tr (by repeat (first | exact Fr.rf _ | refine Fr.u3 ?_ ⟨rfl, by decide⟩)))
theorem s159 {r : Nat} {dd : Int32} (h : MC g w D) (h40 : nR D < 40) (hx : x < nR D) (hf : f < nR D) (hf0 : f < nR D0) (h0 : nR D0 ≤ 40) (gn : GNN D0) (hM : Mrk g.1 D0 (folL D0 r)) (hO : OLD g.1 0 70 8 74 75 D0 (folL D0 r) own its b (gK D0 (folL D0 r))) (h13 : D 13 f = D0 13 f) (h11 : D 11 x = dd)
    (k : ∀ g', MC g' w (aCpy D x f (if D0 12 f = own then D 12 x else frO D0 (folL D0 r) own its b (D0 12 f)) (if D0 12 f = own then D 13 x else frO D0 (folL D0 r) own its b (D0 13 f))) → Fm w g g' → Φ (.inl none) g') : Rn sc (d + 3) 159 [vR 0 70, vI (nI f), vI (nI x), vI dd, vI own] g Φ := by
  obtain ⟨hK1, hK, hK3⟩ := gK_spec (D := D0) (fun x hx => folL_lt hx : ∀ x ∈ folL D0 r, x < nR D0) h0
  have w10 := h.l
  have hw := h.w
  have f1 := h.m.f1 f hf
  have f2 := h.m.f2 x hx
  have f3 := h.m.f3 x hx
  refine Rn.of rfl (v159_0 ?_)
  simp (disch := omega) only [u3_nc, u3_ek, u3_nk, upd_e, upd_n, dU_nk, dU_nc, dU_e, nI_ltI, nI_eq, nI_clamp, nI_add, nI_mul, inb_nI, nI_neg1, nI_ne1, nI_n1e, nI_neg1e, Nat.not_lt_zero, Nat.lt_irrefl, true_and, and_true, true_implies, false_implies, not_true_eq_false, not_false_eq_true, implies_true, forall_const, forall_eq, if_true, if_false, Nat.reduceEqDiff, eq_self, Nat.one_ne_zero, Nat.zero_ne_one, Nat.zero_add, Nat.add_zero, hw, f1, f2, f3]
  refine s143 h h40 (fun g1 m1 F1 => ⟨_, rfl, ?_⟩)
  unfold aCpy aNew at k
  rw [h11] at k
  obtain ⟨n, hn⟩ : ∃ n, n = nR D := ⟨_, rfl⟩
  have hr1 : nR (aAdd D (nR D) (D 7 f) (D 8 x) (D 9 x)) = nR D + 1 := nR_aAdd h40
  obtain ⟨D1, hD1⟩ : ∃ D1, D1 = aAdd D (nR D) (D 7 f) (D 8 x) (D 9 x) := ⟨_, rfl⟩
  have o : ∀ c r, r ≠ nR D → 6 ≤ c → D1 c r = D c r := fun c r hr hc => by rw [hD1]; exact aAdd_old hr hc
  rw [← hD1] at m1 k hr1
  rw [← hn] at h40 hx hf k hr1 o ⊢
  have w1 := m1.w
  have q0 := m1.m.f0 f (by omega)
  rw [o 6 f (by omega) (by decide)] at q0
  have q6 := m1.m.f6 x (by omega)
  rw [o 12 x (by omega) (by decide)] at q6
  have q7 := m1.m.f7 x (by omega)
  rw [o 13 x (by omega) (by decide)] at q7
  have q7f := m1.m.f7 f (by omega)
  rw [o 13 f (by omega) (by decide), h13] at q7f
  have hg := (hM.fr F1.1 (by simp) (by simp)).2 f (by omega)
  rw [if_pos hf0] at hg
  have hO1 := hO.fr F1.1 (by simp) (by simp) (by simp)
  have hp := gnn_pos (gn f hf0).1
  have p4 := m1.put (r := n) (k := 4) (v := D 6 f) (by omega) (by decide)
  have p5 := p4.put (r := n) (k := 5) (v := dd) (by rw [nR_dU (by omega)]; omega) (by decide)
  have F5 : Fm w g1 (u3 (u3 g1.1 0 71 (780 * w + (369 + 10 * n + 4)) (D 6 f)) 0 71 (780 * w + (369 + 10 * n + 5)) dd, g1.2) := (Fm.tr (MC.putF (r := n) (k := 4) (by omega) (by decide)) (MC.putF (r := n) (k := 5) (by omega) (by decide)) : _)
  have big : ∀ v12 v13, MC (u3 (u3 (u3 (u3 g1.1 0 71 (780 * w + (369 + 10 * n + 4)) (D 6 f)) 0 71 (780 * w + (369 + 10 * n + 5)) dd) 0 71 (780 * w + (369 + 10 * n + 6)) v12) 0 71 (780 * w + (369 + 10 * n + 7)) v13, g1.2) w (dU (dU (dU (dU D1 10 n (D 6 f)) 11 n dd) 12 n v12) 13 n v13) := fun v12 v13 => by
    have p6 := p5.put (r := n) (k := 6) (v := v12) (by rw [nR_dU (by omega), nR_dU (by omega)]; omega) (by decide)
    exact p6.put (r := n) (k := 7) (v := v13) (by rw [nR_dU (by omega), nR_dU (by omega), nR_dU (by omega)]; omega) (by decide)
  have F6 : ∀ v12, Fm w g1 (u3 (u3 (u3 g1.1 0 71 (780 * w + (369 + 10 * n + 4)) (D 6 f)) 0 71 (780 * w + (369 + 10 * n + 5)) dd) 0 71 (780 * w + (369 + 10 * n + 6)) v12, g1.2) := fun v12 => F5.tr (MC.putF (r := n) (k := 6) (by omega) (by decide))
  have F7 : ∀ v12 v13, Fm w g1 (u3 (u3 (u3 (u3 g1.1 0 71 (780 * w + (369 + 10 * n + 4)) (D 6 f)) 0 71 (780 * w + (369 + 10 * n + 5)) dd) 0 71 (780 * w + (369 + 10 * n + 6)) v12) 0 71 (780 * w + (369 + 10 * n + 7)) v13, g1.2) := fun v12 v13 => (F6 v12).tr (MC.putF (r := n) (k := 7) (by omega) (by decide))
  simp (disch := omega) only [u3_nc, u3_ek, u3_nk, upd_e, upd_n, dU_nk, dU_nc, dU_e, nI_ltI, nI_eq, nI_clamp, nI_add, nI_mul, inb_nI, nI_neg1, nI_ne1, nI_n1e, nI_neg1e, Nat.not_lt_zero, Nat.lt_irrefl, true_and, and_true, true_implies, false_implies, not_true_eq_false, not_false_eq_true, implies_true, forall_const, forall_eq, if_true, if_false, Nat.reduceEqDiff, eq_self, Nat.one_ne_zero, Nat.zero_ne_one, Nat.zero_add, Nat.add_zero, w1, q0, hg, hp]
  by_cases hs : D0 12 f = own
  · rw [if_pos hs, if_pos hs] at k
    simp (disch := omega) only [u3_nc, u3_ek, u3_nk, upd_e, upd_n, dU_nk, dU_nc, dU_e, nI_ltI, nI_eq, nI_clamp, nI_add, nI_mul, inb_nI, nI_neg1, nI_ne1, nI_n1e, nI_neg1e, Nat.not_lt_zero, Nat.lt_irrefl, true_and, and_true, true_implies, false_implies, not_true_eq_false, not_false_eq_true, implies_true, forall_const, forall_eq, if_true, if_false, Nat.reduceEqDiff, eq_self, Nat.one_ne_zero, Nat.zero_ne_one, Nat.zero_add, Nat.add_zero, hs, w1, q6, q7]
    exact k _ (big _ _) (F1.tr (F7 _ _))
  · rw [if_neg hs, if_neg hs] at k
    simp (disch := omega) only [u3_nc, u3_ek, u3_nk, upd_e, upd_n, dU_nk, dU_nc, dU_e, nI_ltI, nI_eq, nI_clamp, nI_add, nI_mul, inb_nI, nI_neg1, nI_ne1, nI_n1e, nI_neg1e, Nat.not_lt_zero, Nat.lt_irrefl, true_and, and_true, true_implies, false_implies, not_true_eq_false, not_false_eq_true, implies_true, forall_const, forall_eq, if_true, if_false, Nat.reduceEqDiff, eq_self, Nat.one_ne_zero, Nat.zero_ne_one, Nat.zero_add, Nat.add_zero, hs]
    refine ⟨fun hz => ?_, fun hz => ?_⟩
    · refine s158 (hO1.fr F5.1 (by simp) (by simp) (by simp)) hK ⟨_, rfl, ?_⟩
      simp (disch := omega) only [u3_nc, u3_ek, u3_nk, upd_e, upd_n, dU_nk, dU_nc, dU_e, nI_ltI, nI_eq, nI_clamp, nI_add, nI_mul, inb_nI, nI_neg1, nI_ne1, nI_n1e, nI_neg1e, Nat.not_lt_zero, Nat.lt_irrefl, true_and, and_true, true_implies, false_implies, not_true_eq_false, not_false_eq_true, implies_true, forall_const, forall_eq, if_true, if_false, Nat.reduceEqDiff, eq_self, Nat.one_ne_zero, Nat.zero_ne_one, Nat.zero_add, Nat.add_zero, w1, q7f]
      refine s158 (hO1.fr (F6 _).1 (by simp) (by simp) (by simp)) hK ⟨_, rfl, ?_⟩
      simp (disch := omega) only [u3_nc, u3_ek, u3_nk, upd_e, upd_n, dU_nk, dU_nc, dU_e, nI_ltI, nI_eq, nI_clamp, nI_add, nI_mul, inb_nI, nI_neg1, nI_ne1, nI_n1e, nI_neg1e, Nat.not_lt_zero, Nat.lt_irrefl, true_and, and_true, true_implies, false_implies, not_true_eq_false, not_false_eq_true, implies_true, forall_const, forall_eq, if_true, if_false, Nat.reduceEqDiff, eq_self, Nat.one_ne_zero, Nat.zero_ne_one, Nat.zero_add, Nat.add_zero, w1]
      exact k _ (big _ _) (F1.tr (F7 _ _))
    · rw [Decidable.not_not.mp hz, frO_0 hK3] at k
      simp (disch := omega) only [u3_nc, u3_ek, u3_nk, upd_e, upd_n, dU_nk, dU_nc, dU_e, nI_ltI, nI_eq, nI_clamp, nI_add, nI_mul, inb_nI, nI_neg1, nI_ne1, nI_n1e, nI_neg1e, Nat.not_lt_zero, Nat.lt_irrefl, true_and, and_true, true_implies, false_implies, not_true_eq_false, not_false_eq_true, implies_true, forall_const, forall_eq, if_true, if_false, Nat.reduceEqDiff, eq_self, Nat.one_ne_zero, Nat.zero_ne_one, Nat.zero_add, Nat.add_zero, w1, q7f]
      refine s158 (hO1.fr (F6 _).1 (by simp) (by simp) (by simp)) hK ⟨_, rfl, ?_⟩
      simp (disch := omega) only [u3_nc, u3_ek, u3_nk, upd_e, upd_n, dU_nk, dU_nc, dU_e, nI_ltI, nI_eq, nI_clamp, nI_add, nI_mul, inb_nI, nI_neg1, nI_ne1, nI_n1e, nI_neg1e, Nat.not_lt_zero, Nat.lt_irrefl, true_and, and_true, true_implies, false_implies, not_true_eq_false, not_false_eq_true, implies_true, forall_const, forall_eq, if_true, if_false, Nat.reduceEqDiff, eq_self, Nat.one_ne_zero, Nat.zero_ne_one, Nat.zero_add, Nat.add_zero, w1]
      exact k _ (big _ _) (F1.tr (F7 _ _))
end CP
