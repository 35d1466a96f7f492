/-! THE REFERENCE'S ROWS: making and removing -/
theorem dU_e {D : Nat → Nat → Int32} {c k c' k' : Nat} {v : Int32} (h : c' = c) (h2 : k' = k) : dU D c k v c' k' = v := by unfold dU; rw [if_pos ⟨h, h2⟩]
theorem dU_nc {D : Nat → Nat → Int32} {c k c' k' : Nat} {v : Int32} (h : c' ≠ c) : dU D c k v c' k' = D c' k' := by unfold dU; rw [if_neg (fun q => h q.1)]
theorem dU_nk {D : Nat → Nat → Int32} {c k c' k' : Nat} {v : Int32} (h : k' ≠ k) : dU D c k v c' k' = D c' k' := by unfold dU; rw [if_neg (fun q => h q.2)]
theorem nR_aAdd {D : Nat → Nat → Int32} {n : Nat} {sp v t : Int32} (h : n < 40) : nR (aAdd D n sp v t) = n + 1 := by
  unfold nR aAdd
  simp (disch := omega) only [dU_nc, dU_nk, dU_e]
  exact nI_clamp (by omega)
theorem sameV_aAdd {D : Nat → Nat → Int32} {n : Nat} {sp v t : Int32} : SameV D (aAdd D n sp v t) := by
  unfold aAdd
  repeat (first | exact SameV.rf _ | refine SameV.tr ?_ (sameV_dU (by omega)))
theorem aAdd_old {D : Nat → Nat → Int32} {n c r : Nat} {sp v t : Int32} (h : r ≠ n) (hc : 6 ≤ c) : aAdd D n sp v t c r = D c r := by
  unfold aAdd
  simp (disch := omega) only [dU_nc, dU_nk]
theorem rok_aAdd {D : Nat → Nat → Int32} {n : Nat} {sp v t : Int32} (h : n < 40) : ROK (aAdd D n sp v t) := by
  unfold ROK
  rw [nR_aAdd h]
  refine ⟨?_, by omega⟩
  unfold aAdd
  simp (disch := omega) only [dU_nc, dU_nk, dU_e]
theorem sameV_aRem {D : Nat → Nat → Int32} {q n : Nat} : SameV D (aRem D q n) := fun c h1 h2 => by
  funext j
  unfold aRem
  rw [if_neg (by omega), if_neg (by omega)]
theorem nR_aRem {D : Nat → Nat → Int32} {q n : Nat} (h : n ≤ 40) : nR (aRem D q n) = n - 1 := by
  unfold nR aRem
  rw [if_neg (by omega), if_pos ⟨rfl, rfl⟩]
  exact nI_clamp (by omega)
theorem rok_aRem {D : Nat → Nat → Int32} {q n : Nat} (h : n ≤ 40) : ROK (aRem D q n) := by
  unfold ROK
  rw [nR_aRem h]
  refine ⟨?_, by omega⟩
  unfold aRem
  rw [if_neg (by omega), if_pos ⟨rfl, rfl⟩]
section MD
variable {sc : SC} {d w : Nat} {g : Gs} {Φ : RS → Gs → Prop} {D : Nat → Nat → Int32}
/-- a cell behind the last mount is put: nothing is seen of it -/
theorem MC.garb {j : Nat} {v : Int32} (h : MC g w D) (h1 : 369 + 10 * nR D ≤ j) (h2 : j < 780) : MC (u3 g.1 0 71 (780 * w + j) v, g.2) w D ∧ Fm w g (u3 g.1 0 71 (780 * w + j) v, g.2) := by
  have h40 := h.r.2
  have hF : Fm w g (u3 g.1 0 71 (780 * w + j) v, g.2) := Fm.put (by unfold MW; omega)
  obtain ⟨m1, m2, m3, m4, m5⟩ := h.m
  refine ⟨⟨?_, h.l, ?_, h.r, RMV.same (SameV.rf D) h.vk hF.2 h.v, h.vk⟩, hF⟩
  · show u3 g.1 0 71 (780 * w + j) v 0 70 2 = _
    rw [u3_nc (by decide)]; exact h.w
  · show RMM (u3 g.1 0 71 (780 * w + j) v 0 71) w _
    rw [u3_row]
    refine ⟨?_, ?_, ?_, ?_, fun r' hr' k' hk' => ?_⟩
    · rw [upd_n (by omega)]; exact m1
    · rw [upd_n (by omega)]; exact m2
    · rw [upd_n (by omega)]; exact m3
    · rw [upd_n (by omega)]; exact m4
    · rw [upd_n (by omega)]; exact m5 r' hr' k' hk'
theorem s143 {sp v t : Int32} (h : MC g w D) (h40 : nR D < 40) (k : ∀ g', MC g' w (aAdd D (nR D) sp v t) → Fm w g g' → Φ (.inl (some (vI (nI (nR D))))) g') : Rn sc (d + 2) 143 [vR 0 70, vI sp, vI v, vI t] g Φ := by
  have w10 := h.l
  have hn := h.n
  have hw := h.w
  refine Rn.of rfl (v143_0 ?_)
  simp (disch := omega) only [u3_nc, u3_ek, u3_nk, upd_e, upd_n, dU_nk, dU_nc, dU_e, nI_ltI, nI_eq, nI_clamp, nI_add, nI_mul, inb_nI, nI_neg1, nI_ne1, nI_n1e, nI_neg1e, Nat.not_lt_zero, Nat.lt_irrefl, true_and, and_true, true_implies, false_implies, not_true_eq_false, not_false_eq_true, implies_true, forall_const, forall_eq, if_true, if_false, Nat.reduceEqDiff, eq_self, Nat.one_ne_zero, Nat.zero_ne_one, Nat.zero_add, Nat.add_zero, hw, hn]
  obtain ⟨n, hnn⟩ : ∃ n, n = nR D := ⟨_, rfl⟩
  rw [← hnn] at hn h40 k ⊢
  refine turnsS (σ := Gs) (W := fun q g1 => Xe sc (d + 1) 143 10 [vR 0 70, vI sp, vI v, vI t, vI (nI n), vI (nI q)] [] g1 Φ) (I := fun q g1 => MC g1 w D ∧ Fm w g g1 ∧ ∀ k, k < q → g1.1 0 71 (780 * w + (369 + 10 * n + k)) = nI 0) (n := 10) (fun q g1 hq ⟨i1, i2, i3⟩ hW => ?_) (fun g1 ⟨i1, i2, i3⟩ => ?_) g ⟨h, Fm.rf w g, fun k hk => absurd hk (Nat.not_lt_zero k)⟩
  · have hw1 := i1.w
    refine v143_10 ?_
    simp (disch := omega) only [u3_nc, u3_ek, u3_nk, upd_e, upd_n, dU_nk, dU_nc, dU_e, nI_ltI, nI_eq, nI_clamp, nI_add, nI_mul, inb_nI, nI_neg1, nI_ne1, nI_n1e, nI_neg1e, Nat.not_lt_zero, Nat.lt_irrefl, true_and, and_true, true_implies, false_implies, not_true_eq_false, not_false_eq_true, implies_true, forall_const, forall_eq, if_true, if_false, Nat.reduceEqDiff, eq_self, Nat.one_ne_zero, Nat.zero_ne_one, Nat.zero_add, Nat.add_zero, hw1, hq]
    obtain ⟨j1, j2⟩ := i1.garb (j := 369 + 10 * n + q) (v := nI 0) (by omega) (by omega)
    refine hW _ ⟨j1, i2.tr j2, fun x hx => ?_⟩
    by_cases hx2 : x = q
    · subst hx2; exact u3_ek rfl
    · show u3 g1.1 0 71 _ _ 0 71 _ = _
      rw [u3_nk (by omega)]
      exact i3 x (by omega)
  · have hw1 := i1.w
    have hn1 := i1.n
    rw [← hnn] at hn1
    obtain ⟨m1, m2, m3, m4, m5⟩ := i1.m
    refine v143_10 ?_
    simp (disch := omega) only [u3_nc, u3_ek, u3_nk, upd_e, upd_n, dU_nk, dU_nc, dU_e, nI_ltI, nI_eq, nI_clamp, nI_add, nI_mul, inb_nI, nI_neg1, nI_ne1, nI_n1e, nI_neg1e, Nat.not_lt_zero, Nat.lt_irrefl, true_and, and_true, true_implies, false_implies, not_true_eq_false, not_false_eq_true, implies_true, forall_const, forall_eq, if_true, if_false, Nat.reduceEqDiff, eq_self, Nat.one_ne_zero, Nat.zero_ne_one, Nat.zero_add, Nat.add_zero, hw1, hn1]
    refine k _ ⟨?_, h.l, ?_, rok_aAdd h40, ?_, h.vk.same sameV_aAdd⟩ ?_
    · simp (disch := omega) only [u3_nc, u3_ek, u3_nk, upd_e, upd_n, dU_nk, dU_nc, dU_e, nI_ltI, nI_eq, nI_clamp, nI_add, nI_mul, inb_nI, nI_neg1, nI_ne1, nI_n1e, nI_neg1e, Nat.not_lt_zero, Nat.lt_irrefl, true_and, and_true, true_implies, false_implies, not_true_eq_false, not_false_eq_true, implies_true, forall_const, forall_eq, if_true, if_false, Nat.reduceEqDiff, eq_self, Nat.one_ne_zero, Nat.zero_ne_one, Nat.zero_add, Nat.add_zero]
      exact hw1
    · simp (disch := omega) only [u3_row]
      unfold RMM
      rw [nR_aAdd h40]
      refine ⟨?_, ?_, ?_, ?_, fun r hr x hx => ?_⟩
      · unfold aAdd
        simp (disch := omega) only [u3_nc, u3_ek, u3_nk, upd_e, upd_n, dU_nk, dU_nc, dU_e, nI_ltI, nI_eq, nI_clamp, nI_add, nI_mul, inb_nI, nI_neg1, nI_ne1, nI_n1e, nI_neg1e, Nat.not_lt_zero, Nat.lt_irrefl, true_and, and_true, true_implies, false_implies, not_true_eq_false, not_false_eq_true, implies_true, forall_const, forall_eq, if_true, if_false, Nat.reduceEqDiff, eq_self, Nat.one_ne_zero, Nat.zero_ne_one, Nat.zero_add, Nat.add_zero]
        exact m1
      · unfold aAdd
        simp (disch := omega) only [u3_nc, u3_ek, u3_nk, upd_e, upd_n, dU_nk, dU_nc, dU_e, nI_ltI, nI_eq, nI_clamp, nI_add, nI_mul, inb_nI, nI_neg1, nI_ne1, nI_n1e, nI_neg1e, Nat.not_lt_zero, Nat.lt_irrefl, true_and, and_true, true_implies, false_implies, not_true_eq_false, not_false_eq_true, implies_true, forall_const, forall_eq, if_true, if_false, Nat.reduceEqDiff, eq_self, Nat.one_ne_zero, Nat.zero_ne_one, Nat.zero_add, Nat.add_zero]
      · unfold aAdd
        simp (disch := omega) only [u3_nc, u3_ek, u3_nk, upd_e, upd_n, dU_nk, dU_nc, dU_e, nI_ltI, nI_eq, nI_clamp, nI_add, nI_mul, inb_nI, nI_neg1, nI_ne1, nI_n1e, nI_neg1e, Nat.not_lt_zero, Nat.lt_irrefl, true_and, and_true, true_implies, false_implies, not_true_eq_false, not_false_eq_true, implies_true, forall_const, forall_eq, if_true, if_false, Nat.reduceEqDiff, eq_self, Nat.one_ne_zero, Nat.zero_ne_one, Nat.zero_add, Nat.add_zero, m3]
      · unfold aAdd
        simp (disch := omega) only [u3_nc, u3_ek, u3_nk, upd_e, upd_n, dU_nk, dU_nc, dU_e, nI_ltI, nI_eq, nI_clamp, nI_add, nI_mul, inb_nI, nI_neg1, nI_ne1, nI_n1e, nI_neg1e, Nat.not_lt_zero, Nat.lt_irrefl, true_and, and_true, true_implies, false_implies, not_true_eq_false, not_false_eq_true, implies_true, forall_const, forall_eq, if_true, if_false, Nat.reduceEqDiff, eq_self, Nat.one_ne_zero, Nat.zero_ne_one, Nat.zero_add, Nat.add_zero]
        exact m4
      · by_cases hrn : r = n
        · subst hrn
          unfold aAdd
          match x, hx with
          | 0, _ => simp (disch := omega) only [u3_nc, u3_ek, u3_nk, upd_e, upd_n, dU_nk, dU_nc, dU_e, nI_ltI, nI_eq, nI_clamp, nI_add, nI_mul, inb_nI, nI_neg1, nI_ne1, nI_n1e, nI_neg1e, Nat.not_lt_zero, Nat.lt_irrefl, true_and, and_true, true_implies, false_implies, not_true_eq_false, not_false_eq_true, implies_true, forall_const, forall_eq, if_true, if_false, Nat.reduceEqDiff, eq_self, Nat.one_ne_zero, Nat.zero_ne_one, Nat.zero_add, Nat.add_zero, m3]
          | 1, _ => simp (disch := omega) only [u3_nc, u3_ek, u3_nk, upd_e, upd_n, dU_nk, dU_nc, dU_e, nI_ltI, nI_eq, nI_clamp, nI_add, nI_mul, inb_nI, nI_neg1, nI_ne1, nI_n1e, nI_neg1e, Nat.not_lt_zero, Nat.lt_irrefl, true_and, and_true, true_implies, false_implies, not_true_eq_false, not_false_eq_true, implies_true, forall_const, forall_eq, if_true, if_false, Nat.reduceEqDiff, eq_self, Nat.one_ne_zero, Nat.zero_ne_one, Nat.zero_add, Nat.add_zero]
          | 2, _ => simp (disch := omega) only [u3_nc, u3_ek, u3_nk, upd_e, upd_n, dU_nk, dU_nc, dU_e, nI_ltI, nI_eq, nI_clamp, nI_add, nI_mul, inb_nI, nI_neg1, nI_ne1, nI_n1e, nI_neg1e, Nat.not_lt_zero, Nat.lt_irrefl, true_and, and_true, true_implies, false_implies, not_true_eq_false, not_false_eq_true, implies_true, forall_const, forall_eq, if_true, if_false, Nat.reduceEqDiff, eq_self, Nat.one_ne_zero, Nat.zero_ne_one, Nat.zero_add, Nat.add_zero]
          | 3, _ => simp (disch := omega) only [u3_nc, u3_ek, u3_nk, upd_e, upd_n, dU_nk, dU_nc, dU_e, nI_ltI, nI_eq, nI_clamp, nI_add, nI_mul, inb_nI, nI_neg1, nI_ne1, nI_n1e, nI_neg1e, Nat.not_lt_zero, Nat.lt_irrefl, true_and, and_true, true_implies, false_implies, not_true_eq_false, not_false_eq_true, implies_true, forall_const, forall_eq, if_true, if_false, Nat.reduceEqDiff, eq_self, Nat.one_ne_zero, Nat.zero_ne_one, Nat.zero_add, Nat.add_zero]
          | 4, _ => simp (disch := omega) only [u3_nc, u3_ek, u3_nk, upd_e, upd_n, dU_nk, dU_nc, dU_e, nI_ltI, nI_eq, nI_clamp, nI_add, nI_mul, inb_nI, nI_neg1, nI_ne1, nI_n1e, nI_neg1e, Nat.not_lt_zero, Nat.lt_irrefl, true_and, and_true, true_implies, false_implies, not_true_eq_false, not_false_eq_true, implies_true, forall_const, forall_eq, if_true, if_false, Nat.reduceEqDiff, eq_self, Nat.one_ne_zero, Nat.zero_ne_one, Nat.zero_add, Nat.add_zero]
          | 5, _ => simp (disch := omega) only [u3_nc, u3_ek, u3_nk, upd_e, upd_n, dU_nk, dU_nc, dU_e, nI_ltI, nI_eq, nI_clamp, nI_add, nI_mul, inb_nI, nI_neg1, nI_ne1, nI_n1e, nI_neg1e, Nat.not_lt_zero, Nat.lt_irrefl, true_and, and_true, true_implies, false_implies, not_true_eq_false, not_false_eq_true, implies_true, forall_const, forall_eq, if_true, if_false, Nat.reduceEqDiff, eq_self, Nat.one_ne_zero, Nat.zero_ne_one, Nat.zero_add, Nat.add_zero]
          | 6, _ => simp (disch := omega) only [u3_nc, u3_ek, u3_nk, upd_e, upd_n, dU_nk, dU_nc, dU_e, nI_ltI, nI_eq, nI_clamp, nI_add, nI_mul, inb_nI, nI_neg1, nI_ne1, nI_n1e, nI_neg1e, Nat.not_lt_zero, Nat.lt_irrefl, true_and, and_true, true_implies, false_implies, not_true_eq_false, not_false_eq_true, implies_true, forall_const, forall_eq, if_true, if_false, Nat.reduceEqDiff, eq_self, Nat.one_ne_zero, Nat.zero_ne_one, Nat.zero_add, Nat.add_zero]; exact i3 6 (by omega)
          | 7, _ => simp (disch := omega) only [u3_nc, u3_ek, u3_nk, upd_e, upd_n, dU_nk, dU_nc, dU_e, nI_ltI, nI_eq, nI_clamp, nI_add, nI_mul, inb_nI, nI_neg1, nI_ne1, nI_n1e, nI_neg1e, Nat.not_lt_zero, Nat.lt_irrefl, true_and, and_true, true_implies, false_implies, not_true_eq_false, not_false_eq_true, implies_true, forall_const, forall_eq, if_true, if_false, Nat.reduceEqDiff, eq_self, Nat.one_ne_zero, Nat.zero_ne_one, Nat.zero_add, Nat.add_zero]; exact i3 7 (by omega)
          | 8, _ => simp (disch := omega) only [u3_nc, u3_ek, u3_nk, upd_e, upd_n, dU_nk, dU_nc, dU_e, nI_ltI, nI_eq, nI_clamp, nI_add, nI_mul, inb_nI, nI_neg1, nI_ne1, nI_n1e, nI_neg1e, Nat.not_lt_zero, Nat.lt_irrefl, true_and, and_true, true_implies, false_implies, not_true_eq_false, not_false_eq_true, implies_true, forall_const, forall_eq, if_true, if_false, Nat.reduceEqDiff, eq_self, Nat.one_ne_zero, Nat.zero_ne_one, Nat.zero_add, Nat.add_zero]; exact i3 8 (by omega)
          | 9, _ => simp (disch := omega) only [u3_nc, u3_ek, u3_nk, upd_e, upd_n, dU_nk, dU_nc, dU_e, nI_ltI, nI_eq, nI_clamp, nI_add, nI_mul, inb_nI, nI_neg1, nI_ne1, nI_n1e, nI_neg1e, Nat.not_lt_zero, Nat.lt_irrefl, true_and, and_true, true_implies, false_implies, not_true_eq_false, not_false_eq_true, implies_true, forall_const, forall_eq, if_true, if_false, Nat.reduceEqDiff, eq_self, Nat.one_ne_zero, Nat.zero_ne_one, Nat.zero_add, Nat.add_zero]; exact i3 9 (by omega)
        · rw [aAdd_old hrn (by omega)]
          simp (disch := omega) only [u3_nc, u3_ek, u3_nk, upd_e, upd_n, dU_nk, dU_nc, dU_e, nI_ltI, nI_eq, nI_clamp, nI_add, nI_mul, inb_nI, nI_neg1, nI_ne1, nI_n1e, nI_neg1e, Nat.not_lt_zero, Nat.lt_irrefl, true_and, and_true, true_implies, false_implies, not_true_eq_false, not_false_eq_true, implies_true, forall_const, forall_eq, if_true, if_false, Nat.reduceEqDiff, eq_self, Nat.one_ne_zero, Nat.zero_ne_one, Nat.zero_add, Nat.add_zero]
          exact m5 r (by omega) x hx
    · refine RMV.same sameV_aAdd h.vk (fun j hj => ?_) i1.v
      unfold MW at hj
      simp (disch := omega) only [u3_row]
      simp (disch := omega) only [u3_nc, u3_ek, u3_nk, upd_e, upd_n, dU_nk, dU_nc, dU_e, nI_ltI, nI_eq, nI_clamp, nI_add, nI_mul, inb_nI, nI_neg1, nI_ne1, nI_n1e, nI_neg1e, Nat.not_lt_zero, Nat.lt_irrefl, true_and, and_true, true_implies, false_implies, not_true_eq_false, not_false_eq_true, implies_true, forall_const, forall_eq, if_true, if_false, Nat.reduceEqDiff, eq_self, Nat.one_ne_zero, Nat.zero_ne_one, Nat.zero_add, Nat.add_zero]
    · refine i2.tr ?_
      repeat (first | exact Fm.rf w _ | refine Fm.tr (b := (_, g1.2)) ?_ (Fm.put (g := (_, g1.2)) (by unfold MW; omega)))
end MD
