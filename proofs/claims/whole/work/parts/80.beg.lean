/-! A FRESH BEGIN: one space with one mount -/
def aBg0 (D : Nat → Nat → Int32) : Nat → Nat → Int32 := dU (dU (dU (dU D 0 11 (nI 0)) 0 12 (nI 1)) 0 13 (nI 0)) 0 14 (nI 0)
def aBeg (D : Nat → Nat → Int32) (v : Int32) : Nat → Nat → Int32 := aAdd (aBg0 D) 0 (nI 0) v (nI 0)
section BG
variable {D : Nat → Nat → Int32} {v : Nat}
theorem aBg0_nR : nR (aBg0 D) = 0 := by
  show (aBg0 D 0 11).toNatClampNeg = 0
  unfold aBg0
  rw [dU_nk (by decide), dU_nk (by decide), dU_nk (by decide), dU_e rfl rfl, nI_clamp (by decide)]
theorem aBg0_sv : SameV D (aBg0 D) := (((sameV_dU (by omega)).tr (sameV_dU (by omega))).tr (sameV_dU (by omega))).tr (sameV_dU (by omega))
theorem aBg0_013 : aBg0 D 0 13 = nI 0 := by unfold aBg0; rw [dU_nk (by decide), dU_e rfl rfl]
theorem aBeg_nR {x : Int32} : nR (aBeg D x) = 1 := nR_aAdd (by decide)
theorem aBeg_sv {x : Int32} : SameV D (aBeg D x) := aBg0_sv.tr sameV_aAdd
theorem aBeg_6 {x : Int32} : aBeg D x 6 0 = nI 0 := by unfold aBeg aAdd; simp (disch := omega) only [u3_nc, u3_ek, u3_nk, upd_e, upd_n, dU_nk, dU_nc, dU_e, nI_ltI, nI_eq, nI_clamp, nI_add, nI_mul, inb_nI, nI_neg1, nI_ne1, nI_n1e, nI_neg1e, Nat.not_lt_zero, Nat.lt_irrefl, true_and, and_true, true_implies, false_implies, not_true_eq_false, not_false_eq_true, implies_true, forall_const, forall_eq, if_true, if_false, Nat.reduceEqDiff, eq_self, Nat.one_ne_zero, Nat.zero_ne_one, Nat.zero_add, Nat.add_zero, aBg0_013]
theorem aBeg_7 {x : Int32} : aBeg D x 7 0 = nI 0 := by unfold aBeg aAdd; simp (disch := omega) only [u3_nc, u3_ek, u3_nk, upd_e, upd_n, dU_nk, dU_nc, dU_e, nI_ltI, nI_eq, nI_clamp, nI_add, nI_mul, inb_nI, nI_neg1, nI_ne1, nI_n1e, nI_neg1e, Nat.not_lt_zero, Nat.lt_irrefl, true_and, and_true, true_implies, false_implies, not_true_eq_false, not_false_eq_true, implies_true, forall_const, forall_eq, if_true, if_false, Nat.reduceEqDiff, eq_self, Nat.one_ne_zero, Nat.zero_ne_one, Nat.zero_add, Nat.add_zero]
theorem aBeg_8 {x : Int32} : aBeg D x 8 0 = x := by unfold aBeg aAdd; simp (disch := omega) only [u3_nc, u3_ek, u3_nk, upd_e, upd_n, dU_nk, dU_nc, dU_e, nI_ltI, nI_eq, nI_clamp, nI_add, nI_mul, inb_nI, nI_neg1, nI_ne1, nI_n1e, nI_neg1e, Nat.not_lt_zero, Nat.lt_irrefl, true_and, and_true, true_implies, false_implies, not_true_eq_false, not_false_eq_true, implies_true, forall_const, forall_eq, if_true, if_false, Nat.reduceEqDiff, eq_self, Nat.one_ne_zero, Nat.zero_ne_one, Nat.zero_add, Nat.add_zero]
theorem aBeg_9 {x : Int32} : aBeg D x 9 0 = nI 0 := by unfold aBeg aAdd; simp (disch := omega) only [u3_nc, u3_ek, u3_nk, upd_e, upd_n, dU_nk, dU_nc, dU_e, nI_ltI, nI_eq, nI_clamp, nI_add, nI_mul, inb_nI, nI_neg1, nI_ne1, nI_n1e, nI_neg1e, Nat.not_lt_zero, Nat.lt_irrefl, true_and, and_true, true_implies, false_implies, not_true_eq_false, not_false_eq_true, implies_true, forall_const, forall_eq, if_true, if_false, Nat.reduceEqDiff, eq_self, Nat.one_ne_zero, Nat.zero_ne_one, Nat.zero_add, Nat.add_zero]
theorem aBeg_10 {x : Int32} : aBeg D x 10 0 = -nI 1 := by unfold aBeg aAdd; simp (disch := omega) only [u3_nc, u3_ek, u3_nk, upd_e, upd_n, dU_nk, dU_nc, dU_e, nI_ltI, nI_eq, nI_clamp, nI_add, nI_mul, inb_nI, nI_neg1, nI_ne1, nI_n1e, nI_neg1e, Nat.not_lt_zero, Nat.lt_irrefl, true_and, and_true, true_implies, false_implies, not_true_eq_false, not_false_eq_true, implies_true, forall_const, forall_eq, if_true, if_false, Nat.reduceEqDiff, eq_self, Nat.one_ne_zero, Nat.zero_ne_one, Nat.zero_add, Nat.add_zero]
theorem aBeg_11 {x : Int32} : aBeg D x 11 0 = -nI 1 := by unfold aBeg aAdd; simp (disch := omega) only [u3_nc, u3_ek, u3_nk, upd_e, upd_n, dU_nk, dU_nc, dU_e, nI_ltI, nI_eq, nI_clamp, nI_add, nI_mul, inb_nI, nI_neg1, nI_ne1, nI_n1e, nI_neg1e, Nat.not_lt_zero, Nat.lt_irrefl, true_and, and_true, true_implies, false_implies, not_true_eq_false, not_false_eq_true, implies_true, forall_const, forall_eq, if_true, if_false, Nat.reduceEqDiff, eq_self, Nat.one_ne_zero, Nat.zero_ne_one, Nat.zero_add, Nat.add_zero]
theorem aBeg_12 {x : Int32} : aBeg D x 12 0 = nI 0 := by unfold aBeg aAdd; simp (disch := omega) only [u3_nc, u3_ek, u3_nk, upd_e, upd_n, dU_nk, dU_nc, dU_e, nI_ltI, nI_eq, nI_clamp, nI_add, nI_mul, inb_nI, nI_neg1, nI_ne1, nI_n1e, nI_neg1e, Nat.not_lt_zero, Nat.lt_irrefl, true_and, and_true, true_implies, false_implies, not_true_eq_false, not_false_eq_true, implies_true, forall_const, forall_eq, if_true, if_false, Nat.reduceEqDiff, eq_self, Nat.one_ne_zero, Nat.zero_ne_one, Nat.zero_add, Nat.add_zero]
theorem aBeg_13 {x : Int32} : aBeg D x 13 0 = nI 0 := by unfold aBeg aAdd; simp (disch := omega) only [u3_nc, u3_ek, u3_nk, upd_e, upd_n, dU_nk, dU_nc, dU_e, nI_ltI, nI_eq, nI_clamp, nI_add, nI_mul, inb_nI, nI_neg1, nI_ne1, nI_n1e, nI_neg1e, Nat.not_lt_zero, Nat.lt_irrefl, true_and, and_true, true_implies, false_implies, not_true_eq_false, not_false_eq_true, implies_true, forall_const, forall_eq, if_true, if_false, Nat.reduceEqDiff, eq_self, Nat.one_ne_zero, Nat.zero_ne_one, Nat.zero_add, Nat.add_zero]
theorem aBeg_14 {x : Int32} : aBeg D x 14 0 = nI 0 := by unfold aBeg aAdd; simp (disch := omega) only [u3_nc, u3_ek, u3_nk, upd_e, upd_n, dU_nk, dU_nc, dU_e, nI_ltI, nI_eq, nI_clamp, nI_add, nI_mul, inb_nI, nI_neg1, nI_ne1, nI_n1e, nI_neg1e, Nat.not_lt_zero, Nat.lt_irrefl, true_and, and_true, true_implies, false_implies, not_true_eq_false, not_false_eq_true, implies_true, forall_const, forall_eq, if_true, if_false, Nat.reduceEqDiff, eq_self, Nat.one_ne_zero, Nat.zero_ne_one, Nat.zero_add, Nat.add_zero]
theorem aBeg_15 {x : Int32} : aBeg D x 15 0 = nI 0 := by unfold aBeg aAdd; simp (disch := omega) only [u3_nc, u3_ek, u3_nk, upd_e, upd_n, dU_nk, dU_nc, dU_e, nI_ltI, nI_eq, nI_clamp, nI_add, nI_mul, inb_nI, nI_neg1, nI_ne1, nI_n1e, nI_neg1e, Nat.not_lt_zero, Nat.lt_irrefl, true_and, and_true, true_implies, false_implies, not_true_eq_false, not_false_eq_true, implies_true, forall_const, forall_eq, if_true, if_false, Nat.reduceEqDiff, eq_self, Nat.one_ne_zero, Nat.zero_ne_one, Nat.zero_add, Nat.add_zero]
theorem aBeg_012 {x : Int32} : aBeg D x 0 12 = nI 1 := by unfold aBeg aAdd aBg0; simp (disch := omega) only [u3_nc, u3_ek, u3_nk, upd_e, upd_n, dU_nk, dU_nc, dU_e, nI_ltI, nI_eq, nI_clamp, nI_add, nI_mul, inb_nI, nI_neg1, nI_ne1, nI_n1e, nI_neg1e, Nat.not_lt_zero, Nat.lt_irrefl, true_and, and_true, true_implies, false_implies, not_true_eq_false, not_false_eq_true, implies_true, forall_const, forall_eq, if_true, if_false, Nat.reduceEqDiff, eq_self, Nat.one_ne_zero, Nat.zero_ne_one, Nat.zero_add, Nat.add_zero]
theorem aBeg_013 {x : Int32} : aBeg D x 0 13 = nI 1 := by unfold aBeg aAdd; simp (disch := omega) only [u3_nc, u3_ek, u3_nk, upd_e, upd_n, dU_nk, dU_nc, dU_e, nI_ltI, nI_eq, nI_clamp, nI_add, nI_mul, inb_nI, nI_neg1, nI_ne1, nI_n1e, nI_neg1e, Nat.not_lt_zero, Nat.lt_irrefl, true_and, and_true, true_implies, false_implies, not_true_eq_false, not_false_eq_true, implies_true, forall_const, forall_eq, if_true, if_false, Nat.reduceEqDiff, eq_self, Nat.one_ne_zero, Nat.zero_ne_one, Nat.zero_add, Nat.add_zero, aBg0_013]
theorem aBeg_014 {x : Int32} : aBeg D x 0 14 = nI 0 := by unfold aBeg aAdd aBg0; simp (disch := omega) only [u3_nc, u3_ek, u3_nk, upd_e, upd_n, dU_nk, dU_nc, dU_e, nI_ltI, nI_eq, nI_clamp, nI_add, nI_mul, inb_nI, nI_neg1, nI_ne1, nI_n1e, nI_neg1e, Nat.not_lt_zero, Nat.lt_irrefl, true_and, and_true, true_implies, false_implies, not_true_eq_false, not_false_eq_true, implies_true, forall_const, forall_eq, if_true, if_false, Nat.reduceEqDiff, eq_self, Nat.one_ne_zero, Nat.zero_ne_one, Nat.zero_add, Nat.add_zero]
theorem aBeg_rok {x : Int32} : ROK (aBeg D x) := rok_aAdd (by decide)
theorem aBeg_mk {x : Int32} : mk (aBeg D x) = 1 := by unfold mk; rw [aBeg_013, nI_clamp (by decide)]
theorem aBeg_nm {x : Int32} : nmr (aBeg D x) 0 = 0 := by unfold nmr; rw [aBeg_6, nI_clamp (by decide)]
theorem aBeg_WF (vk : VOK D) (hv : v < nV D) : WF (aBeg D (nI v)) 0 0 ∧ PIN (aBeg D (nI v)) := by
  have v4 := vk.2.1
  obtain ⟨q1, q2, q3, -⟩ := vk.2.2 v hv
  have n0 : ∀ {a}, a < nR (aBeg D (nI v)) → a = 0 := fun ha => by rw [aBeg_nR] at ha; omega
  have ne : ¬ (-nI 1 : Int32) = nI 0 := by decide +kernel
  refine ⟨⟨⟨aBeg_rok, vk.same aBeg_sv, ⟨by rw [aBeg_013, aBeg_mk], by rw [aBeg_mk, aBeg_nR]; decide, by decide, fun a ha => ?_⟩, fun a ha => ?_⟩, fun a ha => ?_, ⟨0, aBeg_014, Nat.le_refl _⟩, fun a ha => ?_, fun a ha => ?_, ⟨fun _ => 0, fun a u ha hu e => ?_⟩, fun a b ha hb h0 e1 e2 => ?_, fun a b ha hb e => ?_, fun a ha e => ?_, ?_⟩, fun a ha => ?_⟩
  · have := n0 ha; subst this
    rw [aBeg_6, aBeg_nm, aBeg_mk]
    exact ⟨rfl, by decide, fun b hb => absurd hb (Nat.not_lt_zero b)⟩
  · have := n0 ha; subst this
    rw [aBeg_8, aBeg_9, sameV_nV aBeg_sv]
    exact ⟨⟨v, hv, rfl⟩, Int32.lt_irrefl⟩
  · have := n0 ha; subst this
    rw [aBeg_12, aBeg_13]
    exact ⟨Int32.lt_irrefl, Int32.lt_irrefl⟩
  · have := n0 ha; subst this
    rw [aBeg_14, aBeg_15]
    exact ⟨Or.inl rfl, Or.inl rfl⟩
  · have := n0 ha; subst this
    rw [aBeg_10]; exact Or.inl rfl
  · have := n0 ha; subst this
    have := n0 hu; subst this
    rw [aBeg_10, aBeg_6] at e; exact absurd e ne
  · rw [n0 ha, n0 hb]
  · rw [n0 ha, n0 hb]
  · have := n0 ha; subst this
    exact aBeg_11
  · refine ⟨1, aBeg_012, by decide, by decide, fun a ha => ?_, fun z hz => ?_⟩
    · have := n0 ha; subst this
      exact ⟨0, by decide, aBeg_7⟩
    · obtain rfl : z = 0 := by omega
      exact ⟨0, by rw [aBeg_nR]; decide, aBeg_7, aBeg_10, fun b hb _ _ => n0 hb⟩
  · have := n0 ha; subst this
    refine ⟨?_, fun u hu e => ?_⟩
    · rw [aBeg_9]
      refine hasD_self ?_ Int32.lt_irrefl aBeg_9
      rw [aBeg_8, nI_clamp (by omega), aBeg_sv 3 (by decide) (by decide), q1, nI_ltI (by decide) (by omega)]
      omega
    · have := n0 hu; subst this
      rw [aBeg_10, aBeg_6] at e; exact absurd e ne
theorem VDP.same {E : Nat → Nat → Int32} (h : VDP D) (s : SameV D E) : VDP E := by
  obtain ⟨f, hf⟩ := h
  refine ⟨f, fun x e hx he => ?_⟩
  rw [sameV_nV s] at hx
  rw [sameV_nS s] at he
  rw [s 5 (by decide) (by decide)]
  exact hf x e hx he
end BG
section BH
variable {sc : SC} {d i w : Nat} {g : Gs} {Φ : RS → Gs → Prop} {D : Nat → Nat → Int32}
theorem s36 {v : Int32} (hA : At g i D) (k : ∀ g', Fr (PD i) g g' → At g' i (aBeg D v) → Φ (.inl none) g') : Rn sc (d + 2) 36 [vR i 0, vI v] g Φ := by
  refine Rn.of rfl (v36_0 ?_)
  intro G1 e1 G2 e2 G3 e3 G4 e4
  subst e1; subst e2; subst e3; subst e4
  have a4 : At (u3 (u3 (u3 (u3 g.1 i 0 11 (nI 0)) i 0 12 (nI 1)) i 0 13 (nI 0)) i 0 14 (nI 0), g.2) i (aBg0 D) := At.uc (At.uc (At.uc (At.uc hA)))
  have rk : ROK (aBg0 D) := by
    refine ⟨?_, by rw [aBg0_nR]; decide⟩
    rw [aBg0_nR]
    unfold aBg0
    rw [dU_nk (by decide), dU_nk (by decide), dU_nk (by decide), dU_e rfl rfl]
  have := s37A (sc := sc) (d := d) (Φ := fun r g5 => ∃ r8 : Int32, r = .inl (some (vI r8)) ∧ Φ (.inl none) g5) (sp := nI 0) (v := v) (t := nI 0) a4 rk (by rw [aBg0_nR]; decide) (fun g' a' f' => ⟨_, rfl, by
    rw [aBg0_nR] at a'
    exact k g' (Fr.tr (by repeat (first | exact Fr.rf _ | refine Fr.u3 ?_ ⟨rfl, by decide⟩)) f') a'⟩)
  exact this
theorem s142 {v : Nat} (h : HVR g w D) (k : ∀ g', FP w g g' → Fr (fun i c => i = 0 ∧ c = 71) g g' → MC g' w (aBeg D (nI v)) → Φ (.inl none) g') : Rn sc (d + 4) 142 [vR 0 70, vI (nI v)] g Φ := by
  obtain ⟨h1, h2, h3, h4, h5, h6⟩ := h
  have z1 := h5 1 (by decide) (by decide)
  have z2 := h5 2 (by decide) (by decide)
  have z3 := h5 3 (by decide) (by decide)
  have z4 := h5 4 (by decide) (by decide)
  refine Rn.of rfl (v142_0 ?_)
  simp (disch := omega) only [u3_nc, u3_ek, u3_nk, upd_e, upd_n, dU_nk, dU_nc, dU_e, nI_ltI, nI_eq, nI_clamp, nI_add, nI_mul, inb_nI, nI_neg1, nI_ne1, nI_n1e, nI_neg1e, Nat.not_lt_zero, Nat.lt_irrefl, true_and, and_true, true_implies, false_implies, not_true_eq_false, not_false_eq_true, implies_true, forall_const, forall_eq, if_true, if_false, Nat.reduceEqDiff, eq_self, Nat.one_ne_zero, Nat.zero_ne_one, Nat.zero_add, Nat.add_zero, h1]
  have wd : MW w (780 * w + 1) := by unfold MW; omega
  have F1 : Fm w g (u3 g.1 0 71 (780 * w + 1) (nI 1), g.2) := Fm.put wd
  have m1 : MC (u3 g.1 0 71 (780 * w + 1) (nI 1), g.2) w (aBg0 D) := by
    refine ⟨by dsimp only; rw [u3_nc (by decide)]; exact h1, h2, ?_, ?_, RMV.same aBg0_sv h4 F1.2 h3, h4.same aBg0_sv⟩
    · show RMM (u3 g.1 0 71 (780 * w + 1) (nI 1) 0 71) w _
      rw [u3_row]
      unfold RMM
      rw [aBg0_nR]
      refine ⟨?_, ?_, ?_, ?_, fun r hr => absurd hr (Nat.not_lt_zero r)⟩
      · rw [upd_e rfl]; unfold aBg0; rw [dU_nk (by decide), dU_nk (by decide), dU_e rfl rfl]
      · rw [upd_n (by omega)]; unfold aBg0; rw [dU_nk (by decide), dU_nk (by decide), dU_nk (by decide), dU_e rfl rfl]; exact z2
      · rw [upd_n (by omega), aBg0_013]; exact z3
      · rw [upd_n (by omega)]; unfold aBg0; rw [dU_e rfl rfl]; exact z4
    · refine ⟨?_, by rw [aBg0_nR]; decide⟩
      rw [aBg0_nR]
      unfold aBg0
      rw [dU_nk (by decide), dU_nk (by decide), dU_nk (by decide), dU_e rfl rfl]
  refine s143 (v := nI v) (sp := nI 0) (t := nI 0) m1 (by rw [aBg0_nR]; decide) (fun g' m' f' => ⟨_, rfl, ?_⟩)
  rw [aBg0_nR] at m'
  have ff := F1.tr f'
  exact k g' (FP.s ff.1 (fun j hj => ff.2 j (by unfold MW; unfold WIN at hj; omega))) ff.1 m'
end BH
