/-! WHAT STAYS WELL-FORMED: the last space dropped. E's rows are D's rows rho 0, rho 1, .. in their order, all but those of the space t -/
theorem WF.sub {D E : Nat → Nat → Int32} {M B t k : Nat} {rho : Nat → Nat} (h : WF D M B) (rE : ROK E) (nE : nR E = k) (hk : k ≤ nR D) (mono : ∀ a b, a < b → b < k → rho a < rho b) (lt : ∀ a, a < k → rho a < nR D) (kept : ∀ a, a < k → ¬ D 7 (rho a) = nI t) (sur : ∀ u, u < nR D → ¬ D 7 u = nI t → ∃ a, a < k ∧ rho a = u)
    (cells : ∀ c a, 6 ≤ c → c < 16 → a < k → E c a = D c (rho a)) (sv : SameV D E) (e13 : E 0 13 = D 0 13) (e14 : E 0 14 = D 0 14) (hs : D 0 12 = nI (t + 1)) (e12 : E 0 12 = nI t) (ht : 1 ≤ t) (ht4 : t ≤ 4) (hM : M + 200 < 2 ^ 31) : WF E (M + 40) B := by
  have n40 := h.n40
  have cw := h.cw
  obtain ⟨b1, b2, b3, b4⟩ := cw.2.2.1
  have inj : ∀ a b, a < k → b < k → rho a = rho b → a = b := fun a b ha hb e => by
    by_cases h1 : a < b
    · have := mono a b h1 hb; omega
    · by_cases h2 : b < a
      · have := mono b a h2 ha; omega
      · omega
  have emk : mk E = mk D := by unfold mk; rw [e13]
  have nme : ∀ a, a < k → nmr E a = nmr D (rho a) := fun a ha => by unfold nmr; rw [cells 6 a (by decide) (by decide) ha]
  have cwE : CW E (M + 40) := by
    refine ⟨rE, cw.2.1.same sv, ⟨by rw [e13, emk]; exact b1, by rw [emk]; omega, by omega, fun a ha => ?_⟩, fun a ha => ?_⟩
    · rw [nE] at ha
      rw [cells 6 a (by decide) (by decide) ha, nme a ha, emk]
      refine ⟨(b4 _ (lt a ha)).1, (b4 _ (lt a ha)).2.1, fun b hb => ?_⟩
      rw [nme b (by omega)]
      exact (b4 _ (lt a ha)).2.2 _ (mono b a hb ha)
    · rw [nE] at ha
      rw [sameV_nV sv, cells 8 a (by decide) (by decide) ha, cells 9 a (by decide) (by decide) ha]
      exact cw.2.2.2 _ (lt a ha)
  refine ⟨cwE, fun a ha => ?_, ?_, fun a ha => ?_, fun a ha => ?_, ?_, fun a b ha hb h0 e1 e2 => ?_, fun a b ha hb e1 => ?_, fun a ha e1 => ?_, ?_⟩
  · rw [nE] at ha
    rw [cells 12 a (by decide) (by decide) ha, cells 13 a (by decide) (by decide) ha]; exact h.gn _ (lt a ha)
  · unfold GRL
    rw [e14]; exact h.gl
  · rw [nE] at ha
    rw [cells 14 a (by decide) (by decide) ha, cells 15 a (by decide) (by decide) ha]; exact h.bt _ (lt a ha)
  · rw [nE] at ha ⊢
    rw [cells 10 a (by decide) (by decide) ha]
    rcases h.ok _ (lt a ha) with q | ⟨u, hu, q⟩
    · exact Or.inl q
    · obtain ⟨v, v1, v2⟩ := sur u hu (fun w => kept a ha ((h.sc _ u (lt a ha) hu q).trans w))
      exact Or.inr ⟨v, v1, by rw [cells 6 v (by decide) (by decide) v1, v2]; exact q⟩
  · obtain ⟨rk, hrk⟩ := h.rk
    refine ⟨fun z => rk (rho z), fun a u ha hu e1 => ?_⟩
    rw [nE] at ha hu
    rw [cells 10 a (by decide) (by decide) ha, cells 6 u (by decide) (by decide) hu] at e1
    exact hrk _ _ (lt a ha) (lt u hu) e1
  · rw [nE] at ha hb
    rw [cells 10 a (by decide) (by decide) ha] at h0
    rw [cells 10 a (by decide) (by decide) ha, cells 10 b (by decide) (by decide) hb] at e1
    rw [cells 11 a (by decide) (by decide) ha, cells 11 b (by decide) (by decide) hb] at e2
    exact inj a b ha hb (h.uq _ _ (lt a ha) (lt b hb) h0 e1 e2)
  · rw [nE] at ha hb
    rw [cells 10 a (by decide) (by decide) ha, cells 6 b (by decide) (by decide) hb] at e1
    rw [cells 7 a (by decide) (by decide) ha, cells 7 b (by decide) (by decide) hb]
    exact h.sc _ _ (lt a ha) (lt b hb) e1
  · rw [nE] at ha
    rw [cells 10 a (by decide) (by decide) ha] at e1
    rw [cells 11 a (by decide) (by decide) ha]
    exact h.rt _ (lt a ha) e1
  · obtain ⟨s', s1, s2, s3, s4, s5⟩ := h.sp
    have hss : s' = t + 1 := by rw [hs, nI_eq (by omega) (by omega)] at s1; omega
    subst hss
    refine ⟨t, e12, ht, by omega, fun a ha => ?_, fun z hz => ?_⟩
    · rw [nE] at ha
      rw [cells 7 a (by decide) (by decide) ha]
      obtain ⟨z, z1, z2⟩ := s4 _ (lt a ha)
      have : z ≠ t := fun q => kept a ha (by rw [z2, q])
      exact ⟨z, by omega, z2⟩
    · obtain ⟨a, r1, r2, r3, r4⟩ := s5 z (by omega)
      obtain ⟨v, v1, v2⟩ := sur a r1 (by rw [r2, nI_eq (by omega) (by omega)]; omega)
      refine ⟨v, by rw [nE]; exact v1, by rw [cells 7 v (by decide) (by decide) v1, v2]; exact r2, by rw [cells 10 v (by decide) (by decide) v1, v2]; exact r3, fun b hb e1 e2 => ?_⟩
      rw [nE] at hb
      rw [cells 7 b (by decide) (by decide) hb] at e1
      rw [cells 10 b (by decide) (by decide) hb] at e2
      exact inj b v hb v1 ((r4 _ (lt b hb) e1 e2).trans v2.symm)
def FLd (D E : Nat → Nat → Int32) (R : List Nat) : Prop := nR E = R.length ∧ ROK E ∧ SameV D E ∧ E 0 13 = D 0 13 ∧ E 0 14 = D 0 14 ∧ ∀ c a, 6 ≤ c → c < 16 → a < R.length → E c a = D c (rrr R a)
theorem rrr_er {R : List Nat} {q a : Nat} (hq : q < R.length) : rrr (R.eraseIdx q) a = rrr R (sh q a) := by
  unfold rrr sh
  rw [List.getElem?_eraseIdx]
  by_cases h : a < q
  · rw [if_pos h, if_pos h]
  · rw [if_neg h, if_neg h]
theorem drp_L {D : Nat → Nat → Int32} {t : Nat} {p : Nat → Bool} (hp : p = fun r => decide (¬ D 7 r = nI t)) : ∀ q E R, FLd D E R → E 0 12 = nI t → (∀ a, a < q → rrr R a = a) → q ≤ R.length → FLd D (drp q E) (lqq p q ++ R.drop q) ∧ drp q E 0 12 = nI t := by
  intro q
  induction q with
  | zero => intro E R h1 h2 _ _; exact ⟨h1, h2⟩
  | succ q ih =>
    intro E R h1 h2 h3 h4
    obtain ⟨f1, f2, f3, f4, f5, f6⟩ := h1
    have e7 : E 7 q = D 7 q := by rw [f6 7 q (by decide) (by decide) (by omega), h3 q (by omega)]
    have hdr : R.drop q = R[q] :: R.drop (q + 1) := List.drop_eq_getElem_cons (by omega)
    have hRq : R[q] = q := by
      have := h3 q (by omega)
      unfold rrr at this
      rw [List.getElem?_eq_getElem (by omega)] at this
      exact this
    unfold drp
    rw [e7, h2]
    by_cases hc : D 7 q = nI t
    · rw [if_pos hc]
      have hpq : ¬ p q = true := by rw [hp]; exact fun w => of_decide_eq_true w hc
      have hlen : (R.eraseIdx q).length = R.length - 1 := List.length_eraseIdx_of_lt (by omega)
      have n40 := f2.2
      have := ih (aRem E q (nR E)) (R.eraseIdx q) ⟨by rw [nR_aRem n40, hlen, f1], rok_aRem n40, f3.tr sameV_aRem, by rw [aRem_0 (by decide)]; exact f4, by rw [aRem_0 (by decide)]; exact f5, fun c a hc6 hc16 ha => by
        rw [hlen] at ha
        rw [aRem_sh ⟨hc6, hc16⟩ (by omega), rrr_er (by omega)]
        exact f6 c _ hc6 hc16 (by have := sh_n (q := q) (show a + 1 < R.length by omega); omega)⟩ (by rw [aRem_0 (by decide)]; exact h2) (fun a ha => by
        rw [rrr_er (by omega), show sh q a = a from if_pos ha]; exact h3 a (by omega)) (by omega)
      rw [lqq_s, if_neg hpq]
      have e : (R.eraseIdx q).drop q = R.drop (q + 1) := by
        rw [List.eraseIdx_eq_take_drop_succ, List.drop_append_of_le_length (by rw [List.length_take]; omega), List.drop_take, Nat.sub_self, List.take_zero, List.nil_append]
      rw [e] at this
      exact this
    · rw [if_neg hc]
      have hpq : p q = true := by rw [hp]; exact decide_eq_true hc
      have := ih E R ⟨f1, f2, f3, f4, f5, f6⟩ h2 (fun a ha => h3 a (by omega)) (by omega)
      rw [lqq_s, if_pos hpq, List.append_assoc, List.singleton_append]
      rw [hdr, hRq] at this
      exact this
theorem WF.drp1 {D : Nat → Nat → Int32} {M B t : Nat} (h : WF D M B) (hs : D 0 12 = nI (t + 1)) (ht : 1 ≤ t) (ht4 : t ≤ 4) (hM : M + 200 < 2 ^ 31) : WF (aDrp D) (M + 40) B := by
  obtain ⟨p, hp⟩ : ∃ p : Nat → Bool, p = fun r => decide (¬ D 7 r = nI t) := ⟨_, rfl⟩
  have e12 : dU D 0 12 (D 0 12 + -nI 1) 0 12 = nI t := by
    rw [dU_e rfl rfl, hs, ← Int32.sub_eq_add_neg]; exact nI_pred t
  have r0 : ∀ a, a < nR D → rrr (List.range (nR D)) a = a := fun a ha => by unfold rrr; rw [List.getElem?_range ha]; rfl
  obtain ⟨k1, k2⟩ := drp_L (D := D) hp (nR D) (dU D 0 12 (D 0 12 + -nI 1)) (List.range (nR D)) ⟨by rw [nR_dU (by omega), List.length_range], rok_dU (by omega) h.cw.1, sameV_dU (by omega), dU_nk (by decide), dU_nk (by decide), fun c a h6 _ ha => by
    rw [List.length_range] at ha
    rw [dU_nc (by omega), r0 a ha]⟩ e12 r0 (by rw [List.length_range]; exact Nat.le_refl _)
  rw [List.drop_eq_nil_of_le (by rw [List.length_range]; exact Nat.le_refl _), List.append_nil] at k1
  obtain ⟨f1, f2, f3, f4, f5, f6⟩ := k1
  have lenle : (lqq p (nR D)).length ≤ nR D := by rw [lqq_len]; exact cntF_le p _
  refine WF.sub (rho := rrr (lqq p (nR D))) h f2 f1 lenle (fun a b hab hb => ?_) (fun a ha => (posA _ a ha).1) (fun a ha => ?_) (fun u hu hk => ?_) f6 f3 f4 f5 hs k2 ht ht4 hM
  · obtain ⟨-, -, a3⟩ := posA (nR D) a (show a < (lqq p (nR D)).length by omega)
    obtain ⟨-, -, b3⟩ := posA (nR D) b hb
    by_cases hlt : rrr (lqq p (nR D)) a < rrr (lqq p (nR D)) b
    · exact hlt
    · have := cntF_mono (p := p) (show rrr (lqq p (nR D)) b ≤ rrr (lqq p (nR D)) a by omega)
      omega
  · have hk : ∀ r, p r = true → ¬ D 7 r = nI t := fun r hr => by rw [hp] at hr; exact of_decide_eq_true hr
    exact hk _ (posA _ a ha).2.1
  · obtain ⟨b1, b2⟩ := posB (p := p) (nR D) u hu (by rw [hp]; exact decide_eq_true hk)
    exact ⟨_, b1, b2⟩
