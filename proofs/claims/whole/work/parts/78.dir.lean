/-! DIRECTORIES are read alike, of any depth -/
section DJ
variable {tx : Nat → Nat} {N : Nat}
/-- the reference's window with one directory more -/
theorem HVR.dir {g g1 : Gs} {w v a : Nat} {D : Nat → Nat → Int32} {L : List Nat} (h : HVR g w D) (hv : v < nV D) (h12 : nS D v < 12) (ha : a < nS D v) (L6 : L.length ≤ 6) (Ll : ∀ l ∈ L, 1 ≤ l ∧ l ≤ 26)
    (f1 : Fr (fun i c => i = 0 ∧ c = 71) g g1) (n1 : ∀ k, k < 6 → g1.1 0 71 (780 * w + (33 + 7 * (12 * v + nS D v) + k)) = cellv L k) (s1 : ∀ j, ¬ (780 * w + (33 + 7 * (12 * v + nS D v)) ≤ j ∧ j < 780 * w + (33 + 7 * (12 * v + nS D v)) + 6) → g1.1 0 71 j = g.1 0 71 j) :
    HVR (u3 (u3 g1.1 0 71 (780 * w + (33 + 7 * (12 * v + nS D v) + 6)) (nI a)) 0 71 (780 * w + (5 + 7 * v + 6)) (nI (nS D v + 1)), g1.2) w (aDr D v (nI a) (nI (cdL L))) ∧
    FP w g (u3 (u3 g1.1 0 71 (780 * w + (33 + 7 * (12 * v + nS D v) + 6)) (nI a)) 0 71 (780 * w + (5 + 7 * v + 6)) (nI (nS D v + 1)), g1.2) ∧
    Fr (fun i c => i = 0 ∧ c = 71) g (u3 (u3 g1.1 0 71 (780 * w + (33 + 7 * (12 * v + nS D v) + 6)) (nI a)) 0 71 (780 * w + (5 + 7 * v + 6)) (nI (nS D v + 1)), g1.2) := by
  obtain ⟨h1, h2, h3, h4, h5, h6⟩ := h
  have v4 := h4.2.1
  have fr : Fr (fun i c => i = 0 ∧ c = 71) g (u3 (u3 g1.1 0 71 (780 * w + (33 + 7 * (12 * v + nS D v) + 6)) (nI a)) 0 71 (780 * w + (5 + 7 * v + 6)) (nI (nS D v + 1)), g1.2) := f1.tr (Fr.u3 (Fr.u3 (Fr.rf _) ⟨rfl, rfl⟩) ⟨rfl, rfl⟩)
  obtain ⟨A', hA⟩ : ∃ A', A' = u3 (u3 g1.1 0 71 (780 * w + (33 + 7 * (12 * v + nS D v) + 6)) (nI a)) 0 71 (780 * w + (5 + 7 * v + 6)) (nI (nS D v + 1)) 0 71 := ⟨_, rfl⟩
  have e1 : A' (780 * w + (5 + 7 * v + 6)) = nI (nS D v + 1) := by rw [hA, u3_ek rfl]
  have e2 : A' (780 * w + (33 + 7 * (12 * v + nS D v) + 6)) = nI a := by rw [hA, u3_nk (by omega), u3_ek rfl]
  have e3 : ∀ j, j ≠ 780 * w + (5 + 7 * v + 6) → j ≠ 780 * w + (33 + 7 * (12 * v + nS D v) + 6) → A' j = g1.1 0 71 j := fun j a b => by rw [hA, u3_nk a, u3_nk b]
  have same : ∀ j, ¬ (780 * w + (33 + 7 * (12 * v + nS D v)) ≤ j ∧ j ≤ 780 * w + (33 + 7 * (12 * v + nS D v) + 6)) → j ≠ 780 * w + (5 + 7 * v + 6) → A' j = g.1 0 71 j := fun j a b => by
    rw [e3 j b (by omega)]; exact s1 j (by omega)
  have win : ∀ j, ¬ WIN w j → A' j = g.1 0 71 j := fun j hj => by
    unfold WIN at hj
    exact same j (by omega) (by omega)
  refine ⟨⟨by rw [fr.1 0 70 (by simp)]; exact h1, h2, ?_, aDr_VOK h4 hv h12 ⟨a, ha, rfl⟩, ?_⟩, FP.s fr (by show ∀ j, ¬ WIN w j → u3 (u3 g1.1 0 71 (780 * w + (33 + 7 * (12 * v + nS D v) + 6)) (nI a)) 0 71 (780 * w + (5 + 7 * v + 6)) (nI (nS D v + 1)) 0 71 j = g.1 0 71 j; rw [← hA]; exact win), fr⟩
  · show RMV (u3 (u3 g1.1 0 71 (780 * w + (33 + 7 * (12 * v + nS D v) + 6)) (nI a)) 0 71 (780 * w + (5 + 7 * v + 6)) (nI (nS D v + 1)) 0 71) w _
    rw [← hA]
    exact h3.dir h4 hv h12 L6 Ll rfl (fun k hk => by rw [e3 _ (by omega) (by omega)]; exact n1 k hk) e2 e1 same
  · show ZR (u3 (u3 g1.1 0 71 (780 * w + (33 + 7 * (12 * v + nS D v) + 6)) (nI a)) 0 71 (780 * w + (5 + 7 * v + 6)) (nI (nS D v + 1)) 0 71) w _
    rw [← hA]
    unfold ZR
    rw [aDr_nV]
    exact ⟨fun j a b => by rw [same _ (by omega) (by omega)]; exact h5 j a b, fun x a b k hk => by rw [same _ (by omega) (by omega)]; exact h6 x a b k hk⟩
theorem dirP : ∀ F, DIRp tx N F := by
  intro F
  induction F with
  | zero => intro s D h v o dep hF; omega
  | succ F ih =>
    intro s D h v o dep hF hT vk dp hv ho hh h5
    have I := insP ih
    have v4 := vk.2.1
    obtain ⟨q1, q2, q3, q4, q5⟩ := vk.2.2 v hv
    have hsN := hT.1
    have n10 : ¬ nI 1 = nI 0 := by decide +kernel
    have hdn : ∀ c, ((fst9 (nS D v - 1) fun e => decide (D 5 (v * 12 + (e + 1)) = nI o ∧ D 4 (v * 12 + (e + 1)) = nI c)).map (· + 1)) = dnm D v (nI o) c := fun c => rfl
    cases hN : isN tx N s with
    | false =>
      refine ⟨.inl (-nI 12, s), (show ¬ (-nI 12 : Int32) = nI 0 by decide +kernel), trivial, fun sc d g Φ hc hA k => ?_, fun sc d w g Φ hr hm h20 k => ?_⟩
      · rw [show d + (2 * (F + 1) + 5) = (d + (2 * F + 5)) + 1 + 1 by omega]
        refine Rn.of rfl (v64_0 ?_)
        refine s34 hc ⟨_, rfl, ⟨fun _ => ?_, fun q => absurd ((nmc_0 hT).mpr hN) q⟩⟩
        intro G6 e6 G7 e7
        subst e6; subst e7
        rw [u3_nk (by decide), hc.2.2.1]
        obtain ⟨x1, x2⟩ := hc.er (code := -nI 12)
        exact k _ (FKs.c x2) x1
      · rw [show d + (2 * (F + 1) + 6) = (d + (2 * F + 5)) + 2 + 1 by omega]
        refine Rn.of rfl (v186_0 ?_)
        exact s181 hr (fun q => by rw [hN] at q; cases q) (fun _ g' f' r' => ⟨_, rfl, ⟨fun _ => k g' (FP.q f') r', fun q => absurd rfl q⟩⟩)
    | true =>
      have hc0 : ¬ nI (nmc tx N s) = nI 0 := fun q => by rw [(nmc_0 hT).mp q] at hN; cases hN
      obtain ⟨hs, -, -, n6, nl, -⟩ := isN_K hN hT
      obtain ⟨ec, c1, c30⟩ := nmc_K hN hT
      obtain ⟨t1, t2, t3⟩ := nxt9_K (tx := tx) hT.1
      have t4 := t3 hs
      cases hd : dnm D v (nI o) (nmc tx N s) with
      | some b =>
        have hb12 := (dnm_K hd).1
        refine ⟨.inl (-nI 14, s), (show ¬ (-nI 14 : Int32) = nI 0 by decide +kernel), trivial, fun sc d g Φ hc hA k => ?_, fun sc d w g Φ hr hm h20 k => ?_⟩
        · have e33 : g.1 1 3 v = nI (nS D v) := by rw [hA 3 (by decide)]; exact q1
          rw [show d + (2 * (F + 1) + 5) = (d + (2 * F + 5)) + 1 + 1 by omega]
          refine Rn.of rfl (v64_0 ?_)
          refine s34 hc ⟨_, rfl, ⟨fun q => absurd q hc0, fun _ => ?_⟩⟩
          refine s86 (by omega) e33 q2 q3 ⟨_, rfl, ?_⟩
          rw [hA 5 (by decide), hA 4 (by decide), hdn, hd]
          refine ⟨fun q => absurd q (nI_nn (show b < 2 ^ 31 by omega)), fun _ => ?_⟩
          intro G28 e28 G29 e29
          subst e28; subst e29
          rw [u3_nk (by decide), hc.2.2.1]
          obtain ⟨x1, x2⟩ := hc.er (code := -nI 14)
          exact k _ (FKs.c x2) x1
        · rw [show d + (2 * (F + 1) + 6) = (d + (2 * F + 5)) + 2 + 1 by omega]
          refine Rn.of rfl (v186_0 ?_)
          refine s181 hr (fun _ g1 f1 r1 nm => ⟨_, rfl, ⟨fun q => absurd q n10, fun _ => ?_⟩⟩) (fun q => by rw [hN] at q; cases q)
          obtain ⟨m1, m2, m3, m4, m5⟩ := hm.fq f1
          refine s185 r1.1 hT nm m1 m2 m3 m4 hv ⟨_, rfl, ?_⟩
          rw [hdn, hd]
          refine ⟨fun q => absurd q (nI_ne1 (show b < 2 ^ 31 by omega)), fun _ => ⟨fun _ => ?_, fun q => absurd r1.2.2.1 q⟩⟩
          intro G52 e52 G53 e53
          subst e52; subst e53
          rw [nm.2.1]
          obtain ⟨x1, x2⟩ := r1.er2 (off := s) (code := -nI 14) (by decide +kernel)
          refine ⟨fun q => absurd (x1.2.1.symm.trans q) x1.2.2.1, fun _ => ?_⟩
          exact k _ (FP.q (f1.tr x2)) x1
      | none =>
        by_cases h12 : nS D v < 12
        · have dp2 := aDr_DPH (c := nI (nmc tx N s)) vk dp hv h12 ho hh h5
          have vk2 := aDr_VOK (c := nI (nmc tx N s)) vk hv h12 ⟨o, ho, rfl⟩
          obtain ⟨r3, hg3, hC3, hR3⟩ := I (nxt9 tx N s) (aDr D v (nI o) (nI (nmc tx N s))) _ v (nS D v) dep (by omega) t1 vk2 dp2 (by rw [aDr_nV]; exact hv) (by rw [aDr_nS h12, if_pos rfl]; omega) (by rw [if_pos ⟨rfl, rfl⟩]; exact Nat.le_refl _) h5
          refine ⟨r3, ?_, ?_, fun sc d g Φ hc hA k => ?_, fun sc d w g Φ hr hm h20 k => ?_⟩
          · cases r3 with
            | inl ce => exact hg3
            | inr q3 =>
              obtain ⟨c1, c2, c3, c4, c5, c6, c7⟩ := hg3
              rw [aDr_nV] at c5
              rw [aDr_nS h12, if_pos rfl] at c6 c7
              exact ⟨by omega, c2, c3, c4, c5, by omega, fun e he => by
                have := c7 e (by omega)
                dsimp only at this
                rw [if_neg (by omega)] at this
                exact this⟩
          · cases r3 with
            | inl ce => trivial
            | inr q3 =>
              obtain ⟨c1, c2, c3, c4, c5, c6, c7⟩ := hg3
              rw [aDr_nS h12, if_pos rfl] at c6
              exact ⟨by omega, by omega⟩
          · have e33 : g.1 1 3 v = nI (nS D v) := by rw [hA 3 (by decide)]; exact q1
            rw [show d + (2 * (F + 1) + 5) = (d + (2 * F + 5)) + 1 + 1 by omega]
            refine Rn.of rfl (v64_0 ?_)
            refine s34 hc ⟨_, rfl, ⟨fun q => absurd q hc0, fun _ => ?_⟩⟩
            refine s86 (by omega) e33 q2 q3 ⟨_, rfl, ?_⟩
            rw [hA 5 (by decide), hA 4 (by decide), hdn, hd]
            refine ⟨fun _ => ?_, fun q => absurd eo_none q⟩
            refine s81 hA (by omega) q1 q3 (fun _ g1 f1 a1 => ⟨_, rfl, ⟨fun q => absurd q (nI_nn (show nS D v < 2 ^ 31 by omega)), fun _ => ?_⟩⟩) (fun q => absurd h12 q)
            refine s27A (hc.o f1 (fun i c q => q.1)) (fun g2 f2 p2 => ⟨rfl, ?_⟩)
            refine (hC3 sc d g2 _ p2 (a1.fc f2) (fun g3 f3 p5 => ⟨_, rfl, ?_, k g3 ((FKs.o f1 (fun i c q => q.1)).tr ((FKs.c f2).tr f3)) p5⟩)).deep (by omega)
            cases r3 with
            | inl ce => exact Or.inl rfl
            | inr q3 => exact Or.inr rfl
          · rw [show d + (2 * (F + 1) + 6) = (d + (2 * F + 5)) + 2 + 1 by omega]
            refine Rn.of rfl (v186_0 ?_)
            refine s181 hr (fun _ g1 f1 r1 nm => ⟨_, rfl, ⟨fun q => absurd q n10, fun _ => ?_⟩⟩) (fun q => by rw [hN] at q; cases q)
            have hm1 := hm.fq f1
            obtain ⟨m1, m2, m3, m4, m5⟩ := hm1
            refine s185 r1.1 hT nm m1 m2 m3 m4 hv ⟨_, rfl, ?_⟩
            rw [hdn, hd]
            have cs := m3.s m4 v hv
            refine ⟨fun _ => ?_, fun q => absurd rfl q⟩
            have n12 : ¬ nS D v = 12 := by omega
            have e18 := r1.2.2.1
            simp (disch := omega) only [u3_nc, u3_ek, u3_nk, upd_e, upd_n, dU_nk, dU_nc, dU_e, nI_ltI, nI_eq, nI_clamp, nI_add, nI_mul, inb_nI, nI_neg1, nI_ne1, nI_n1e, nI_neg1e, Nat.not_lt_zero, Nat.lt_irrefl, true_and, and_true, true_implies, false_implies, not_true_eq_false, not_false_eq_true, implies_true, forall_const, forall_eq, if_true, if_false, Nat.reduceEqDiff, eq_self, Nat.one_ne_zero, Nat.zero_ne_one, Nat.zero_add, Nat.add_zero, m1, cs, n12, e18]
            refine s183 (a := 33 + 7 * (12 * v + nS D v)) r1.1 hT nm m1 m2 (by omega) (fun g2 f2 k2 s2 => ⟨rfl, ?_⟩)
            have w2 : g2.1 0 70 2 = nI w := by rw [f2.1 0 70 (by simp)]; exact m1
            obtain ⟨z1, z2, z3⟩ := HVR.dir (g := g1) (g1 := g2) (L := nam tx N s) (a := o) ⟨m1, m2, m3, m4, m5⟩ hv h12 ho n6 nl f2 k2 s2
            simp (disch := omega) only [u3_nc, u3_ek, u3_nk, upd_e, upd_n, dU_nk, dU_nc, dU_e, nI_ltI, nI_eq, nI_clamp, nI_add, nI_mul, inb_nI, nI_neg1, nI_ne1, nI_n1e, nI_neg1e, Nat.not_lt_zero, Nat.lt_irrefl, true_and, and_true, true_implies, false_implies, not_true_eq_false, not_false_eq_true, implies_true, forall_const, forall_eq, if_true, if_false, Nat.reduceEqDiff, eq_self, Nat.one_ne_zero, Nat.zero_ne_one, Nat.zero_add, Nat.add_zero, w2]
            rw [← ec] at z1
            refine (hR3 sc d w _ _ (r1.s z3) z1 ?_ (fun g3 f3 p5 => ⟨rfl, k g3 (FP.tr (FP.q f1) (z2.tr f3)) p5⟩)).deep (by omega)
            rw [z3.1 0 70 (by simp), f1.2 20 (by decide)]
            exact h20
        · have e12 : nS D v = 12 := by omega
          refine ⟨.inl (-nI 15, s), (show ¬ (-nI 15 : Int32) = nI 0 by decide +kernel), trivial, fun sc d g Φ hc hA k => ?_, fun sc d w g Φ hr hm h20 k => ?_⟩
          · have e33 : g.1 1 3 v = nI (nS D v) := by rw [hA 3 (by decide)]; exact q1
            rw [show d + (2 * (F + 1) + 5) = (d + (2 * F + 5)) + 1 + 1 by omega]
            refine Rn.of rfl (v64_0 ?_)
            refine s34 hc ⟨_, rfl, ⟨fun q => absurd q hc0, fun _ => ?_⟩⟩
            refine s86 (by omega) e33 q2 q3 ⟨_, rfl, ?_⟩
            rw [hA 5 (by decide), hA 4 (by decide), hdn, hd]
            refine ⟨fun _ => ?_, fun q => absurd eo_none q⟩
            refine s81 hA (by omega) q1 q3 (fun q => absurd q h12) (fun _ => ⟨_, rfl, ⟨fun _ => ?_, fun q => absurd nI_neg1 q⟩⟩)
            intro G17 e17 G18 e18
            subst e17; subst e18
            rw [u3_nk (by decide), hc.2.2.1]
            obtain ⟨x1, x2⟩ := hc.er (code := -nI 15)
            exact k _ (FKs.c x2) x1
          · rw [show d + (2 * (F + 1) + 6) = (d + (2 * F + 5)) + 2 + 1 by omega]
            refine Rn.of rfl (v186_0 ?_)
            refine s181 hr (fun _ g1 f1 r1 nm => ⟨_, rfl, ⟨fun q => absurd q n10, fun _ => ?_⟩⟩) (fun q => by rw [hN] at q; cases q)
            obtain ⟨m1, m2, m3, m4, m5⟩ := hm.fq f1
            refine s185 r1.1 hT nm m1 m2 m3 m4 hv ⟨_, rfl, ?_⟩
            rw [hdn, hd]
            have cs := m3.s m4 v hv
            rw [e12] at cs
            have e18 := r1.2.2.1
            refine ⟨fun _ => ?_, fun q => absurd rfl q⟩
            obtain ⟨x1, x2⟩ := r1.er2 (off := s) (code := -nI 15) (by decide +kernel)
            have nmx := nm.2.1
            have l1 : 780 * w + (5 + 7 * v + 6) < 7800 := by omega
            rw [m1, nmx, e18]
            simp (disch := omega) only [u3_nc, u3_ek, u3_nk, upd_e, upd_n, dU_nk, dU_nc, dU_e, nI_ltI, nI_eq, nI_clamp, nI_add, nI_mul, inb_nI, nI_neg1, nI_ne1, nI_n1e, nI_neg1e, Nat.not_lt_zero, Nat.lt_irrefl, true_and, and_true, true_implies, false_implies, not_true_eq_false, not_false_eq_true, implies_true, forall_const, forall_eq, if_true, if_false, Nat.reduceEqDiff, eq_self, Nat.one_ne_zero, Nat.zero_ne_one, Nat.zero_add, Nat.add_zero, cs, l1]
            refine ⟨fun q => absurd q x1.2.2.1, fun _ => ?_⟩
            exact k _ (FP.q (f1.tr x2)) x1
end DJ
