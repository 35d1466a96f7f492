/-! STATEMENTS make, and all statements one behind another -/
section SM9
variable {tx : Nat → Nat} {N : Nat}
/-- behind a statement make's kind -/
theorem mkT {s2 B : Nat} {D : Nat → Nat → Int32} (kd : Nat) (h6 : N ≤ 600) (hT : TOK tx N s2) (wz : WZ D 0 B) (hB : B + 100 < 2 ^ 30) : ∃ r : SRes, SG9 tx N s2 (B + 41) r ∧
    (∀ (sc : SC) (d : Nat) (g : Gs) (Φ : RS → Gs → Prop), CIN g tx N s2 → At g 1 D → (∀ g', FKs g g' → SCo tx N r g' → Φ (.inl (some (vI (sbb r)))) g') → Rn sc (d + 5) 91 [vR 1 45, vR 0 21, vI (nI 0)] g (fun r g15 => ∃ r18 : Int32, r = .inl (some (vI r18)) ∧ (((r18 = nI 0) → (Φ (.inl (some (vI (nI 0)))) g15)) ∧ (¬ (r18 = nI 0) → (Rn sc (d + 5) 13 [vR 1 40, vI (g15.1 1 45 1), vI (nI kd)] g15 (fun r g19 => ∃ r22 : Int32, r = .inl (some (vI r22)) ∧ (Rn sc (d + 5) 31 [vR 0 21, vI (nI 59)] g19 (fun r g23 => ∃ r26 : Int32, r = .inl (some (vI r26)) ∧ ((r26 = nI 0 ∨ r26 = nI 1) ∧ Φ (.inl (some (vI r26))) g23))))))))) ∧
    (∀ (sc : SC) (d w : Nat) (g : Gs) (Φ : RS → Gs → Prop), RIN g tx N s2 → MC g w D → (∀ g', FP w g g' → SRo tx N w r g' → Φ (.inl none) g') → Rn sc (d + 8) 191 [vR 0 70, vI (nI 0)] g (fun r g59 => r = .inl none ∧ (Rn sc (d + 8) 193 [vR 0 70] g59 (fun r g62 => ∃ r65 : Int32, r = .inl (some (vI r65)) ∧ (((g62.1 0 70 18 = nI 0) → (Rn sc (d + 8) 169 [vR 0 70, vI (g62.1 0 70 11), vI (nI kd)] g62 (fun r g66 => r = .inl none ∧ (Φ (.inl none) g66)))) ∧ (¬ (g62.1 0 70 18 = nI 0) → (Φ (.inl none) g62))))))) := by
  have n10 : ¬ nI 1 = nI 0 := by decide +kernel
  have cw := wz.f.cw
  obtain ⟨a, ha⟩ := wz.rot
  obtain ⟨r3, pv, hC3, hR3⟩ := path9 cw wz.f.rk wz.p wz.f.ok h6 ha hT
  cases r3 with
  | inl ce =>
    refine ⟨.inl ce, pv, fun sc d g Φ hc hA k => ?_, fun sc d w g Φ hr hm k => ?_⟩
    · exact hC3 sc d 1 g _ rfl hc hA (fun g2 f2 p2 => ⟨_, rfl, ⟨fun _ => k g2 f2.k p2, fun q => absurd rfl q⟩⟩)
    · refine hR3 sc (d + 1) w g _ hr hm (fun g2 f2 m2 p2 => ⟨rfl, ?_⟩)
      exact s193E p2 (fun g3 x f3 r3 => ⟨_, rfl, ⟨fun q => absurd (r3.2.1.symm.trans q) r3.2.2.1, fun _ => k g3 ((FP.h f2).tr (FP.q f3)) r3⟩⟩)
  | inr q3 =>
    obtain ⟨s3, z, e⟩ := q3
    obtain ⟨b1, b2, b3⟩ := pv
    by_cases hT3 : TOK tx N s3
    · obtain ⟨t1, t2, t3⟩ := nxt9_K (tx := tx) hT3.1
      have wz2 := wz.mak (kd := nI kd) (x := z) hB b2
      by_cases hs3 : s3 < N ∧ tx s3 = 59
      · refine ⟨.inr (nxt9 tx N s3, aMak D z (nI kd)), ⟨by omega, t1, wz2⟩, fun sc d g Φ hc hA k => ?_, fun sc d w g Φ hr hm k => ?_⟩
        · refine hC3 sc d 1 g _ rfl hc hA (fun g2 f2 p2 => ⟨_, rfl, ⟨fun q => absurd q n10, fun _ => ?_⟩⟩)
          obtain ⟨p3, p4, p5⟩ := p2
          rw [p4]
          refine s13 rfl (hA.fw f2) cw.1 b2 (fun g3 a3' f3 => ⟨_, rfl, ?_⟩)
          exact s31 (CIN.o p3 f3 (fun i c q => q.1)) (b := 59) (by decide) (by decide) (fun _ g4 f4 p6 => ⟨_, rfl, Or.inr rfl, k g4 (f2.k.tr ((FKs.o f3 (fun i c q => q.1)).tr (FKs.c f4))) ⟨p6, a3'.fc f4⟩⟩) (fun q => absurd hs3 q)
        · refine hR3 sc (d + 1) w g _ hr hm (fun g2 f2 m2 p2 => ⟨rfl, ?_⟩)
          obtain ⟨p3, p4, p5⟩ := p2
          refine s193 p3 (fun _ g3 f3 r3 => ⟨_, rfl, ⟨fun _ => ?_, fun q => absurd r3.2.2.1 q⟩⟩) (fun q => absurd hs3 q)
          rw [f3.2 11 (by decide), p4]
          refine s169 (m2.fq f3) wz.f.gn b2 (fun g4 m4 f4 => ⟨rfl, ?_⟩)
          exact k g4 ((FP.h f2).tr ((FP.q f3).tr (FP.r (FR.m f4)))) ⟨r3.r (FR.m f4), m4⟩
      · refine ⟨.inl (-nI 12, s3), (show ¬ (-nI 12 : Int32) = nI 0 by decide +kernel), fun sc d g Φ hc hA k => ?_, fun sc d w g Φ hr hm k => ?_⟩
        · refine hC3 sc d 1 g _ rfl hc hA (fun g2 f2 p2 => ⟨_, rfl, ⟨fun q => absurd q n10, fun _ => ?_⟩⟩)
          obtain ⟨p3, p4, p5⟩ := p2
          rw [p4]
          refine s13 rfl (hA.fw f2) cw.1 b2 (fun g3 a3' f3 => ⟨_, rfl, ?_⟩)
          exact s31 (CIN.o p3 f3 (fun i c q => q.1)) (b := 59) (by decide) (by decide) (fun q => absurd q hs3) (fun _ g4 f4 p6 => ⟨_, rfl, Or.inl rfl, k g4 (f2.k.tr ((FKs.o f3 (fun i c q => q.1)).tr (FKs.c f4))) p6⟩)
        · refine hR3 sc (d + 1) w g _ hr hm (fun g2 f2 m2 p2 => ⟨rfl, ?_⟩)
          obtain ⟨p3, p4, p5⟩ := p2
          exact s193 p3 (fun q => absurd q hs3) (fun _ g3 f3 r3 => ⟨_, rfl, ⟨fun q => absurd (r3.2.1.symm.trans q) r3.2.2.1, fun _ => k g3 ((FP.h f2).tr (FP.q f3)) r3⟩⟩)
    · refine ⟨.inl (-nI 12, 0), (show ¬ (-nI 12 : Int32) = nI 0 by decide +kernel), fun sc d g Φ hc hA k => ?_, fun sc d w g Φ hr hm k => ?_⟩
      · exact hC3 sc d 1 g _ rfl hc hA (fun g2 f2 p2 => absurd p2.1.2.1 hT3)
      · exact hR3 sc (d + 1) w g _ hr hm (fun g2 f2 m2 p2 => absurd p2.1.2.1 hT3)
theorem makP {s B : Nat} {D : Nat → Nat → Int32} (h6 : N ≤ 600) (hT : TOK tx N s) (hw3 : isW tx N s 3 = false) (hw4 : isW tx N s 4 = false) (wz : WZ D 0 B) (hB : B + 100 < 2 ^ 30) : ∃ r : SRes, SG9 tx N s (B + 41) r ∧
    (∀ (sc : SC) (d : Nat) (g : Gs) (Φ : RS → Gs → Prop), CIN g tx N s → At g 1 D → (∀ g', FKs g g' → SCo tx N r g' → Φ (.inl (some (vI (sbb r)))) g') → Rn sc (d + 6) 71 [vR 0 60] g Φ) ∧
    (∀ (sc : SC) (d w : Nat) (g : Gs) (Φ : RS → Gs → Prop), RIN g tx N s → MC g w D → (∀ g', FP w g g' → SRo tx N w r g' → Φ (.inl none) g') → Rn sc (d + 9) 192 [vR 0 70] g Φ) := by
  have n10 : ¬ nI 1 = nI 0 := by decide +kernel
  have hw11 : isW tx N s 11 = false := by rw [← isW_c txt_m]; exact hw3
  have hw12 : isW tx N s 12 = false := by rw [← isW_c txt_b]; exact hw4
  have hw13 : isW tx N s 13 = isW tx N s 5 := (isW_c txt_k).symm
  cases hw : isW tx N s 5 with
  | false =>
    rw [hw] at hw13
    refine ⟨.inl (-nI 12, s), (show ¬ (-nI 12 : Int32) = nI 0 by decide +kernel), fun sc d g Φ hc hA k => ?_, fun sc d w g Φ hr hm k => ?_⟩
    · refine Rn.of rfl (v71_0 ?_)
      exact s32 (w := 5) (by decide) hc (fun q => by rw [hw] at q; cases q) (fun _ g1 f1 p1 => ⟨_, rfl, ⟨fun _ => k g1 (FKs.c f1) p1, fun q => absurd rfl q⟩⟩)
    · refine Rn.of rfl (v192_0 ?_)
      refine s179 (w := 11) (by decide) hr (fun q => by rw [hw11] at q; cases q) (fun _ g1 f1 q1 _ => ⟨_, rfl, ⟨fun _ => ?_, fun q => absurd rfl q⟩⟩)
      refine s179 (w := 12) (by decide) q1 (fun q => by rw [hw12] at q; cases q) (fun _ g2 f2 q2 _ => ⟨_, rfl, ⟨fun _ => ?_, fun q => absurd rfl q⟩⟩)
      refine s179 (w := 13) (by decide) q2 (fun q => by rw [hw13] at q; cases q) (fun _ g3 f3 q3 e17 => ⟨_, rfl, ⟨fun _ => ⟨fun _ => ?_, fun q => absurd q3.2.2.1 q⟩, fun q => absurd rfl q⟩⟩)
      intro G14 e14 G15 e15
      subst e14; subst e15
      rw [e17]
      obtain ⟨y1, y2⟩ := q3.er (code := -nI 12) (by decide +kernel)
      exact k _ (FP.q (f1.tr (f2.tr (f3.tr y2)))) y1
  | true =>
    rw [hw] at hw13
    have hs := isW_lt hw
    obtain ⟨t1, t2, t3⟩ := nxt9_K (tx := tx) hT.1
    have t4 := t3 hs
    obtain ⟨s1, hs1⟩ : ∃ s1, s1 = nxt9 tx N s := ⟨_, rfl⟩
    rw [← hs1] at t1 t2 t4
    have k14 : isW tx N s1 14 = isW tx N s1 6 := (isW_c txt_k0).symm
    have k15 : isW tx N s1 15 = isW tx N s1 7 := (isW_c txt_k1).symm
    have k16 : isW tx N s1 16 = isW tx N s1 8 := (isW_c txt_k2).symm
    have k17 : isW tx N s1 17 = isW tx N s1 9 := (isW_c txt_k3).symm
    -- the class up to the kind
    have hC0 : ∀ (sc : SC) (d : Nat) (g : Gs) (Φ : RS → Gs → Prop), CIN g tx N s → At g 1 D → (∀ g5, FC g g5 → CIN g5 tx N s1 → At g5 1 D → (((kdI (kdW tx N s1) < nI 0) → (∀ G10 : Nat → Nat → Nat → Int32, G10 = u3 g5.1 0 21 6 (-nI 12) → (∀ G11 : Nat → Nat → Nat → Int32, G11 = u3 G10 0 21 7 (G10 0 21 3) → (Φ (.inl (some (vI (nI 0)))) (G11, g5.2.1, g5.2.2))))) ∧ (¬ (kdI (kdW tx N s1) < nI 0) → (Rn sc (d + 5) 27 [vR 0 21] g5 (fun r g12 => r = .inl none ∧ (Rn sc (d + 5) 91 [vR 1 45, vR 0 21, vI (nI 0)] g12 (fun r g15 => ∃ r18 : Int32, r = .inl (some (vI r18)) ∧ (((r18 = nI 0) → (Φ (.inl (some (vI (nI 0)))) g15)) ∧ (¬ (r18 = nI 0) → (Rn sc (d + 5) 13 [vR 1 40, vI (g15.1 1 45 1), vI (kdI (kdW tx N s1))] g15 (fun r g19 => ∃ r22 : Int32, r = .inl (some (vI r22)) ∧ (Rn sc (d + 5) 31 [vR 0 21, vI (nI 59)] g19 (fun r g23 => ∃ r26 : Int32, r = .inl (some (vI r26)) ∧ ((r26 = nI 0 ∨ r26 = nI 1) ∧ Φ (.inl (some (vI r26))) g23)))))))))))))) → Rn sc (d + 6) 71 [vR 0 60] g Φ := fun sc d g Φ hc hA K => by
      refine Rn.of rfl (v71_0 ?_)
      refine s32 (w := 5) (by decide) hc (fun _ g1 f1 p1 => ⟨_, rfl, ⟨fun q => absurd q n10, fun _ => ?_⟩⟩) (fun q => by rw [hw] at q; cases q)
      rw [← hs1] at p1
      exact s72 p1 ⟨_, rfl, K g1 f1 p1 (hA.fc f1)⟩
    -- the reference up to the kind
    have hR0 : ∀ (sc : SC) (d w : Nat) (g : Gs) (Φ : RS → Gs → Prop), RIN g tx N s → MC g w D →
        (∀ kd, kdW tx N s1 = some kd → ∀ g', FQ g g' → RIN g' tx N (nxt9 tx N s1) → Rn sc (d + 8) 191 [vR 0 70, vI (nI 0)] g' (fun r g59 => r = .inl none ∧ (Rn sc (d + 8) 193 [vR 0 70] g59 (fun r g62 => ∃ r65 : Int32, r = .inl (some (vI r65)) ∧ (((g62.1 0 70 18 = nI 0) → (Rn sc (d + 8) 169 [vR 0 70, vI (g62.1 0 70 11), vI (nI kd)] g62 (fun r g66 => r = .inl none ∧ (Φ (.inl none) g66)))) ∧ (¬ (g62.1 0 70 18 = nI 0) → (Φ (.inl none) g62)))))))
        → (kdW tx N s1 = none → ∀ g', FQ g g' → RER g' tx N (-nI 12) s1 → Φ (.inl none) g') → Rn sc (d + 9) 192 [vR 0 70] g Φ := fun sc d w g Φ hr hm K1 K0 => by
      refine Rn.of rfl (v192_0 ?_)
      refine s179 (w := 11) (by decide) hr (fun q => by rw [hw11] at q; cases q) (fun _ g1 f1 q1 _ => ⟨_, rfl, ⟨fun _ => ?_, fun q => absurd rfl q⟩⟩)
      refine s179 (w := 12) (by decide) q1 (fun q => by rw [hw12] at q; cases q) (fun _ g2 f2 q2 _ => ⟨_, rfl, ⟨fun _ => ?_, fun q => absurd rfl q⟩⟩)
      refine s179 (w := 13) (by decide) q2 (fun _ g3 f3 q3 => ⟨_, rfl, ⟨fun q => absurd q n10, fun _ => ?_⟩⟩) (fun q => by rw [hw13] at q; cases q)
      rw [← hs1] at q3
      have f03 := f1.tr (f2.tr f3)
      unfold kdW at K1 K0
      cases h6 : isW tx N s1 6 with
      | true =>
        rw [h6] at k14
        rw [h6, if_pos rfl] at K1
        exact s179 (w := 14) (by decide) q3 (fun _ g4 f4 q4 => ⟨_, rfl, ⟨fun q => absurd q n10, fun _ => K1 0 rfl g4 (f03.tr f4) q4⟩⟩) (fun q => by rw [k14] at q; cases q)
      | false =>
        rw [h6] at k14
        rw [h6, if_neg Bool.false_ne_true] at K1 K0
        refine s179 (w := 14) (by decide) q3 (fun q => by rw [k14] at q; cases q) (fun _ g4 f4 q4 _ => ⟨_, rfl, ⟨fun _ => ?_, fun q => absurd rfl q⟩⟩)
        cases h7 : isW tx N s1 7 with
        | true =>
          rw [h7] at k15
          rw [h7, if_pos rfl] at K1
          exact s179 (w := 15) (by decide) q4 (fun _ g5 f5 q5 => ⟨_, rfl, ⟨fun q => absurd q n10, fun _ => K1 1 rfl g5 (f03.tr (f4.tr f5)) q5⟩⟩) (fun q => by rw [k15] at q; cases q)
        | false =>
          rw [h7] at k15
          rw [h7, if_neg Bool.false_ne_true] at K1 K0
          refine s179 (w := 15) (by decide) q4 (fun q => by rw [k15] at q; cases q) (fun _ g5 f5 q5 _ => ⟨_, rfl, ⟨fun _ => ?_, fun q => absurd rfl q⟩⟩)
          cases h8 : isW tx N s1 8 with
          | true =>
            rw [h8] at k16
            rw [h8, if_pos rfl] at K1
            exact s179 (w := 16) (by decide) q5 (fun _ g6 f6 q6 => ⟨_, rfl, ⟨fun q => absurd q n10, fun _ => K1 2 rfl g6 (f03.tr (f4.tr (f5.tr f6))) q6⟩⟩) (fun q => by rw [k16] at q; cases q)
          | false =>
            rw [h8] at k16
            rw [h8, if_neg Bool.false_ne_true] at K1 K0
            refine s179 (w := 16) (by decide) q5 (fun q => by rw [k16] at q; cases q) (fun _ g6 f6 q6 _ => ⟨_, rfl, ⟨fun _ => ?_, fun q => absurd rfl q⟩⟩)
            cases h9 : isW tx N s1 9 with
            | true =>
              rw [h9] at k17
              rw [h9, if_pos rfl] at K1
              exact s179 (w := 17) (by decide) q6 (fun _ g7 f7 q7 => ⟨_, rfl, ⟨fun q => absurd q n10, fun _ => K1 3 rfl g7 (f03.tr (f4.tr (f5.tr (f6.tr f7)))) q7⟩⟩) (fun q => by rw [k17] at q; cases q)
            | false =>
              rw [h9] at k17
              rw [h9, if_neg Bool.false_ne_true] at K0
              refine s179 (w := 17) (by decide) q6 (fun q => by rw [k17] at q; cases q) (fun _ g7 f7 q7 e17 => ⟨_, rfl, ⟨fun _ => ⟨fun _ => ?_, fun q => absurd q7.2.2.1 q⟩, fun q => absurd rfl q⟩⟩)
              intro G34 e34 G35 e35
              subst e34; subst e35
              rw [e17]
              obtain ⟨y1, y2⟩ := q7.er (code := -nI 12) (by decide +kernel)
              refine s191E y1 ⟨rfl, s193E y1 (fun g8 x f8 r8 => ⟨_, rfl, ⟨fun q => absurd (r8.2.1.symm.trans q) r8.2.2.1, fun _ => K0 rfl g8 (f03.tr (f4.tr (f5.tr (f6.tr (f7.tr (y2.tr f8)))))) r8⟩⟩)⟩
    cases hk : kdW tx N s1 with
    | none =>
      refine ⟨.inl (-nI 12, s1), (show ¬ (-nI 12 : Int32) = nI 0 by decide +kernel), fun sc d g Φ hc hA k => hC0 sc d g Φ hc hA (fun g1 f1 p1 A1 => ?_), fun sc d w g Φ hr hm k => hR0 sc d w g Φ hr hm (fun kd q => by rw [hk] at q; cases q) (fun _ g1 f1 r1 => k g1 (FP.q f1) r1)⟩
      rw [hk]
      refine ⟨fun _ => ?_, fun q => absurd nI_neg1 q⟩
      intro G10 e10 G11 e11
      subst e10; subst e11
      rw [u3_nk (by decide), p1.2.2.1]
      obtain ⟨x1, x2⟩ := p1.er (code := -nI 12)
      exact k _ (FKs.c (f1.tr x2)) x1
    | some kd =>
      have hs1N : s1 < N ∧ kd < 4 := by
        unfold kdW at hk
        by_cases h6 : isW tx N s1 6 = true
        · rw [if_pos h6] at hk; cases hk; exact ⟨isW_lt h6, by decide⟩
        · rw [if_neg h6] at hk
          by_cases h7 : isW tx N s1 7 = true
          · rw [if_pos h7] at hk; cases hk; exact ⟨isW_lt h7, by decide⟩
          · rw [if_neg h7] at hk
            by_cases h8 : isW tx N s1 8 = true
            · rw [if_pos h8] at hk; cases hk; exact ⟨isW_lt h8, by decide⟩
            · rw [if_neg h8] at hk
              by_cases h9 : isW tx N s1 9 = true
              · rw [if_pos h9] at hk; cases hk; exact ⟨isW_lt h9, by decide⟩
              · rw [if_neg h9] at hk; cases hk
      obtain ⟨u1, u2, u3'⟩ := nxt9_K (tx := tx) t1.1
      have u4 := u3' hs1N.1
      have hkn : ¬ nI kd < nI 0 := nI_nn (by omega)
      obtain ⟨r, sg, hC, hR⟩ := mkT kd h6 u1 wz hB
      refine ⟨r, ?_, fun sc d g Φ hc hA k => hC0 sc d g Φ hc hA (fun g1 f1 p1 A1 => ?_), fun sc d w g Φ hr hm k => hR0 sc d w g Φ hr hm (fun kd' q g1 f1 r1 => ?_) (fun q => by rw [hk] at q; cases q)⟩
      · cases r with
        | inl ce => exact sg
        | inr q => exact ⟨by have := sg.1; omega, sg.2⟩
      · rw [hk]
        refine ⟨fun q => absurd q hkn, fun _ => ?_⟩
        refine s27A p1 (fun g2 f2 p2 => ⟨rfl, ?_⟩)
        exact hC sc d g2 Φ p2 (A1.fc f2) (fun g3 f3 p3 => k g3 ((FKs.c (f1.tr f2)).tr f3) p3)
      · rw [hk] at q
        cases q
        exact hR sc d w g1 Φ r1 (hm.fq f1) (fun g2 f2 p2 => k g2 (FP.tr (FP.q f1) f2) p2)
/-- the statements -/
theorem stsP (h6 : N ≤ 600) : ∀ f s n B D, N - s < f → TOK tx N s → n ≤ s → WZ D 0 B → B + 41 * (N - s) + 100 < 2 ^ 30 → ∃ r : SRes, (match r with | .inl (c, _) => ¬ c = nI 0 | .inr (_, E) => WZ E 0 (B + 41 * (N - s))) ∧
    (∀ (sc : SC) (d : Nat) (g : Gs) (Φ : RS → Gs → Prop) (w2 : AV), CIN g tx N s → At g 1 D → (∀ g', FKs g g' → SCo tx N r g' → Φ (.inl (some (vI (sbb r)))) g') → Xe sc (d + 6) 67 2 [vR 0 60, vI (nI n), w2] [] g Φ) ∧
    (∀ (sc : SC) (d w : Nat) (g : Gs) (Φ : RS → Gs → Prop) (x1 x2 : Int32), RIN g tx N s → MC g w D → (∀ g', FP w g g' → SRo tx N w r g' → Φ (.inl none) g') → Xe sc (d + 9) 194 135 [vR 0 70, vI x1, vI x2] [] g Φ) := by
  have n10 : ¬ nI 1 = nI 0 := by decide +kernel
  intro f
  induction f with
  | zero => intro s n B D hf; omega
  | succ f ih =>
    intro s n B D hf hT hn wz hB
    have hsN := hT.1
    by_cases he : s = N
    · refine ⟨.inr (s, D), wz.mono (Nat.le_refl _) (by omega) (by decide), fun sc d g Φ w2 hc hA k => ?_, fun sc d w g Φ x1 x2 hr hm k => ?_⟩
      · have ke := knd_end hc.1 hc.2.1
        have fin : Rn sc (d + 6) 30 [vR 0 21] g (fun r g1 => ∃ r4 : Int32, r = .inl (some (vI r4)) ∧ ((r4 = nI 0 ∨ r4 = nI 1) ∧ Φ (.inl (some (vI r4))) g1)) := s30 hc (fun _ => ⟨_, rfl, Or.inr rfl, k g (FKs.rf g) ⟨hc, hA⟩⟩) (fun q => absurd he q)
        refine v67_2 ⟨fun _ => ⟨fun _ => fin, fun q => absurd ?_ q⟩, fun _ => fin⟩
        rw [hc.2.2.2.1]; exact ke.mpr he
      · rw [show d + 9 = (d + 8) + 1 by omega]
        refine v194_135 ⟨fun _ => ?_, fun q => absurd hr.2.2.1 q⟩
        refine s177A hr (fun g1 r1 f1 e17 => ⟨_, rfl, ⟨fun _ => k g1 (FP.q f1) ⟨r1, hm.fq f1⟩, fun q => absurd ?_ q⟩⟩)
        exact (see_end hr.1 hT).mpr he
    · have hlt : s < N := by omega
      have n600 : nI n < nI 600 := (nI_ltI (by omega) (by decide)).mpr (by omega)
      -- one statement
      have one : ∃ r : SRes, SG9 tx N s (B + 41) r ∧
          (∀ (sc : SC) (d : Nat) (g : Gs) (Φ : RS → Gs → Prop) (w2 : AV), CIN g tx N s → At g 1 D → (∀ g', FKs g g' → SCo tx N r g' → ((sbb r = nI 0) → (Φ (.inl (some (vI (nI 0)))) g')) ∧ (¬ (sbb r = nI 0) → (Xe sc (d + 6) 67 2 [vR 0 60, vI (nI n + nI 1), vI (sbb r)] [] g' Φ))) → Xe sc (d + 6) 67 2 [vR 0 60, vI (nI n), w2] [] g Φ) ∧
          (∀ (sc : SC) (d w : Nat) (g : Gs) (Φ : RS → Gs → Prop), RIN g tx N s → MC g w D → (∀ g', FP w g g' → SRo tx N w r g' → Φ (.inl none) g') → Rn sc (d + 9) 192 [vR 0 70] g Φ) := by
        have nend : ∀ {g : Gs}, CIN g tx N s → ¬ g.1 0 21 2 = -nI 1 := fun hc q => by
          rw [hc.2.2.2.1] at q
          exact he ((knd_end hc.1 hc.2.1).mp q)
        cases hw3 : isW tx N s 3 with
        | true =>
          obtain ⟨r, sg, hC, hR⟩ := mntP h6 hT hw3 wz (by omega)
          refine ⟨r, sg, fun sc d g Φ w2 hc hA K => ?_, hR⟩
          refine v67_2 ⟨fun _ => ⟨fun q => absurd q (nend hc), fun _ => ?_⟩, fun q => absurd n600 q⟩
          refine s33 (w := 3) (by decide) hc ⟨_, rfl, ?_⟩
          rw [hw3, if_pos rfl]
          exact ⟨fun q => absurd q n10, fun _ => hC sc d g _ hc hA (fun g1 f1 p1 => ⟨_, rfl, K g1 f1 p1⟩)⟩
        | false =>
          cases hw4 : isW tx N s 4 with
          | true =>
            obtain ⟨r, sg, hC, hR⟩ := bndP h6 hT hw4 wz (by omega)
            refine ⟨r, sg, fun sc d g Φ w2 hc hA K => ?_, hR⟩
            refine v67_2 ⟨fun _ => ⟨fun q => absurd q (nend hc), fun _ => ?_⟩, fun q => absurd n600 q⟩
            refine s33 (w := 3) (by decide) hc ⟨_, rfl, ?_⟩
            rw [hw3, if_neg Bool.false_ne_true]
            refine ⟨fun _ => ?_, fun q => absurd rfl q⟩
            refine s33 (w := 4) (by decide) hc ⟨_, rfl, ?_⟩
            rw [hw4, if_pos rfl]
            exact ⟨fun q => absurd q n10, fun _ => hC sc d g _ hc hA (fun g1 f1 p1 => ⟨_, rfl, K g1 f1 p1⟩)⟩
          | false =>
            obtain ⟨r, sg, hC, hR⟩ := makP h6 hT hw3 hw4 wz (by omega)
            refine ⟨r, sg, fun sc d g Φ w2 hc hA K => ?_, hR⟩
            refine v67_2 ⟨fun _ => ⟨fun q => absurd q (nend hc), fun _ => ?_⟩, fun q => absurd n600 q⟩
            refine s33 (w := 3) (by decide) hc ⟨_, rfl, ?_⟩
            rw [hw3, if_neg Bool.false_ne_true]
            refine ⟨fun _ => ?_, fun q => absurd rfl q⟩
            refine s33 (w := 4) (by decide) hc ⟨_, rfl, ?_⟩
            rw [hw4, if_neg Bool.false_ne_true]
            exact ⟨fun _ => hC sc d g _ hc hA (fun g1 f1 p1 => ⟨_, rfl, K g1 f1 p1⟩), fun q => absurd rfl q⟩
      obtain ⟨r1, sg, hC, hR⟩ := one
      have hR0 : ∀ (sc : SC) (d w : Nat) (g : Gs) (Φ : RS → Gs → Prop) (x1 x2 : Int32), RIN g tx N s → MC g w D → (∀ g', FP w g g' → SRo tx N w r1 g' → Xe sc (d + 9) 194 135 [vR 0 70, vI x1, vI x2] [] g' Φ) → Xe sc (d + 9) 194 135 [vR 0 70, vI x1, vI x2] [] g Φ := fun sc d w g Φ x1 x2 hr hm K => by
        rw [show d + 9 = (d + 8) + 1 by omega] at K ⊢
        refine v194_135 ⟨fun _ => ?_, fun q => absurd hr.2.2.1 q⟩
        refine s177A hr (fun g1 r1' f1 e17 => ⟨_, rfl, ⟨fun q => absurd ((see_end hr.1 hT).mp q) he, fun _ => ?_⟩⟩)
        exact hR sc d w g1 _ r1' (hm.fq f1) (fun g2 f2 p2 => ⟨rfl, K g2 (FP.tr (FP.q f1) f2) p2⟩)
      cases r1 with
      | inl ce =>
        refine ⟨.inl ce, sg, fun sc d g Φ w2 hc hA k => hC sc d g Φ w2 hc hA (fun g1 f1 p1 => ⟨fun _ => k g1 f1 p1, fun q => absurd rfl q⟩), fun sc d w g Φ x1 x2 hr hm k => hR0 sc d w g Φ x1 x2 hr hm (fun g1 f1 p1 => ?_)⟩
        rw [show d + 9 = (d + 8) + 1 by omega]
        exact v194_135 ⟨fun q => absurd (p1.2.1.symm.trans q) p1.2.2.1, fun _ => k g1 f1 p1⟩
      | inr q =>
        obtain ⟨s', E⟩ := q
        obtain ⟨a1, a2, a3⟩ := sg
        obtain ⟨r2, sg2, hC2, hR2⟩ := ih s' (n + 1) (B + 41) E (by omega) a2 (by omega) a3 (by have := a2.1; omega)
        refine ⟨r2, ?_, fun sc d g Φ w2 hc hA k => hC sc d g Φ w2 hc hA (fun g1 f1 p1 => ⟨fun q => absurd q n10, fun _ => ?_⟩), fun sc d w g Φ x1 x2 hr hm k => hR0 sc d w g Φ x1 x2 hr hm (fun g1 f1 p1 => ?_)⟩
        · cases r2 with
          | inl ce => exact sg2
          | inr q2 =>
            have sg3 : WZ q2.2 0 (B + 41 + 41 * (N - s')) := sg2
            have h2 := a2.1
            show WZ q2.2 0 (B + 41 * (N - s))
            exact sg3.mono (Nat.le_refl _) (by omega) (by decide)
        · rw [nI_add]
          exact hC2 sc d g1 Φ _ p1.1 p1.2 (fun g2 f2 p2 => k g2 (f1.tr f2) p2)
        · exact hR2 sc d w g1 Φ x1 x2 p1.1 p1.2 (fun g2 f2 p2 => k g2 (f1.tr f2) p2)
end SM9
