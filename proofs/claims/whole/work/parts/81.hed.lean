/-! THE HEAD of a setup text is read alike: its volumes and its root -/
section HD
variable {tx : Nat → Nat} {N : Nat}
theorem isW_x {s w w2 : Nat} (h : isW tx N s w = true) (hne : (txt w).length ≠ (txt w2).length) : isW tx N s w2 = false := by
  have h3 := (of_decide_eq_true h).2.2.1
  unfold isW
  exact decide_eq_false (fun q => hne (h3.symm.trans q.2.2.1))
/-- a state in which an error is noted goes to the text's end -/
theorem s189E {sc : SC} {d off : Nat} {g : Gs} {Φ : RS → Gs → Prop} {code : Int32} (h : RER g tx N code off) (k : Φ (.inl (some (vI (nI 0)))) g) : Rn sc (d + 4) 189 [vR 0 70] g Φ := by
  refine Rn.of rfl (v189_0 ?_)
  exact s181E h ⟨_, rfl, ⟨fun _ => k, fun q => absurd rfl q⟩⟩
theorem tl54 {sc : SC} {d off : Nat} {g : Gs} {Φ : RS → Gs → Prop} {code : Int32} (h : RER g tx N code off) (k : Φ (.inl none) g) : Xe sc (d + 6) 194 54 [vR 0 70, vI (nI 0), vU] [] g Φ := by
  have hx : ∀ {P : Prop}, g.1 0 70 18 = nI 0 → P := fun q => absurd (h.2.1.symm.trans q) h.2.2.1
  have t189 : Rn sc (d + 6) 189 [vR 0 70] g (fun r g108 => ∃ r111 : Int32, r = .inl (some (vI r111)) ∧ (Rn sc (d + 6) 180 [vR 0 70, vI (nI 59)] g108 (fun r g112 => r = .inl none ∧ (((g112.1 0 70 18 = nI 0) → (Rn sc (d + 6) 142 [vR 0 70, vI r111] g112 (fun r g115 => r = .inl none ∧ (Xe sc (d + 6) 194 135 [vR 0 70, vI (nI 0), vI r111] [] g115 Φ)))) ∧ (¬ (g112.1 0 70 18 = nI 0) → (Φ (.inl none) g112)))))) :=
    s189E h ⟨_, rfl, s180E h ⟨rfl, ⟨fun q => hx q, fun _ => k⟩⟩⟩
  refine v194_54 ⟨fun _ => ⟨fun q => hx q, fun _ => ?_⟩, fun q => absurd rfl q⟩
  exact s179E h ⟨_, rfl, ⟨fun _ => ⟨fun q => hx q, fun _ => t189⟩, fun q => absurd rfl q⟩⟩
def VLG (tx : Nat → Nat) (N s : Nat) (r : HRes) : Prop := match r with
  | .inl (c, _) => ¬ c = nI 0
  | .inr (s', D', h') => s ≤ s' ∧ TOK tx N s' ∧ isW tx N s' 1 = true ∧ VOK D' ∧ DPH D' h' ∧ 1 ≤ nV D'
/-- what goes on behind the volumes, in the reference -/
def RGO (tx : Nat → Nat) (N : Nat) (sc : SC) (d w : Nat) (Φ : RS → Gs → Prop) (g : Gs) (r : HRes) : Prop := match r with
  | .inl (c, o) => ∀ g', FP w g g' → RER g' tx N c o → Φ (.inl none) g'
  | .inr (s', D', _) => ∀ g', FP w g g' → RIN g' tx N s' → HVR g' w D' → Xe sc d 194 54 [vR 0 70, vI (nI 0), vU] [] g' Φ
theorem RGO.tr {sc : SC} {d w : Nat} {Φ : RS → Gs → Prop} {g g1 : Gs} {r : HRes} (h : RGO tx N sc d w Φ g r) (f : FP w g g1) : RGO tx N sc d w Φ g1 r := by
  cases r with
  | inl ce => exact fun g' f' e' => h g' (f.tr f') e'
  | inr q => exact fun g' f' a b => h g' (f.tr f') a b
theorem volL {F : Nat} (hF : N < F) : ∀ f s D h, N - s < f → TOK tx N s → VOK D → DPH D h → ∃ r : HRes, VLG tx N s r ∧
    (∀ (sc : SC) (d : Nat) (g : Gs) (Φ : RS → Gs → Prop), CIN g tx N s → At g 1 D → (∀ g', FKs g g' → HCo tx N r g' → Φ (.inl (some (vI (hb r)))) g') → Xe sc (d + (2 * F + 8)) 61 2 [vR 0 60, vI (nI (nV D))] [] g Φ) ∧
    (∀ (sc : SC) (d w : Nat) (g : Gs) (Φ : RS → Gs → Prop), RIN g tx N s → HVR g w D → g.1 0 70 20 = nI 0 → RGO tx N sc (d + (2 * F + 9)) w Φ g r → Xe sc (d + (2 * F + 9)) 194 54 [vR 0 70, vI (nI 1), vU] [] g Φ) := by
  have n10 : ¬ nI 1 = nI 0 := by decide +kernel
  intro f
  induction f with
  | zero => intro s D h hf; omega
  | succ f ih =>
    intro s D h hf hT vk dp
    have v4 := vk.2.1
    have hsN := hT.1
    have no4 : ¬ nI 4 < nI (nV D) := by rw [nI_ltI (by decide) (by omega)]; omega
    -- no volume here: the reference stands before 'root'
    have hRno : isW tx N s 2 = false → ∀ (sc : SC) (d w : Nat) (g : Gs) (Φ : RS → Gs → Prop), RIN g tx N s → HVR g w D → (∀ g', FQ g g' → RIN g' tx N s → HVR g' w D → g'.1 0 70 17 = nI s → Xe sc (d + (2 * F + 9)) 194 54 [vR 0 70, vI (nI 0), vU] [] g' Φ) → Xe sc (d + (2 * F + 9)) 194 54 [vR 0 70, vI (nI 1), vU] [] g Φ := fun hw sc d w g Φ hr hm K => by
      rw [show d + (2 * F + 9) = (d + (2 * F + 8)) + 1 by omega] at K ⊢
      refine v194_54 ⟨fun q => absurd q n10, fun _ => ?_⟩
      rw [show (d + (2 * F + 8)) + 1 = (d + (2 * F + 6)) + 2 + 1 by omega]
      refine Rn.of rfl (v188_0 ?_)
      refine s177A hr (fun g1 r1 f1 e17 => ⟨_, rfl, ?_⟩)
      refine s179 (w := 10) (by decide) r1 (fun q => by rw [isW_c txt_vol.symm, hw] at q; cases q) (fun _ g2 f2 r2 e2 => ⟨_, rfl, ⟨fun _ => ⟨_, rfl, K g2 (f1.tr f2) r2 ((hm.fq f1).fq f2) e2⟩, fun q => absurd rfl q⟩⟩)
    by_cases hroot : 0 < nV D ∧ isW tx N s 1 = true
    · have hnv := isW_x (w2 := 2) hroot.2 (by decide)
      have hp : nI 0 < nI (nV D) := (nI_ltI (by decide) (by omega)).mpr hroot.1
      refine ⟨.inr (s, D, h), ⟨Nat.le_refl _, hT, hroot.2, vk, dp, hroot.1⟩, fun sc d g Φ hc hA k => ?_, fun sc d w g Φ hr hm h20 k => ?_⟩
      · rw [show d + (2 * F + 8) = (d + (2 * F + 7)) + 1 by omega]
        refine v61_2 ⟨fun q => absurd q no4, fun _ => ⟨fun _ => ?_, fun q => absurd hp q⟩⟩
        refine s33 (w := 1) (by decide) hc ⟨_, rfl, ?_⟩
        rw [if_pos hroot.2]
        exact ⟨fun q => absurd q n10, fun _ => k g (FKs.rf g) ⟨hc, hA⟩⟩
      · exact hRno hnv sc d w g Φ hr hm (fun g1 f1 r1 m1 e1 => k g1 (FP.q f1) r1 m1)
    · cases hw : isW tx N s 2 with
      | false =>
        refine ⟨.inl (-nI 12, s), (show ¬ (-nI 12 : Int32) = nI 0 by decide +kernel), fun sc d g Φ hc hA k => ?_, fun sc d w g Φ hr hm h20 k => ?_⟩
        · rw [show d + (2 * F + 8) = (d + (2 * F + 7)) + 1 by omega]
          have fin : Rn sc (d + (2 * F + 7) + 1) 33 [vR 0 21, vR 2 900] g (fun r g4 => ∃ r7 : Int32, r = .inl (some (vI r7)) ∧ (((r7 = nI 0) → (∀ G13 : Nat → Nat → Nat → Int32, G13 = u3 g4.1 0 21 6 (-nI 12) → (∀ G14 : Nat → Nat → Nat → Int32, G14 = u3 G13 0 21 7 (G13 0 21 3) → (Φ (.inl (some (vI (nI 0)))) (G14, g4.2.1, g4.2.2))))) ∧ (¬ (r7 = nI 0) → (((g4.1 1 1 4 < nI 4) → (Rn sc (d + (2 * F + 7) + 1) 27 [vR 0 21] g4 (fun r g16 => r = .inl none ∧ (Rn sc (d + (2 * F + 7) + 1) 62 [vR 0 60] g16 (fun r g19 => ∃ r22 : Int32, r = .inl (some (vI r22)) ∧ (((r22 = nI 0) → (Φ (.inl (some (vI (nI 0)))) g19)) ∧ (¬ (r22 = nI 0) → (Xe sc (d + (2 * F + 7) + 1) 61 2 [vR 0 60, vI (nI (nV D) + nI 1)] [] g19 Φ)))))))) ∧ (¬ (g4.1 1 1 4 < nI 4) → (∀ G25 : Nat → Nat → Nat → Int32, G25 = u3 g4.1 0 21 6 (-nI 15) → (∀ G26 : Nat → Nat → Nat → Int32, G26 = u3 G25 0 21 7 (G25 0 21 3) → (Φ (.inl (some (vI (nI 0)))) (G26, g4.2.1, g4.2.2))))))))) := by
            refine s33 (w := 2) (by decide) hc ⟨_, rfl, ?_⟩
            rw [hw, if_neg Bool.false_ne_true]
            refine ⟨fun _ => ?_, fun q => absurd rfl q⟩
            intro G13 e13 G14 e14
            subst e13; subst e14
            rw [u3_nk (by decide), hc.2.2.1]
            obtain ⟨x1, x2⟩ := hc.er (code := -nI 12)
            exact k _ (FKs.c x2) x1
          refine v61_2 ⟨fun q => absurd q no4, fun _ => ⟨fun hp => ?_, fun _ => fin⟩⟩
          refine s33 (w := 1) (by decide) hc ⟨_, rfl, ?_⟩
          have hr1 : isW tx N s 1 = false := by
            cases hq : isW tx N s 1 with
            | false => rfl
            | true => exact absurd ⟨(nI_ltI (by decide) (by omega)).mp hp, hq⟩ hroot
          rw [hr1, if_neg Bool.false_ne_true]
          exact ⟨fun _ => fin, fun q => absurd rfl q⟩
        · refine hRno hw sc d w g Φ hr hm (fun g1 f1 r1 m1 e1 => ?_)
          obtain ⟨m1, m2, m3, m4, m5⟩ := m1
          have hn := m3.n m4
          have e18 := r1.2.2.1
          obtain ⟨y1, y2⟩ := r1.er (code := -nI 12) (by decide +kernel)
          have kk := k _ (FP.q (f1.tr y2)) y1
          have hx : ∀ {P : Prop}, (u3 (u3 g1.1 0 70 18 (-nI 12)) 0 70 19 (nI s)) 0 70 18 = nI 0 → P := fun q => absurd (y1.2.1.symm.trans q) y1.2.2.1
          have t189 : Rn sc ((d + (2 * F + 8)) + 1) 189 [vR 0 70] (u3 (u3 g1.1 0 70 18 (-nI 12)) 0 70 19 (nI s), g1.2) (fun r g108 => ∃ r111 : Int32, r = .inl (some (vI r111)) ∧ (Rn sc ((d + (2 * F + 8)) + 1) 180 [vR 0 70, vI (nI 59)] g108 (fun r g112 => r = .inl none ∧ (((g112.1 0 70 18 = nI 0) → (Rn sc ((d + (2 * F + 8)) + 1) 142 [vR 0 70, vI r111] g112 (fun r g115 => r = .inl none ∧ (Xe sc ((d + (2 * F + 8)) + 1) 194 135 [vR 0 70, vI (nI 0), vI r111] [] g115 Φ)))) ∧ (¬ (g112.1 0 70 18 = nI 0) → (Φ (.inl none) g112)))))) := by
            rw [show d + (2 * F + 8) + 1 = (d + (2 * F + 5)) + 4 by omega]
            refine s189E y1 ⟨_, rfl, s180E y1 ⟨rfl, ⟨fun q => hx q, fun _ => kk⟩⟩⟩
          rw [show d + (2 * F + 9) = (d + (2 * F + 8)) + 1 by omega]
          refine v194_54 ⟨fun _ => ⟨fun _ => ?_, fun q => absurd e18 q⟩, fun q => absurd rfl q⟩
          rw [m1, e1]
          simp (disch := omega) only [u3_nc, u3_ek, u3_nk, upd_e, upd_n, dU_nk, dU_nc, dU_e, nI_ltI, nI_eq, nI_clamp, nI_add, nI_mul, inb_nI, nI_neg1, nI_ne1, nI_n1e, nI_neg1e, Nat.not_lt_zero, Nat.lt_irrefl, true_and, and_true, true_implies, false_implies, not_true_eq_false, not_false_eq_true, implies_true, forall_const, if_true, if_false, Nat.reduceEqDiff, eq_self, Nat.one_ne_zero, Nat.zero_ne_one, Nat.zero_add, Nat.add_zero, hn]
          refine ⟨fun h0 => ?_, fun h0 => ?_⟩
          · intro G3 e3 G4 e4
            subst e3; subst e4
            exact s179E y1 ⟨_, rfl, ⟨fun _ => ⟨fun q => hx q, fun _ => t189⟩, fun q => absurd rfl q⟩⟩
          · have hr19 : isW tx N s 19 = false := by
              rw [← isW_c txt_root]
              cases hq : isW tx N s 1 with
              | false => rfl
              | true => exact absurd ⟨by omega, hq⟩ hroot
            refine s179 (w := 19) (by decide) r1 (fun q => by rw [hr19] at q; cases q) (fun _ g2 f2 r2 e2 => ⟨_, rfl, ⟨fun _ => ⟨fun _ => ?_, fun q => absurd r2.2.2.1 q⟩, fun q => absurd rfl q⟩⟩)
            intro G52 e52 G53 e53
            subst e52; subst e53
            rw [e2]
            obtain ⟨z1, z2⟩ := r2.er (code := -nI 12) (by decide +kernel)
            rw [show d + (2 * F + 8) + 1 = (d + (2 * F + 5)) + 4 by omega]
            refine s189E z1 ⟨_, rfl, s180E z1 ⟨rfl, ⟨fun q => absurd (z1.2.1.symm.trans q) z1.2.2.1, fun _ => k _ (FP.q (f1.tr (f2.tr z2))) z1⟩⟩⟩
      | true =>
        have hr1 := isW_x (w2 := 1) hw (by decide)
        have hs := isW_lt hw
        -- the class behind its two tests
        have hC0 : ∀ (sc : SC) (d : Nat) (g : Gs) (Φ : RS → Gs → Prop), CIN g tx N s → (((g.1 1 1 4 < nI 4) → (Rn sc (d + (2 * F + 7) + 1) 27 [vR 0 21] g (fun r g16 => r = .inl none ∧ (Rn sc (d + (2 * F + 7) + 1) 62 [vR 0 60] g16 (fun r g19 => ∃ r22 : Int32, r = .inl (some (vI r22)) ∧ (((r22 = nI 0) → (Φ (.inl (some (vI (nI 0)))) g19)) ∧ (¬ (r22 = nI 0) → (Xe sc (d + (2 * F + 7) + 1) 61 2 [vR 0 60, vI (nI (nV D) + nI 1)] [] g19 Φ)))))))) ∧ (¬ (g.1 1 1 4 < nI 4) → (∀ G25 : Nat → Nat → Nat → Int32, G25 = u3 g.1 0 21 6 (-nI 15) → (∀ G26 : Nat → Nat → Nat → Int32, G26 = u3 G25 0 21 7 (G25 0 21 3) → (Φ (.inl (some (vI (nI 0)))) (G26, g.2.1, g.2.2)))))) → Xe sc (d + (2 * F + 8)) 61 2 [vR 0 60, vI (nI (nV D))] [] g Φ := fun sc d g Φ hc K => by
          rw [show d + (2 * F + 8) = (d + (2 * F + 7)) + 1 by omega]
          refine v61_2 ⟨fun q => absurd q no4, fun _ => ⟨fun hp => ?_, fun _ => ?_⟩⟩
          · refine s33 (w := 1) (by decide) hc ⟨_, rfl, ?_⟩
            rw [hr1, if_neg Bool.false_ne_true]
            refine ⟨fun _ => ?_, fun q => absurd rfl q⟩
            refine s33 (w := 2) (by decide) hc ⟨_, rfl, ?_⟩
            rw [hw, if_pos rfl]
            exact ⟨fun q => absurd q n10, fun _ => K⟩
          · refine s33 (w := 2) (by decide) hc ⟨_, rfl, ?_⟩
            rw [hw, if_pos rfl]
            exact ⟨fun q => absurd q n10, fun _ => K⟩
        by_cases h4 : nV D < 4
        · obtain ⟨r1, vg, hC, hR⟩ := volP hF hT hw vk dp h4
          have hC1 : ∀ (sc : SC) (d : Nat) (g : Gs) (Φ : RS → Gs → Prop), CIN g tx N s → At g 1 D → (∀ g', FKs g g' → HCo tx N r1 g' → ((hb r1 = nI 0) → (Φ (.inl (some (vI (nI 0)))) g')) ∧ (¬ (hb r1 = nI 0) → (Xe sc (d + (2 * F + 7) + 1) 61 2 [vR 0 60, vI (nI (nV D) + nI 1)] [] g' Φ))) → Xe sc (d + (2 * F + 8)) 61 2 [vR 0 60, vI (nI (nV D))] [] g Φ := fun sc d g Φ hc hA K => by
            have e14 : g.1 1 1 4 < nI 4 := by rw [hA 1 (by decide), vk.1, nI_ltI (by omega) (by decide)]; exact h4
            refine hC0 sc d g Φ hc ⟨fun _ => ?_, fun q => absurd e14 q⟩
            refine s27A hc (fun g2 f2 p2 => ⟨rfl, ?_⟩)
            refine (hC sc d g2 _ p2 (hA.fc f2) (fun g3 f3 p3 => ⟨_, rfl, K g3 ((FKs.c f2).tr f3) p3⟩)).deep (by omega)
          cases r1 with
          | inl ce =>
            refine ⟨.inl ce, vg, fun sc d g Φ hc hA k => hC1 sc d g Φ hc hA (fun g1 f1 p1 => ⟨fun _ => k g1 f1 p1, fun q => absurd rfl q⟩), fun sc d w g Φ hr hm h20 k => ?_⟩
            rw [show d + (2 * F + 9) = (d + (2 * F + 8)) + 1 by omega]
            refine v194_54 ⟨fun q => absurd q n10, fun _ => ?_⟩
            refine (hR sc d w g _ hr hm h20 (fun g1 f1 p1 => ⟨_, rfl, ?_⟩)).deep (by omega)
            have := tl54 (sc := sc) (d := d + (2 * F + 3)) (Φ := Φ) p1 (k g1 f1 p1)
            rw [show d + (2 * F + 8) + 1 = d + (2 * F + 3) + 6 by omega]
            exact this
          | inr q =>
            obtain ⟨s', D', h'⟩ := q
            obtain ⟨a1, a2, a3, a4, a5⟩ := vg
            obtain ⟨r2, vg2, hC2, hR2⟩ := ih s' D' h' (by omega) a2 a3 a4
            refine ⟨r2, ?_, fun sc d g Φ hc hA k => hC1 sc d g Φ hc hA (fun g1 f1 p1 => ⟨fun q => absurd q n10, fun _ => ?_⟩), fun sc d w g Φ hr hm h20 k => ?_⟩
            · cases r2 with
              | inl ce => exact vg2
              | inr q2 => exact ⟨by have := vg2.1; omega, vg2.2⟩
            · rw [nI_add, ← a5, show d + (2 * F + 7) + 1 = d + (2 * F + 8) by omega]
              exact hC2 sc d g1 Φ p1.1 p1.2 (fun g2 f2 p2 => k g2 (f1.tr f2) p2)
            · rw [show d + (2 * F + 9) = (d + (2 * F + 8)) + 1 by omega]
              refine v194_54 ⟨fun q => absurd q n10, fun _ => ?_⟩
              refine (hR sc d w g _ hr hm h20 (fun g1 f1 p1 => ⟨_, rfl, ?_⟩)).deep (by omega)
              rw [show d + (2 * F + 8) + 1 = d + (2 * F + 9) by omega]
              exact hR2 sc d w g1 Φ p1.1 p1.2.1 p1.2.2 (k.tr f1)
        · have e4 : nV D = 4 := by omega
          refine ⟨.inl (-nI 15, s), (show ¬ (-nI 15 : Int32) = nI 0 by decide +kernel), fun sc d g Φ hc hA k => ?_, fun sc d w g Φ hr hm h20 k => ?_⟩
          · have e14 : ¬ g.1 1 1 4 < nI 4 := by rw [hA 1 (by decide), vk.1, nI_ltI (by omega) (by decide)]; exact h4
            refine hC0 sc d g Φ hc ⟨fun q => absurd q e14, fun _ => ?_⟩
            intro G25 e25 G26 e26
            subst e25; subst e26
            rw [u3_nk (by decide), hc.2.2.1]
            obtain ⟨x1, x2⟩ := hc.er (code := -nI 15)
            exact k _ (FKs.c x2) x1
          · have hw10 : isW tx N s 10 = true := by rw [← isW_c txt_vol]; exact hw
            rw [show d + (2 * F + 9) = (d + (2 * F + 8)) + 1 by omega]
            refine v194_54 ⟨fun q => absurd q n10, fun _ => ?_⟩
            rw [show (d + (2 * F + 8)) + 1 = (d + (2 * F + 6)) + 2 + 1 by omega]
            refine Rn.of rfl (v188_0 ?_)
            refine s177A hr (fun g1 r1 f1 e17 => ⟨_, rfl, ?_⟩)
            refine s179 (w := 10) (by decide) r1 (fun _ g2 f2 r2 => ⟨_, rfl, ⟨fun q => absurd q n10, fun _ => ?_⟩⟩) (fun q => by rw [hw10] at q; cases q)
            obtain ⟨m1, m2, m3, m4, m5⟩ := (hm.fq f1).fq f2
            have hn := m3.n m4
            rw [e4] at hn
            have l1 : 780 * w < 7800 := by omega
            have e18 := r2.2.2.1
            rw [m1, e17]
            simp (disch := omega) only [u3_nc, u3_ek, u3_nk, upd_e, upd_n, dU_nk, dU_nc, dU_e, nI_ltI, nI_eq, nI_clamp, nI_add, nI_mul, inb_nI, nI_neg1, nI_ne1, nI_n1e, nI_neg1e, Nat.not_lt_zero, Nat.lt_irrefl, true_and, and_true, true_implies, false_implies, not_true_eq_false, not_false_eq_true, implies_true, forall_const, if_true, if_false, Nat.reduceEqDiff, eq_self, Nat.one_ne_zero, Nat.zero_ne_one, Nat.zero_add, Nat.add_zero, hn, l1]
            refine ⟨fun _ => ?_, fun q => absurd e18 q⟩
            intro G11 e11 G12 e12
            subst e11; subst e12
            obtain ⟨y1, y2⟩ := r2.er2 (off := s) (code := -nI 15) (by decide +kernel)
            refine s181E y1 ⟨_, rfl, ⟨fun _ => ⟨_, rfl, ?_⟩, fun q => absurd rfl q⟩⟩
            have := tl54 (sc := sc) (d := d + (2 * F + 3)) (Φ := Φ) y1 (k _ (FP.q (f1.tr (f2.tr y2))) y1)
            rw [show d + (2 * F + 6) + 2 + 1 = d + (2 * F + 3) + 6 by omega]
            exact this
end HD
