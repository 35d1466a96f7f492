/-! STATEMENTS bind and make, and all of them -/
section SB
variable {tx : Nat → Nat} {N : Nat}
theorem bndP {s B : Nat} {D : Nat → Nat → Int32} (h6 : N ≤ 600) (hT : TOK tx N s) (hw : isW tx N s 4 = true) (wz : WZ D 0 B) (hB : B + 100 < 2 ^ 30) : ∃ r : SRes, SG9 tx N s (B + 41) r ∧
    (∀ (sc : SC) (d : Nat) (g : Gs) (Φ : RS → Gs → Prop), CIN g tx N s → At g 1 D → (∀ g', FKs g g' → SCo tx N r g' → Φ (.inl (some (vI (sbb r)))) g') → Rn sc (d + 6) 69 [vR 0 60] g Φ) ∧
    (∀ (sc : SC) (d w : Nat) (g : Gs) (Φ : RS → Gs → Prop), RIN g tx N s → MC g w D → (∀ g', FP w g g' → SRo tx N w r g' → Φ (.inl none) g') → Rn sc (d + 9) 192 [vR 0 70] g Φ) := by
  have n10 : ¬ nI 1 = nI 0 := by decide +kernel
  have cw := wz.f.cw
  have hs := isW_lt hw
  have hw11 : isW tx N s 11 = false := by rw [← isW_c txt_m]; exact isW_x hw (by decide)
  have hw12 : isW tx N s 12 = true := by rw [← isW_c txt_b]; exact hw
  obtain ⟨a, ha⟩ := wz.rot
  obtain ⟨t1, t2, t3⟩ := nxt9_K (tx := tx) hT.1
  have t4 := t3 hs
  obtain ⟨r1, pv1, hC1, hR1⟩ := path9 cw wz.f.rk wz.p wz.f.ok h6 ha t1
  -- the class and the reference up to the first path
  have hC0 : ∀ (sc : SC) (d : Nat) (g : Gs) (Φ : RS → Gs → Prop), CIN g tx N s → At g 1 D → (∀ g4, FKs g g4 → At g4 1 D → PCo tx N 1 r1 g4 → (((pb r1 = nI 0) → (Φ (.inl (some (vI (nI 0)))) g4)) ∧ (¬ (pb r1 = nI 0) → (Rn sc (d + 5) 31 [vR 0 21, vI (nI 62)] g4 (fun r g8 => ∃ r11 : Int32, r = .inl (some (vI r11)) ∧ (((r11 = nI 0) → (Φ (.inl (some (vI (nI 0)))) g8)) ∧ (¬ (r11 = nI 0) → (Rn sc (d + 5) 91 [vR 1 45, vR 0 21, vI (nI 0)] g8 (fun r g12 => ∃ r15 : Int32, r = .inl (some (vI r15)) ∧ (((r15 = nI 0) → (Φ (.inl (some (vI (nI 0)))) g12)) ∧ (¬ (r15 = nI 0) → (Rn sc (d + 5) 2 [vR 1 40, vI (g4.1 1 45 1), vI (g4.1 1 45 2), vI (g12.1 1 45 1), vI (g12.1 1 45 2)] g12 (fun r g16 => ∃ r19 : Int32, r = .inl (some (vI r19)) ∧ (Rn sc (d + 5) 70 [vR 0 60, vI r19] g16 (fun r g20 => ∃ r23 : Int32, r = .inl (some (vI r23)) ∧ ((r23 = nI 0 ∨ r23 = nI 1) ∧ Φ (.inl (some (vI r23))) g20)))))))))))))))) → Rn sc (d + 6) 69 [vR 0 60] g Φ := fun sc d g Φ hc hA K => by
    refine Rn.of rfl (v69_0 ?_)
    refine s27A hc (fun g1 f1 p1 => ⟨rfl, ?_⟩)
    exact hC1 sc d 1 g1 _ rfl p1 (hA.fc f1) (fun g2 f2 p2 => ⟨_, rfl, K g2 ((FKs.c f1).tr f2.k) ((hA.fc f1).fw f2) p2⟩)
  have hR0 : ∀ (sc : SC) (d w : Nat) (g : Gs) (Φ : RS → Gs → Prop), RIN g tx N s → MC g w D → (∀ g108, FP w g g108 → MC g108 w D → PRo tx N r1 g108 → Rn sc (d + 8) 180 [vR 0 70, vI (nI 62)] g108 (fun r g111 => r = .inl none ∧ (Rn sc (d + 8) 191 [vR 0 70, vI (nI 0)] g111 (fun r g114 => r = .inl none ∧ (Rn sc (d + 8) 193 [vR 0 70] g114 (fun r g117 => ∃ r120 : Int32, r = .inl (some (vI r120)) ∧ (((g117.1 0 70 18 = nI 0) → (Rn sc (d + 8) 163 [vR 0 70, vI (g108.1 0 70 11), vI (g108.1 0 70 12), vI (g117.1 0 70 11), vI (g117.1 0 70 12)] g117 (fun r g121 => ∃ r124 : Int32, r = .inl (some (vI r124)) ∧ (((r124 < nI 0) → (((g121.1 0 70 18 = nI 0) → (∀ G126 : Nat → Nat → Nat → Int32, G126 = u3 g121.1 0 70 18 (-nI 16) → (∀ G127 : Nat → Nat → Nat → Int32, G127 = u3 G126 0 70 19 r120 → (Φ (.inl none) (G127, g121.2.1, g121.2.2))))) ∧ (¬ (g121.1 0 70 18 = nI 0) → (Φ (.inl none) g121)))) ∧ (¬ (r124 < nI 0) → (Φ (.inl none) g121)))))) ∧ (¬ (g117.1 0 70 18 = nI 0) → (Φ (.inl none) g117))))))))) → Rn sc (d + 9) 192 [vR 0 70] g Φ := fun sc d w g Φ hr hm K => by
    refine Rn.of rfl (v192_0 ?_)
    refine s179 (w := 11) (by decide) hr (fun q => by rw [hw11] at q; cases q) (fun _ g1 f1 q1 _ => ⟨_, rfl, ⟨fun _ => ?_, fun q => absurd rfl q⟩⟩)
    refine s179 (w := 12) (by decide) q1 (fun _ g2 f2 q2 => ⟨_, rfl, ⟨fun q => absurd q n10, fun _ => ?_⟩⟩) (fun q => by rw [hw12] at q; cases q)
    exact hR1 sc (d + 1) w g2 _ q2 ((hm.fq f1).fq f2) (fun g3 f3 m3 p3 => ⟨rfl, K g3 ((FP.q (f1.tr f2)).tr (FP.h f3)) m3 p3⟩)
  -- the reference's tail at an error
  have tE : ∀ {sc : SC} {d w off : Nat} {g g108 : Gs} {Φ : RS → Gs → Prop} {code : Int32}, RER g tx N code off → (∀ g', FP w g g' → RER g' tx N code off → Φ (.inl none) g') → Rn sc (d + 8) 191 [vR 0 70, vI (nI 0)] g (fun r g114 => r = .inl none ∧ (Rn sc (d + 8) 193 [vR 0 70] g114 (fun r g117 => ∃ r120 : Int32, r = .inl (some (vI r120)) ∧ (((g117.1 0 70 18 = nI 0) → (Rn sc (d + 8) 163 [vR 0 70, vI (g108.1 0 70 11), vI (g108.1 0 70 12), vI (g117.1 0 70 11), vI (g117.1 0 70 12)] g117 (fun r g121 => ∃ r124 : Int32, r = .inl (some (vI r124)) ∧ (((r124 < nI 0) → (((g121.1 0 70 18 = nI 0) → (∀ G126 : Nat → Nat → Nat → Int32, G126 = u3 g121.1 0 70 18 (-nI 16) → (∀ G127 : Nat → Nat → Nat → Int32, G127 = u3 G126 0 70 19 r120 → (Φ (.inl none) (G127, g121.2.1, g121.2.2))))) ∧ (¬ (g121.1 0 70 18 = nI 0) → (Φ (.inl none) g121)))) ∧ (¬ (r124 < nI 0) → (Φ (.inl none) g121)))))) ∧ (¬ (g117.1 0 70 18 = nI 0) → (Φ (.inl none) g117)))))) := fun {sc d w off g g108 Φ code} h k =>
    s191E h ⟨rfl, s193E h (fun g1 x f1 r1 => ⟨_, rfl, ⟨fun q => absurd (r1.2.1.symm.trans q) r1.2.2.1, fun _ => k g1 (FP.q f1) r1⟩⟩)⟩
  cases r1 with
  | inl ce =>
    refine ⟨.inl ce, pv1, fun sc d g Φ hc hA k => hC0 sc d g Φ hc hA (fun g1 f1 _ p1 => ⟨fun _ => k g1 f1 p1, fun q => absurd rfl q⟩), fun sc d w g Φ hr hm k => hR0 sc d w g Φ hr hm (fun g1 f1 m1 p1 => ?_)⟩
    exact s180E p1 ⟨rfl, tE (w := w) p1 (fun g2 f2 r2 => k g2 (f1.tr f2) r2)⟩
  | inr q =>
    obtain ⟨sa, z1, e1⟩ := q
    obtain ⟨a1, a2, a3⟩ := pv1
    by_cases hT2 : TOK tx N sa
    · by_cases hsl : sa < N ∧ tx sa = 62
      · obtain ⟨u1, u2, u3'⟩ := nxt9_K (tx := tx) hT2.1
        have u4 := u3' hsl.1
        obtain ⟨r3, pv, hC3, hR3⟩ := path9 cw wz.f.rk wz.p wz.f.ok h6 ha u1
        have hC4 : ∀ (sc : SC) (d : Nat) (g : Gs) (Φ : RS → Gs → Prop), CIN g tx N s → At g 1 D → (∀ g12, FKs g g12 → At g12 1 D → PCo tx N 1 r3 g12 → (((pb r3 = nI 0) → (Φ (.inl (some (vI (nI 0)))) g12)) ∧ (¬ (pb r3 = nI 0) → (Rn sc (d + 5) 2 [vR 1 40, vI (nI z1), vI e1, vI (g12.1 1 45 1), vI (g12.1 1 45 2)] g12 (fun r g16 => ∃ r19 : Int32, r = .inl (some (vI r19)) ∧ (Rn sc (d + 5) 70 [vR 0 60, vI r19] g16 (fun r g20 => ∃ r23 : Int32, r = .inl (some (vI r23)) ∧ ((r23 = nI 0 ∨ r23 = nI 1) ∧ Φ (.inl (some (vI r23))) g20)))))))) → Rn sc (d + 6) 69 [vR 0 60] g Φ := fun sc d g Φ hc hA K => by
          refine hC0 sc d g Φ hc hA (fun g1 f1 A1 p1 => ⟨fun q => absurd q n10, fun _ => ?_⟩)
          obtain ⟨p2, p3, p4⟩ := p1
          rw [p3, p4]
          refine s31 p2 (b := 62) (by decide) (by decide) (fun _ g2 f2 p5 => ⟨_, rfl, ⟨fun q => absurd q n10, fun _ => ?_⟩⟩) (fun q => absurd hsl q)
          exact hC3 sc d 1 g2 _ rfl p5 (A1.fc f2) (fun g3 f3 p6 => ⟨_, rfl, K g3 (f1.tr ((FKs.c f2).tr f3.k)) ((A1.fc f2).fw f3) p6⟩)
        have hR4 : ∀ (sc : SC) (d w : Nat) (g : Gs) (Φ : RS → Gs → Prop), RIN g tx N s → MC g w D → (∀ g114, FP w g g114 → MC g114 w D → PRo tx N r3 g114 → Rn sc (d + 8) 193 [vR 0 70] g114 (fun r g117 => ∃ r120 : Int32, r = .inl (some (vI r120)) ∧ (((g117.1 0 70 18 = nI 0) → (Rn sc (d + 8) 163 [vR 0 70, vI (nI z1), vI e1, vI (g117.1 0 70 11), vI (g117.1 0 70 12)] g117 (fun r g121 => ∃ r124 : Int32, r = .inl (some (vI r124)) ∧ (((r124 < nI 0) → (((g121.1 0 70 18 = nI 0) → (∀ G126 : Nat → Nat → Nat → Int32, G126 = u3 g121.1 0 70 18 (-nI 16) → (∀ G127 : Nat → Nat → Nat → Int32, G127 = u3 G126 0 70 19 r120 → (Φ (.inl none) (G127, g121.2.1, g121.2.2))))) ∧ (¬ (g121.1 0 70 18 = nI 0) → (Φ (.inl none) g121)))) ∧ (¬ (r124 < nI 0) → (Φ (.inl none) g121)))))) ∧ (¬ (g117.1 0 70 18 = nI 0) → (Φ (.inl none) g117))))) → Rn sc (d + 9) 192 [vR 0 70] g Φ := fun sc d w g Φ hr hm K => by
          refine hR0 sc d w g Φ hr hm (fun g1 f1 m1 p1 => ?_)
          obtain ⟨p2, p3, p4⟩ := p1
          rw [p3, p4]
          refine s180 p2 (b := 62) (by decide) (by decide) (fun _ g2 f2 r2 => ⟨rfl, ?_⟩) (fun q => absurd hsl q)
          exact hR3 sc (d + 1) w g2 _ r2 (m1.fq f2) (fun g3 f3 m3 p5 => ⟨rfl, K g3 (f1.tr ((FP.q f2).tr (FP.h f3))) m3 p5⟩)
        cases r3 with
        | inl ce =>
          refine ⟨.inl ce, pv, fun sc d g Φ hc hA k => hC4 sc d g Φ hc hA (fun g1 f1 _ p1 => ⟨fun _ => k g1 f1 p1, fun q => absurd rfl q⟩), fun sc d w g Φ hr hm k => hR4 sc d w g Φ hr hm (fun g1 f1 m1 p1 => ?_)⟩
          exact s193E p1 (fun g3 x f3 r3 => ⟨_, rfl, ⟨fun q => absurd (r3.2.1.symm.trans q) r3.2.2.1, fun _ => k g3 (f1.tr (FP.q f3)) r3⟩⟩)
        | inr q3 =>
          obtain ⟨s3, z, e⟩ := q3
          obtain ⟨b1, b2, b3⟩ := pv
          by_cases hT3 : TOK tx N s3
          · have wz2 := wz.bd (t := e1) (s := z1) (dd := e) hB b2 a2 a3 b3
            have te := (hasD_lt a3).2
            refine ⟨eRes tx N s3 (aBd D z1 e1 z e).1 (aBd D z1 e1 z e).2, eRes_G hT3 (by omega) wz2, fun sc d g Φ hc hA k => hC4 sc d g Φ hc hA (fun g1 f1 A1 p1 => ⟨fun q => absurd q n10, fun _ => ?_⟩), fun sc d w g Φ hr hm k => hR4 sc d w g Φ hr hm (fun g2 f2 m2 p2 => ?_)⟩
            · obtain ⟨p3, p4, p5⟩ := p1
              rw [p4, p5]
              refine s2 rfl A1 cw wz.f.gn (wz.f.gb (by omega)) b2 a2 te (fun g3 a3' f3 => ⟨_, rfl, ?_⟩)
              refine s70 (CIN.o p3 f3 (fun i c q => q.1)) a3' (fun g4 f4 p6 => ⟨_, rfl, ?_, k g4 (f1.tr ((FKs.o f3 (fun i c q => q.1)).tr f4)) p6⟩)
              cases eRes tx N s3 (aBd D z1 e1 z e).1 (aBd D z1 e1 z e).2 with
              | inl _ => exact Or.inl rfl
              | inr _ => exact Or.inr rfl
            · obtain ⟨p3, p4, p5⟩ := p2
              unfold eRes at k
              refine s193 p3 (fun hs3 g3 f3 r3 => ⟨_, rfl, ⟨fun _ => ?_, fun q => absurd r3.2.2.1 q⟩⟩) (fun hs3 g3 f3 r3 => ⟨_, rfl, ⟨fun q => absurd (r3.2.1.symm.trans q) r3.2.2.1, fun _ => ?_⟩⟩)
              · rw [f3.2 11 (by decide), f3.2 12 (by decide), p4, p5]
                rw [if_pos hs3] at k
                refine s163 (m2.fq f3) cw wz.f.gn (wz.f.gb (by omega)) wz.f.bt b2 a2 te (fun g4 m4 f4 => ⟨_, rfl, ⟨fun hn => ⟨fun _ => ?_, fun q => absurd (r3.r f4).2.2.1 q⟩, fun hn => ?_⟩⟩)
                · rw [if_pos hn] at k
                  intro G8 e8 G9 e9
                  subst e8; subst e9
                  obtain ⟨y1, y2⟩ := (r3.r f4).er2 (off := s3) (code := -nI 16) (by decide +kernel)
                  exact k _ (f2.tr ((FP.q f3).tr ((FP.r f4).tr (FP.q y2)))) y1
                · rw [if_neg hn] at k
                  exact k g4 (f2.tr ((FP.q f3).tr (FP.r f4))) ⟨r3.r f4, m4⟩
              · rw [if_neg hs3] at k
                exact k g3 (f2.tr (FP.q f3)) r3
          · refine ⟨.inl (-nI 12, 0), (show ¬ (-nI 12 : Int32) = nI 0 by decide +kernel), fun sc d g Φ hc hA k => hC4 sc d g Φ hc hA (fun g1 f1 _ p1 => absurd p1.1.2.1 hT3), fun sc d w g Φ hr hm k => hR4 sc d w g Φ hr hm (fun g1 f1 m1 p1 => absurd p1.1.2.1 hT3)⟩
      · refine ⟨.inl (-nI 12, sa), (show ¬ (-nI 12 : Int32) = nI 0 by decide +kernel), fun sc d g Φ hc hA k => hC0 sc d g Φ hc hA (fun g1 f1 A1 p1 => ⟨fun q => absurd q n10, fun _ => ?_⟩), fun sc d w g Φ hr hm k => hR0 sc d w g Φ hr hm (fun g1 f1 m1 p1 => ?_)⟩
        · exact s31 p1.1 (b := 62) (by decide) (by decide) (fun q => absurd q hsl) (fun _ g2 f2 p5 => ⟨_, rfl, ⟨fun _ => k g2 (f1.tr (FKs.c f2)) p5, fun q => absurd rfl q⟩⟩)
        · exact s180 p1.1 (b := 62) (by decide) (by decide) (fun q => absurd q hsl) (fun _ g2 f2 r2 => ⟨rfl, tE (w := w) r2 (fun g3 f3 r3 => k g3 (f1.tr ((FP.q f2).tr f3)) r3)⟩)
    · exact ⟨.inl (-nI 12, 0), (show ¬ (-nI 12 : Int32) = nI 0 by decide +kernel), fun sc d g Φ hc hA k => hC0 sc d g Φ hc hA (fun g1 f1 _ p1 => absurd p1.1.2.1 hT2), fun sc d w g Φ hr hm k => hR0 sc d w g Φ hr hm (fun g1 f1 m1 p1 => absurd p1.1.2.1 hT2)⟩
/-- the kind that a word tells -/
def kdW (tx : Nat → Nat) (N s : Nat) : Option Nat := if isW tx N s 6 = true then some 0 else if isW tx N s 7 = true then some 1 else if isW tx N s 8 = true then some 2 else if isW tx N s 9 = true then some 3 else none
def kdI : Option Nat → Int32
  | none => -nI 1
  | some k => nI k
theorem s72 {sc : SC} {d s : Nat} {g : Gs} {Φ : RS → Gs → Prop} (h : CIN g tx N s) (k : Φ (.inl (some (vI (kdI (kdW tx N s))))) g) : Rn sc (d + 2) 72 [vR 0 60] g Φ := by
  have n10 : ¬ nI 1 = nI 0 := by decide +kernel
  refine Rn.of rfl (v72_0 ?_)
  unfold kdW at k
  refine s33 (w := 6) (by decide) h ⟨_, rfl, ?_⟩
  cases h6 : isW tx N s 6 with
  | true =>
    rw [h6, if_pos rfl] at k
    rw [if_pos rfl]
    exact ⟨fun q => absurd q n10, fun _ => k⟩
  | false =>
    rw [h6, if_neg Bool.false_ne_true] at k
    rw [if_neg Bool.false_ne_true]
    refine ⟨fun _ => ?_, fun q => absurd rfl q⟩
    refine s33 (w := 7) (by decide) h ⟨_, rfl, ?_⟩
    cases h7 : isW tx N s 7 with
    | true =>
      rw [h7, if_pos rfl] at k
      rw [if_pos rfl]
      exact ⟨fun q => absurd q n10, fun _ => k⟩
    | false =>
      rw [h7, if_neg Bool.false_ne_true] at k
      rw [if_neg Bool.false_ne_true]
      refine ⟨fun _ => ?_, fun q => absurd rfl q⟩
      refine s33 (w := 8) (by decide) h ⟨_, rfl, ?_⟩
      cases h8 : isW tx N s 8 with
      | true =>
        rw [h8, if_pos rfl] at k
        rw [if_pos rfl]
        exact ⟨fun q => absurd q n10, fun _ => k⟩
      | false =>
        rw [h8, if_neg Bool.false_ne_true] at k
        rw [if_neg Bool.false_ne_true]
        refine ⟨fun _ => ?_, fun q => absurd rfl q⟩
        refine s33 (w := 9) (by decide) h ⟨_, rfl, ?_⟩
        cases h9 : isW tx N s 9 with
        | true =>
          rw [h9, if_pos rfl] at k
          rw [if_pos rfl]
          exact ⟨fun q => absurd q n10, fun _ => k⟩
        | false =>
          rw [h9, if_neg Bool.false_ne_true] at k
          rw [if_neg Bool.false_ne_true]
          exact ⟨fun _ => k, fun q => absurd rfl q⟩
end SB
