/-! STATEMENTS are read and done alike -/
section ST
variable {tx : Nat → Nat} {N : Nat}
theorem RIN.r {g g' : Gs} {w s : Nat} (h : RIN g tx N s) (f : FR w g g') : RIN g' tx N s := by
  obtain ⟨⟨b1, b2, b3⟩, t, e, n, n1, n2⟩ := h
  have e78 := f.1.1 0 78 (by simp)
  exact ⟨⟨by rw [f.2.2 16 (by decide)]; exact b1, b2, fun t ht => by rw [e78]; exact b3 t ht⟩, t, by rw [f.2.2 18 (by decide)]; exact e, n, by rw [f.2.2 17 (by decide)]; exact n1, n2⟩
theorem FP.r {w : Nat} {a b : Gs} (h : FR w a b) : FP w a b := ⟨h.1.wk (fun i c q => ⟨q.1, by omega, by omega⟩), fun j hj => h.2.1 j (by unfold MW; unfold WIN at hj; omega), fun k p => h.2.2 k (by omega)⟩
theorem MC.h {g g' : Gs} {w : Nat} {D : Nat → Nat → Int32} (h : MC g w D) (f : FH g g') : MC g' w D := by
  have e71 := f.1.1 0 71 (by simp)
  refine ⟨?_, h.2.1, ?_, h.2.2.2.1, ?_, h.2.2.2.2.2⟩
  · rw [f.2 2 (by decide)]; exact h.1
  · rw [e71]; exact h.2.2.1
  · rw [e71]; exact h.2.2.2.2.1
theorem FW.k {g g' : Gs} (h : FW 1 g g') : FKs g g' := ⟨h.1.wk (fun i c q => by omega), h.2⟩
/-- the end of a statement that was done with the answer a -/
noncomputable def eRes (tx : Nat → Nat) (N s : Nat) (a : Int32) (E : Nat → Nat → Int32) : SRes := if s < N ∧ tx s = 59 then (if a < nI 0 then .inl (-nI 16, s) else .inr (nxt9 tx N s, E)) else .inl (-nI 12, s)
theorem eRes_G {s s0 B : Nat} {a : Int32} {E : Nat → Nat → Int32} (hT : TOK tx N s) (h0 : s0 < s) (h : WZ E 0 B) : SG9 tx N s0 B (eRes tx N s a E) := by
  unfold eRes
  obtain ⟨t1, t2, t3⟩ := nxt9_K (tx := tx) hT.1
  split
  · split
    · exact (by decide +kernel : ¬ (-nI 16 : Int32) = nI 0)
    · exact ⟨by omega, t1, h⟩
  · exact (by decide +kernel : ¬ (-nI 12 : Int32) = nI 0)
theorem s70 {sc : SC} {d s : Nat} {g : Gs} {Φ : RS → Gs → Prop} {a : Int32} {E : Nat → Nat → Int32} (hc : CIN g tx N s) (hA : At g 1 E) (k : ∀ g', FKs g g' → SCo tx N (eRes tx N s a E) g' → Φ (.inl (some (vI (sbb (eRes tx N s a E))))) g') : Rn sc (d + 5) 70 [vR 0 60, vI a] g Φ := by
  have ks := knd_sign hc.1 hc.2.1 (b := 59) (by decide) (by decide)
  refine Rn.of rfl (v70_0 ?_)
  rw [hc.2.2.2.1, ks]
  unfold eRes at k
  refine ⟨fun hs => ⟨fun ha => ?_, fun ha => ?_⟩, fun hs => ?_⟩
  · rw [if_pos hs, if_pos ha] at k
    intro G2 e2 G3 e3
    subst e2; subst e3
    rw [u3_nk (by decide), hc.2.2.1]
    obtain ⟨x1, x2⟩ := hc.er (code := -nI 16)
    exact k _ (FKs.c x2) x1
  · rw [if_pos hs, if_neg ha] at k
    exact s31 hc (b := 59) (by decide) (by decide) (fun _ g2 f2 p2 => ⟨_, rfl, Or.inr rfl, k g2 (FKs.c f2) ⟨p2, hA.fc f2⟩⟩) (fun q => absurd hs q)
  · rw [if_neg hs] at k
    exact s31 hc (b := 59) (by decide) (by decide) (fun q => absurd q hs) (fun _ g2 f2 p2 => ⟨_, rfl, Or.inl rfl, k g2 (FKs.c f2) p2⟩)
theorem s193 {sc : SC} {d s : Nat} {g : Gs} {Φ : RS → Gs → Prop} (h : RIN g tx N s) (k1 : s < N ∧ tx s = 59 → ∀ g', FQ g g' → RIN g' tx N (nxt9 tx N s) → Φ (.inl (some (vI (nI s)))) g') (k0 : ¬ (s < N ∧ tx s = 59) → ∀ g', FQ g g' → RER g' tx N (-nI 12) s → Φ (.inl (some (vI (nI s)))) g') : Rn sc (d + 3) 193 [vR 0 70] g Φ := by
  refine Rn.of rfl (v193_0 ?_)
  refine s177A h (fun g1 r1 f1 e17 => ⟨_, rfl, ?_⟩)
  rw [e17]
  exact s180 r1 (b := 59) (by decide) (by decide) (fun hs g2 f2 r2 => ⟨rfl, k1 hs g2 (f1.tr f2) r2⟩) (fun hs g2 f2 r2 => ⟨rfl, k0 hs g2 (f1.tr f2) r2⟩)
theorem s193E {sc : SC} {d off : Nat} {g : Gs} {Φ : RS → Gs → Prop} {code : Int32} (h : RER g tx N code off) (k : ∀ g' x, FQ g g' → RER g' tx N code off → Φ (.inl (some (vI x))) g') : Rn sc (d + 3) 193 [vR 0 70] g Φ := by
  obtain ⟨h1, h2, h3, h4, n, h5, h6⟩ := h
  obtain ⟨k1, k2, k3, k4⟩ := skp_K (tx := tx) h6
  refine Rn.of rfl (v193_0 ?_)
  refine s177 h1 h5 h6 (fun g1 f1 e1 e17 => ⟨_, rfl, ?_⟩)
  have fq : FQ g g1 := ⟨f1, fun k hk2 => e1 k (by omega)⟩
  have re : RER g1 tx N code off := ⟨h1.fq fq, by rw [e1 18 (by decide)]; exact h2, h3, by rw [e1 19 (by decide)]; exact h4, _, e17, k2⟩
  exact s180E re ⟨rfl, k g1 _ fq re⟩
theorem s191E {sc : SC} {d off : Nat} {g : Gs} {Φ : RS → Gs → Prop} {code sp : Int32} (h : RER g tx N code off) (k : Φ (.inl none) g) : Rn sc (d + 4) 191 [vR 0 70, vI sp] g Φ := by
  refine Rn.of rfl (v191_0 ?_)
  exact s180E h ⟨rfl, ⟨fun q => absurd (h.2.1.symm.trans q) h.2.2.1, fun _ => k⟩⟩
/-- the tail of a statement where an error is noted -/
theorem tlE {sc : SC} {d off w : Nat} {g : Gs} {Φ : RS → Gs → Prop} {code : Int32} {P : Int32 → Gs → Prop} (h : RER g tx N code off) (k : ∀ g', FP w g g' → RER g' tx N code off → Φ (.inl none) g') : Rn sc (d + 4) 191 [vR 0 70, vI (nI 0)] g (fun r g136 => r = .inl none ∧ (Rn sc (d + 4) 193 [vR 0 70] g136 (fun r g139 => ∃ r142 : Int32, r = .inl (some (vI r142)) ∧ (((g139.1 0 70 18 = nI 0) → P r142 g139) ∧ (¬ (g139.1 0 70 18 = nI 0) → (Φ (.inl none) g139)))))) :=
  s191E h ⟨rfl, s193E h (fun g1 x f1 r1 => ⟨_, rfl, ⟨fun q => absurd (r1.2.1.symm.trans q) r1.2.2.1, fun _ => k g1 (FP.q f1) r1⟩⟩)⟩
theorem txt_m : txt 3 = txt 11 := rfl
theorem txt_b : txt 4 = txt 12 := rfl
theorem txt_k : txt 5 = txt 13 := rfl
theorem txt_k0 : txt 6 = txt 14 := rfl
theorem txt_k1 : txt 7 = txt 15 := rfl
theorem txt_k2 : txt 8 = txt 16 := rfl
theorem txt_k3 : txt 9 = txt 17 := rfl
theorem WZ.rot {D : Nat → Nat → Int32} {M B : Nat} (h : WZ D M B) : ∃ a, ROT D (nI 0) a := by
  obtain ⟨s, -, s2, -, -, s5⟩ := h.f.sp
  exact s5 0 (by omega)
/-- a statement mount -/
theorem mntP {s B : Nat} {D : Nat → Nat → Int32} (h6 : N ≤ 600) (hT : TOK tx N s) (hw : isW tx N s 3 = true) (wz : WZ D 0 B) (hB : B + 100 < 2 ^ 30) : ∃ r : SRes, SG9 tx N s (B + 41) r ∧
    (∀ (sc : SC) (d : Nat) (g : Gs) (Φ : RS → Gs → Prop), CIN g tx N s → At g 1 D → (∀ g', FKs g g' → SCo tx N r g' → Φ (.inl (some (vI (sbb r)))) g') → Rn sc (d + 6) 68 [vR 0 60] g Φ) ∧
    (∀ (sc : SC) (d w : Nat) (g : Gs) (Φ : RS → Gs → Prop), RIN g tx N s → MC g w D → (∀ g', FP w g g' → SRo tx N w r g' → Φ (.inl none) g') → Rn sc (d + 9) 192 [vR 0 70] g Φ) := by
  have n10 : ¬ nI 1 = nI 0 := by decide +kernel
  have cw := wz.f.cw
  have vk := cw.2.1
  have v4 := vk.2.1
  have hs := isW_lt hw
  have hw11 : isW tx N s 11 = true := by rw [← isW_c txt_m]; exact hw
  obtain ⟨a, ha⟩ := wz.rot
  obtain ⟨t1, t2, t3⟩ := nxt9_K (tx := tx) hT.1
  have t4 := t3 hs
  obtain ⟨r1, kg, hC1, hR1⟩ := kvP t1 vk
  -- both up to the volume
  have hC0 : ∀ (sc : SC) (d : Nat) (g : Gs) (Φ : RS → Gs → Prop), CIN g tx N s → At g 1 D → (∀ g', FC g g' → KCo tx N r1 g' → (((kb r1 < nI 0) → (Φ (.inl (some (vI (nI 0)))) g')) ∧ (¬ (kb r1 < nI 0) → (Rn sc (d + 5) 91 [vR 1 45, vR 0 21, vI (nI 0)] g' (fun r g8 => ∃ r11 : Int32, r = .inl (some (vI r11)) ∧ (((r11 = nI 0) → (Φ (.inl (some (vI (nI 0)))) g8)) ∧ (¬ (r11 = nI 0) → (Rn sc (d + 5) 1 [vR 1 40, vI (g8.1 1 45 1), vI (g8.1 1 45 2), vI (kb r1)] g8 (fun r g12 => ∃ r15 : Int32, r = .inl (some (vI r15)) ∧ (Rn sc (d + 5) 70 [vR 0 60, vI r15] g12 (fun r g16 => ∃ r19 : Int32, r = .inl (some (vI r19)) ∧ ((r19 = nI 0 ∨ r19 = nI 1) ∧ Φ (.inl (some (vI r19))) g16)))))))))))) → Rn sc (d + 6) 68 [vR 0 60] g Φ := fun sc d g Φ hc hA K => by
    refine Rn.of rfl (v68_0 ?_)
    refine s27A hc (fun g1 f1 p1 => ⟨rfl, ?_⟩)
    exact hC1 sc (d + 1) g1 _ p1 (hA.fc f1) (fun g2 f2 p2 => ⟨_, rfl, K g2 (f1.tr f2) p2⟩)
  have hR0 : ∀ (sc : SC) (d w : Nat) (g : Gs) (Φ : RS → Gs → Prop), RIN g tx N s → MC g w D → (∀ g' x, FQ g g' → KRo tx N r1 g' → (∀ s2 v, r1 = .inr (s2, v) → x = nI v) → Rn sc (d + 8) 191 [vR 0 70, vI (nI 0)] g' (fun r g136 => r = .inl none ∧ (Rn sc (d + 8) 193 [vR 0 70] g136 (fun r g139 => ∃ r142 : Int32, r = .inl (some (vI r142)) ∧ (((g139.1 0 70 18 = nI 0) → (Rn sc (d + 8) 162 [vR 0 70, vI (g139.1 0 70 11), vI (g139.1 0 70 12), vI x] g139 (fun r g143 => ∃ r146 : Int32, r = .inl (some (vI r146)) ∧ (((r146 < nI 0) → (((g143.1 0 70 18 = nI 0) → (∀ G148 : Nat → Nat → Nat → Int32, G148 = u3 g143.1 0 70 18 (-nI 16) → (∀ G149 : Nat → Nat → Nat → Int32, G149 = u3 G148 0 70 19 r142 → (Φ (.inl none) (G149, g143.2.1, g143.2.2))))) ∧ (¬ (g143.1 0 70 18 = nI 0) → (Φ (.inl none) g143)))) ∧ (¬ (r146 < nI 0) → (Φ (.inl none) g143)))))) ∧ (¬ (g139.1 0 70 18 = nI 0) → (Φ (.inl none) g139))))))) → Rn sc (d + 9) 192 [vR 0 70] g Φ := fun sc d w g Φ hr hm K => by
    refine Rn.of rfl (v192_0 ?_)
    refine s179 (w := 11) (by decide) hr (fun _ g1 f1 q1 => ⟨_, rfl, ⟨fun q => absurd q n10, fun _ => ?_⟩⟩) (fun q => by rw [hw11] at q; cases q)
    have m1 := hm.fq f1
    exact hR1 sc (d + 3) w g1 _ q1 m1.w m1.l m1.v (fun g2 x f2 k2 hx => ⟨_, rfl, K g2 x (f1.tr f2) k2 hx⟩)
  cases r1 with
  | inl ce =>
    refine ⟨.inl ce, kg, fun sc d g Φ hc hA k => hC0 sc d g Φ hc hA (fun g1 f1 p1 => ⟨fun _ => k g1 (FKs.c f1) p1, fun q => absurd nI_neg1 q⟩), fun sc d w g Φ hr hm k => hR0 sc d w g Φ hr hm (fun g1 x f1 p1 _ => ?_)⟩
    exact tlE (w := w) (d := d + 4) p1 (fun g2 f2 r2 => k g2 (FP.tr (FP.q f1) f2) r2)
  | inr q =>
    obtain ⟨s2, v⟩ := q
    obtain ⟨a1, a2, a3⟩ := kg
    have hvn : ¬ nI v < nI 0 := nI_nn (by omega)
    obtain ⟨r3, pv, hC3, hR3⟩ := path9 cw wz.f.rk wz.p wz.f.ok h6 ha a2
    cases r3 with
    | inl ce =>
      refine ⟨.inl ce, pv, fun sc d g Φ hc hA k => hC0 sc d g Φ hc hA (fun g1 f1 p1 => ⟨fun q => absurd q hvn, fun _ => ?_⟩), fun sc d w g Φ hr hm k => hR0 sc d w g Φ hr hm (fun g1 x f1 p1 _ => ?_)⟩
      · exact hC3 sc d 1 g1 _ rfl p1 (hA.fc f1) (fun g2 f2 p2 => ⟨_, rfl, ⟨fun _ => k g2 ((FKs.c f1).tr f2.k) p2, fun q => absurd rfl q⟩⟩)
      · refine hR3 sc (d + 1) w g1 _ p1 (hm.fq f1) (fun g2 f2 m2 p2 => ⟨rfl, ?_⟩)
        exact s193E p2 (fun g3 x f3 r3 => ⟨_, rfl, ⟨fun q => absurd (r3.2.1.symm.trans q) r3.2.2.1, fun _ => k g3 ((FP.q f1).tr ((FP.h f2).tr (FP.q f3))) r3⟩⟩)
    | inr q3 =>
      obtain ⟨s3, z, e⟩ := q3
      obtain ⟨b1, b2, b3⟩ := pv
      by_cases hT3 : TOK tx N s3
      · have wz2 := wz.mnt (v := nI v) (dd := e) hB b2 ⟨v, a3, rfl⟩ b3
        refine ⟨eRes tx N s3 (aMnt D z (nI v) e).1 (aMnt D z (nI v) e).2, eRes_G hT3 (by omega) wz2, fun sc d g Φ hc hA k => hC0 sc d g Φ hc hA (fun g1 f1 p1 => ⟨fun q => absurd q hvn, fun _ => ?_⟩), fun sc d w g Φ hr hm k => hR0 sc d w g Φ hr hm (fun g1 x f1 p1 hx => ?_)⟩
        · refine hC3 sc d 1 g1 _ rfl p1 (hA.fc f1) (fun g2 f2 p2 => ⟨_, rfl, ⟨fun q => absurd q n10, fun _ => ?_⟩⟩)
          obtain ⟨p3, p4, p5⟩ := p2
          rw [p4, p5]
          refine s1 (v := nI v) rfl ((hA.fc f1).fw f2) cw wz.f.gn (wz.f.gb (by omega)) b2 ⟨v, a3, rfl⟩ (fun g3 a3' f3 => ⟨_, rfl, ?_⟩)
          refine s70 (CIN.o p3 f3 (fun i c q => q.1)) a3' (fun g4 f4 p6 => ⟨_, rfl, ?_, k g4 ((FKs.c f1).tr (f2.k.tr ((FKs.o f3 (fun i c q => q.1)).tr f4))) p6⟩)
          cases eRes tx N s3 (aMnt D z (nI v) e).1 (aMnt D z (nI v) e).2 with
          | inl _ => exact Or.inl rfl
          | inr _ => exact Or.inr rfl
        · rw [hx s2 v rfl]
          refine hR3 sc (d + 1) w g1 _ p1 (hm.fq f1) (fun g2 f2 m2 p2 => ⟨rfl, ?_⟩)
          obtain ⟨p3, p4, p5⟩ := p2
          unfold eRes at k
          refine s193 p3 (fun hs3 g3 f3 r3 => ⟨_, rfl, ⟨fun _ => ?_, fun q => absurd r3.2.2.1 q⟩⟩) (fun hs3 g3 f3 r3 => ⟨_, rfl, ⟨fun q => absurd (r3.2.1.symm.trans q) r3.2.2.1, fun _ => ?_⟩⟩)
          · rw [f3.2 11 (by decide), f3.2 12 (by decide), p4, p5]
            rw [if_pos hs3] at k
            refine s162 (m2.fq f3) cw wz.f.gn (wz.f.gb (by omega)) b2 ⟨v, a3, rfl⟩ (fun g4 m4 f4 => ⟨_, rfl, ⟨fun hn => ⟨fun _ => ?_, fun q => absurd (r3.r f4).2.2.1 q⟩, fun hn => ?_⟩⟩)
            · rw [if_pos hn] at k
              intro G8 e8 G9 e9
              subst e8; subst e9
              obtain ⟨y1, y2⟩ := (r3.r f4).er2 (off := s3) (code := -nI 16) (by decide +kernel)
              exact k _ ((FP.q f1).tr ((FP.h f2).tr ((FP.q f3).tr ((FP.r f4).tr (FP.q y2))))) y1
            · rw [if_neg hn] at k
              exact k g4 ((FP.q f1).tr ((FP.h f2).tr ((FP.q f3).tr (FP.r f4)))) ⟨r3.r f4, m4⟩
          · rw [if_neg hs3] at k
            exact k g3 ((FP.q f1).tr ((FP.h f2).tr (FP.q f3))) r3
      · refine ⟨.inl (-nI 12, 0), (show ¬ (-nI 12 : Int32) = nI 0 by decide +kernel), fun sc d g Φ hc hA k => hC0 sc d g Φ hc hA (fun g1 f1 p1 => ⟨fun q => absurd q hvn, fun _ => ?_⟩), fun sc d w g Φ hr hm k => hR0 sc d w g Φ hr hm (fun g1 x f1 p1 hx => ?_)⟩
        · exact hC3 sc d 1 g1 _ rfl p1 (hA.fc f1) (fun g2 f2 p2 => absurd p2.1.2.1 hT3)
        · exact hR3 sc (d + 1) w g1 _ p1 (hm.fq f1) (fun g2 f2 m2 p2 => absurd p2.1.2.1 hT3)
end ST
