/-! THE ROOT, and a setup's head as a whole -/
abbrev KRes : Type := (Int32 × Nat) ⊕ (Nat × Nat)
def kb : KRes → Int32
  | .inl _ => -nI 1
  | .inr (_, v) => nI v
def KG (tx : Nat → Nat) (N s : Nat) (D : Nat → Nat → Int32) (r : KRes) : Prop := match r with
  | .inl (c, _) => ¬ c = nI 0
  | .inr (s2, v) => s < s2 ∧ TOK tx N s2 ∧ v < nV D
def KCo (tx : Nat → Nat) (N : Nat) (r : KRes) (g : Gs) : Prop := match r with
  | .inl (c, o) => CE g c o
  | .inr (s2, _) => CIN g tx N s2
def KRo (tx : Nat → Nat) (N : Nat) (r : KRes) (g : Gs) : Prop := match r with
  | .inl (c, o) => RER g tx N c o
  | .inr (s2, _) => RIN g tx N s2
abbrev SRes : Type := (Int32 × Nat) ⊕ (Nat × (Nat → Nat → Int32))
def sbb : SRes → Int32
  | .inl _ => nI 0
  | .inr _ => nI 1
def SCo (tx : Nat → Nat) (N : Nat) (r : SRes) (g : Gs) : Prop := match r with
  | .inl (c, o) => CE g c o
  | .inr (s, E) => CIN g tx N s ∧ At g 1 E
def SRo (tx : Nat → Nat) (N w : Nat) (r : SRes) (g : Gs) : Prop := match r with
  | .inl (c, o) => RER g tx N c o
  | .inr (s, E) => RIN g tx N s ∧ MC g w E
def SG9 (tx : Nat → Nat) (N s B : Nat) (r : SRes) : Prop := match r with
  | .inl (c, _) => ¬ c = nI 0
  | .inr (s', E) => s < s' ∧ TOK tx N s' ∧ WZ E 0 B
/-- what goes on behind the head, in the reference -/
def RGS (tx : Nat → Nat) (N : Nat) (sc : SC) (d w : Nat) (Φ : RS → Gs → Prop) (g : Gs) (r : SRes) : Prop := match r with
  | .inl (c, o) => ∀ g', FP w g g' → RER g' tx N c o → Φ (.inl none) g'
  | .inr (s', E) => ∀ g' x2, FP w g g' → RIN g' tx N s' → MC g' w E → Xe sc d 194 135 [vR 0 70, vI (nI 0), vI x2] [] g' Φ
theorem RGS.tr {tx : Nat → Nat} {N : Nat} {sc : SC} {d w : Nat} {Φ : RS → Gs → Prop} {g g1 : Gs} {r : SRes} (h : RGS tx N sc d w Φ g r) (f : FP w g g1) : RGS tx N sc d w Φ g1 r := by
  cases r with
  | inl ce => exact fun g' f' e' => h g' (f.tr f') e'
  | inr q => exact fun g' x f' a b => h g' x (f.tr f') a b
section RO
variable {tx : Nat → Nat} {N : Nat}
theorem kvP {s : Nat} {D : Nat → Nat → Int32} (hT : TOK tx N s) (vk : VOK D) : ∃ r : KRes, KG tx N s D r ∧
    (∀ (sc : SC) (d : Nat) (g : Gs) (Φ : RS → Gs → Prop), CIN g tx N s → At g 1 D → (∀ g', FC g g' → KCo tx N r g' → Φ (.inl (some (vI (kb r)))) g') → Rn sc (d + 4) 66 [vR 0 60] g Φ) ∧
    (∀ (sc : SC) (d w : Nat) (g : Gs) (Φ : RS → Gs → Prop), RIN g tx N s → g.1 0 70 2 = nI w → w < 10 → RMV (g.1 0 71) w D → (∀ g' x, FQ g g' → KRo tx N r g' → (∀ s2 v, r = .inr (s2, v) → x = nI v) → Φ (.inl (some (vI x))) g') → Rn sc (d + 5) 189 [vR 0 70] g Φ) := by
  have n10 : ¬ nI 1 = nI 0 := by decide +kernel
  have v4 := vk.2.1
  have v1 := vk.1
  cases hN : isN tx N s with
  | false =>
    refine ⟨.inl (-nI 12, s), (show ¬ (-nI 12 : Int32) = nI 0 by decide +kernel), fun sc d g Φ hc hA k => ?_, fun sc d w g Φ hr h2 w10 hV k => ?_⟩
    · refine Rn.of rfl (v66_0 ?_)
      refine s34 hc ⟨_, rfl, ⟨fun _ => ?_, fun q => absurd ((nmc_0 hT).mpr hN) q⟩⟩
      intro G6 e6 G7 e7
      subst e6; subst e7
      rw [u3_nk (by decide), hc.2.2.1]
      obtain ⟨x1, x2⟩ := hc.er (code := -nI 12)
      exact k _ x2 x1
    · refine Rn.of rfl (v189_0 ?_)
      exact s181 hr (fun q => by rw [hN] at q; cases q) (fun _ g1 f1 r1 => ⟨_, rfl, ⟨fun _ => k g1 _ f1 r1 (fun s2 v q => by cases q), fun q => absurd rfl q⟩⟩)
  | true =>
    have hc0 : ¬ nI (nmc tx N s) = nI 0 := fun q => by rw [(nmc_0 hT).mp q] at hN; cases hN
    obtain ⟨hs, -, -, -, -, -⟩ := isN_K hN hT
    obtain ⟨t1, t2, t3⟩ := nxt9_K (tx := tx) hT.1
    cases hd : fst9 (nV D) (fun v => decide (D 2 v = nI (nmc tx N s))) with
    | none =>
      refine ⟨.inl (-nI 13, s), (show ¬ (-nI 13 : Int32) = nI 0 by decide +kernel), fun sc d g Φ hc hA k => ?_, fun sc d w g Φ hr h2 w10 hV k => ?_⟩
      · refine Rn.of rfl (v66_0 ?_)
        refine s34 hc ⟨_, rfl, ⟨fun q => absurd q hc0, fun _ => ?_⟩⟩
        refine s85 (vn := nV D) (hA.k (by decide) v1) (by omega) ⟨_, rfl, ?_⟩
        rw [hA 2 (by decide), hd]
        refine ⟨fun _ => ?_, fun q => absurd eo_none q⟩
        intro G6 e6 G7 e7
        subst e6; subst e7
        rw [u3_nk (by decide), hc.2.2.1]
        obtain ⟨x1, x2⟩ := hc.er (code := -nI 13)
        exact k _ x2 x1
      · refine Rn.of rfl (v189_0 ?_)
        refine s181 hr (fun _ g1 f1 r1 nm => ⟨_, rfl, ⟨fun q => absurd q n10, fun _ => ?_⟩⟩) (fun q => by rw [hN] at q; cases q)
        refine s184 r1.1 hT nm (by rw [f1.2 2 (by decide)]; exact h2) w10 (by rw [f1.1.1 0 71 (by simp)]; exact hV) vk ⟨_, rfl, ?_⟩
        rw [hd]
        refine ⟨fun _ => ⟨fun _ => ?_, fun q => absurd r1.2.2.1 q⟩, fun q => absurd rfl q⟩
        intro G6 e6 G7 e7
        subst e6; subst e7
        rw [nm.2.1]
        obtain ⟨y1, y2⟩ := r1.er2 (off := s) (code := -nI 13) (by decide +kernel)
        exact k _ _ (f1.tr y2) y1 (fun s2 v q => by cases q)
    | some v =>
      have hv := (fst9_some hd).1
      refine ⟨.inr (nxt9 tx N s, v), ⟨t3 hs, t1, hv⟩, fun sc d g Φ hc hA k => ?_, fun sc d w g Φ hr h2 w10 hV k => ?_⟩
      · refine Rn.of rfl (v66_0 ?_)
        refine s34 hc ⟨_, rfl, ⟨fun q => absurd q hc0, fun _ => ?_⟩⟩
        refine s85 (vn := nV D) (hA.k (by decide) v1) (by omega) ⟨_, rfl, ?_⟩
        rw [hA 2 (by decide), hd]
        refine ⟨fun q => absurd q (nI_nn (show v < 2 ^ 31 by omega)), fun _ => ?_⟩
        exact s27A hc (fun g2 f2 p2 => ⟨rfl, k g2 f2 p2⟩)
      · refine Rn.of rfl (v189_0 ?_)
        refine s181 hr (fun _ g1 f1 r1 nm => ⟨_, rfl, ⟨fun q => absurd q n10, fun _ => ?_⟩⟩) (fun q => by rw [hN] at q; cases q)
        refine s184 r1.1 hT nm (by rw [f1.2 2 (by decide)]; exact h2) w10 (by rw [f1.1.1 0 71 (by simp)]; exact hV) vk ⟨_, rfl, ?_⟩
        rw [hd]
        refine ⟨fun q => absurd q (nI_ne1 (show v < 2 ^ 31 by omega)), fun _ => ?_⟩
        exact k g1 _ f1 r1 (fun s2 v' q => by cases q; rfl)
theorem rootP {s : Nat} {D : Nat → Nat → Int32} {h : Nat → Nat → Nat} (hT : TOK tx N s) (hw : isW tx N s 1 = true) (vk : VOK D) (dp : DPH D h) (h1 : 1 ≤ nV D) : ∃ r : SRes, SG9 tx N s 0 r ∧
    (∀ (sc : SC) (d : Nat) (g : Gs) (Φ : RS → Gs → Prop), CIN g tx N s → At g 1 D → (∀ g', FKs g g' → SCo tx N r g' → Φ (.inl (some (vI (sbb r)))) g') → Rn sc (d + 5) 65 [vR 0 60] g Φ) ∧
    (∀ (sc : SC) (d w : Nat) (g : Gs) (Φ : RS → Gs → Prop), RIN g tx N s → HVR g w D → RGS tx N sc (d + 8) w Φ g r → Xe sc (d + 8) 194 54 [vR 0 70, vI (nI 0), vU] [] g Φ) := by
  have n10 : ¬ nI 1 = nI 0 := by decide +kernel
  have v4 := vk.2.1
  have hs := isW_lt hw
  have hw19 : isW tx N s 19 = true := by rw [← isW_c txt_root]; exact hw
  obtain ⟨t1, t2, t3⟩ := nxt9_K (tx := tx) hT.1
  have t4 := t3 hs
  obtain ⟨r1, kg, hC, hR⟩ := kvP t1 vk
  -- the reference up to the name
  have hR0 : ∀ (sc : SC) (d w : Nat) (g : Gs) (Φ : RS → Gs → Prop), RIN g tx N s → HVR g w D → (∀ g' x, FQ g g' → HVR g' w D → KRo tx N r1 g' → (∀ s2 v, r1 = .inr (s2, v) → x = nI v) → Rn sc (d + 8) 180 [vR 0 70, vI (nI 59)] g' (fun r g81 => r = .inl none ∧ (((g81.1 0 70 18 = nI 0) → (Rn sc (d + 8) 142 [vR 0 70, vI x] g81 (fun r g84 => r = .inl none ∧ (Xe sc (d + 8) 194 135 [vR 0 70, vI (nI 0), vI x] [] g84 Φ)))) ∧ (¬ (g81.1 0 70 18 = nI 0) → (Φ (.inl none) g81))))) → Xe sc (d + 8) 194 54 [vR 0 70, vI (nI 0), vU] [] g Φ := fun sc d w g Φ hr hm K => by
    obtain ⟨m1, m2, m3, m4, m5⟩ := hm
    have hn := m3.n m4
    have n0 : ¬ nV D = 0 := by omega
    rw [show d + 8 = (d + 7) + 1 by omega] at K ⊢
    refine v194_54 ⟨fun _ => ⟨fun _ => ?_, fun q => absurd hr.2.2.1 q⟩, fun q => absurd rfl q⟩
    simp (disch := omega) only [u3_nc, u3_ek, u3_nk, upd_e, upd_n, dU_nk, dU_nc, dU_e, nI_ltI, nI_eq, nI_clamp, nI_add, nI_mul, inb_nI, nI_neg1, nI_ne1, nI_n1e, nI_neg1e, Nat.not_lt_zero, Nat.lt_irrefl, true_and, and_true, true_implies, false_implies, not_true_eq_false, not_false_eq_true, implies_true, forall_const, if_true, if_false, Nat.reduceEqDiff, eq_self, Nat.one_ne_zero, Nat.zero_ne_one, Nat.zero_add, Nat.add_zero, m1, hn, n0]
    refine s179 (w := 19) (by decide) hr (fun _ g1 f1 q1 => ⟨_, rfl, ⟨fun q => absurd q n10, fun _ => ?_⟩⟩) (fun q => by rw [hw19] at q; cases q)
    have hm1 : HVR g1 w D := HVR.fq ⟨m1, m2, m3, m4, m5⟩ f1
    refine (hR sc (d + 3) w g1 _ q1 hm1.1 m2 hm1.2.2.1 (fun g2 x f2 k2 hx => ⟨_, rfl, ?_⟩))
    exact K g2 x (f1.tr f2) (hm1.fq f2) k2 hx
  cases r1 with
  | inl ce =>
    refine ⟨.inl ce, kg, fun sc d g Φ hc hA k => ?_, fun sc d w g Φ hr hm k => ?_⟩
    · refine Rn.of rfl (v65_0 ?_)
      refine s27A hc (fun g1 f1 p1 => ⟨rfl, ?_⟩)
      refine hC sc d g1 _ p1 (hA.fc f1) (fun g2 f2 p2 => ⟨_, rfl, ⟨fun _ => k g2 (FKs.c (f1.tr f2)) p2, fun q => absurd nI_neg1 q⟩⟩)
    · refine hR0 sc d w g Φ hr hm (fun g1 x f1 m1 p1 _ => ?_)
      exact s180E p1 ⟨rfl, ⟨fun q => absurd (p1.2.1.symm.trans q) p1.2.2.1, fun _ => k g1 (FP.q f1) p1⟩⟩
  | inr q =>
    obtain ⟨s2, v⟩ := q
    obtain ⟨a1, a2, a3⟩ := kg
    have hvn : ¬ nI v < nI 0 := nI_nn (by omega)
    obtain ⟨w1, w2, w3⟩ := nxt9_K (tx := tx) a2.1
    have hC0 : ∀ (sc : SC) (d : Nat) (g : Gs) (Φ : RS → Gs → Prop), CIN g tx N s → At g 1 D → (∀ g', FKs g g' → CIN g' tx N s2 → At g' 1 (aBeg D (nI v)) → Rn sc (d + 4) 31 [vR 0 21, vI (nI 59)] g' (fun r g11 => ∃ r14 : Int32, r = .inl (some (vI r14)) ∧ ((r14 = nI 0 ∨ r14 = nI 1) ∧ Φ (.inl (some (vI r14))) g11))) → Rn sc (d + 5) 65 [vR 0 60] g Φ := fun sc d g Φ hc hA K => by
      refine Rn.of rfl (v65_0 ?_)
      refine s27A hc (fun g1 f1 p1 => ⟨rfl, ?_⟩)
      refine hC sc d g1 _ p1 (hA.fc f1) (fun g2 f2 p2 => ⟨_, rfl, ⟨fun q => absurd q hvn, fun _ => ?_⟩⟩)
      refine s36 ((hA.fc f1).fc f2) (fun g3 f3 a3 => ⟨rfl, ?_⟩)
      exact K g3 ((FKs.c (f1.tr f2)).tr (FKs.o f3 (fun i c q => q.1))) (CIN.o p2 f3 (fun i c q => q.1)) a3
    by_cases hsl : s2 < N ∧ tx s2 = 59
    · refine ⟨.inr (nxt9 tx N s2, aBeg D (nI v)), ⟨by omega, w1, WZ.beg vk dp a3⟩, fun sc d g Φ hc hA k => hC0 sc d g Φ hc hA (fun g1 f1 p1 q1 => ?_), fun sc d w g Φ hr hm k => hR0 sc d w g Φ hr hm (fun g1 x f1 m1 p1 hx => ?_)⟩
      · exact s31 p1 (b := 59) (by decide) (by decide) (fun _ g2 f2 p2 => ⟨_, rfl, Or.inr rfl, k g2 (f1.tr (FKs.c f2)) ⟨p2, q1.fc f2⟩⟩) (fun q => absurd hsl q)
      · rw [hx s2 v rfl]
        refine s180 p1 (b := 59) (by decide) (by decide) (fun _ g2 f2 r2 => ⟨rfl, ⟨fun _ => ?_, fun q => absurd r2.2.2.1 q⟩⟩) (fun q => absurd hsl q)
        refine s142 (m1.fq f2) (fun g3 f3 f3' m3 => ⟨rfl, ?_⟩)
        exact k g3 (nI v) ((FP.q (f1.tr f2)).tr f3) (r2.s f3') m3
    · refine ⟨.inl (-nI 12, s2), (show ¬ (-nI 12 : Int32) = nI 0 by decide +kernel), fun sc d g Φ hc hA k => hC0 sc d g Φ hc hA (fun g1 f1 p1 q1 => ?_), fun sc d w g Φ hr hm k => hR0 sc d w g Φ hr hm (fun g1 x f1 m1 p1 hx => ?_)⟩
      · exact s31 p1 (b := 59) (by decide) (by decide) (fun q => absurd q hsl) (fun _ g2 f2 p2 => ⟨_, rfl, Or.inl rfl, k g2 (f1.tr (FKs.c f2)) p2⟩)
      · exact s180 p1 (b := 59) (by decide) (by decide) (fun q => absurd q hsl) (fun _ g2 f2 r2 => ⟨rfl, ⟨fun q => absurd (r2.2.1.symm.trans q) r2.2.2.1, fun _ => k g2 (FP.q (f1.tr f2)) r2⟩⟩)
/-- a setup's head -/
theorem headP {F : Nat} (hF : N < F) (D : Nat → Nat → Int32) : ∃ r : SRes, (match r with | .inl (c, _) => ¬ c = nI 0 | .inr (s', E) => 0 < s' ∧ TOK tx N s' ∧ WZ E 0 0) ∧
    (∀ (sc : SC) (d : Nat) (g : Gs) (Φ : RS → Gs → Prop), CIN g tx N (skp tx N 0) → At g 1 D → (∀ g', FKs g g' → SCo tx N r g' → Φ (.inl (some (vI (sbb r)))) g') → Rn sc (d + (2 * F + 10)) 60 [vR 0 60] g Φ) ∧
    (∀ (sc : SC) (d w : Nat) (g : Gs) (Φ : RS → Gs → Prop), BYR g tx N → HVR g w (dU D 1 4 (nI 0)) → RGS tx N sc (d + (2 * F + 9)) w Φ g r → Rn sc (d + (2 * F + 10)) 194 [vR 0 70] g Φ) := by
  have n10 : ¬ nI 1 = nI 0 := by decide +kernel
  obtain ⟨D0, hD0⟩ : ∃ D0, D0 = dU D 1 4 (nI 0) := ⟨_, rfl⟩
  have e14 : D0 1 4 = nI 0 := by rw [hD0, dU_e rfl rfl]
  have nV0 : nV D0 = 0 := by unfold nV; rw [e14, nI_clamp (by decide)]
  have vk0 : VOK D0 := ⟨by rw [nV0]; exact e14, by rw [nV0]; decide, fun v hv => by rw [nV0] at hv; omega⟩
  have dp0 : DPH D0 (fun _ _ => 0) := fun v e hv => by rw [nV0] at hv; omega
  obtain ⟨k1, k2, k3, hT⟩ := skp_K (tx := tx) (N := N) (q := 0) (Nat.zero_le N)
  obtain ⟨s0, hs0⟩ : ∃ s0, s0 = skp tx N 0 := ⟨_, rfl⟩
  rw [← hs0] at hT k3 ⊢
  rw [← hD0]
  obtain ⟨t1, t2, t3⟩ := nxt9_K (tx := tx) hT.1
  obtain ⟨s1, hs1⟩ : ∃ s1, s1 = nxt9 tx N s0 := ⟨_, rfl⟩
  rw [← hs1] at t1 t2 t3
  obtain ⟨u1, u2, u3'⟩ := nxt9_K (tx := tx) t1.1
  obtain ⟨s2, hs2⟩ : ∃ s2, s2 = nxt9 tx N s1 := ⟨_, rfl⟩
  rw [← hs2] at u1 u2 u3'
  have hw18 : isW tx N s0 18 = isW tx N s0 0 := (isW_c txt_spc).symm
  -- the reference's begin
  have hB : ∀ (w : Nat) (g : Gs), BYR g tx N → HVR g w D0 → RIN (u3 (u3 (u3 g.1 0 70 17 (nI 0)) 0 70 18 (nI 0)) 0 70 20 (nI 0), g.2) tx N s0 ∧ HVR (u3 (u3 (u3 g.1 0 70 17 (nI 0)) 0 70 18 (nI 0)) 0 70 20 (nI 0), g.2) w D0 ∧ FP w g (u3 (u3 (u3 g.1 0 70 17 (nI 0)) 0 70 18 (nI 0)) 0 70 20 (nI 0), g.2) := fun w g hB hm => by
    have f2 : FQ g (u3 (u3 g.1 0 70 17 (nI 0)) 0 70 18 (nI 0), g.2) := (FQ.p (k := 17) (v := nI 0) (by decide)).tr (FQ.p (k := 18) (v := nI 0) (by decide))
    refine ⟨⟨(hB.fq f2).n20, hT, by dsimp only; rw [u3_nk (by decide), u3_ek rfl], 0, by dsimp only; rw [u3_nk (by decide), u3_nk (by decide), u3_ek rfl], Nat.zero_le _, k3⟩, (hm.fq f2).n20, (FP.q f2).tr FP.n⟩
  -- the class's begin
  have hAD : ∀ (g : Gs), At g 1 D → At (u3 g.1 1 1 4 (nI 0), g.2) 1 D0 ∧ Fr (PD 1) g (u3 g.1 1 1 4 (nI 0), g.2) := fun g hA => by
    rw [hD0]; exact ⟨At.uc hA, Fr.u3 (Fr.rf g) ⟨rfl, by decide⟩⟩
  cases hw : isW tx N s0 0 with
  | false =>
    refine ⟨.inl (-nI 12, s0), (show ¬ (-nI 12 : Int32) = nI 0 by decide +kernel), fun sc d g Φ hc hA k => ?_, fun sc d w g Φ hb hm k => ?_⟩
    · rw [show d + (2 * F + 10) = (d + (2 * F + 9)) + 1 by omega]
      obtain ⟨a1, f1⟩ := hAD g hA
      refine Rn.of rfl (v60_0 ?_)
      intro G1 e1
      subst e1
      rw [show d + (2 * F + 9) = (d + (2 * F + 6)) + 3 by omega]
      exact s32 (w := 0) (by decide) (CIN.o hc f1 (fun i c q => q.1)) (fun q => by rw [hw] at q; cases q) (fun _ g2 f2 p2 => ⟨_, rfl, ⟨fun _ => k g2 ((FKs.o f1 (fun i c q => q.1)).tr (FKs.c f2)) p2, fun q => absurd rfl q⟩⟩)
    · obtain ⟨r0, m0, f0⟩ := hB w g hb hm
      rw [show d + (2 * F + 10) = (d + (2 * F + 8)) + 1 + 1 by omega]
      refine Rn.of rfl (v194_0 ?_)
      intro G1 e1 G2 e2 G3 e3
      subst e1; subst e2; subst e3
      refine s179 (w := 18) (by decide) r0 (fun q => by rw [hw18, hw] at q; cases q) (fun _ g2 f2 r2 e17 => ⟨_, rfl, ⟨fun _ => ⟨fun _ => ?_, fun q => absurd r2.2.2.1 q⟩, fun q => absurd rfl q⟩⟩)
      intro G9 e9 G10 e10
      subst e9; subst e10
      rw [e17]
      obtain ⟨y1, y2⟩ := r2.er (code := -nI 12) (by decide +kernel)
      refine s180E y1 ⟨rfl, ⟨fun q => absurd (y1.2.1.symm.trans q) y1.2.2.1, fun _ => ?_⟩⟩
      have := tl54 (sc := sc) (d := d + (2 * F + 3)) (Φ := Φ) y1 (k _ (f0.tr (FP.q (f2.tr y2))) y1)
      rw [show d + (2 * F + 8) + 1 = d + (2 * F + 3) + 6 by omega]
      exact this
  | true =>
    have hs := isW_lt hw
    have t4 := t3 hs
    have hC0 : ∀ (sc : SC) (d : Nat) (g : Gs) (Φ : RS → Gs → Prop), CIN g tx N s0 → At g 1 D → (∀ g', FKs g g' → CIN g' tx N s1 → At g' 1 D0 → Rn sc (d + (2 * F + 9)) 31 [vR 0 21, vI (nI 59)] g' (fun r g6 => ∃ r9 : Int32, r = .inl (some (vI r9)) ∧ (((r9 = nI 0) → (Φ (.inl (some (vI (nI 0)))) g6)) ∧ (¬ (r9 = nI 0) → (Rn sc (d + (2 * F + 9)) 61 [vR 0 60] g6 (fun r g10 => ∃ r13 : Int32, r = .inl (some (vI r13)) ∧ (((r13 = nI 0) → (Φ (.inl (some (vI (nI 0)))) g10)) ∧ (¬ (r13 = nI 0) → (Rn sc (d + (2 * F + 9)) 65 [vR 0 60] g10 (fun r g14 => ∃ r17 : Int32, r = .inl (some (vI r17)) ∧ (((r17 = nI 0) → (Φ (.inl (some (vI (nI 0)))) g14)) ∧ (¬ (r17 = nI 0) → (Φ (.inl (some (vI (nI 1)))) g14))))))))))))) → Rn sc (d + (2 * F + 10)) 60 [vR 0 60] g Φ := fun sc d g Φ hc hA K => by
      rw [show d + (2 * F + 10) = (d + (2 * F + 9)) + 1 by omega]
      obtain ⟨a1, f1⟩ := hAD g hA
      refine Rn.of rfl (v60_0 ?_)
      intro G1 e1
      subst e1
      refine (s32 (sc := sc) (d := d + (2 * F + 6)) (w := 0) (by decide) (CIN.o hc f1 (fun i c q => q.1)) (fun _ g2 f2 p2 => ⟨_, rfl, ⟨fun q => absurd q n10, fun _ => ?_⟩⟩) (fun q => by rw [hw] at q; cases q))
      rw [← hs1] at p2
      exact K g2 ((FKs.o f1 (fun i c q => q.1)).tr (FKs.c f2)) p2 (a1.fc f2)
    have hR0 : ∀ (sc : SC) (d w : Nat) (g : Gs) (Φ : RS → Gs → Prop), BYR g tx N → HVR g w D0 → (∀ g', FP w g g' → RIN g' tx N s1 → HVR g' w D0 → g'.1 0 70 20 = nI 0 → Rn sc (d + (2 * F + 9)) 180 [vR 0 70, vI (nI 59)] g' (fun r g20 => r = .inl none ∧ (((g20.1 0 70 18 = nI 0) → (Xe sc (d + (2 * F + 9)) 194 54 [vR 0 70, vI (nI 1), vU] [] g20 Φ)) ∧ (¬ (g20.1 0 70 18 = nI 0) → (Xe sc (d + (2 * F + 9)) 194 54 [vR 0 70, vI (nI 0), vU] [] g20 Φ))))) → Rn sc (d + (2 * F + 10)) 194 [vR 0 70] g Φ := fun sc d w g Φ hb hm K => by
      obtain ⟨r0, m0, f0⟩ := hB w g hb hm
      rw [show d + (2 * F + 10) = (d + (2 * F + 8)) + 1 + 1 by omega]
      refine Rn.of rfl (v194_0 ?_)
      intro G1 e1 G2 e2 G3 e3
      subst e1; subst e2; subst e3
      refine s179 (w := 18) (by decide) r0 (fun _ g2 f2 r2 => ⟨_, rfl, ⟨fun q => absurd q n10, fun _ => ?_⟩⟩) (fun q => by rw [hw18, hw] at q; cases q)
      rw [← hs1] at r2
      refine K g2 (f0.tr (FP.q f2)) r2 (m0.fq f2) ?_
      rw [f2.2 20 (by decide)]
      dsimp only
      rw [u3_ek rfl]
    by_cases hsl : s1 < N ∧ tx s1 = 59
    · obtain ⟨r1, vg, hC1, hR1⟩ := volL hF (N - s2 + 1) s2 D0 _ (by omega) u1 vk0 dp0
      have hC2 : ∀ (sc : SC) (d : Nat) (g : Gs) (Φ : RS → Gs → Prop), CIN g tx N s0 → At g 1 D → (∀ g', FKs g g' → HCo tx N r1 g' → (((hb r1 = nI 0) → (Φ (.inl (some (vI (nI 0)))) g')) ∧ (¬ (hb r1 = nI 0) → (Rn sc (d + (2 * F + 9)) 65 [vR 0 60] g' (fun r g14 => ∃ r17 : Int32, r = .inl (some (vI r17)) ∧ (((r17 = nI 0) → (Φ (.inl (some (vI (nI 0)))) g14)) ∧ (¬ (r17 = nI 0) → (Φ (.inl (some (vI (nI 1)))) g14)))))))) → Rn sc (d + (2 * F + 10)) 60 [vR 0 60] g Φ := fun sc d g Φ hc hA K => by
        refine hC0 sc d g Φ hc hA (fun g1 f1 p1 a1 => ?_)
        refine (s31 (sc := sc) (d := d + (2 * F + 6)) p1 (b := 59) (by decide) (by decide) (fun _ g2 f2 p2 => ⟨_, rfl, ⟨fun q => absurd q n10, fun _ => ?_⟩⟩) (fun q => absurd hsl q))
        rw [← hs2] at p2
        rw [show d + (2 * F + 9) = (d + (2 * F + 8)) + 1 by omega]
        refine Rn.of rfl (v61_0 ?_)
        have hC1' := hC1 sc d g2 (fun r g10 => ∃ r13 : Int32, r = .inl (some (vI r13)) ∧ (((r13 = nI 0) → (Φ (.inl (some (vI (nI 0)))) g10)) ∧ (¬ (r13 = nI 0) → (Rn sc (d + (2 * F + 8) + 1) 65 [vR 0 60] g10 (fun r g14 => ∃ r17 : Int32, r = .inl (some (vI r17)) ∧ (((r17 = nI 0) → (Φ (.inl (some (vI (nI 0)))) g14)) ∧ (¬ (r17 = nI 0) → (Φ (.inl (some (vI (nI 1)))) g14)))))))) p2 (a1.fc f2) (fun g3 f3 p3 => ⟨_, rfl, K g3 (f1.tr ((FKs.c f2).tr f3)) p3⟩)
        rw [nV0] at hC1'
        exact hC1'
      have hR2 : ∀ (sc : SC) (d w : Nat) (g : Gs) (Φ : RS → Gs → Prop), BYR g tx N → HVR g w D0 → RGO tx N sc (d + (2 * F + 9)) w Φ g r1 → Rn sc (d + (2 * F + 10)) 194 [vR 0 70] g Φ := fun sc d w g Φ hb hm K => by
        refine hR0 sc d w g Φ hb hm (fun g1 f1 r1' m1 z1 => ?_)
        refine (s180 (sc := sc) (d := d + (2 * F + 7)) r1' (b := 59) (by decide) (by decide) (fun _ g2 f2 r2 => ⟨rfl, ⟨fun _ => ?_, fun q => absurd r2.2.2.1 q⟩⟩) (fun q => absurd hsl q))
        rw [← hs2] at r2
        exact hR1 sc d w g2 Φ r2 (m1.fq f2) (by rw [f2.2 20 (by decide)]; exact z1) (K.tr (f1.tr (FP.q f2)))
      cases r1 with
      | inl ce =>
        exact ⟨.inl ce, vg, fun sc d g Φ hc hA k => hC2 sc d g Φ hc hA (fun g1 f1 p1 => ⟨fun _ => k g1 f1 p1, fun q => absurd rfl q⟩), fun sc d w g Φ hb hm k => hR2 sc d w g Φ hb hm k⟩
      | inr q =>
        obtain ⟨s', D', h'⟩ := q
        obtain ⟨b1, b2, b3, b4, b5, b6⟩ := vg
        obtain ⟨r2, sg, hC3, hR3⟩ := rootP b2 b3 b4 b5 b6
        refine ⟨r2, ?_, fun sc d g Φ hc hA k => hC2 sc d g Φ hc hA (fun g1 f1 p1 => ⟨fun q => absurd q n10, fun _ => ?_⟩), fun sc d w g Φ hb hm k => hR2 sc d w g Φ hb hm (fun g1 f1 a1 m1 => ?_)⟩
        · cases r2 with
          | inl ce => exact sg
          | inr q2 => exact ⟨by have := sg.1; omega, sg.2⟩
        · refine (hC3 sc (d + (2 * F + 4)) g1 _ p1.1 p1.2 (fun g2 f2 p2 => ⟨_, rfl, ?_⟩))
          have kk := k g2 (f1.tr f2) p2
          cases r2 with
          | inl ce => exact ⟨fun _ => kk, fun q => absurd rfl q⟩
          | inr q2 => exact ⟨fun q => absurd q n10, fun _ => kk⟩
        · have := hR3 sc (d + (2 * F + 1)) w g1 Φ a1 m1 (k.tr f1)
          exact this
    · refine ⟨.inl (-nI 12, s1), (show ¬ (-nI 12 : Int32) = nI 0 by decide +kernel), fun sc d g Φ hc hA k => hC0 sc d g Φ hc hA (fun g1 f1 p1 a1 => ?_), fun sc d w g Φ hb hm k => hR0 sc d w g Φ hb hm (fun g1 f1 r1 m1 z1 => ?_)⟩
      · exact (s31 (sc := sc) (d := d + (2 * F + 6)) p1 (b := 59) (by decide) (by decide) (fun q => absurd q hsl) (fun _ g2 f2 p2 => ⟨_, rfl, ⟨fun _ => k g2 (f1.tr (FKs.c f2)) p2, fun q => absurd rfl q⟩⟩))
      · refine (s180 (sc := sc) (d := d + (2 * F + 7)) r1 (b := 59) (by decide) (by decide) (fun q => absurd q hsl) (fun _ g2 f2 r2 => ⟨rfl, ⟨fun q => absurd (r2.2.1.symm.trans q) r2.2.2.1, fun _ => ?_⟩⟩))
        have := tl54 (sc := sc) (d := d + (2 * F + 3)) (Φ := Φ) r2 (k _ (f1.tr (FP.q f2)) r2)
        exact this
end RO
