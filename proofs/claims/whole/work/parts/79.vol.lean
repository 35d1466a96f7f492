/-! VOLUMES are read alike; the root and a fresh begin -/
section VO
variable {tx : Nat → Nat} {N : Nat}
/-- the reference's window with one volume more -/
theorem HVR.vol {g g1 : Gs} {w : Nat} {D : Nat → Nat → Int32} {L : List Nat} (h : HVR g w D) (h4 : nV D < 4) (L6 : L.length ≤ 6) (Ll : ∀ l ∈ L, 1 ≤ l ∧ l ≤ 26)
    (f1 : Fr (fun i c => i = 0 ∧ c = 71) g g1) (n1 : ∀ k, k < 6 → g1.1 0 71 (780 * w + (5 + 7 * nV D + k)) = cellv L k) (s1 : ∀ j, ¬ (780 * w + (5 + 7 * nV D) ≤ j ∧ j < 780 * w + (5 + 7 * nV D) + 6) → g1.1 0 71 j = g.1 0 71 j) :
    HVR (u3 (u3 (u3 g1.1 0 71 (780 * w + (5 + 7 * nV D + 6)) (nI 1)) 0 71 (780 * w + (33 + 7 * (12 * nV D) + 6)) (-nI 1)) 0 71 (780 * w) (nI (nV D + 1)), g1.2) w (aVl D (nI (cdL L))) ∧
    FP w g (u3 (u3 (u3 g1.1 0 71 (780 * w + (5 + 7 * nV D + 6)) (nI 1)) 0 71 (780 * w + (33 + 7 * (12 * nV D) + 6)) (-nI 1)) 0 71 (780 * w) (nI (nV D + 1)), g1.2) ∧
    Fr (fun i c => i = 0 ∧ c = 71) g (u3 (u3 (u3 g1.1 0 71 (780 * w + (5 + 7 * nV D + 6)) (nI 1)) 0 71 (780 * w + (33 + 7 * (12 * nV D) + 6)) (-nI 1)) 0 71 (780 * w) (nI (nV D + 1)), g1.2) := by
  obtain ⟨h1, h2, h3, hv, h5, h6⟩ := h
  have fr : Fr (fun i c => i = 0 ∧ c = 71) g (u3 (u3 (u3 g1.1 0 71 (780 * w + (5 + 7 * nV D + 6)) (nI 1)) 0 71 (780 * w + (33 + 7 * (12 * nV D) + 6)) (-nI 1)) 0 71 (780 * w) (nI (nV D + 1)), g1.2) := f1.tr (Fr.u3 (Fr.u3 (Fr.u3 (Fr.rf _) ⟨rfl, rfl⟩) ⟨rfl, rfl⟩) ⟨rfl, rfl⟩)
  obtain ⟨A', hA⟩ : ∃ A', A' = u3 (u3 (u3 g1.1 0 71 (780 * w + (5 + 7 * nV D + 6)) (nI 1)) 0 71 (780 * w + (33 + 7 * (12 * nV D) + 6)) (-nI 1)) 0 71 (780 * w) (nI (nV D + 1)) 0 71 := ⟨_, rfl⟩
  have e0 : A' (780 * w) = nI (nV D + 1) := by rw [hA, u3_ek rfl]
  have e1 : A' (780 * w + (33 + 7 * (12 * nV D) + 6)) = -nI 1 := by rw [hA, u3_nk (by omega), u3_ek rfl]
  have e2 : A' (780 * w + (5 + 7 * nV D + 6)) = nI 1 := by rw [hA, u3_nk (by omega), u3_nk (by omega), u3_ek rfl]
  have e3 : ∀ j, j ≠ 780 * w → j ≠ 780 * w + (33 + 7 * (12 * nV D) + 6) → j ≠ 780 * w + (5 + 7 * nV D + 6) → A' j = g1.1 0 71 j := fun j a b c => by rw [hA, u3_nk a, u3_nk b, u3_nk c]
  have same : ∀ j, ¬ (780 * w + (5 + 7 * nV D) ≤ j ∧ j ≤ 780 * w + (5 + 7 * nV D + 6)) → j ≠ 780 * w → j ≠ 780 * w + (33 + 7 * (12 * nV D) + 6) → A' j = g.1 0 71 j := fun j a b c => by
    rw [e3 j b c (by omega)]; exact s1 j (by omega)
  have win : ∀ j, ¬ WIN w j → A' j = g.1 0 71 j := fun j hj => by
    unfold WIN at hj
    exact same j (by omega) (by omega) (by omega)
  refine ⟨⟨by rw [fr.1 0 70 (by simp)]; exact h1, h2, ?_, aVl_VOK hv h4, ?_⟩, FP.s fr (by show ∀ j, ¬ WIN w j → u3 (u3 (u3 g1.1 0 71 (780 * w + (5 + 7 * nV D + 6)) (nI 1)) 0 71 (780 * w + (33 + 7 * (12 * nV D) + 6)) (-nI 1)) 0 71 (780 * w) (nI (nV D + 1)) 0 71 j = g.1 0 71 j; rw [← hA]; exact win), fr⟩
  · show RMV (u3 (u3 (u3 g1.1 0 71 (780 * w + (5 + 7 * nV D + 6)) (nI 1)) 0 71 (780 * w + (33 + 7 * (12 * nV D) + 6)) (-nI 1)) 0 71 (780 * w) (nI (nV D + 1)) 0 71) w _
    rw [← hA]
    exact h3.vol hv h4 L6 Ll rfl (fun k hk => by rw [e3 _ (by omega) (by omega) (by omega)]; exact n1 k hk) e2 e1 e0 (fun k hk => by rw [same _ (by omega) (by omega) (by omega)]; exact h6 (nV D) (Nat.le_refl _) h4 k hk) same
  · show ZR (u3 (u3 (u3 g1.1 0 71 (780 * w + (5 + 7 * nV D + 6)) (nI 1)) 0 71 (780 * w + (33 + 7 * (12 * nV D) + 6)) (-nI 1)) 0 71 (780 * w) (nI (nV D + 1)) 0 71) w _
    rw [← hA]
    unfold ZR
    rw [aVl_nV h4]
    exact ⟨fun j a b => by rw [same _ (by omega) (by omega) (by omega)]; exact h5 j a b, fun x a b k hk => by rw [same _ (by omega) (by omega) (by omega)]; exact h6 x (by omega) b k hk⟩
/-- what a volume's text comes to -/
def VG (tx : Nat → Nat) (N s : Nat) (D : Nat → Nat → Int32) (r : HRes) : Prop := match r with
  | .inl (c, _) => ¬ c = nI 0
  | .inr (s', D', h') => s < s' ∧ TOK tx N s' ∧ VOK D' ∧ DPH D' h' ∧ nV D' = nV D + 1
theorem txt_vol : txt 2 = txt 10 := rfl
theorem txt_root : txt 1 = txt 19 := rfl
theorem txt_spc : txt 0 = txt 18 := rfl
theorem isW_lt {s w : Nat} (h : isW tx N s w = true) : s < N := (of_decide_eq_true h).1
theorem volP {F s : Nat} {D : Nat → Nat → Int32} {h : Nat → Nat → Nat} (hF : N < F) (hT : TOK tx N s) (hw : isW tx N s 2 = true) (vk : VOK D) (dp : DPH D h) (h4 : nV D < 4) : ∃ r : HRes, VG tx N s D r ∧
    (∀ (sc : SC) (d : Nat) (g : Gs) (Φ : RS → Gs → Prop), CIN g tx N (nxt9 tx N s) → At g 1 D → (∀ g', FKs g g' → HCo tx N r g' → Φ (.inl (some (vI (hb r)))) g') → Rn sc (d + (2 * F + 7)) 62 [vR 0 60] g Φ) ∧
    (∀ (sc : SC) (d w : Nat) (g : Gs) (Φ : RS → Gs → Prop), RIN g tx N s → HVR g w D → g.1 0 70 20 = nI 0 → (∀ g', FP w g g' → HRo tx N w (nI 0) r g' → Φ (.inl (some (vI (hb r)))) g') → Rn sc (d + (2 * F + 8)) 188 [vR 0 70] g Φ) := by
  have n10 : ¬ nI 1 = nI 0 := by decide +kernel
  have hs := isW_lt hw
  have hw10 : isW tx N s 10 = true := by rw [← isW_c txt_vol]; exact hw
  obtain ⟨t1, t2, t3⟩ := nxt9_K (tx := tx) hT.1
  have t4 := t3 hs
  obtain ⟨s1, hs1⟩ : ∃ s1, s1 = nxt9 tx N s := ⟨_, rfl⟩
  rw [← hs1] at t1 t2 t4 ⊢
  -- the reference, up to the name
  have hR0 : ∀ (sc : SC) (d w : Nat) (g : Gs) (Φ : RS → Gs → Prop), RIN g tx N s → HVR g w D → g.1 0 70 20 = nI 0 → (∀ g1, FQ g g1 → RIN g1 tx N s1 → HVR g1 w D → g1.1 0 70 20 = nI 0 → (isN tx N s1 = false → ∀ g2, FQ g1 g2 → RER g2 tx N (-nI 12) s1 → Φ (.inl (some (vI (nI 0)))) g2) ∧ (isN tx N s1 = true → ∀ g2, FQ g1 g2 → RIN g2 tx N (nxt9 tx N s1) → NAM g2 tx N s1 → (fst9 (nV D) (fun v => decide (D 2 v = nI (nmc tx N s1))) ≠ none → Φ (.inl (some (vI (nI 0)))) (u3 (u3 g2.1 0 70 18 (-nI 14)) 0 70 19 (nI s1), g2.2)) ∧ (fst9 (nV D) (fun v => decide (D 2 v = nI (nmc tx N s1))) = none → ∀ g3, Fr (fun i c => i = 0 ∧ c = 71) g2 g3 → (∀ k, k < 6 → g3.1 0 71 (780 * w + (5 + 7 * nV D + k)) = cellv (nam tx N s1) k) → (∀ j, ¬ (780 * w + (5 + 7 * nV D) ≤ j ∧ j < 780 * w + (5 + 7 * nV D) + 6) → g3.1 0 71 j = g2.1 0 71 j) → Rn sc (d + (2 * F + 7)) 187 [vR 0 70, vI (nI (nV D)), vI (nI 0)] (u3 (u3 (u3 g3.1 0 71 (780 * w + (5 + 7 * nV D + 6)) (nI 1)) 0 71 (780 * w + (33 + 7 * (12 * nV D) + 6)) (-nI 1)) 0 71 (780 * w) (nI (nV D + 1)), g3.2) (fun r g35 => r = .inl none ∧ (Rn sc (d + (2 * F + 7)) 180 [vR 0 70, vI (nI 59)] g35 (fun r g38 => r = .inl none ∧ (((g38.1 0 70 18 = nI 0) → (Φ (.inl (some (vI (nI 1)))) g38)) ∧ (¬ (g38.1 0 70 18 = nI 0) → (Φ (.inl (some (vI (nI 0)))) g38)))))))) ) → Rn sc (d + (2 * F + 8)) 188 [vR 0 70] g Φ := fun sc d w g Φ hr hm h20 K => by
    rw [show d + (2 * F + 8) = (d + (2 * F + 5)) + 2 + 1 by omega]
    refine Rn.of rfl (v188_0 ?_)
    refine s177A hr (fun g1 r1 f1 e17 => ⟨_, rfl, ?_⟩)
    refine s179 (w := 10) (by decide) r1 (fun _ g2 f2 r2 => ⟨_, rfl, ⟨fun q => absurd q n10, fun _ => ?_⟩⟩) (fun q => by rw [hw10] at q; cases q)
    rw [← hs1] at r2
    have hm2 := (hm.fq f1).fq f2
    obtain ⟨m1, m2, m3, m4, m5⟩ := hm2
    have e20 : g2.1 0 70 20 = nI 0 := by rw [(f1.tr f2).2 20 (by decide)]; exact h20
    obtain ⟨K0, K1⟩ := K g2 (f1.tr f2) r2 ⟨m1, m2, m3, m4, m5⟩ e20
    have hn := m3.n m4
    have n4 : ¬ nV D = 4 := by omega
    simp (disch := omega) only [u3_nc, u3_ek, u3_nk, upd_e, upd_n, dU_nk, dU_nc, dU_e, nI_ltI, nI_eq, nI_clamp, nI_add, nI_mul, inb_nI, nI_neg1, nI_ne1, nI_n1e, nI_neg1e, Nat.not_lt_zero, Nat.lt_irrefl, true_and, and_true, true_implies, false_implies, not_true_eq_false, not_false_eq_true, implies_true, forall_const, if_true, if_false, Nat.reduceEqDiff, eq_self, Nat.one_ne_zero, Nat.zero_ne_one, Nat.zero_add, Nat.add_zero, m1, hn, n4]
    refine s181 r2 (fun hN g3 f3 r3 nm => ⟨_, rfl, ⟨fun q => absurd q n10, fun _ => ?_⟩⟩) (fun hN g3 f3 r3 => ⟨_, rfl, ⟨fun _ => K0 hN g3 f3 r3, fun q => absurd rfl q⟩⟩)
    obtain ⟨x1, x2⟩ := K1 hN g3 f3 r3 nm
    have hm3 : HVR g3 w D := HVR.fq ⟨m1, m2, m3, m4, m5⟩ f3
    obtain ⟨p1, p2, p3, p4, p5⟩ := hm3
    have hn3 := p3.n p4
    have e18 := r3.2.2.1
    simp (disch := omega) only [u3_nc, u3_ek, u3_nk, upd_e, upd_n, dU_nk, dU_nc, dU_e, nI_ltI, nI_eq, nI_clamp, nI_add, nI_mul, inb_nI, nI_neg1, nI_ne1, nI_n1e, nI_neg1e, Nat.not_lt_zero, Nat.lt_irrefl, true_and, and_true, true_implies, false_implies, not_true_eq_false, not_false_eq_true, implies_true, forall_const, if_true, if_false, Nat.reduceEqDiff, eq_self, Nat.one_ne_zero, Nat.zero_ne_one, Nat.zero_add, Nat.add_zero, p1, hn3]
    refine s184 r3.1 t1 nm p1 p2 p3 p4 ⟨_, rfl, ?_⟩
    cases hd : fst9 (nV D) (fun v => decide (D 2 v = nI (nmc tx N s1))) with
    | some b =>
      have hb4 := (fst9_some hd).1
      have := x1 (by rw [hd]; exact fun q => by cases q)
      refine ⟨fun q => absurd q (nI_ne1 (show b < 2 ^ 31 by omega)), fun _ => ⟨fun _ => ?_, fun q => absurd e18 q⟩⟩
      intro G44 e44 G45 e45
      subst e44; subst e45
      rw [nm.2.1]
      obtain ⟨y1, y2⟩ := r3.er2 (off := s1) (code := -nI 14) (by decide +kernel)
      exact ⟨fun q => absurd (y1.2.1.symm.trans q) y1.2.2.1, fun _ => this⟩
    | none =>
      have x3 := x2 hd
      refine ⟨fun _ => ⟨fun _ => ?_, fun q => absurd e18 q⟩, fun q => absurd rfl q⟩
      refine s183 (a := 5 + 7 * nV D) r3.1 t1 nm p1 p2 (by omega) (fun g4 f4 k4 s4 => ⟨rfl, ?_⟩)
      have w4 : g4.1 0 70 2 = nI w := by rw [f4.1 0 70 (by simp)]; exact p1
      have z0 : g4.1 0 71 (780 * w) = nI (nV D) := by rw [s4 _ (by omega)]; exact hn3
      simp (disch := omega) only [u3_nc, u3_ek, u3_nk, upd_e, upd_n, dU_nk, dU_nc, dU_e, nI_ltI, nI_eq, nI_clamp, nI_add, nI_mul, inb_nI, nI_neg1, nI_ne1, nI_n1e, nI_neg1e, Nat.not_lt_zero, Nat.lt_irrefl, true_and, and_true, true_implies, false_implies, not_true_eq_false, not_false_eq_true, implies_true, forall_const, forall_eq, if_true, if_false, Nat.reduceEqDiff, eq_self, Nat.one_ne_zero, Nat.zero_ne_one, Nat.zero_add, Nat.add_zero, w4, z0]
      exact x3 g4 f4 k4 s4
  have hn85 : ∀ c, (fst9 (nV D) fun r => decide (D 2 r = nI c)) = fst9 (nV D) (fun v => decide (D 2 v = nI c)) := fun _ => rfl
  have v1 := vk.1
  cases hN : isN tx N s1 with
  | false =>
    refine ⟨.inl (-nI 12, s1), (show ¬ (-nI 12 : Int32) = nI 0 by decide +kernel), fun sc d g Φ hc hA k => ?_, fun sc d w g Φ hr hm h20 k => ?_⟩
    · rw [show d + (2 * F + 7) = (d + (2 * F + 5)) + 1 + 1 by omega]
      refine Rn.of rfl (v62_0 ?_)
      refine s34 hc ⟨_, rfl, ⟨fun _ => ?_, fun q => absurd ((nmc_0 t1).mpr hN) q⟩⟩
      intro G6 e6 G7 e7
      subst e6; subst e7
      rw [u3_nk (by decide), hc.2.2.1]
      obtain ⟨x1, x2⟩ := hc.er (code := -nI 12)
      exact k _ (FKs.c x2) x1
    · exact hR0 sc d w g Φ hr hm h20 (fun g1 f1 r1 m1 z1 => ⟨fun _ g2 f2 r2 => k g2 (FP.q (f1.tr f2)) r2, fun q => by rw [hN] at q; cases q⟩)
  | true =>
    have hc0 : ¬ nI (nmc tx N s1) = nI 0 := fun q => by rw [(nmc_0 t1).mp q] at hN; cases hN
    obtain ⟨hs2, -, -, n6, nl, -⟩ := isN_K hN t1
    obtain ⟨ec, c1, c30⟩ := nmc_K hN t1
    obtain ⟨u1, u2, u3'⟩ := nxt9_K (tx := tx) t1.1
    have u4 := u3' hs2
    cases hd : fst9 (nV D) (fun v => decide (D 2 v = nI (nmc tx N s1))) with
    | some b =>
      have hb4 := (fst9_some hd).1
      refine ⟨.inl (-nI 14, s1), (show ¬ (-nI 14 : Int32) = nI 0 by decide +kernel), fun sc d g Φ hc hA k => ?_, fun sc d w g Φ hr hm h20 k => ?_⟩
      · rw [show d + (2 * F + 7) = (d + (2 * F + 5)) + 1 + 1 by omega]
        refine Rn.of rfl (v62_0 ?_)
        refine s34 hc ⟨_, rfl, ⟨fun q => absurd q hc0, fun _ => ?_⟩⟩
        refine s85 (vn := nV D) (hA.k (by decide) v1) (by omega) ⟨_, rfl, ?_⟩
        rw [hA 2 (by decide), hn85, hd]
        refine ⟨fun q => absurd q (nI_nn (show b < 2 ^ 31 by omega)), fun _ => ?_⟩
        intro G28 e28 G29 e29
        subst e28; subst e29
        rw [u3_nk (by decide), hc.2.2.1]
        obtain ⟨x1, x2⟩ := hc.er (code := -nI 14)
        exact k _ (FKs.c x2) x1
      · refine hR0 sc d w g Φ hr hm h20 (fun g1 f1 r1 m1 z1 => ⟨fun q => (by rw [hN] at q; cases q), fun _ g2 f2 r2 nm => ⟨fun _ => ?_, fun q => (by rw [hd] at q; cases q)⟩⟩)
        obtain ⟨y1, y2⟩ := r2.er2 (off := s1) (code := -nI 14) (by decide +kernel)
        exact k _ (FP.q ((f1.tr f2).tr y2)) y1
    | none =>
      have vk2 := aVl_VOK (c := nI (nmc tx N s1)) vk h4
      have dp2 := aVl_DPH (c := nI (nmc tx N s1)) dp h4 vk
      have nV2 := aVl_nV (c := nI (nmc tx N s1)) h4
      obtain ⟨r3, hg3, hC3, hR3⟩ := insP (dirP F) (nxt9 tx N s1) (aVl D (nI (nmc tx N s1))) _ (nV D) 0 0 (by omega) u1 vk2 dp2 (by omega) (by rw [aVl_nS, if_pos rfl]; decide) (by rw [if_pos rfl]; exact Nat.le_refl _) (by decide)
      -- the class up to the directories
      have hC0 : ∀ (sc : SC) (d : Nat) (g : Gs) (Φ : RS → Gs → Prop), CIN g tx N s1 → At g 1 D → (∀ g', FKs g g' → HCo tx N r3 g' → (hb r3 = nI 0 → Φ (.inl (some (vI (nI 0)))) g') ∧ (¬ hb r3 = nI 0 → Rn sc (d + (2 * F + 6)) 31 [vR 0 21, vI (nI 59)] g' (fun r g22 => ∃ r25 : Int32, r = .inl (some (vI r25)) ∧ (((r25 = nI 0) → (Φ (.inl (some (vI (nI 0)))) g22)) ∧ (¬ (r25 = nI 0) → (Φ (.inl (some (vI (nI 1)))) g22)))))) → Rn sc (d + (2 * F + 7)) 62 [vR 0 60] g Φ := fun sc d g Φ hc hA K => by
        rw [show d + (2 * F + 7) = (d + (2 * F + 5)) + 1 + 1 by omega]
        refine Rn.of rfl (v62_0 ?_)
        refine s34 hc ⟨_, rfl, ⟨fun q => absurd q hc0, fun _ => ?_⟩⟩
        refine s85 (vn := nV D) (hA.k (by decide) v1) (by omega) ⟨_, rfl, ?_⟩
        rw [hA 2 (by decide), hn85, hd]
        refine ⟨fun _ => ?_, fun q => absurd eo_none q⟩
        refine s80 hA v1 h4 (fun g1 f1 a1 => ⟨rfl, ?_⟩)
        refine s27A (hc.o f1 (fun i c q => q.1)) (fun g2 f2 p2 => ⟨rfl, ?_⟩)
        have a2 := a1.fc f2
        have e14 : g2.1 1 1 4 = nI (nV D + 1) := by rw [a2 1 (by decide)]; exact aVl_1
        rw [e14, nI_prd]
        refine hC3 sc d g2 _ p2 a2 (fun g3 f3 p5 => ⟨_, rfl, ?_⟩)
        exact K g3 ((FKs.o f1 (fun i c q => q.1)).tr ((FKs.c f2).tr f3)) p5
      -- the reference up to the directories
      have hR1 : ∀ (sc : SC) (d w : Nat) (g : Gs) (Φ : RS → Gs → Prop), RIN g tx N s → HVR g w D → g.1 0 70 20 = nI 0 → (∀ g', FP w g g' → HRo tx N w (nI 0) r3 g' → Rn sc (d + (2 * F + 7)) 180 [vR 0 70, vI (nI 59)] g' (fun r g38 => r = .inl none ∧ (((g38.1 0 70 18 = nI 0) → (Φ (.inl (some (vI (nI 1)))) g38)) ∧ (¬ (g38.1 0 70 18 = nI 0) → (Φ (.inl (some (vI (nI 0)))) g38))))) → Rn sc (d + (2 * F + 8)) 188 [vR 0 70] g Φ := fun sc d w g Φ hr hm h20 K => by
        refine hR0 sc d w g Φ hr hm h20 (fun g1 f1 r1 m1 z1 => ⟨fun q => (by rw [hN] at q; cases q), fun _ g2 f2 r2 nm => ⟨fun q => absurd hd q, fun _ g3 f3 k3 s3 => ?_⟩⟩)
        obtain ⟨z1', z2, z3⟩ := HVR.vol (g := g2) (g1 := g3) (m1.fq f2) h4 n6 nl f3 k3 s3
        rw [← ec] at z1'
        refine hR3 sc d w _ _ (r2.s z3) z1' ?_ (fun g4 f4 p4 => ⟨rfl, K g4 (FP.tr (FP.q (f1.tr f2)) (z2.tr f4)) p4⟩)
        rw [z3.1 0 70 (by simp), f2.2 20 (by decide)]
        exact z1
      cases r3 with
      | inl ce =>
        refine ⟨.inl ce, hg3, fun sc d g Φ hc hA k => hC0 sc d g Φ hc hA (fun g1 f1 p1 => ⟨fun _ => k g1 f1 p1, fun q => absurd rfl q⟩), fun sc d w g Φ hr hm h20 k => hR1 sc d w g Φ hr hm h20 (fun g1 f1 p1 => s180E p1 ⟨rfl, ⟨fun q => absurd (p1.2.1.symm.trans q) p1.2.2.1, fun _ => k g1 f1 p1⟩⟩)⟩
      | inr q3 =>
        obtain ⟨s', D', h'⟩ := q3
        obtain ⟨a1, a2, a3, a4, a5, a6, a7⟩ := hg3
        obtain ⟨w1, w2, w3⟩ := nxt9_K (tx := tx) a2.1
        by_cases hsl : s' < N ∧ tx s' = 59
        · refine ⟨.inr (nxt9 tx N s', D', h'), ⟨by omega, w1, a3, a4, by omega⟩, fun sc d g Φ hc hA k => hC0 sc d g Φ hc hA (fun g1 f1 p1 => ⟨fun q => absurd q n10, fun _ => ?_⟩), fun sc d w g Φ hr hm h20 k => hR1 sc d w g Φ hr hm h20 (fun g1 f1 p1 => ?_)⟩
          · exact s31 p1.1 (b := 59) (by decide) (by decide) (fun _ g2 f2 p2 => ⟨_, rfl, ⟨fun q => absurd q n10, fun _ => k g2 (f1.tr (FKs.c f2)) ⟨p2, p1.2.fc f2⟩⟩⟩) (fun q => absurd hsl q)
          · exact s180 p1.1 (b := 59) (by decide) (by decide) (fun _ g2 f2 r2 => ⟨rfl, ⟨fun _ => k g2 (f1.tr (FP.q f2)) ⟨r2, p1.2.1.fq f2, by rw [f2.2 20 (by decide)]; exact p1.2.2⟩, fun q => absurd r2.2.2.1 q⟩⟩) (fun q => absurd hsl q)
        · refine ⟨.inl (-nI 12, s'), (show ¬ (-nI 12 : Int32) = nI 0 by decide +kernel), fun sc d g Φ hc hA k => hC0 sc d g Φ hc hA (fun g1 f1 p1 => ⟨fun q => absurd q n10, fun _ => ?_⟩), fun sc d w g Φ hr hm h20 k => hR1 sc d w g Φ hr hm h20 (fun g1 f1 p1 => ?_)⟩
          · exact s31 p1.1 (b := 59) (by decide) (by decide) (fun q => absurd q hsl) (fun _ g2 f2 p2 => ⟨_, rfl, ⟨fun _ => k g2 (f1.tr (FKs.c f2)) p2, fun q => absurd rfl q⟩⟩)
          · exact s180 p1.1 (b := 59) (by decide) (by decide) (fun q => absurd q hsl) (fun _ g2 f2 r2 => ⟨rfl, ⟨fun q => absurd (r2.2.1.symm.trans q) r2.2.2.1, fun _ => k g2 (f1.tr (FP.q f2)) r2⟩⟩)
end VO
