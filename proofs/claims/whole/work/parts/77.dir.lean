/-! DIRECTORIES are read alike: by the class's setup and by the reference -/
abbrev HRes : Type := (Int32 × Nat) ⊕ (Nat × (Nat → Nat → Int32) × (Nat → Nat → Nat))
def hb : HRes → Int32
  | .inl _ => nI 0
  | .inr _ => nI 1
/-- the reference's window while a setup's head is read -/
def ZR (A : Nat → Int32) (w : Nat) (D : Nat → Nat → Int32) : Prop := (∀ j, 1 ≤ j → j < 5 → A (780 * w + j) = nI 0) ∧ ∀ v, nV D ≤ v → v < 4 → ∀ k, k < 6 → A (780 * w + (33 + 7 * (12 * v) + k)) = nI 0
def HVR (g : Gs) (w : Nat) (D : Nat → Nat → Int32) : Prop := g.1 0 70 2 = nI w ∧ w < 10 ∧ RMV (g.1 0 71) w D ∧ VOK D ∧ ZR (g.1 0 71) w D
def HCo (tx : Nat → Nat) (N : Nat) (r : HRes) (g : Gs) : Prop := match r with
  | .inl (c, o) => CE g c o
  | .inr (s, D, _) => CIN g tx N s ∧ At g 1 D
def HRo (tx : Nat → Nat) (N w : Nat) (nn : Int32) (r : HRes) (g : Gs) : Prop := match r with
  | .inl (c, o) => RER g tx N c o
  | .inr (s, D, _) => RIN g tx N s ∧ HVR g w D ∧ g.1 0 70 20 = nn
def HG (tx : Nat → Nat) (N s : Nat) (D : Nat → Nat → Int32) (h : Nat → Nat → Nat) (v : Nat) (r : HRes) : Prop := match r with
  | .inl (c, _) => ¬ c = nI 0
  | .inr (s', D', h') => s ≤ s' ∧ TOK tx N s' ∧ VOK D' ∧ DPH D' h' ∧ nV D' = nV D ∧ nS D v ≤ nS D' v ∧ ∀ e, e < nS D v → h' v e = h v e
def HGd (s : Nat) (D : Nat → Nat → Int32) (v : Nat) (r : HRes) : Prop := match r with
  | .inl _ => True
  | .inr (s', D', _) => s < s' ∧ nS D v < nS D' v
/-- frames of a setup's reading -/
def FKs (g g' : Gs) : Prop := Fr (fun i c => i = 1 ∨ (i = 0 ∧ c = 21)) g g' ∧ g'.1 0 21 1 = g.1 0 21 1 ∧ g'.1 0 21 5 = g.1 0 21 5
theorem FKs.rf (g : Gs) : FKs g g := ⟨Fr.rf g, rfl, rfl⟩
theorem FKs.tr {a b c : Gs} (h1 : FKs a b) (h2 : FKs b c) : FKs a c := ⟨h1.1.tr h2.1, h2.2.1.trans h1.2.1, h2.2.2.trans h1.2.2⟩
theorem FKs.c {a b : Gs} (h : FC a b) : FKs a b := ⟨h.1.wk (fun _ _ q => Or.inr q), h.2.1, h.2.2⟩
theorem FKs.o {P : Nat → Nat → Prop} {a b : Gs} (h : Fr P a b) (hp : ∀ i c, P i c → i = 1) : FKs a b := ⟨h.wk (fun i c q => Or.inl (hp i c q)), by rw [h.1 0 21 (fun q => by have := hp _ _ q; omega)], by rw [h.1 0 21 (fun q => by have := hp _ _ q; omega)]⟩
theorem CIN.o {P : Nat → Nat → Prop} {g g' : Gs} {tx : Nat → Nat} {N s : Nat} (h : CIN g tx N s) (f : Fr P g g') (hp : ∀ i c, P i c → i = 1) : CIN g' tx N s := by
  obtain ⟨⟨b1, b2, b3⟩, t, e3, e2, e4⟩ := h
  have e21 := f.1 0 21 (fun q => by have := hp _ _ q; omega)
  have e22 := f.1 0 22 (fun q => by have := hp _ _ q; omega)
  exact ⟨⟨by rw [e21]; exact b1, b2, fun t ht => by rw [e22]; exact b3 t ht⟩, t, by rw [e21]; exact e3, by rw [e21]; exact e2, by rw [e21]; exact e4⟩
theorem At.fc {g g' : Gs} {i : Nat} {D : Nat → Nat → Int32} (h : At g i D) (f : FC g g') : At g' i D := h.fr f.1 (by omega)
def WIN (w j : Nat) : Prop := 780 * w ≤ j ∧ j < 780 * w + 780
def FP (w : Nat) (g g' : Gs) : Prop := Fr (fun i c => i = 0 ∧ 70 ≤ c ∧ c ≤ 77) g g' ∧ (∀ j, ¬ WIN w j → g'.1 0 71 j = g.1 0 71 j) ∧ ∀ k, ¬ (k = 8 ∨ k = 11 ∨ k = 12 ∨ 17 ≤ k ∧ k ≤ 22) → g'.1 0 70 k = g.1 0 70 k
theorem FP.rf (w : Nat) (g : Gs) : FP w g g := ⟨Fr.rf g, fun _ _ => rfl, fun _ _ => rfl⟩
theorem FP.tr {w : Nat} {a b c : Gs} (h1 : FP w a b) (h2 : FP w b c) : FP w a c := ⟨h1.1.tr h2.1, fun j hj => (h2.2.1 j hj).trans (h1.2.1 j hj), fun k p => (h2.2.2 k p).trans (h1.2.2 k p)⟩
theorem FP.q {w : Nat} {a b : Gs} (h : FQ a b) : FP w a b := ⟨h.1.wk (fun i c q => ⟨q.1, by omega, by omega⟩), fun j _ => by rw [h.1.1 0 71 (by simp)], fun k p => h.2 k (by omega)⟩
theorem FP.h {w : Nat} {a b : Gs} (h : FH a b) : FP w a b := ⟨h.1.wk (fun i c q => ⟨q.1, by omega, by omega⟩), fun j _ => by rw [h.1.1 0 71 (by simp)], fun k p => h.2 k (by omega)⟩
theorem FP.s {w : Nat} {a b : Gs} (h : Fr (fun i c => i = 0 ∧ c = 71) a b) (h2 : ∀ j, ¬ WIN w j → b.1 0 71 j = a.1 0 71 j) : FP w a b := ⟨h.wk (fun i c q => ⟨q.1, by omega, by omega⟩), h2, fun k _ => by rw [h.1 0 70 (by simp)]⟩
theorem HVR.fq {g g' : Gs} {w : Nat} {D : Nat → Nat → Int32} (h : HVR g w D) (f : FQ g g') : HVR g' w D := by
  have e71 := f.1.1 0 71 (by simp)
  obtain ⟨h1, h2, h3, h4, h5⟩ := h
  exact ⟨by rw [f.2 2 (by decide)]; exact h1, h2, by rw [e71]; exact h3, h4, by rw [e71]; exact h5⟩
theorem RIN.s {g g' : Gs} {tx : Nat → Nat} {N s : Nat} (h : RIN g tx N s) (f : Fr (fun i c => i = 0 ∧ c = 71) g g') : RIN g' tx N s := by
  obtain ⟨⟨b1, b2, b3⟩, t, e, n, n1, n2⟩ := h
  have e70 := f.1 0 70 (by simp)
  have e78 := f.1 0 78 (by simp)
  exact ⟨⟨by rw [e70]; exact b1, b2, fun t ht => by rw [e78]; exact b3 t ht⟩, t, by rw [e70]; exact e, n, by rw [e70]; exact n1, n2⟩
theorem RIN.er2 {g : Gs} {tx : Nat → Nat} {N s off : Nat} {code : Int32} (h : RIN g tx N s) (hc : ¬ code = nI 0) : RER (u3 (u3 g.1 0 70 18 code) 0 70 19 (nI off), g.2) tx N code off ∧ FQ g (u3 (u3 g.1 0 70 18 code) 0 70 19 (nI off), g.2) := by
  have fq : FQ g (u3 (u3 g.1 0 70 18 code) 0 70 19 (nI off), g.2) := (FQ.p (k := 18) (v := code) (by decide)).tr (FQ.p (k := 19) (v := nI off) (by decide))
  obtain ⟨n, h1, h2, h3⟩ := h.sk
  refine ⟨⟨h.1.fq fq, by dsimp only; rw [u3_nk (by decide), u3_ek rfl], hc, by dsimp only; rw [u3_ek rfl], n, ?_, h2⟩, fq⟩
  dsimp only; rw [u3_nk (by decide), u3_nk (by decide)]; exact h1
theorem BYR.n20 {g : Gs} {tx : Nat → Nat} {N : Nat} {v : Int32} (h : BYR g tx N) : BYR (u3 g.1 0 70 20 v, g.2) tx N :=
  ⟨by dsimp only; rw [u3_nk (by decide)]; exact h.1, h.2.1, fun t ht => by dsimp only; rw [u3_nc (by decide)]; exact h.2.2 t ht⟩
theorem RER.n20 {g : Gs} {tx : Nat → Nat} {N off : Nat} {code v : Int32} (h : RER g tx N code off) : RER (u3 g.1 0 70 20 v, g.2) tx N code off := by
  obtain ⟨h1, h2, h3, h4, n, h5, h6⟩ := h
  exact ⟨h1.n20, by dsimp only; rw [u3_nk (by decide)]; exact h2, h3, by dsimp only; rw [u3_nk (by decide)]; exact h4, n, by dsimp only; rw [u3_nk (by decide)]; exact h5, h6⟩
theorem RIN.n20 {g : Gs} {tx : Nat → Nat} {N s : Nat} {v : Int32} (h : RIN g tx N s) : RIN (u3 g.1 0 70 20 v, g.2) tx N s := by
  obtain ⟨h1, h2, h3, n, h4, h5⟩ := h
  exact ⟨h1.n20, h2, by dsimp only; rw [u3_nk (by decide)]; exact h3, n, by dsimp only; rw [u3_nk (by decide)]; exact h4, h5⟩
theorem HVR.n20 {g : Gs} {w : Nat} {D : Nat → Nat → Int32} {v : Int32} (h : HVR g w D) : HVR (u3 g.1 0 70 20 v, g.2) w D := by
  obtain ⟨h1, h2, h3, h4, h5⟩ := h
  exact ⟨by dsimp only; rw [u3_nk (by decide)]; exact h1, h2, by dsimp only; rw [u3_rowc (by decide)]; exact h3, h4, by dsimp only; rw [u3_rowc (by decide)]; exact h5⟩
theorem FP.n {w : Nat} {g : Gs} {v : Int32} : FP w g (u3 g.1 0 70 20 v, g.2) := ⟨Fr.u3 (Fr.rf g) ⟨rfl, by decide, by decide⟩, fun j _ => by dsimp only; rw [u3_nc (by decide)], fun k p => by dsimp only; rw [u3_nk (by omega)]⟩
def DIRp (tx : Nat → Nat) (N F : Nat) : Prop := ∀ s D h v o dep, N - s < F → TOK tx N s → VOK D → DPH D h → v < nV D → o < nS D v → h v o < dep → dep ≤ 5 → ∃ r : HRes, HG tx N s D h v r ∧ HGd s D v r ∧
  (∀ (sc : SC) (d : Nat) (g : Gs) (Φ : RS → Gs → Prop), CIN g tx N s → At g 1 D → (∀ g', FKs g g' → HCo tx N r g' → Φ (.inl (some (vI (hb r)))) g') → Rn sc (d + (2 * F + 5)) 64 [vR 0 60, vI (nI v), vI (nI o), vI (nI dep)] g Φ) ∧
  (∀ (sc : SC) (d w : Nat) (g : Gs) (Φ : RS → Gs → Prop), RIN g tx N s → HVR g w D → g.1 0 70 20 = nI dep → (∀ g', FP w g g' → HRo tx N w (nI dep) r g' → Φ (.inl none) g') → Rn sc (d + (2 * F + 6)) 186 [vR 0 70, vI (nI v), vI (nI o)] g Φ)
def LSTp (tx : Nat → Nat) (N F G : Nat) : Prop := ∀ s D h v o dq n, N - s < G → N - s < F → TOK tx N s → VOK D → DPH D h → v < nV D → o < nS D v → h v o < dq + 1 → dq + 1 ≤ 5 → n < nS D v → ∃ r : HRes, HG tx N s D h v r ∧
  (∀ (sc : SC) (d : Nat) (g : Gs) (Φ : RS → Gs → Prop), CIN g tx N s → At g 1 D → (∀ g', FKs g g' → HCo tx N r g' → Φ (.inl (some (vI (hb r)))) g') → Xe sc (d + (2 * F + 5)) 63 39 [vR 0 60, vI (nI v), vI (nI o), vI (nI dq), vI (nI n)] [] g Φ) ∧
  (∀ (sc : SC) (d w : Nat) (g : Gs) (Φ : RS → Gs → Prop), RIN g tx N s → HVR g w D → g.1 0 70 20 = nI (dq + 1) → (∀ g', FP w g g' → HRo tx N w (nI dq) r g' → Φ (.inl none) g') → Rn sc (d + (2 * F + 6)) 186 [vR 0 70, vI (nI v), vI (nI o)] g (fun r g1 => r = .inl none ∧ Xe sc (d + (2 * F + 6)) 187 62 [vR 0 70, vI (nI v), vI (nI o)] [] g1 Φ))
def INSp (tx : Nat → Nat) (N F : Nat) : Prop := ∀ s D h v o dq, N - s < F → TOK tx N s → VOK D → DPH D h → v < nV D → o < nS D v → h v o ≤ dq → dq ≤ 5 → ∃ r : HRes, HG tx N s D h v r ∧
  (∀ (sc : SC) (d : Nat) (g : Gs) (Φ : RS → Gs → Prop), CIN g tx N s → At g 1 D → (∀ g', FKs g g' → HCo tx N r g' → Φ (.inl (some (vI (hb r)))) g') → Rn sc (d + (2 * F + 6)) 63 [vR 0 60, vI (nI v), vI (nI o), vI (nI dq)] g Φ) ∧
  (∀ (sc : SC) (d w : Nat) (g : Gs) (Φ : RS → Gs → Prop), RIN g tx N s → HVR g w D → g.1 0 70 20 = nI dq → (∀ g', FP w g g' → HRo tx N w (nI dq) r g' → Φ (.inl none) g') → Rn sc (d + (2 * F + 7)) 187 [vR 0 70, vI (nI v), vI (nI o)] g Φ)
section DI
variable {tx : Nat → Nat} {N : Nat}
theorem lstP {F : Nat} (A : DIRp tx N F) : ∀ G, LSTp tx N F G := by
  intro G
  induction G with
  | zero => intro s D h v o dq n hg; omega
  | succ G ih =>
    intro s D h v o dq n hg hF hT vk dp hv ho hh h5 hn
    obtain ⟨r, hg1, hgd, hC, hR⟩ := A s D h v o (dq + 1) hF hT vk dp hv ho hh h5
    have s12 := (vk.2.2 v hv).2.2.1
    have n12 : n < 12 := by omega
    have hsN := hT.1
    cases r with
    | inl ce =>
      refine ⟨.inl ce, hg1, fun sc d g Φ hc hA k => ?_, fun sc d w g Φ hr hm h20 k => ?_⟩
      · refine v63_39 ?_
        simp (disch := omega) only [u3_nc, u3_ek, u3_nk, upd_e, upd_n, dU_nk, dU_nc, dU_e, nI_ltI, nI_eq, nI_clamp, nI_add, nI_mul, inb_nI, nI_neg1, nI_ne1, nI_n1e, nI_neg1e, Nat.not_lt_zero, Nat.lt_irrefl, true_and, and_true, true_implies, false_implies, not_true_eq_false, not_false_eq_true, implies_true, forall_const, forall_eq, if_true, if_false, Nat.reduceEqDiff, eq_self, Nat.one_ne_zero, Nat.zero_ne_one, Nat.zero_add, Nat.add_zero, n12]
        exact hC sc d g _ hc hA (fun g1 f1 p1 => ⟨_, rfl, ⟨fun _ => k g1 f1 p1, fun q => absurd rfl q⟩⟩)
      · refine hR sc d w g _ hr hm h20 (fun g1 f1 p1 => ⟨rfl, ?_⟩)
        refine v187_62 ⟨fun q => absurd (p1.2.1.symm.trans q) p1.2.2.1, fun _ => ?_⟩
        refine s180E p1 ⟨rfl, ?_⟩
        intro G17 e17
        subst e17
        exact k _ (f1.tr FP.n) (RER.n20 p1)
    | inr q =>
      obtain ⟨s1, D1, h1⟩ := q
      obtain ⟨a1, a2, a3, a4, a5, a6, a7⟩ := hg1
      obtain ⟨b1, b2⟩ := hgd
      by_cases hsl : s1 < N ∧ tx s1 = 44
      · obtain ⟨t1, t2, t3⟩ := nxt9_K (tx := tx) a2.1
        have t4 := t3 hsl.1
        obtain ⟨r3, hg3, hC3, hR3⟩ := ih (nxt9 tx N s1) D1 h1 v o dq (n + 1) (by omega) (by omega) t1 a3 a4 (by omega) (by omega) (by rw [a7 o ho]; exact hh) h5 (by omega)
        refine ⟨r3, ?_, fun sc d g Φ hc hA k => ?_, fun sc d w g Φ hr hm h20 k => ?_⟩
        · cases r3 with
          | inl ce => exact hg3
          | inr q3 =>
            obtain ⟨c1, c2, c3, c4, c5, c6, c7⟩ := hg3
            exact ⟨by omega, c2, c3, c4, by omega, by omega, fun e he => by rw [c7 e (by omega)]; exact a7 e he⟩
        · refine v63_39 ?_
          simp (disch := omega) only [u3_nc, u3_ek, u3_nk, upd_e, upd_n, dU_nk, dU_nc, dU_e, nI_ltI, nI_eq, nI_clamp, nI_add, nI_mul, inb_nI, nI_neg1, nI_ne1, nI_n1e, nI_neg1e, Nat.not_lt_zero, Nat.lt_irrefl, true_and, and_true, true_implies, false_implies, not_true_eq_false, not_false_eq_true, implies_true, forall_const, forall_eq, if_true, if_false, Nat.reduceEqDiff, eq_self, Nat.one_ne_zero, Nat.zero_ne_one, Nat.zero_add, Nat.add_zero, n12]
          refine hC sc d g _ hc hA (fun g1 f1 p1 => ⟨_, rfl, ⟨fun q => absurd q (show ¬ nI 1 = nI 0 by decide +kernel), fun _ => ?_⟩⟩)
          obtain ⟨p1, p2⟩ := p1
          have ks := knd_sign p1.1 p1.2.1 (b := 44) (by decide) (by decide)
          rw [p1.2.2.2.1, ks]
          refine ⟨fun _ => ?_, fun q => absurd hsl q⟩
          refine s27A p1 (fun g2 f2 p4 => ⟨rfl, ?_⟩)
          exact hC3 sc d g2 Φ p4 (p2.fc f2) (fun g3 f3 p5 => k g3 (f1.tr ((FKs.c f2).tr f3)) p5)
        · refine hR sc d w g _ hr hm h20 (fun g1 f1 p1 => ⟨rfl, ?_⟩)
          obtain ⟨p1, p2, p3⟩ := p1
          refine v187_62 ⟨fun _ => ?_, fun q => absurd p1.2.2.1 q⟩
          refine s177A p1 (fun g2 r2 f2 e17 => ⟨_, rfl, ?_⟩)
          rw [see_lt p1.1 (b := 44) (by decide), e17]
          refine ⟨fun _ => ?_, fun q => absurd hsl q⟩
          intro G5 e5
          subst e5
          rw [nI_add]
          have e20 := p3
          obtain ⟨a, b⟩ := r2.next (show s1 + 1 = nxp tx N s1 by unfold nxp; rw [if_pos hsl.1, hsl.2, if_neg (by decide)])
          refine hR3 sc d w _ Φ a ((p2.fq f2).fq b) ?_ (fun g3 f3 p5 => k g3 (f1.tr ((FP.q (f2.tr b)).tr f3)) p5)
          rw [(f2.tr b).2 20 (by decide)]; exact p3
      · cases hcl : decide (s1 < N ∧ tx s1 = 41) with
        | true =>
          have hcl2 := of_decide_eq_true hcl
          obtain ⟨t1, t2, t3⟩ := nxt9_K (tx := tx) a2.1
          refine ⟨.inr (nxt9 tx N s1, D1, h1), ⟨by omega, t1, a3, a4, a5, a6, a7⟩, fun sc d g Φ hc hA k => ?_, fun sc d w g Φ hr hm h20 k => ?_⟩
          · refine v63_39 ?_
            simp (disch := omega) only [u3_nc, u3_ek, u3_nk, upd_e, upd_n, dU_nk, dU_nc, dU_e, nI_ltI, nI_eq, nI_clamp, nI_add, nI_mul, inb_nI, nI_neg1, nI_ne1, nI_n1e, nI_neg1e, Nat.not_lt_zero, Nat.lt_irrefl, true_and, and_true, true_implies, false_implies, not_true_eq_false, not_false_eq_true, implies_true, forall_const, forall_eq, if_true, if_false, Nat.reduceEqDiff, eq_self, Nat.one_ne_zero, Nat.zero_ne_one, Nat.zero_add, Nat.add_zero, n12]
            refine hC sc d g _ hc hA (fun g1 f1 p1 => ⟨_, rfl, ⟨fun q => absurd q (show ¬ nI 1 = nI 0 by decide +kernel), fun _ => ?_⟩⟩)
            obtain ⟨p1, p2⟩ := p1
            have ks := knd_sign p1.1 p1.2.1 (b := 44) (by decide) (by decide)
            rw [p1.2.2.2.1, ks]
            refine ⟨fun q => absurd q hsl, fun _ => ?_⟩
            exact s31 p1 (b := 41) (by decide) (by decide) (fun _ g2 f2 p4 => ⟨_, rfl, Or.inr rfl, k g2 (f1.tr (FKs.c f2)) ⟨p4, p2.fc f2⟩⟩) (fun q => absurd hcl2 q)
          · refine hR sc d w g _ hr hm h20 (fun g1 f1 p1 => ⟨rfl, ?_⟩)
            obtain ⟨p1, p2, p3⟩ := p1
            refine v187_62 ⟨fun _ => ?_, fun q => absurd p1.2.2.1 q⟩
            refine s177A p1 (fun g2 r2 f2 e17 => ⟨_, rfl, ?_⟩)
            rw [see_lt p1.1 (b := 44) (by decide)]
            refine ⟨fun q => absurd q hsl, fun _ => ?_⟩
            refine s180 r2 (b := 41) (by decide) (by decide) (fun _ g3 f3 r3 => ⟨rfl, ?_⟩) (fun q => absurd hcl2 q)
            intro G12 e12
            subst e12
            have e20 : g3.1 0 70 20 = nI (dq + 1) := by rw [(f2.tr f3).2 20 (by decide)]; exact p3
            rw [e20, nI_prd]
            exact k _ (f1.tr ((FP.q (f2.tr f3)).tr FP.n)) ⟨r3.n20, ((p2.fq f2).fq f3).n20, by dsimp only; rw [u3_ek rfl]⟩
        | false =>
          have hcl2 := of_decide_eq_false hcl
          refine ⟨.inl (-nI 12, s1), (show ¬ (-nI 12 : Int32) = nI 0 by decide +kernel), fun sc d g Φ hc hA k => ?_, fun sc d w g Φ hr hm h20 k => ?_⟩
          · refine v63_39 ?_
            simp (disch := omega) only [u3_nc, u3_ek, u3_nk, upd_e, upd_n, dU_nk, dU_nc, dU_e, nI_ltI, nI_eq, nI_clamp, nI_add, nI_mul, inb_nI, nI_neg1, nI_ne1, nI_n1e, nI_neg1e, Nat.not_lt_zero, Nat.lt_irrefl, true_and, and_true, true_implies, false_implies, not_true_eq_false, not_false_eq_true, implies_true, forall_const, forall_eq, if_true, if_false, Nat.reduceEqDiff, eq_self, Nat.one_ne_zero, Nat.zero_ne_one, Nat.zero_add, Nat.add_zero, n12]
            refine hC sc d g _ hc hA (fun g1 f1 p1 => ⟨_, rfl, ⟨fun q => absurd q (show ¬ nI 1 = nI 0 by decide +kernel), fun _ => ?_⟩⟩)
            obtain ⟨p1, p2⟩ := p1
            have ks := knd_sign p1.1 p1.2.1 (b := 44) (by decide) (by decide)
            rw [p1.2.2.2.1, ks]
            refine ⟨fun q => absurd q hsl, fun _ => ?_⟩
            exact s31 p1 (b := 41) (by decide) (by decide) (fun q => absurd q hcl2) (fun _ g2 f2 p4 => ⟨_, rfl, Or.inl rfl, k g2 (f1.tr (FKs.c f2)) p4⟩)
          · refine hR sc d w g _ hr hm h20 (fun g1 f1 p1 => ⟨rfl, ?_⟩)
            obtain ⟨p1, p2, p3⟩ := p1
            refine v187_62 ⟨fun _ => ?_, fun q => absurd p1.2.2.1 q⟩
            refine s177A p1 (fun g2 r2 f2 e17 => ⟨_, rfl, ?_⟩)
            rw [see_lt p1.1 (b := 44) (by decide)]
            refine ⟨fun q => absurd q hsl, fun _ => ?_⟩
            refine s180 r2 (b := 41) (by decide) (by decide) (fun q => absurd q hcl2) (fun _ g3 f3 r3 => ⟨rfl, ?_⟩)
            intro G12 e12
            subst e12
            exact k _ (f1.tr ((FP.q (f2.tr f3)).tr FP.n)) (RER.n20 r3)
theorem insP {F : Nat} (A : DIRp tx N F) : INSp tx N F := by
  intro s D h v o dq hF hT vk dp hv ho hh h5
  have s1 := (vk.2.2 v hv).2.1
  have hsN := hT.1
  by_cases hsl : s < N ∧ tx s = 40
  · obtain ⟨t1, t2, t3⟩ := nxt9_K (tx := tx) hT.1
    have t4 := t3 hsl.1
    by_cases hd5 : dq = 5
    · refine ⟨.inl (-nI 15, s), (show ¬ (-nI 15 : Int32) = nI 0 by decide +kernel), fun sc d g Φ hc hA k => ?_, fun sc d w g Φ hr hm h20 k => ?_⟩
      · refine Rn.of rfl (v63_0 ?_)
        have ks := knd_sign hc.1 hc.2.1 (b := 40) (by decide) (by decide)
        rw [hc.2.2.2.1, ks]
        refine ⟨fun _ => ⟨fun q => ?_, fun _ => ?_⟩, fun q => absurd hsl q⟩
        · rw [hd5] at q; exact absurd q (by decide +kernel)
        · intro G5 e5 G6 e6
          subst e5; subst e6
          rw [u3_nk (by decide), hc.2.2.1]
          obtain ⟨x1, x2⟩ := hc.er (code := -nI 15)
          exact k _ (FKs.c x2) x1
      · refine Rn.of rfl (v187_0 ?_)
        rw [hr.2.2.1]
        refine ⟨fun _ => ?_, fun q => absurd rfl q⟩
        refine s177A hr (fun g1 r1 f1 e17 => ⟨_, rfl, ?_⟩)
        rw [see_lt hr.1 (b := 40) (by decide), f1.2 20 (by decide), h20, r1.2.2.1, e17]
        refine ⟨fun _ => ⟨fun _ => ⟨fun _ => ?_, fun q => absurd rfl q⟩, fun q => absurd (by rw [hd5]) q⟩, fun q => absurd hsl q⟩
        intro G6 e6 G7 e7
        subst e6; subst e7
        obtain ⟨x1, x2⟩ := r1.er2 (off := s) (code := -nI 15) (by decide +kernel)
        exact k _ (FP.q (f1.tr x2)) x1
    · obtain ⟨r3, hg3, hC3, hR3⟩ := lstP A F (nxt9 tx N s) D h v o dq 0 (by omega) (by omega) t1 vk dp hv ho (by omega) (by omega) (by omega)
      refine ⟨r3, ?_, fun sc d g Φ hc hA k => ?_, fun sc d w g Φ hr hm h20 k => ?_⟩
      · cases r3 with
        | inl ce => exact hg3
        | inr q3 =>
          obtain ⟨c1, c2⟩ := hg3
          exact ⟨by omega, c2⟩
      · refine Rn.of rfl (v63_0 ?_)
        have ks := knd_sign hc.1 hc.2.1 (b := 40) (by decide) (by decide)
        rw [hc.2.2.2.1, ks, nI_ltI (by omega) (by decide)]
        refine ⟨fun _ => ⟨fun _ => ?_, fun q => absurd (by omega) q⟩, fun q => absurd hsl q⟩
        refine s27A hc (fun g2 f2 p4 => ⟨rfl, ?_⟩)
        exact hC3 sc d g2 Φ p4 (hA.fc f2) (fun g3 f3 p5 => k g3 ((FKs.c f2).tr f3) p5)
      · refine Rn.of rfl (v187_0 ?_)
        rw [hr.2.2.1]
        refine ⟨fun _ => ?_, fun q => absurd rfl q⟩
        refine s177A hr (fun g1 r1 f1 e17 => ⟨_, rfl, ?_⟩)
        rw [see_lt hr.1 (b := 40) (by decide), f1.2 20 (by decide), h20, nI_eq (by omega) (by decide)]
        refine ⟨fun _ => ⟨fun q => absurd q hd5, fun _ => ?_⟩, fun q => absurd hsl q⟩
        intro G9 e9 G10 e10
        subst e9; subst e10
        rw [u3_nk (by decide), e17, nI_add, nI_add]
        have rr : RIN (u3 g1.1 0 70 20 (nI (dq + 1)), g1.2) tx N s := r1.n20
        obtain ⟨a, b⟩ := rr.next (show s + 1 = nxp tx N s by unfold nxp; rw [if_pos hsl.1, hsl.2, if_neg (by decide)])
        refine hR3 sc d w _ Φ a (((hm.fq f1).n20).fq b) ?_ (fun g3 f3 p5 => k g3 ((FP.q f1).tr (FP.tr FP.n ((FP.q b).tr f3))) p5)
        dsimp only
        rw [u3_nk (by decide), u3_ek rfl]
  · refine ⟨.inr (s, D, h), ⟨Nat.le_refl _, hT, vk, dp, rfl, Nat.le_refl _, fun _ _ => rfl⟩, fun sc d g Φ hc hA k => ?_, fun sc d w g Φ hr hm h20 k => ?_⟩
    · refine Rn.of rfl (v63_0 ?_)
      have ks := knd_sign hc.1 hc.2.1 (b := 40) (by decide) (by decide)
      rw [hc.2.2.2.1, ks]
      exact ⟨fun q => absurd q hsl, fun _ => k g (FKs.rf g) ⟨hc, hA⟩⟩
    · refine Rn.of rfl (v187_0 ?_)
      rw [hr.2.2.1]
      refine ⟨fun _ => ?_, fun q => absurd rfl q⟩
      refine s177A hr (fun g1 r1 f1 e17 => ⟨_, rfl, ?_⟩)
      rw [see_lt hr.1 (b := 40) (by decide)]
      exact ⟨fun q => absurd q hsl, fun _ => k g1 (FP.q f1) ⟨r1, hm.fq f1, by rw [f1.2 20 (by decide)]; exact h20⟩⟩
end DI
