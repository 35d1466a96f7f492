/-! WHAT THE CLASS AND THE REFERENCE HOLD BETWEEN CALLS; states kept -/
/-- the reference's window w holds D -/
def WH (A : Nat → Int32) (w : Nat) (D : Nat → Nat → Int32) : Prop := RMM A w D ∧ ROK D ∧ RMV A w D ∧ VOK D
theorem WH.same {A A' : Nat → Int32} {w w' : Nat} {D : Nat → Nat → Int32} (h : WH A w D) (e : ∀ x, x < 780 → A' (780 * w' + x) = A (780 * w + x)) : WH A' w' D := by
  obtain ⟨⟨m1, m2, m3, m4, m5⟩, rk, ⟨h1, h2, h3⟩, vk⟩ := h
  have n40 := rk.2
  have v4 := vk.2.1
  refine ⟨⟨by rw [e 1 (by decide)]; exact m1, by rw [e 2 (by decide)]; exact m2, by rw [e 3 (by decide)]; exact m3, by rw [e 4 (by decide)]; exact m4, fun r hr k hk => by rw [e _ (by omega)]; exact m5 r hr k hk⟩, rk, ⟨?_, fun v hv => ?_, fun v x hv hx => ?_⟩, vk⟩
  · have := e 0 (by decide)
    rw [Nat.add_zero, Nat.add_zero] at this
    rw [this]; exact h1
  · obtain ⟨a, L, b1, b2, b3, b4⟩ := h2 v hv
    refine ⟨by rw [e _ (by omega)]; exact a, L, b1, b2, b3, fun k hk => ?_⟩
    rw [← b4 k hk]
    exact e _ (by omega)
  · have s12 := (vk.2.2 v hv).2.2.1
    obtain ⟨a, L, b1, b2, b3, b4⟩ := h3 v x hv hx
    refine ⟨by rw [e _ (by omega)]; exact a, L, b1, b2, b3, fun k hk => ?_⟩
    rw [← b4 k hk]
    exact e _ (by omega)
theorem WH.keep {A A' : Nat → Int32} {w : Nat} {D : Nat → Nat → Int32} (h : WH A w D) (e : ∀ j, WIN w j → A' j = A j) : WH A' w D := h.same (fun x hx => e _ (by unfold WIN; omega))
theorem EQD.wh {D X : Nat → Nat → Int32} (h : EQD D X) {A : Nat → Int32} {w : Nat} (m : WH A w D) : WH A w X := ⟨h.rmm m.1, h.rk m.2.1, h.rmv m.2.2.2 m.2.2.1, h.vk m.2.2.2⟩
/-- a state and what was kept, with the texts -/
def CLS (g : Gs) (D : Nat → Nat → Int32) (T : List Nat) (n o k : Nat) (ea : Int32) (tx : Nat → Nat) (H : Nat → Nat → Nat → Int32) : Prop :=
  At g 0 D ∧ g.1 0 20 1 = ea ∧ g.1 0 21 1 = nI n ∧ (n ≤ 600 ∧ ∀ t, t < n → tx t < 256 ∧ g.1 0 22 t = sbI (tx t)) ∧ TXC g T ∧ g.1 0 62 1 = nI o ∧ o < 8 ∧ g.1 0 62 2 = nI k ∧ k ≤ 8 ∧ ∀ j, j < k → At g (2 + (o + j) % 8) (H j)
def REF (g : Gs) (D : Nat → Nat → Int32) (T : List Nat) (n k w : Nat) (ea : Int32) (tx : Nat → Nat) (H : Nat → Nat → Nat → Int32) : Prop :=
  MC g w D ∧ w < 9 ∧ g.1 0 70 15 = ea ∧ g.1 0 70 14 = nI n ∧ (n ≤ 600 ∧ ∀ t, t < n → tx t < 256 ∧ g.1 0 78 t = nI (tx t)) ∧ TXR g T ∧ g.1 0 70 3 = nI k ∧ k ≤ 8 ∧ ∀ j, j < k → WH (g.1 0 71) ((w + 9 - (k - j)) % 9) (H j)
def INV (M B : Nat) (D : Nat → Nat → Int32) (k : Nat) (H : Nat → Nat → Nat → Int32) : Prop := WZ D M B ∧ ∀ j, j < k → WZ (H j) M B
/-- the class's frame of a call, with e thrown exceptions; the reference's -/
def FCL (e : Nat) (g g' : Gs) : Prop := (∀ i c, (i = 0 ∧ 70 ≤ c) → g'.1 i c = g.1 i c) ∧ g'.2.1 = g.2.1 ∧ g'.2.2 = g.2.2 + e
def FRF (g g' : Gs) : Prop := (∀ i c, c < 70 → g'.1 i c = g.1 i c) ∧ (∀ i c, c ≠ 70 → g'.2.1 i c = g.2.1 i c) ∧ g'.2.2 = g.2.2
theorem FCL.of {P : Nat → Nat → Prop} {g g' : Gs} (h : Fr P g g') (hp : ∀ i c, P i c → c < 70 ∨ ¬ i = 0) : FCL 0 g g' := ⟨fun i c hc => h.1 i c (fun q => by have := hp i c q; omega), by rw [h.2], by rw [h.2]; rfl⟩
theorem FCL.tr {e : Nat} {a b c : Gs} (h1 : FCL 0 a b) (h2 : FCL e b c) : FCL e a c := ⟨fun i c hc => (h2.1 i c hc).trans (h1.1 i c hc), h2.2.1.trans h1.2.1, by rw [h2.2.2, h1.2.2, Nat.add_zero]⟩
theorem FRF.of {P : Nat → Nat → Prop} {g g' : Gs} (h : Fr P g g') (hp : ∀ i c, P i c → 70 ≤ c) : FRF g g' := ⟨fun i c hc => h.1 i c (fun q => by have := hp i c q; omega), fun i c _ => by rw [h.2], by rw [h.2]⟩
theorem FRF.tr {a b c : Gs} (h1 : FRF a b) (h2 : FRF b c) : FRF a c := ⟨fun i c hc => (h2.1 i c hc).trans (h1.1 i c hc), fun i c hc => (h2.2.1 i c hc).trans (h1.2.1 i c hc), h2.2.2.trans h1.2.2⟩
section HI
variable {g g' : Gs} {D : Nat → Nat → Int32} {T : List Nat} {n o k w M B : Nat} {ea : Int32} {tx : Nat → Nat} {H : Nat → Nat → Nat → Int32}
/-- what the reference does leaves the class's cells, and the other way round -/
theorem CLS.frf (h : CLS g D T n o k ea tx H) (f : FRF g g') : CLS g' D T n o k ea tx H := by
  obtain ⟨h1, h2, h3, h4, h5, h6, h7, h8, h9, h10⟩ := h
  have e : ∀ i c, c < 70 → g'.1 i c = g.1 i c := f.1
  refine ⟨fun c hc => by rw [e 0 c (by omega)]; exact h1 c hc, by rw [e 0 20 (by decide)]; exact h2, by rw [e 0 21 (by decide)]; exact h3, ⟨h4.1, fun t ht => by rw [e 0 22 (by decide)]; exact h4.2 t ht⟩, ?_, by rw [e 0 62 (by decide)]; exact h6, h7, by rw [e 0 62 (by decide)]; exact h8, h9, fun j hj c hc => by rw [e _ c (by omega)]; exact h10 j hj c hc⟩
  unfold TXC
  rw [e 0 55 (by decide), e 0 58 (by decide)]
  exact h5
theorem REF.fcl {e : Nat} (h : REF g D T n k w ea tx H) (f : FCL e g g') : REF g' D T n k w ea tx H := by
  obtain ⟨h1, h2, h3, h4, h5, h6, h7, h8, h9⟩ := h
  have e : ∀ i c, (i = 0 ∧ 70 ≤ c) → g'.1 i c = g.1 i c := f.1
  refine ⟨⟨by rw [e 0 70 (by decide)]; exact h1.1, h1.2.1, by rw [e 0 71 (by decide)]; exact h1.m, h1.r, by rw [e 0 71 (by decide)]; exact h1.v, h1.vk⟩, h2, by rw [e 0 70 (by decide)]; exact h3, by rw [e 0 70 (by decide)]; exact h4, ⟨h5.1, fun t ht => by rw [e 0 78 (by decide)]; exact h5.2 t ht⟩, ?_, by rw [e 0 70 (by decide)]; exact h7, h8, fun j hj => by rw [e 0 71 (by decide)]; exact h9 j hj⟩
  unfold TXR
  rw [e 0 70 (by decide), e 0 80 (by decide)]
  exact h6
/-- the class's frame of what only works: no cell of a state's, no text -/
theorem CLS.fr {P : Nat → Nat → Prop} (h : CLS g D T n o k ea tx H) (f : Fr P g g') (hp : ∀ i c, P i c → (16 ≤ c ∧ c ≠ 55 ∧ c ≠ 58 ∧ c ≠ 62 ∧ c ≠ 20 ∧ c ≠ 21 ∧ c ≠ 22) ∨ i = 1) : CLS g' D T n o k ea tx H := by
  obtain ⟨h1, h2, h3, h4, h5, h6, h7, h8, h9, h10⟩ := h
  have e : ∀ i c, ¬ ((16 ≤ c ∧ c ≠ 55 ∧ c ≠ 58 ∧ c ≠ 62 ∧ c ≠ 20 ∧ c ≠ 21 ∧ c ≠ 22) ∨ i = 1) → g'.1 i c = g.1 i c := fun i c hn => f.1 i c (fun q => hn (hp i c q))
  refine ⟨fun c hc => by rw [e 0 c (by omega)]; exact h1 c hc, by rw [e 0 20 (by omega)]; exact h2, by rw [e 0 21 (by omega)]; exact h3, ⟨h4.1, fun t ht => by rw [e 0 22 (by omega)]; exact h4.2 t ht⟩, ?_, by rw [e 0 62 (by omega)]; exact h6, h7, by rw [e 0 62 (by omega)]; exact h8, h9, fun j hj c hc => by rw [e _ c (by omega)]; exact h10 j hj c hc⟩
  unfold TXC
  rw [e 0 55 (by omega), e 0 58 (by omega)]
  exact h5
theorem INV.mono (h : INV M B D k H) {M' B' : Nat} (h1 : M ≤ M') (h2 : B ≤ B') (h3 : M' + 100 < 2 ^ 31) : INV M' B' D k H := ⟨h.1.mono h1 h2 h3, fun j hj => (h.2 j hj).mono h1 h2 h3⟩
end HI
theorem mod8 {a : Nat} (h : a < 17) : nI a - nI a / nI 8 * nI 8 = nI (a % 8) := by
  have hh : ∀ a : Fin 17, nI a.1 - nI a.1 / nI 8 * nI 8 = nI (a.1 % 8) := by decide +kernel
  exact hh ⟨a, h⟩
theorem mod9 {a : Nat} (h : a < 19) : nI a - nI a / nI 9 * nI 9 = nI (a % 9) := by
  have hh : ∀ a : Fin 19, nI a.1 - nI a.1 / nI 9 * nI 9 = nI (a.1 % 9) := by decide +kernel
  exact hh ⟨a, h⟩
/-- how many states are kept, which is the oldest, what they are -/
def kN (k : Nat) : Nat := if k < 8 then k + 1 else k
def oN (o k : Nat) : Nat := if k < 8 then o else (o + 1) % 8
def hN (k : Nat) (H : Nat → Nat → Nat → Int32) (X : Nat → Nat → Int32) : Nat → Nat → Nat → Int32 := fun j => if k < 8 then (if j = k then X else H j) else (if j = 7 then X else H (j + 1))
section KP
variable {sc : SC} {d n o k w M B : Nat} {g : Gs} {Φ : RS → Gs → Prop} {D : Nat → Nat → Int32} {T : List Nat} {ea : Int32} {tx : Nat → Nat} {H : Nat → Nat → Nat → Int32}
theorem s52I (h : CLS g D T n o k ea tx H) (rk : ROK D) (K : ∀ g' X, FCL 0 g g' → (∀ c, g'.1 1 c = g.1 1 c) → EQD D X → CLS g' D T n (oN o k) (kN k) ea tx (hN k H X) → Φ (.inl none) g') : Rn sc (d + 3) 52 [vR 0 62, vR 0 0] g Φ := by
  obtain ⟨h1, h2, h3, h4, h5, h6, h7, h8, h9, h10⟩ := h
  obtain ⟨q, hq⟩ : ∃ q, q = (o + k) % 8 := ⟨_, rfl⟩
  have q8 : q < 8 := by omega
  refine Rn.of rfl (v52_0 ?_)
  rw [h6, h8, nI_add, mod8 (by omega), ← hq, nI_clamp (by omega)]
  refine ⟨inb_nI q8 (by decide), ?_⟩
  refine s50 (i := 2 + q) (j := 0) (E := g.1 (2 + q)) (by omega) h1 (fun c _ => rfl) rk (fun g1 f1 a1 => ⟨rfl, ?_⟩)
  have e62 : g1.1 0 62 = g.1 0 62 := f1.1 0 62 (by omega)
  rw [e62, h8]
  have base : ∀ i c, ¬ (i = 2 + q ∧ c < 16) → g1.1 i c = g.1 i c := f1.1
  have fc1 : FCL 0 g g1 := FCL.of f1 (fun i c q => by omega)
  obtain ⟨X, hX⟩ : ∃ X, X = aTk D (g.1 (2 + q)) := ⟨_, rfl⟩
  have hE : EQD D X := by rw [hX]; exact aTk_EQ
  rw [← hX] at a1
  have t1 : TXC g1 T := by
    unfold TXC
    rw [base 0 55 (by omega), base 0 58 (by omega)]
    exact h5
  by_cases hk : k < 8
  · refine ⟨fun _ => ?_, fun z => absurd ((nI_ltI (by omega) (by decide)).mpr hk) z⟩
    intro G4 e4
    subst e4
    rw [nI_add]
    have f2 : Fr (fun i c => i = 0 ∧ c = 62) g1 (u3 g1.1 0 62 2 (nI (k + 1)), g1.2) := Fr.u3 (Fr.rf _) ⟨rfl, rfl⟩
    refine K _ X (fc1.tr (FCL.of f2 (fun i c q => by omega))) (fun c => (f2.1 1 c (by omega)).trans (base 1 c (by omega))) hE ?_
    have ok : oN o k = o ∧ kN k = k + 1 := by unfold oN kN; rw [if_pos hk, if_pos hk]; exact ⟨rfl, rfl⟩
    rw [ok.1, ok.2]
    refine ⟨fun c hc => by rw [f2.1 0 c (by omega), base 0 c (by omega)]; exact h1 c hc, by rw [f2.1 0 20 (by omega), base 0 20 (by omega)]; exact h2, by rw [f2.1 0 21 (by omega), base 0 21 (by omega)]; exact h3, ⟨h4.1, fun t ht => by rw [f2.1 0 22 (by omega), base 0 22 (by omega)]; exact h4.2 t ht⟩, t1.fr f2 (by simp) (by simp), ?_, h7, ?_, by omega, fun j hj => ?_⟩
    · dsimp only; rw [u3_nk (by decide), e62]; exact h6
    · dsimp only; rw [u3_ek rfl]
    · unfold hN
      rw [if_pos hk]
      by_cases hjk : j = k
      · rw [if_pos hjk, hjk, ← hq]
        exact At.ux a1 (by decide)
      · rw [if_neg hjk]
        intro c hc
        rw [f2.1 _ c (by omega), base _ c (by omega)]
        exact h10 j (by omega) c hc
  · refine ⟨fun z => absurd ((nI_ltI (by omega) (by decide)).mp z) hk, fun _ => ?_⟩
    have k8 : k = 8 := by omega
    rw [h6, nI_add, mod8 (by omega)]
    intro G5 e5
    subst e5
    have f2 : Fr (fun i c => i = 0 ∧ c = 62) g1 (u3 g1.1 0 62 1 (nI ((o + 1) % 8)), g1.2) := Fr.u3 (Fr.rf _) ⟨rfl, rfl⟩
    refine K _ X (fc1.tr (FCL.of f2 (fun i c q => by omega))) (fun c => (f2.1 1 c (by omega)).trans (base 1 c (by omega))) hE ?_
    have ok : oN o k = (o + 1) % 8 ∧ kN k = k := by unfold oN kN; rw [if_neg hk, if_neg hk]; exact ⟨rfl, rfl⟩
    rw [ok.1, ok.2]
    refine ⟨fun c hc => by rw [f2.1 0 c (by omega), base 0 c (by omega)]; exact h1 c hc, by rw [f2.1 0 20 (by omega), base 0 20 (by omega)]; exact h2, by rw [f2.1 0 21 (by omega), base 0 21 (by omega)]; exact h3, ⟨h4.1, fun t ht => by rw [f2.1 0 22 (by omega), base 0 22 (by omega)]; exact h4.2 t ht⟩, t1.fr f2 (by simp) (by simp), ?_, by omega, ?_, h9, fun j hj => ?_⟩
    · dsimp only; rw [u3_ek rfl]
    · dsimp only; rw [u3_nk (by decide), e62]; exact h8
    · unfold hN
      rw [if_neg hk]
      by_cases hj7 : j = 7
      · rw [if_pos hj7, show 2 + ((o + 1) % 8 + j) % 8 = 2 + q by omega]
        exact At.ux a1 (by decide)
      · rw [if_neg hj7]
        intro c hc
        rw [f2.1 _ c (by omega), base _ c (by omega), show 2 + ((o + 1) % 8 + j) % 8 = 2 + (o + (j + 1)) % 8 by omega]
        exact h10 (j + 1) (by omega) c hc
theorem s52 (h : CLS g D T n o k ea tx H) (rk : ROK D) (K : ∀ g' X, FCL 0 g g' → EQD D X → CLS g' D T n (oN o k) (kN k) ea tx (hN k H X) → Φ (.inl none) g') : Rn sc (d + 3) 52 [vR 0 62, vR 0 0] g Φ := s52I h rk (fun g' X f _ => K g' X f)
theorem s53 (h : CLS g D T n o (k + 1) ea tx H) (rk : ROK (H k)) (K : ∀ g' X, FCL 0 g g' → EQD (H k) X → CLS g' X T n o k ea tx H → Φ (.inl none) g') : Rn sc (d + 3) 53 [vR 0 62, vR 0 0] g Φ := by
  obtain ⟨h1, h2, h3, h4, h5, h6, h7, h8, h9, h10⟩ := h
  obtain ⟨q, hq⟩ : ∃ q, q = (o + k) % 8 := ⟨_, rfl⟩
  have q8 : q < 8 := by omega
  refine Rn.of rfl (v53_0 ?_)
  rw [h8, nI_prd]
  intro G1 e1
  have f1 : Fr (fun i c => i = 0 ∧ c = 62) g (G1, g.2) := by rw [e1]; exact Fr.u3 (Fr.rf _) ⟨rfl, rfl⟩
  have b1 : ∀ i c, ¬ (i = 0 ∧ c = 62) → G1 i c = g.1 i c := f1.1
  have c1 : G1 0 62 1 = nI o := by rw [e1, u3_nk (by decide)]; exact h6
  have c2 : G1 0 62 2 = nI k := by rw [e1, u3_ek rfl]
  rw [c1, c2, nI_add, mod8 (by omega), ← hq, nI_clamp (by omega)]
  refine ⟨inb_nI q8 (by decide), ?_⟩
  have hA : At (G1, g.2) (2 + q) (H k) := fun c hc => by
    show G1 _ c = _
    rw [b1 _ c (by omega), hq]; exact h10 k (by omega) c hc
  have hD : At (G1, g.2) 0 D := fun c hc => by
    show G1 _ c = _
    rw [b1 _ c (by omega)]; exact h1 c hc
  refine s50 (i := 0) (j := 2 + q) (E := D) (by omega) hA hD rk (fun g2 f2 a2 => ⟨rfl, ?_⟩)
  have base : ∀ i c, ¬ (i = 0 ∧ c < 16) → g2.1 i c = G1 i c := f2.1
  refine K g2 (aTk (H k) D) ((FCL.of f1 (fun i c q => by omega)).tr (FCL.of f2 (fun i c q => by omega))) aTk_EQ ?_
  refine ⟨a2, by rw [base 0 20 (by omega), b1 0 20 (by omega)]; exact h2, by rw [base 0 21 (by omega), b1 0 21 (by omega)]; exact h3, ⟨h4.1, fun t ht => by rw [base 0 22 (by omega), b1 0 22 (by omega)]; exact h4.2 t ht⟩, (h5.fr f1 (by simp) (by simp)).fr f2 (by simp) (by simp), by rw [base 0 62 (by omega)]; exact c1, h7, by rw [base 0 62 (by omega)]; exact c2, by omega, fun j hj c hc => ?_⟩
  rw [base _ c (by omega), b1 _ c (by omega)]
  exact h10 j (by omega) c hc
/-- the reference's change: the next window holds the same -/
theorem s133 (h : REF g D T n k w ea tx H) (K : ∀ g', FRF g g' → (∀ X, EQD D X → REF g' D T n (kN k) ((w + 1) % 9) ea tx (hN k H X)) → (∀ z, z ≠ 2 → z ≠ 3 → g'.1 0 70 z = g.1 0 70 z) → (∀ c, 72 ≤ c → g'.1 0 c = g.1 0 c) → (∀ j, 780 * 9 ≤ j → g'.1 0 71 j = g.1 0 71 j) → Φ (.inl none) g') : Rn sc (d + 3) 133 [vR 0 70] g Φ := by
  obtain ⟨h1, h2, h3, h4, h5, h6, h7, h8, h9⟩ := h
  have hw := h1.w
  obtain ⟨w2, hw2⟩ : ∃ w2, w2 = (w + 1) % 9 := ⟨_, rfl⟩
  refine Rn.of rfl (v133_0 ?_)
  rw [hw, nI_add, mod9 (by omega), ← hw2]
  refine s132 (by omega) (by omega) (by omega) (fun g1 f1 c1 o1 => ⟨rfl, ?_⟩)
  have fin : ∀ G, Fr (fun i c => i = 0 ∧ c = 70) g1 (G, g1.2) → G 0 70 2 = nI w2 → G 0 70 3 = nI (kN k) → (∀ z, z ≠ 2 → z ≠ 3 → G 0 70 z = g1.1 0 70 z) → Φ (.inl none) (G, g1.2) := fun G f2 e2 e3 eo => by
    have b2 : ∀ i c, ¬ (i = 0 ∧ c = 70) → G i c = g1.1 i c := f2.1
    have e71 : G 0 71 = g1.1 0 71 := b2 0 71 (by simp)
    have e70 : ∀ z, z ≠ 2 → z ≠ 3 → G 0 70 z = g.1 0 70 z := fun z a b => by rw [eo z a b, f1.1 0 70 (by simp)]
    have mc : WH (g.1 0 71) w D := ⟨h1.m, h1.r, h1.v, h1.vk⟩
    have mc2 : WH (G 0 71) w2 D := by rw [e71]; exact mc.same c1
    refine K (G, g1.2) ((FRF.of f1 (fun i c q => by omega)).tr (FRF.of f2 (fun i c q => by omega))) (fun X hX => ?_) e70 (fun c hc => by dsimp only; rw [b2 0 c (by omega)]; exact f1.1 0 c (by omega)) (fun j hj => by dsimp only; rw [e71]; exact o1 j (by omega))
    rw [← hw2]
    dsimp only [REF]
    refine ⟨⟨e2, by omega, mc2.1, mc2.2.1, mc2.2.2.1, mc2.2.2.2⟩, by omega, by rw [e70 15 (by decide) (by decide)]; exact h3, by rw [e70 14 (by decide) (by decide)]; exact h4, ⟨h5.1, fun t ht => by rw [b2 0 78 (by simp), f1.1 0 78 (by simp)]; exact h5.2 t ht⟩, h6.fr (e70 27 (by decide) (by decide)) (by dsimp only; rw [b2 0 80 (by simp), f1.1 0 80 (by simp)]), e3, by unfold kN; split <;> omega, fun j hj => ?_⟩
    have kp : ∀ v X, v < 9 → v ≠ w2 → WH (g.1 0 71) v X → WH (G 0 71) v X := fun v X v9 hv hX => by
      rw [e71]
      exact hX.keep (fun j hj => o1 j (by unfold WIN at hj; omega))
    unfold kN at hj
    unfold hN kN
    by_cases hk : k < 8
    · rw [if_pos hk] at hj
      rw [if_pos hk, if_pos hk]
      by_cases hjk : j = k
      · rw [if_pos hjk, hjk, show (w2 + 9 - (k + 1 - k)) % 9 = w by omega]
        exact hX.wh (kp w D h2 (by omega) mc)
      · rw [if_neg hjk, show (w2 + 9 - (k + 1 - j)) % 9 = (w + 9 - (k - j)) % 9 by omega]
        exact kp _ _ (by omega) (by omega) (h9 j (by omega))
    · rw [if_neg hk] at hj
      rw [if_neg hk, if_neg hk]
      by_cases hj7 : j = 7
      · rw [if_pos hj7, show (w2 + 9 - (k - j)) % 9 = w by omega]
        exact hX.wh (kp w D h2 (by omega) mc)
      · rw [if_neg hj7, show (w2 + 9 - (k - j)) % 9 = (w + 9 - (k - (j + 1))) % 9 by omega]
        exact kp _ _ (by omega) (by omega) (h9 (j + 1) (by omega))
  intro G4 e4
  have f4 : Fr (fun i c => i = 0 ∧ c = 70) g1 (G4, g1.2) := by rw [e4]; exact Fr.u3 (Fr.rf _) ⟨rfl, rfl⟩
  have k4 : G4 0 70 3 = nI k := by rw [e4, u3_nk (by decide), f1.1 0 70 (by simp)]; exact h7
  rw [k4]
  refine ⟨fun hk => ?_, fun hk => ?_⟩
  · have hk8 := (nI_ltI (by omega) (by decide)).mp hk
    intro G5 e5
    rw [nI_add] at e5
    have f5 : Fr (fun i c => i = 0 ∧ c = 70) g1 (G5, g1.2) := by rw [e5]; exact Fr.u3 f4 ⟨rfl, rfl⟩
    refine fin G5 f5 (by rw [e5, u3_nk (by decide), e4, u3_ek rfl]) (by rw [e5, u3_ek rfl]; unfold kN; rw [if_pos hk8]) (fun z a b => by rw [e5, u3_nk b, e4, u3_nk a])
  · have hk8 : ¬ k < 8 := fun z => hk ((nI_ltI (by omega) (by decide)).mpr z)
    intro G5 e5
    have f5 : Fr (fun i c => i = 0 ∧ c = 70) g1 (G5, g1.2) := by rw [e5]; exact Fr.u3 f4 ⟨rfl, rfl⟩
    refine fin G5 f5 (by rw [e5, u3_nk (by decide), e4, u3_ek rfl]) (by rw [e5, u3_ek rfl]; unfold kN; rw [if_neg hk8]) (fun z a b => by rw [e5, u3_nk b, e4, u3_nk a])
theorem INV.kp (h : INV M B D k H) (k8 : k ≤ 8) {X : Nat → Nat → Int32} (hX : EQD D X) : INV M B D (kN k) (hN k H X) := by
  refine ⟨h.1, fun j hj => ?_⟩
  unfold kN at hj
  unfold hN
  by_cases hk : k < 8
  · rw [if_pos hk] at hj ⊢
    by_cases hjk : j = k
    · rw [if_pos hjk]; exact hX.wz h.1
    · rw [if_neg hjk]; exact h.2 j (by omega)
  · rw [if_neg hk] at hj ⊢
    by_cases hj7 : j = 7
    · rw [if_pos hj7]; exact hX.wz h.1
    · rw [if_neg hj7]; exact h.2 (j + 1) (by omega)
end KP
