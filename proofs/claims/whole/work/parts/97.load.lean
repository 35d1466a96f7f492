/-! LOAD -/
/-- what a setup's text comes to: an error, or a state -/
theorem textP {N : Nat} {tx : Nat → Nat} (h6 : N ≤ 600) (D0 : Nat → Nat → Int32) : ∃ R : (Int32 × Nat) ⊕ (Nat → Nat → Int32), (∀ c o, R = .inl (c, o) → ¬ c = nI 0) ∧ (∀ E, R = .inr E → WZ E 0 24600) ∧
    (∀ (sc : SC) (d : Nat) (g : Gs) (Fl Sc : Gs → Prop), CIN g tx N (skp tx N 0) → At g 1 D0 → (∀ c o, R = .inl (c, o) → ∀ g', FKs g g' → CE g' c o → Fl g') → (∀ E, R = .inr E → ∀ g', FKs g g' → g'.1 0 21 7 = -nI 1 → At g' 1 E → Sc g') → Rn sc (d + 1212) 60 [vR 0 60] g (fun r g7 => ∃ r10 : Int32, r = .inl (some (vI r10)) ∧ (((r10 = nI 0) → Fl g7) ∧ (¬ (r10 = nI 0) → (Rn sc (d + 1212) 67 [vR 0 60] g7 (fun r g12 => ∃ r15 : Int32, r = .inl (some (vI r15)) ∧ (((r15 = nI 0) → Fl g12) ∧ (¬ (r15 = nI 0) → Sc g12)))))))) ∧
    (∀ (sc : SC) (d w : Nat) (g : Gs) (Φ : RS → Gs → Prop), BYR g tx N → HVR g w (dU D0 1 4 (nI 0)) → (∀ c o, R = .inl (c, o) → ∀ g', FP w g g' → RER g' tx N c o → Φ (.inl none) g') → (∀ E, R = .inr E → ∀ g', FP w g g' → g'.1 0 70 18 = nI 0 → MC g' w E → Φ (.inl none) g') → Rn sc (d + 1212) 194 [vR 0 70] g Φ) := by
  have n10 : ¬ nI 1 = nI 0 := by decide +kernel
  obtain ⟨r, hr, hC, hR⟩ := headP (N := N) (tx := tx) (F := 601) (by omega) D0
  cases r with
  | inl co =>
    obtain ⟨c, off⟩ := co
    have hc0 : ¬ c = nI 0 := hr
    refine ⟨.inl (c, off), fun c' o' q => (by cases q; exact hc0), fun E q => (by cases q), fun sc d g Fl Sc hc hA kf ks => ?_, fun sc d w g Φ hb hv kf ks => ?_⟩
    · refine hC sc d g _ hc hA (fun g' f p => ⟨_, rfl, fun _ => kf c off rfl g' f p, fun q => absurd rfl q⟩)
    · exact hR sc d w g Φ hb hv (kf c off rfl)
  | inr sE =>
    obtain ⟨s', E⟩ := sE
    obtain ⟨p1, p2, p3⟩ : 0 < s' ∧ TOK tx N s' ∧ WZ E 0 0 := hr
    obtain ⟨r2, hr2, hC2, hR2⟩ := stsP (tx := tx) h6 (N + 1) s' 0 0 E (by omega) p2 (Nat.zero_le _) p3 (by omega)
    cases r2 with
    | inl co =>
      obtain ⟨c, off⟩ := co
      have hc0 : ¬ c = nI 0 := hr2
      refine ⟨.inl (c, off), fun c' o' q => (by cases q; exact hc0), fun E q => (by cases q), fun sc d g Fl Sc hc hA kf ks => ?_, fun sc d w g Φ hb hv kf ks => ?_⟩
      · refine hC sc d g _ hc hA (fun g1 f1 q1 => ⟨_, rfl, fun q => absurd q n10, fun _ => ?_⟩)
        obtain ⟨c1, a1⟩ : CIN g1 tx N s' ∧ At g1 1 E := q1
        refine Rn.of rfl (v67_0 (hC2 sc (d + 1205) g1 _ vU c1 a1 (fun g2 f2 q2 => ⟨_, rfl, fun _ => kf c off rfl g2 (f1.tr f2) q2, fun q => absurd rfl q⟩)))
      · refine hR sc d w g Φ hb hv (fun g1 x2 f1 r1 m1 => ?_)
        exact hR2 sc (d + 1202) w g1 Φ _ _ r1 m1 (fun g2 f2 q2 => kf c off rfl g2 (FP.tr f1 f2) q2)
    | inr tE =>
      obtain ⟨s2, E2⟩ := tE
      have hw : WZ E2 0 (0 + 41 * (N - s')) := hr2
      refine ⟨.inr E2, fun c' o' q => (by cases q), fun E q => (by cases q; exact hw.mono (Nat.le_refl _) (by omega) (by decide)), fun sc d g Fl Sc hc hA kf ks => ?_, fun sc d w g Φ hb hv kf ks => ?_⟩
      · refine hC sc d g _ hc hA (fun g1 f1 q1 => ⟨_, rfl, fun q => absurd q n10, fun _ => ?_⟩)
        obtain ⟨c1, a1⟩ : CIN g1 tx N s' ∧ At g1 1 E := q1
        refine Rn.of rfl (v67_0 (hC2 sc (d + 1205) g1 _ vU c1 a1 (fun g2 f2 q2 => ⟨_, rfl, fun q => absurd q n10, fun _ => ?_⟩)))
        obtain ⟨c2, a2⟩ : CIN g2 tx N s2 ∧ At g2 1 E2 := q2
        exact ks E2 rfl g2 (f1.tr f2) c2.2.2.2.2.2 a2
      · refine hR sc d w g Φ hb hv (fun g1 x2 f1 r1 m1 => ?_)
        refine hR2 sc (d + 1202) w g1 Φ _ _ r1 m1 (fun g2 f2 q2 => ?_)
        obtain ⟨r3, m3⟩ : RIN g2 tx N s2 ∧ MC g2 w E2 := q2
        exact ks E2 rfl g2 (FP.tr f1 f2) r3.2.2.1 m3
section LD
variable {sc : SC} {d n o k w M B N : Nat} {g g' : Gs} {Φ : RS → Gs → Prop} {D : Nat → Nat → Int32} {T : List Nat} {ea a : Int32} {tx : Nat → Nat} {H : Nat → Nat → Nat → Int32}
theorem q95x (h : CLS g D T n o k ea tx H) (ha : ¬ INR a (n + 1)) (K : KC g D T n o k ea tx H (.inr (0, 1)) Φ) : Rn sc (d + 20) 95 [vR 0 20, vI a] g Φ :=
  Rn.of rfl (y95_0 (s96 h.2.2.1 h.2.2.2.1.1 (fun q => absurd q ha) (fun _ => Or.inr ⟨_, rfl, K.x h rfl⟩)))
theorem q195x (h : REF g D T n k w ea tx H) (ha : ¬ INR a (n + 1)) (K : KR g D T n k w ea tx H (.inr (0, 1)) Φ) : Rn sc (d + 20) 195 [vR 0 70, vI a] g Φ := by
  have n6 := h.2.2.2.2.1.1
  refine Rn.of rfl (y195_0 ?_)
  intro G1 e1
  obtain ⟨f1, h1, t1⟩ := h.z e1
  have e14 : G1 0 70 14 = nI n := h1.2.2.2.1
  rw [e14]
  exact s128r (n := n + 1) (by omega) (pre0 (by omega)) ⟨_, rfl, s134 (code := 1) t1 (Or.inl rfl) (fun hj => absurd hj ha) (fun hj g' f t => ⟨_, rfl, fun _ => K.x (f1.tr f).frf (h1.th f) t rfl, fun q => absurd rfl q⟩)⟩
/-- the window that is read into is cleared -/
theorem clr {x1 x2 : Int32} (h2 : g.1 0 70 2 = nI 9) (kk : ∀ g', Fr (fun i c => i = 0 ∧ c = 71) g g' → (∀ j, ¬ WIN 9 j → g'.1 0 71 j = g.1 0 71 j) → (∀ j, j < 780 → g'.1 0 71 (780 * 9 + j) = nI 0) → Xe sc (d + 1) 195 54 [vR 0 70, vI x1, vI x2, vI (nI 780)] [] g' Φ) : Xe sc (d + 1) 195 54 [vR 0 70, vI x1, vI x2, vI (nI 0)] [] g Φ := by
  refine turnsS (σ := Gs) (W := fun q s => Xe sc (d + 1) 195 54 [vR 0 70, vI x1, vI x2, vI (nI q)] [] s Φ) (I := fun q s => Fr (fun i c => i = 0 ∧ c = 71) g s ∧ (∀ j, ¬ WIN 9 j → s.1 0 71 j = g.1 0 71 j) ∧ ∀ j, j < q → s.1 0 71 (780 * 9 + j) = nI 0) (n := 780) (fun q s hq hI hW => ?_) (fun s hI => kk s hI.1 hI.2.1 hI.2.2) g ⟨Fr.rf g, fun _ _ => rfl, fun j hj => by omega⟩
  obtain ⟨i1, i2, i3⟩ := hI
  have s2 : s.1 0 70 2 = nI 9 := by rw [i1.1 0 70 (by simp)]; exact h2
  have e1 : nI 780 * nI 9 + nI q = nI (780 * 9 + q) := by rw [nI_mul, nI_add]
  refine v195_54 ⟨fun _ => ?_, fun z => absurd ((nI_ltI (by omega) (by decide)).mpr hq) z⟩
  rw [s2, e1, nI_add, nI_clamp (by omega)]
  refine ⟨inb_nI (by omega) (by decide), ?_⟩
  intro G2 e2
  have f2 : Fr (fun i c => i = 0 ∧ c = 71) s (G2, s.2.1, s.2.2) := by rw [e2]; exact Fr.u3 (Fr.rf _) ⟨rfl, rfl⟩
  refine hW _ ⟨i1.tr f2, fun j hj => ?_, fun j hj => ?_⟩
  · dsimp only
    rw [e2, u3_nk (fun z => hj (by rw [z]; unfold WIN; omega))]
    exact i2 j hj
  · dsimp only
    by_cases hjq : j = q
    · rw [hjq, e2, u3_ek rfl]
    · rw [e2, u3_nk (by omega)]
      exact i3 j (by omega)
theorem hvr0 {D0 : Nat → Nat → Int32} (h2 : g.1 0 70 2 = nI 9) (h0 : ∀ j, j < 780 → g.1 0 71 (780 * 9 + j) = nI 0) : HVR g 9 (dU D0 1 4 (nI 0)) := by
  have e14 : dU D0 1 4 (nI 0) 1 4 = nI 0 := dU_e rfl rfl
  have nV0 : nV (dU D0 1 4 (nI 0)) = 0 := by unfold nV; rw [e14, nI_clamp (by decide)]
  refine ⟨h2, by decide, ⟨?_, fun v hv => by omega, fun v e hv => by omega⟩, ⟨by rw [e14, nV0], by omega, fun v hv => by omega⟩, fun j h1 h5 => h0 j (by omega), fun v h1 h4 k hk => h0 _ (by omega)⟩
  rw [e14]
  have := h0 0 (by decide)
  rw [Nat.add_zero] at this
  exact this
end LD
theorem loadP {D : Nat → Nat → Int32} {n N : Nat} {tx : Nat → Nat} (hle : N ≤ n) (n6 : n ≤ 600) (D0 : Nat → Nat → Int32) : ∃ R : (Int32 × Nat) ⊕ (Nat → Nat → Int32), (∀ E, R = .inr E → WZ E 0 24600) ∧
    (∀ (sc : SC) (d : Nat) (g : Gs) (Φ : RS → Gs → Prop) (T : List Nat) (o k : Nat) (ea : Int32) (H : Nat → Nat → Nat → Int32), CLS g D T n o k ea tx H → At g 1 D0 → ROK D → (∀ c off, R = .inl (c, off) → ∀ g', FCW g g' → CLS g' D T 0 o k (nI off) tx H → Φ (.inl (some (vI c))) g') → (∀ E, R = .inr E → ∀ g' X Y, FCW g g' → EQD D X → EQD E Y → CLS g' Y T 0 (oN o k) (kN k) (-nI 1) tx (hN k H X) → Φ (.inl (some (vI (nI (nR E))))) g') → Rn sc (d + 1240) 95 [vR 0 20, vI (nI N)] g Φ) ∧
    (∀ (sc : SC) (d : Nat) (g : Gs) (Φ : RS → Gs → Prop) (T : List Nat) (k w : Nat) (ea : Int32) (H : Nat → Nat → Nat → Int32), REF g D T n k w ea tx H → (∀ c off, R = .inl (c, off) → ∀ g', FRF g g' → REF g' D T 0 k w (nI off) tx H → g'.1 0 70 0 = nI 0 → Φ (.inl (some (vI c))) g') → (∀ E, R = .inr E → ∀ g', FRF g g' → (∀ X Y, EQD D X → EQD E Y → REF g' Y T 0 (kN k) ((w + 1) % 9) (-nI 1) tx (hN k H X)) → g'.1 0 70 0 = nI 0 → Φ (.inl (some (vI (nI (nR E))))) g') → Rn sc (d + 1240) 195 [vR 0 70, vI (nI N)] g Φ) := by
  obtain ⟨R, hc, hE, hC, hR⟩ := textP (N := N) (tx := tx) (by omega) D0
  have iN : INR (nI N) (n + 1) := INR.nat (by omega) (by omega)
  refine ⟨R, hE, fun sc d g Φ T o k ea H h hA rk kf ks => ?_, fun sc d g Φ T k w ea H h kf ks => ?_⟩
  · refine Rn.of rfl (y95_0 (s96 h.2.2.1 n6 (fun _ => Or.inl ⟨rfl, ?_⟩) (fun q => absurd iN q)))
    refine s26 (tx := tx) (by omega) (fun t ht => h.2.2.2.1.2 t (by omega)) (fun g1 f1 q1 c1 => ⟨rfl, ?_⟩)
    have a1 : At g1 1 D0 := hA.fr f1 (by omega)
    refine hC sc (d + 27) g1 (fun g7 => ∀ G11 : Gm, G11 = u3 g7.1 0 20 1 (g7.1 0 21 7) → Φ (.inl (some (vI (G11 0 21 6)))) (G11, g7.2.1, g7.2.2)) _ c1 a1 (fun c off q g2 f2 x2 => ?_) (fun E q g2 f2 x7 a2 => ?_)
    · obtain ⟨x6, x7⟩ := x2
      intro G11 e11
      subst e11
      rw [u3_nc (by decide), x6]
      have fr : Fr (fun i c => i = 1 ∨ (i = 0 ∧ (c = 20 ∨ c = 21))) g (u3 g2.1 0 20 1 (g2.1 0 21 7), g2.2) := Fr.tr (Fr.tr (f1.wk fun i c q => by omega) (f2.1.wk fun i c q => by omega)) (Fr.u3 (Fr.rf g2) (by omega))
      exact kf c off q _ (FCW.of fr (fun i c q => by omega)) (h.fin fr (fun i c q => by omega) (by dsimp only; rw [u3_ek rfl]; exact x7) (by dsimp only; rw [u3_nc (by decide)]; exact f2.2.1.trans q1))
    · intro G17 e17
      have fr : Fr (fun i c => i = 1 ∨ (i = 0 ∧ (c = 20 ∨ c = 21))) g (G17, g2.2) := by
        rw [e17]
        exact Fr.tr (Fr.tr (f1.wk fun i c q => by omega) (f2.1.wk fun i c q => by omega)) (Fr.u3 (Fr.rf g2) (by omega))
      have c3 : CLS (G17, g2.2) D T 0 o k (-nI 1) tx H := h.fin fr (fun i c q => by omega) (by dsimp only; rw [e17, u3_ek rfl]; exact x7) (by dsimp only; rw [e17, u3_nc (by decide)]; exact f2.2.1.trans q1)
      have a3 : At (G17, g2.2) 1 E := fun c hc => by dsimp only; rw [e17, u3_rowc (by omega)]; exact a2 c hc
      refine s52I c3 rk (fun g4 X f4 i4 x4 c4 => ⟨rfl, ?_⟩)
      have a4 : At g4 1 E := fun c hc => (i4 c).trans (a3 c hc)
      have rkE : ROK E := (hE E q).f.cw.1
      refine s50 (i := 0) (j := 1) (E := D) (by decide) a4 c4.at rkE (fun g5 f5 a5 => ⟨rfl, ?_⟩)
      have e11 : g5.1 0 0 11 = nI (nR E) := by
        rw [a5 0 (by decide)]
        have := (aTk_EQ (D := E) (E := D)).rk rkE
        rw [this.1, (aTk_EQ (D := E) (E := D)).n]
      rw [e11]
      exact ks E q g5 X (aTk E D) ((FCW.of fr (fun i c q => by omega)).tr (f4.w.tr (FCW.of f5 (fun i c q => by omega)))) x4 aTk_EQ (c4.chg f5 a5 (fun i c q => by omega))
  · refine Rn.of rfl (y195_0 ?_)
    intro G1 e1
    obtain ⟨f1, h1, t1⟩ := h.z e1
    have m1 := h1.mc
    have w1 : G1 0 70 2 = nI w := m1.w
    have w9 := h1.2.1
    have e14 : G1 0 70 14 = nI n := h1.2.2.2.1
    rw [e14]
    refine s128r (n := n + 1) (by omega) (pre0 (by omega)) ⟨_, rfl, s134 (code := 1) t1 (Or.inl rfl) (fun hj => ⟨_, rfl, fun q => absurd q (by decide +kernel), fun _ => ?_⟩) (fun hj => absurd iN hj)⟩
    intro G10 e10 G11 e11 G12 e12 G13 e13
    have f13 : Fr (fun i c => i = 0 ∧ c = 70) (G1, g.2.1, g.2.2) (G13, g.2.1, g.2.2) := by
      rw [e13, e12, e11, e10]
      exact Fr.u3 (Fr.u3 (Fr.u3 (Fr.u3 (Fr.rf _) ⟨rfl, rfl⟩) ⟨rfl, rfl⟩) ⟨rfl, rfl⟩) ⟨rfl, rfl⟩
    have b13 : ∀ i c, ¬ (i = 0 ∧ c = 70) → G13 i c = G1 i c := f13.1
    have o13 : ∀ x, x ≠ 16 → x ≠ 14 → x ≠ 15 → x ≠ 2 → G13 0 70 x = G1 0 70 x := fun x x1 x2 x3 x4 => by rw [e13, u3_nk x4, e12, u3_nk x3, e11, u3_nk x2, e10, u3_nk x1]
    have c12 : G12 0 70 2 = nI w := by rw [e12, u3_nk (by decide), e11, u3_nk (by decide), e10, u3_nk (by decide)]; exact w1
    have c16 : G13 0 70 16 = nI N := by rw [e13, u3_nk (by decide), e12, u3_nk (by decide), e11, u3_nk (by decide), e10, u3_ek rfl]
    have c14 : G13 0 70 14 = nI 0 := by rw [e13, u3_nk (by decide), e12, u3_nk (by decide), e11, u3_ek rfl]
    have c15 : G13 0 70 15 = -nI 1 := by rw [e13, u3_nk (by decide), e12, u3_ek rfl]
    have c2 : G13 0 70 2 = nI 9 := by rw [e13, u3_ek rfl]
    rw [c12]
    refine clr c2 (fun g2 f2 k2 z2 => ?_)
    have b2 : ∀ i c, ¬ (i = 0 ∧ c = 71) → g2.1 i c = G13 i c := f2.1
    have e70 : g2.1 0 70 = G13 0 70 := b2 0 70 (by simp)
    have byr : BYR g2 tx N := ⟨by rw [e70]; exact c16, by omega, fun t ht => by rw [b2 0 78 (by simp), b13 0 78 (by simp)]; exact h1.2.2.2.2.1.2 t (by omega)⟩
    refine v195_54 ⟨fun q => absurd q (by decide +kernel), fun _ => ?_⟩
    -- the reference is as before, when the texts are read
    have bk : ∀ g3 : Gs, FP 9 g2 g3 → ∀ G6, G6 = u3 g3.1 0 70 2 (nI w) → FRF g (G6, g3.2.1, g3.2.2) ∧ REF (G6, g3.2.1, g3.2.2) D T 0 k w (-nI 1) tx H ∧ G6 0 70 0 = nI 0 := fun g3 f3 G6 e6 => by
      have b3 : ∀ i c, ¬ (i = 0 ∧ 70 ≤ c ∧ c ≤ 77) → g3.1 i c = g2.1 i c := f3.1.1
      have o3 : ∀ x, ¬ (x = 8 ∨ x = 11 ∨ x = 12 ∨ 17 ≤ x ∧ x ≤ 22) → g3.1 0 70 x = g2.1 0 70 x := f3.2.2
      have f6 : Fr (fun i c => i = 0 ∧ c = 70) g3 (G6, g3.2.1, g3.2.2) := by rw [e6]; exact Fr.u3 (Fr.rf _) ⟨rfl, rfl⟩
      have b6 : ∀ i c, ¬ (i = 0 ∧ c = 70) → G6 i c = g3.1 i c := f6.1
      have o6 : ∀ x, x ≠ 2 → G6 0 70 x = g3.1 0 70 x := fun x hx => by rw [e6, u3_nk hx]
      have o7 : ∀ x, x ≠ 2 → x ≠ 14 → x ≠ 15 → x ≠ 16 → ¬ (x = 8 ∨ x = 11 ∨ x = 12 ∨ 17 ≤ x ∧ x ≤ 22) → G6 0 70 x = G1 0 70 x := fun x h2 h14 h15 h16 hn => by
        rw [o6 x h2, o3 x hn, e70, o13 x h16 h14 h15 h2]
      have e71 : ∀ j, ¬ WIN 9 j → G6 0 71 j = G1 0 71 j := fun j hj => by
        rw [b6 0 71 (by simp), f3.2.1 j hj, k2 j hj]
        dsimp only
        rw [b13 0 71 (by simp)]
      have e80 : G6 0 80 = G1 0 80 := by rw [b6 0 80 (by simp), b3 0 80 (by omega), b2 0 80 (by simp), b13 0 80 (by simp)]
      refine ⟨f1.frf.tr ((FRF.of f13 (fun i c q => by omega)).tr ((FRF.of f2 (fun i c q => by omega)).tr ((FRF.of f3.1 (fun i c q => by omega)).tr (FRF.of f6 (fun i c q => by omega))))), ?_, (o7 0 (by decide) (by decide) (by decide) (by decide) (by decide)).trans t1⟩
      obtain ⟨p1, p2, p3, p4, p5, p6, p7, p8, p9⟩ := h1
      have mc : WH (G1 0 71) w D := ⟨p1.m, p1.r, p1.v, p1.vk⟩
      have mc6 : WH (G6 0 71) w D := mc.keep fun j hj => e71 j (by unfold WIN at hj ⊢; omega)
      refine ⟨⟨by dsimp only; rw [e6, u3_ek rfl], p1.2.1, mc6.1, mc6.2.1, mc6.2.2.1, mc6.2.2.2⟩, p2, ?_, ?_, ⟨by decide, fun t ht => by omega⟩, p6.fr (o7 27 (by decide) (by decide) (by decide) (by decide) (by decide)) e80, (o7 3 (by decide) (by decide) (by decide) (by decide) (by decide)).trans p7, p8, fun j hj => ?_⟩
      · exact (o6 15 (by decide)).trans ((o3 15 (by decide)).trans (by rw [e70]; exact c15))
      · exact (o6 14 (by decide)).trans ((o3 14 (by decide)).trans (by rw [e70]; exact c14))
      · exact (p9 j hj).keep fun i hi => e71 i (by unfold WIN at hi ⊢; omega)
    refine hR sc (d + 27) 9 g2 _ byr (hvr0 (by rw [e70]; exact c2) z2) (fun c off q g3 f3 r3 => ⟨rfl, ?_⟩) (fun E q g3 f3 e3 m3 => ⟨rfl, ?_⟩)
    · intro G6 e6
      obtain ⟨y1, y2, y3⟩ := bk g3 f3 G6 e6
      have c18 : G6 0 70 18 = c := by rw [e6, u3_nk (by decide)]; exact r3.2.1
      have c19 : G6 0 70 19 = nI off := by rw [e6, u3_nk (by decide)]; exact r3.2.2.2.1
      rw [c18]
      refine ⟨fun z => absurd z (hc c off q), fun _ => ?_⟩
      intro G14 e14
      have c18' : G14 0 70 18 = c := by rw [e14, u3_nk (by decide)]; exact c18
      rw [c18']
      have f14 : Fr (fun i c => i = 0 ∧ c = 70) (G6, g3.2.1, g3.2.2) (G14, g3.2.1, g3.2.2) := by rw [e14]; exact Fr.u3 (Fr.rf _) ⟨rfl, rfl⟩
      have o14 : ∀ x, x ≠ 15 → G14 0 70 x = G6 0 70 x := fun x hx => by rw [e14, u3_nk hx]
      refine kf c off q _ (y1.tr (FRF.of f14 (fun i c q => by omega))) (y2.fin (fun x hx => o14 x (by omega)) ((o14 14 (by decide)).trans y2.2.2.2.1) (by dsimp only; rw [e14, u3_ek rfl]; exact c19) (f14.1 0 71 (by simp)) (f14.1 0 80 (by simp))) ((o14 0 (by decide)).trans y3)
    · intro G6 e6
      obtain ⟨y1, y2, y3⟩ := bk g3 f3 G6 e6
      have c18 : G6 0 70 18 = nI 0 := by rw [e6, u3_nk (by decide)]; exact e3
      rw [c18]
      refine ⟨fun _ => ?_, fun z => absurd rfl z⟩
      refine s133 y2 (fun g7 f7 r7 b7 _ k7 => ⟨rfl, ?_⟩)
      obtain ⟨u, hu⟩ : ∃ u, u = (w + 1) % 9 := ⟨_, rfl⟩
      have m7 := (r7 D EQD.rf).mc
      rw [← hu] at r7 m7
      rw [m7.w]
      have hw9 : WH (g7.1 0 71) 9 E := by
        have : WH (g3.1 0 71) 9 E := ⟨m3.m, m3.r, m3.v, m3.vk⟩
        refine this.keep fun j hj => ?_
        have e7 := k7 j (by unfold WIN at hj; omega)
        rw [e7]
        dsimp only
        rw [e6, u3_rowc (by decide)]
      have rkE : ROK E := m3.r
      refine s132 (by decide) (by omega) (by omega) (fun g8 f8 c8 o8 => ⟨rfl, ?_⟩)
      have b8 : ∀ i c, ¬ (i = 0 ∧ c = 71) → g8.1 i c = g7.1 i c := f8.1
      have w8 : g8.1 0 70 2 = nI u := by rw [b8 0 70 (by simp)]; exact m7.w
      have hw8 : WH (g8.1 0 71) u E := hw9.same c8
      have e2 : g8.1 0 71 (780 * u + 2) = nI (nR E) := hw8.1.2.1.trans rkE.1
      have i1 : inb (nI 780 * g8.1 0 70 2 + nI 2) 7800 = true := by rw [w8]; simp (disch := omega) only [u3_nc, u3_ek, u3_nk, upd_e, upd_n, dU_nk, dU_nc, dU_e, nI_ltI, nI_eq, nI_clamp, nI_add, nI_mul, inb_nI, nI_neg1, nI_ne1, nI_n1e, nI_neg1e, Nat.not_lt_zero, Nat.lt_irrefl, true_and, and_true, true_implies, false_implies, not_true_eq_false, not_false_eq_true, implies_true, forall_const, if_true, if_false, Nat.reduceEqDiff, eq_self, Nat.one_ne_zero, Nat.zero_ne_one, Nat.zero_add, Nat.add_zero]
      have i2 : (nI 780 * g8.1 0 70 2 + nI 2).toNatClampNeg = 780 * u + 2 := by rw [w8]; simp (disch := omega) only [u3_nc, u3_ek, u3_nk, upd_e, upd_n, dU_nk, dU_nc, dU_e, nI_ltI, nI_eq, nI_clamp, nI_add, nI_mul, inb_nI, nI_neg1, nI_ne1, nI_n1e, nI_neg1e, Nat.not_lt_zero, Nat.lt_irrefl, true_and, and_true, true_implies, false_implies, not_true_eq_false, not_false_eq_true, implies_true, forall_const, if_true, if_false, Nat.reduceEqDiff, eq_self, Nat.one_ne_zero, Nat.zero_ne_one, Nat.zero_add, Nat.add_zero]
      refine ⟨i1, ?_⟩
      rw [i2, e2]
      refine ks E q g8 (y1.tr (f7.tr (FRF.of f8 (fun i c q => by omega)))) (fun X Y hX hY => ?_) (by rw [b8 0 70 (by simp)]; exact (b7 0 (by decide) (by decide)).trans y3)
      have hwY := hY.wh hw8
      rw [← hu]
      exact (r7 X hX).chg ⟨w8, by omega, hwY.1, hwY.2.1, hwY.2.2.1, hwY.2.2.2⟩ (fun z hz => by rw [b8 0 70 (by simp)]) (fun j hj => o8 j hj) (b8 0 78 (by simp)) (b8 0 80 (by simp))
