/-! CHANGES: mount, bind, move, unmount, make, copySpace, dropSpace -/
abbrev CN := (Nat × Nat) ⊕ (Int32 × (Nat → Nat → Int32))
def KCC (g : Gs) (D : Nat → Nat → Int32) (T : List Nat) (n o k : Nat) (ea : Int32) (tx : Nat → Nat) (H : Nat → Nat → Nat → Int32) (b : CN) (Φ : RS → Gs → Prop) : Prop := (∀ e c, b = .inl (e, c) → ∀ g', FCX g g' → CLS g' D T n o k ea tx H → Φ (.inr e) g') ∧ ∀ v E, b = .inr (v, E) → ∀ g' X, FCW g g' → EQD D X → CLS g' E T n (oN o k) (kN k) ea tx (hN k H X) → Φ (.inl (some (vI v))) g'
def KRC (g : Gs) (D : Nat → Nat → Int32) (T : List Nat) (n k w : Nat) (ea : Int32) (tx : Nat → Nat) (H : Nat → Nat → Nat → Int32) (b : CN) (Φ : RS → Gs → Prop) : Prop := (∀ e c, b = .inl (e, c) → ∀ g' r, FRF g g' → REF g' D T n k w ea tx H → g'.1 0 70 0 = nI c → Φ (.inl (some (vI r))) g') ∧ ∀ v E, b = .inr (v, E) → ∀ g', FRF g g' → (∀ X, EQD D X → REF g' E T n (kN k) ((w + 1) % 9) ea tx (hN k H X)) → g'.1 0 70 0 = nI 0 → Φ (.inl (some (vI v))) g'
section CG
variable {g g' : Gs} {Φ : RS → Gs → Prop} {D E : Nat → Nat → Int32} {T : List Nat} {n o k w : Nat} {ea : Int32} {tx : Nat → Nat} {H : Nat → Nat → Nat → Int32} {b : CN}
theorem KCC.x (K : KCC g D T n o k ea tx H b Φ) (h : CLS g D T n o k ea tx H) {e c : Nat} (q : b = .inl (e, c)) : Φ (.inr e) (g.1, g.2.1, g.2.2 + 1) := K.1 e c q _ (FCX.t g) (h.cw fun _ _ _ => rfl)
theorem CLS.chg {P : Nat → Nat → Prop} (h : CLS g D T n o k ea tx H) (f : Fr P g g') (hA : At g' 0 E) (hp : ∀ i c, P i c → (i = 0 ∧ c < 16) ∨ (23 ≤ c ∧ c ≤ 54)) : CLS g' E T n o k ea tx H := by
  obtain ⟨h1, h2, h3, h4, h5, h6, h7, h8, h9, h10⟩ := h
  have e : ∀ i c, ¬ ((i = 0 ∧ c < 16) ∨ (23 ≤ c ∧ c ≤ 54)) → g'.1 i c = g.1 i c := fun i c hn => f.1 i c (fun q => hn (hp i c q))
  refine ⟨hA, by rw [e 0 20 (by omega)]; exact h2, by rw [e 0 21 (by omega)]; exact h3, ⟨h4.1, fun t ht => by rw [e 0 22 (by omega)]; exact h4.2 t ht⟩, ?_, by rw [e 0 62 (by omega)]; exact h6, h7, by rw [e 0 62 (by omega)]; exact h8, h9, fun j hj c hc => by rw [e _ c (by omega)]; exact h10 j hj c hc⟩
  unfold TXC
  rw [e 0 55 (by omega), e 0 58 (by omega)]
  exact h5
theorem REF.chg (h : REF g D T n k w ea tx H) (m : MC g' w E) (e70 : ∀ z, (z = 3 ∨ z = 14 ∨ z = 15 ∨ z = 27) → g'.1 0 70 z = g.1 0 70 z) (e71 : ∀ j, ¬ WIN w j → g'.1 0 71 j = g.1 0 71 j) (e78 : g'.1 0 78 = g.1 0 78) (e80 : g'.1 0 80 = g.1 0 80) : REF g' E T n k w ea tx H := by
  obtain ⟨h1, h2, h3, h4, h5, h6, h7, h8, h9⟩ := h
  refine ⟨m, h2, (e70 15 (by omega)).trans h3, (e70 14 (by omega)).trans h4, ⟨h5.1, fun t ht => by rw [e78]; exact h5.2 t ht⟩, h6.fr (e70 27 (by omega)) e80, (e70 3 (by omega)).trans h7, h8, fun j hj => (h9 j hj).keep fun i hi => e71 i ?_⟩
  unfold WIN at hi ⊢
  omega
theorem REF.fR (h : REF g D T n k w ea tx H) (m : MC g' w E) (f : FR w g g') : REF g' E T n k w ea tx H := h.chg m (fun z hz => f.2.2 z (by omega)) (fun j hj => f.2.1 j (fun q => hj (by unfold MW at q; unfold WIN; omega))) (f.1.1 0 78 (by simp)) (f.1.1 0 80 (by simp))
theorem FR.frf (f : FR w g g') : FRF g g' := FRF.of f.1 (fun i c q => by omega)
theorem REF.fM (h : REF g D T n k w ea tx H) (m : MC g' w E) (f : Fm w g g') : REF g' E T n k w ea tx H := h.chg m (fun z hz => by rw [f.1.1 0 70 (by simp)]) (fun j hj => f.2 j (fun q => hj (by unfold MW at q; unfold WIN; omega))) (f.1.1 0 78 (by simp)) (f.1.1 0 80 (by simp))
theorem Fm.frf (f : Fm w g g') : FRF g g' := FRF.of f.1 (fun i c q => by omega)
theorem REF.fS (h : REF g D T n k w ea tx H) (m : MC g' w E) (f : FS w g g') : REF g' E T n k w ea tx H := h.chg m (fun z hz => by rw [f.1.1 0 70 (by simp)]) (fun j hj => f.2 j (fun q => hj (by unfold MW at q; unfold WIN; omega))) (f.1.1 0 78 (by simp)) (f.1.1 0 80 (by simp))
theorem FS.frf (f : FS w g g') : FRF g g' := FRF.of f.1 (fun i c q => by omega)
theorem EQD.rf : EQD D D := ⟨fun _ _ _ => rfl, rfl, fun _ _ _ _ => rfl, fun _ _ _ _ => rfl, fun _ _ _ _ _ => rfl⟩
end CG
noncomputable def bMnt (D : Nat → Nat → Int32) (a b v : Int32) : CN := match pl9 D a b with
  | none => .inl (3, 1)
  | some r => if INR v (nV D) then .inr (aMnt D r v b) else .inl (2, 2)
noncomputable def bBnd (D : Nat → Nat → Int32) (a b c e : Int32) : CN := match pl9 D a b with
  | none => .inl (3, 1)
  | some s => match pl9 D c e with
    | none => .inl (3, 1)
    | some r => .inr (aBd D s b r e)
noncomputable def bMov (D : Nat → Nat → Int32) (a c e : Int32) : CN := match rw9 D a with
  | none => .inl (3, 1)
  | some x => match pl9 D c e with
    | none => .inl (3, 1)
    | some r => .inr (aMov D x r e)
noncomputable def bUnm (D : Nat → Nat → Int32) (a : Int32) : CN := match rw9 D a with
  | none => .inl (3, 1)
  | some x => .inr (aUnm D x)
def bMak (D : Nat → Nat → Int32) (a kd : Int32) : CN := match rw9 D a with
  | none => .inl (3, 1)
  | some x => if INR kd 4 then .inr (aMak D x kd 12 x, aMak D x kd) else .inl (0, 2)
def bCps (D : Nat → Nat → Int32) (sp : Int32) (lk : Bool) : CN := if INR sp (sN D) then .inr (aCps D sp lk) else .inl (2, 1)
noncomputable def bDrp (D : Nat → Nat → Int32) : CN := if 1 < sN D then .inr (nI (nR (aDrp D)), aDrp D) else .inl (1, 1)
theorem aMak_n {D : Nat → Nat → Int32} {x : Nat} {kd : Int32} : nR (aMak D x kd) = nR D := by
  unfold aMak
  repeat' split
  all_goals (repeat rw [nR_dU (by omega)])
section WB
variable {D E : Nat → Nat → Int32} {M B : Nat} {v : Int32}
theorem bMnt_wz {a b c : Int32} (h : WZ D M B) (hB : B + 100 < 2 ^ 30) (hM : M + 200 < 2 ^ 31) (q : bMnt D a b c = .inr (v, E)) : WZ E (M + 41) (B + 41) := by
  have v4 := h.f.cw.2.1.2.1
  unfold bMnt at q
  cases e : pl9 D a b with
  | none => rw [e] at q; cases q
  | some r =>
    rw [e] at q
    dsimp only at q
    split at q
    · rename_i hi
      injection q with q
      obtain ⟨hr, hd⟩ := pl9_some e
      have := h.mnt hB hr (INR.of hi (by omega)) hd
      rw [q] at this
      exact this.mono (by omega) (Nat.le_refl _) (by omega)
    · cases q
theorem bBnd_wz {a b c e : Int32} (h : WZ D M B) (hB : B + 100 < 2 ^ 30) (hM : M + 200 < 2 ^ 31) (q : bBnd D a b c e = .inr (v, E)) : WZ E (M + 41) (B + 41) := by
  unfold bBnd at q
  cases e1 : pl9 D a b with
  | none => rw [e1] at q; cases q
  | some s =>
    rw [e1] at q
    dsimp only at q
    cases e2 : pl9 D c e with
    | none => rw [e2] at q; cases q
    | some r =>
      rw [e2] at q
      injection q with q
      obtain ⟨hs, ht⟩ := pl9_some e1
      obtain ⟨hr, hd⟩ := pl9_some e2
      have := h.bd hB hr hs ht hd
      rw [q] at this
      exact this.mono (by omega) (Nat.le_refl _) (by omega)
theorem bMov_wz {a c e : Int32} (h : WZ D M B) (hB : B + 100 < 2 ^ 30) (hM : M + 200 < 2 ^ 31) (q : bMov D a c e = .inr (v, E)) : WZ E (M + 41) (B + 41) := by
  unfold bMov at q
  cases e1 : rw9 D a with
  | none => rw [e1] at q; cases q
  | some s =>
    rw [e1] at q
    dsimp only at q
    cases e2 : pl9 D c e with
    | none => rw [e2] at q; cases q
    | some r =>
      rw [e2] at q
      injection q with q
      obtain ⟨hr, hd⟩ := pl9_some e2
      have := h.mov hB (rw9_some e1).1 hr hd
      rw [q] at this
      exact this.mono (by omega) (Nat.le_refl _) (by omega)
theorem bUnm_wz {a : Int32} (h : WZ D M B) (hM : M + 200 < 2 ^ 31) (q : bUnm D a = .inr (v, E)) : WZ E (M + 41) (B + 41) := by
  unfold bUnm at q
  cases e1 : rw9 D a with
  | none => rw [e1] at q; cases q
  | some s =>
    rw [e1] at q
    injection q with q
    have := h.unm (rw9_some e1).1 hM
    rw [q] at this
    exact this.mono (Nat.le_refl _) (by omega) (by omega)
theorem bMak_wz {a kd : Int32} (h : WZ D M B) (hB : B + 100 < 2 ^ 30) (hM : M + 200 < 2 ^ 31) (q : bMak D a kd = .inr (v, E)) : WZ E (M + 41) (B + 41) := by
  unfold bMak at q
  cases e1 : rw9 D a with
  | none => rw [e1] at q; cases q
  | some s =>
    rw [e1] at q
    dsimp only at q
    split at q
    · injection q with q
      injection q with _ q
      rw [← q]
      exact (h.mak hB (rw9_some e1).1).mono (by omega) (Nat.le_refl _) (by omega)
    · cases q
theorem bCps_wz {sp : Int32} {lk : Bool} (h : WZ D M B) (hM : M + 200 < 2 ^ 31) (q : bCps D sp lk = .inr (v, E)) : WZ E (M + 41) (B + 41) := by
  obtain ⟨s1, s2, s3, _⟩ := h.f.spk
  unfold bCps at q
  split at q
  · rename_i hi
    injection q with q
    obtain ⟨z, hz, rfl⟩ := INR.of hi (by omega)
    have := h.cps (sp := nI z) (lk := lk) ⟨z, rfl, fun s hs h4 => by
      rw [s1, nI_eq (by omega) (by omega)] at hs
      omega⟩
    rw [q] at this
    exact this.mono (by omega) (by omega) (by omega)
  · cases q
theorem bDrp_wz (h : WZ D M B) (hM : M + 200 < 2 ^ 31) (q : bDrp D = .inr (v, E)) : WZ E (M + 41) (B + 41) := by
  obtain ⟨s1, s2, s3, _⟩ := h.f.spk
  unfold bDrp at q
  split at q
  · rename_i hi
    injection q with q
    injection q with _ q
    rw [← q]
    obtain ⟨t, ht⟩ : ∃ t, sN D = t + 1 := ⟨sN D - 1, by omega⟩
    rw [ht] at s1
    exact (h.drp1 s1 (by omega) (by omega) hM).mono (by omega) (by omega) (by omega)
  · cases q
end WB
section CQ
variable {sc : SC} {d n o k w M B : Nat} {g g' : Gs} {Φ : RS → Gs → Prop} {D : Nat → Nat → Int32} {T : List Nat} {ea a b c e : Int32} {tx : Nat → Nat} {H : Nat → Nat → Nat → Int32}
theorem q115 (h : CLS g D T n o k ea tx H) (wf : WF D M B) (hB : B < 2 ^ 30) (K : KCC g D T n o k ea tx H (bMnt D a b c) Φ) : Rn sc (d + 20) 115 [vR 0 20, vI a, vI b, vI c] g Φ := by
  have v4 := wf.cw.2.1.2.1
  refine Rn.of rfl (y115_0 (s104 h.at wf.cw (fun r er => Or.inl ⟨_, rfl, ?_⟩) (fun er => Or.inr ⟨_, rfl, K.x h (by unfold bMnt; rw [er])⟩)))
  have eb : bMnt D a b c = if INR c (nV D) then .inr (aMnt D r c b) else .inl (2, 2) := by unfold bMnt; rw [er]
  have hr := (pl9_some er).1
  refine s101 h.at wf.cw.2.1 (fun hi => Or.inl ⟨rfl, ?_⟩) (fun hi => Or.inr ⟨_, rfl, K.x h (eb.trans (if_neg hi))⟩)
  refine s52 h wf.cw.1 (fun g1 X f1 x1 c1 => ⟨rfl, ?_⟩)
  refine s1 rfl c1.at wf.cw wf.gn (wf.gb hB) hr (INR.of hi (by omega)) (fun g2 a2 f2 => ⟨_, rfl, ?_⟩)
  exact K.2 _ _ (eb.trans (if_pos hi)) g2 X (f1.w.tr (FCW.of f2 (fun i c q => by omega))) x1 (c1.chg f2 a2 (fun i c q => by omega))
theorem q220 (h : REF g D T n k w ea tx H) (wf : WF D M B) (hB : B < 2 ^ 30) (K : KRC g D T n k w ea tx H (bMnt D a b c) Φ) : Rn sc (d + 20) 220 [vR 0 70, vI a, vI b, vI c] g Φ := by
  have v4 := wf.cw.2.1.2.1
  refine Rn.of rfl (y220_0 ?_)
  intro G1 e1
  obtain ⟨f1, h1, t1⟩ := h.z e1
  refine s203p h1.mc wf.cw t1 (fun r er => ⟨fun _ => ?_, fun q => absurd rfl q⟩) (fun er q g' f t => ⟨fun q => absurd q (by decide +kernel), fun _ => K.1 3 1 (by unfold bMnt; rw [er]) g' _ (f1.tr f).frf (h1.th f) t⟩)
  have eb : bMnt D a b c = if INR c (nV D) then .inr (aMnt D r c b) else .inl (2, 2) := by unfold bMnt; rw [er]
  have hr := (pl9_some er).1
  refine s200 (code := 2) h1.mc t1 (Or.inr rfl) (fun hi => ⟨_, rfl, fun _ => ?_, fun q => absurd rfl q⟩) (fun hi g' f t => ⟨_, rfl, fun q => absurd q (by decide +kernel), fun _ => K.1 2 2 (eb.trans (if_neg hi)) g' _ (f1.tr f).frf (h1.th f) t⟩)
  refine s133 h1 (fun g2 f2 r2 b2 _ _ => ⟨rfl, ?_⟩)
  refine s162 (r2 D EQD.rf).mc wf.cw wf.gn (wf.gb hB) hr (INR.of hi (by omega)) (fun g3 m3 f3 => ⟨_, rfl, ?_⟩)
  exact K.2 _ _ (eb.trans (if_pos hi)) g3 (f1.frf.tr (f2.tr f3.frf)) (fun X hX => (r2 X hX).fR m3 f3) ((f3.2.2 0 (by decide)).trans ((b2 0 (by decide) (by decide)).trans t1))
theorem q116 (h : CLS g D T n o k ea tx H) (wf : WF D M B) (hB : B < 2 ^ 30) (K : KCC g D T n o k ea tx H (bBnd D a b c e) Φ) : Rn sc (d + 20) 116 [vR 0 20, vI a, vI b, vI c, vI e] g Φ := by
  refine Rn.of rfl (y116_0 (s104 h.at wf.cw (fun s es => Or.inl ⟨_, rfl, ?_⟩) (fun es => Or.inr ⟨_, rfl, K.x h (by unfold bBnd; rw [es])⟩)))
  refine s104 h.at wf.cw (fun r er => Or.inl ⟨_, rfl, ?_⟩) (fun er => Or.inr ⟨_, rfl, K.x h (by unfold bBnd; rw [es]; dsimp only; rw [er])⟩)
  obtain ⟨hs, ht⟩ := pl9_some es
  obtain ⟨hr, hd⟩ := pl9_some er
  refine s52 h wf.cw.1 (fun g1 X f1 x1 c1 => ⟨rfl, ?_⟩)
  refine s2 rfl c1.at wf.cw wf.gn (wf.gb hB) hr hs (hasD_lt ht).2 (fun g2 a2 f2 => ⟨_, rfl, ?_⟩)
  exact K.2 _ _ (by unfold bBnd; rw [es]; dsimp only; rw [er]) g2 X (f1.w.tr (FCW.of f2 (fun i c q => by omega))) x1 (c1.chg f2 a2 (fun i c q => by omega))
theorem q221 (h : REF g D T n k w ea tx H) (wf : WF D M B) (hB : B < 2 ^ 30) (K : KRC g D T n k w ea tx H (bBnd D a b c e) Φ) : Rn sc (d + 20) 221 [vR 0 70, vI a, vI b, vI c, vI e] g Φ := by
  refine Rn.of rfl (y221_0 ?_)
  intro G1 e1
  obtain ⟨f1, h1, t1⟩ := h.z e1
  refine s203p h1.mc wf.cw t1 (fun s es => ⟨fun _ => ?_, fun q => absurd rfl q⟩) (fun es q g' f t => ⟨fun q => absurd q (by decide +kernel), fun _ => K.1 3 1 (by unfold bBnd; rw [es]) g' _ (f1.tr f).frf (h1.th f) t⟩)
  refine s203p h1.mc wf.cw t1 (fun r er => ⟨fun _ => ?_, fun q => absurd rfl q⟩) (fun er q g' f t => ⟨fun q => absurd q (by decide +kernel), fun _ => K.1 3 1 (by unfold bBnd; rw [es]; dsimp only; rw [er]) g' _ (f1.tr f).frf (h1.th f) t⟩)
  obtain ⟨hs, ht⟩ := pl9_some es
  obtain ⟨hr, hd⟩ := pl9_some er
  refine s133 h1 (fun g2 f2 r2 b2 _ _ => ⟨rfl, ?_⟩)
  refine s163 (r2 D EQD.rf).mc wf.cw wf.gn (wf.gb hB) wf.bt hr hs (hasD_lt ht).2 (fun g3 m3 f3 => ⟨_, rfl, ?_⟩)
  exact K.2 _ _ (by unfold bBnd; rw [es]; dsimp only; rw [er]) g3 (f1.frf.tr (f2.tr f3.frf)) (fun X hX => (r2 X hX).fR m3 f3) ((f3.2.2 0 (by decide)).trans ((b2 0 (by decide) (by decide)).trans t1))
theorem q117 (h : CLS g D T n o k ea tx H) (wf : WF D M B) (hB : B < 2 ^ 30) (K : KCC g D T n o k ea tx H (bMov D a c e) Φ) : Rn sc (d + 20) 117 [vR 0 20, vI a, vI c, vI e] g Φ := by
  refine Rn.of rfl (y117_0 (s103 h.at wf.cw.1 (fun s es => Or.inl ⟨_, rfl, ?_⟩) (fun es => Or.inr ⟨_, rfl, K.x h (by unfold bMov; rw [es])⟩)))
  refine s104 h.at wf.cw (fun r er => Or.inl ⟨_, rfl, ?_⟩) (fun er => Or.inr ⟨_, rfl, K.x h (by unfold bMov; rw [es]; dsimp only; rw [er])⟩)
  have hs := (rw9_some es).1
  obtain ⟨hr, hd⟩ := pl9_some er
  refine s52 h wf.cw.1 (fun g1 X f1 x1 c1 => ⟨rfl, ?_⟩)
  refine s3 rfl c1.at wf.cw wf.gn (wf.gb hB) wf.ok wf.uq hr hs (fun g2 a2 f2 => ⟨_, rfl, ?_⟩)
  exact K.2 _ _ (by unfold bMov; rw [es]; dsimp only; rw [er]) g2 X (f1.w.tr (FCW.of f2 (fun i c q => by omega))) x1 (c1.chg f2 a2 (fun i c q => by omega))
theorem q222 (h : REF g D T n k w ea tx H) (wf : WF D M B) (hB : B < 2 ^ 30) (K : KRC g D T n k w ea tx H (bMov D a c e) Φ) : Rn sc (d + 20) 222 [vR 0 70, vI a, vI c, vI e] g Φ := by
  refine Rn.of rfl (y222_0 ?_)
  intro G1 e1
  obtain ⟨f1, h1, t1⟩ := h.z e1
  refine s203 h1.mc t1 (fun s es => ⟨_, rfl, fun _ => ?_, fun q => absurd t1 q⟩) (fun es g' f t => ⟨_, rfl, fun q => absurd (t.symm.trans q) (by decide +kernel), fun _ => K.1 3 1 (by unfold bMov; rw [es]) g' _ (f1.tr f).frf (h1.th f) t⟩)
  refine s203p h1.mc wf.cw t1 (fun r er => ⟨fun _ => ?_, fun q => absurd rfl q⟩) (fun er q g' f t => ⟨fun q => absurd q (by decide +kernel), fun _ => K.1 3 1 (by unfold bMov; rw [es]; dsimp only; rw [er]) g' _ (f1.tr f).frf (h1.th f) t⟩)
  have hs := (rw9_some es).1
  obtain ⟨hr, hd⟩ := pl9_some er
  refine s133 h1 (fun g2 f2 r2 b2 _ _ => ⟨rfl, ?_⟩)
  refine s165 (r2 D EQD.rf).mc wf.cw wf.gn (wf.gb hB) wf.bt wf.ok wf.rk wf.uq hr hs (fun g3 m3 f3 => ⟨_, rfl, ?_⟩)
  exact K.2 _ _ (by unfold bMov; rw [es]; dsimp only; rw [er]) g3 (f1.frf.tr (f2.tr f3.frf)) (fun X hX => (r2 X hX).fR m3 f3) ((f3.2.2 0 (by decide)).trans ((b2 0 (by decide) (by decide)).trans t1))
theorem q118 (h : CLS g D T n o k ea tx H) (wf : WF D M B) (K : KCC g D T n o k ea tx H (bUnm D a) Φ) : Rn sc (d + 20) 118 [vR 0 20, vI a] g Φ := by
  refine Rn.of rfl (y118_0 (s103 h.at wf.cw.1 (fun s es => Or.inl ⟨_, rfl, ?_⟩) (fun es => Or.inr ⟨_, rfl, K.x h (by unfold bUnm; rw [es])⟩)))
  have hs := (rw9_some es).1
  refine s52 h wf.cw.1 (fun g1 X f1 x1 c1 => ⟨rfl, ?_⟩)
  refine s11 rfl c1.at wf.cw hs (wf.ok s hs) (fun g2 a2 f2 => ⟨_, rfl, ?_⟩)
  exact K.2 _ _ (by unfold bUnm; rw [es]) g2 X (f1.w.tr (FCW.of f2 (fun i c q => by omega))) x1 (c1.chg f2 a2 (fun i c q => by omega))
theorem q223 (h : REF g D T n k w ea tx H) (wf : WF D M B) (K : KRC g D T n k w ea tx H (bUnm D a) Φ) : Rn sc (d + 20) 223 [vR 0 70, vI a] g Φ := by
  refine Rn.of rfl (y223_0 ?_)
  intro G1 e1
  obtain ⟨f1, h1, t1⟩ := h.z e1
  refine s203 h1.mc t1 (fun s es => ⟨_, rfl, fun _ => ?_, fun q => absurd t1 q⟩) (fun es g' f t => ⟨_, rfl, fun q => absurd (t.symm.trans q) (by decide +kernel), fun _ => K.1 3 1 (by unfold bUnm; rw [es]) g' _ (f1.tr f).frf (h1.th f) t⟩)
  have hs := (rw9_some es).1
  refine s133 h1 (fun g2 f2 r2 b2 _ _ => ⟨rfl, ?_⟩)
  refine s167 (r2 D EQD.rf).mc wf.cw wf.gn wf.bt hs (wf.ok s hs) (fun g3 m3 f3 => ⟨_, rfl, ?_⟩)
  exact K.2 _ _ (by unfold bUnm; rw [es]) g3 (f1.frf.tr (f2.tr f3.frf)) (fun X hX => (r2 X hX).fR m3 f3) ((f3.2.2 0 (by decide)).trans ((b2 0 (by decide) (by decide)).trans t1))
theorem q119 (h : CLS g D T n o k ea tx H) (wf : WF D M B) (K : KCC g D T n o k ea tx H (bMak D a c) Φ) : Rn sc (d + 20) 119 [vR 0 20, vI a, vI c] g Φ := by
  have le := INR.le (a := c) (n := 3) (by decide)
  refine Rn.of rfl (y119_0 (s103 h.at wf.cw.1 (fun s es => Or.inl ⟨_, rfl, ?_⟩) (fun es => Or.inr ⟨_, rfl, K.x h (by unfold bMak; rw [es])⟩)))
  have hs := (rw9_some es).1
  have eb : bMak D a c = if INR c 4 then .inr (aMak D s c 12 s, aMak D s c) else .inl (0, 2) := by unfold bMak; rw [es]
  refine ⟨fun q => K.x h (eb.trans (if_neg fun z => z.1 q)), fun q0 => ⟨fun q => K.x h (eb.trans (if_neg fun z => (le.mpr z).2 q)), fun q => ?_⟩⟩
  refine s52 h wf.cw.1 (fun g1 X f1 x1 c1 => ⟨rfl, ?_⟩)
  refine s13 rfl c1.at wf.cw.1 hs (fun g2 a2 f2 => ⟨_, rfl, ?_⟩)
  exact K.2 _ _ (eb.trans (if_pos (le.mp ⟨q0, q⟩))) g2 X (f1.w.tr (FCW.of f2 (fun i c q => by omega))) x1 (c1.chg f2 a2 (fun i c q => by omega))
theorem q224 (h : REF g D T n k w ea tx H) (wf : WF D M B) (K : KRC g D T n k w ea tx H (bMak D a c) Φ) : Rn sc (d + 20) 224 [vR 0 70, vI a, vI c] g Φ := by
  have n40 := wf.n40
  refine Rn.of rfl (y224_0 ?_)
  intro G1 e1
  obtain ⟨f1, h1, t1⟩ := h.z e1
  refine s203 h1.mc t1 (fun s es => ⟨_, rfl, ?_⟩) (fun es g' f t => ⟨_, rfl, ?_⟩)
  · have hs := (rw9_some es).1
    have eb : bMak D a c = if INR c 4 then .inr (aMak D s c 12 s, aMak D s c) else .inl (0, 2) := by unfold bMak; rw [es]
    refine s128r3 ⟨_, rfl, s134 (code := 2) t1 (Or.inr rfl) (fun hi => ⟨_, rfl, fun q => absurd q (by decide +kernel), fun _ => ?_⟩) (fun hi g' f t => ⟨_, rfl, fun _ => K.1 0 2 (eb.trans (if_neg hi)) g' _ (f1.tr f).frf (h1.th f) t, fun q => absurd rfl q⟩)⟩
    refine s133 h1 (fun g2 f2 r2 b2 _ _ => ⟨rfl, ?_⟩)
    refine s169 (r2 D EQD.rf).mc wf.gn hs (fun g3 m3 f3 => ⟨rfl, ?_⟩)
    have w10 := m3.l
    have w3 := m3.w
    have n3 : nR (aMak D s c) = nR D := aMak_n
    have e3 := m3.m.2.2.2.2 s (by rw [n3]; exact hs) 6 (by decide)
    have hK := K.2 _ _ (eb.trans (if_pos hi)) g3 (f1.frf.tr (f2.tr f3.frf)) (fun X hX => (r2 X hX).fM m3 f3) (by rw [f3.1.1 0 70 (by simp)]; exact (b2 0 (by decide) (by decide)).trans t1)
    rw [show aMak D s c 12 s = g3.1 0 71 (780 * ((w + 1) % 9) + (369 + 10 * s + 6)) from e3.symm] at hK
    simp (disch := omega) only [u3_nc, u3_ek, u3_nk, upd_e, upd_n, dU_nk, dU_nc, dU_e, nI_ltI, nI_eq, nI_clamp, nI_add, nI_mul, inb_nI, nI_neg1, nI_ne1, nI_n1e, nI_neg1e, Nat.not_lt_zero, Nat.lt_irrefl, true_and, and_true, true_implies, false_implies, not_true_eq_false, not_false_eq_true, implies_true, forall_const, if_true, if_false, Nat.reduceEqDiff, eq_self, Nat.one_ne_zero, Nat.zero_ne_one, Nat.zero_add, Nat.add_zero, w3]
    exact hK
  · refine s128r3 ⟨_, rfl, s134x (by rw [t]; decide +kernel) ⟨_, rfl, fun _ => ?_, fun q => absurd rfl q⟩⟩
    exact K.1 3 1 (by unfold bMak; rw [es]) g' _ (f1.tr f).frf (h1.th f) t
theorem q120 (lk : Bool) (h : CLS g D T n o k ea tx H) (wf : WF D M B) (K : KCC g D T n o k ea tx H (bCps D a lk) Φ) : Rn sc (d + 20) 120 [vR 0 20, vI a, vI (if lk = true then nI 1 else nI 0)] g Φ := by
  obtain ⟨s1, s2, s3, s4, s5⟩ := wf.spk
  refine Rn.of rfl (y120_0 (s108 h.at s1 (fun hi => Or.inl ⟨rfl, ?_⟩) (fun hi => Or.inr ⟨_, rfl, K.x h (if_neg hi)⟩)))
  refine s52 h wf.cw.1 (fun g1 X f1 x1 c1 => ⟨rfl, ?_⟩)
  refine s15 (lk := lk) rfl c1.at wf.cw wf.ok wf.spn wf.sc (fun g2 a2 f2 => ⟨_, rfl, ?_⟩)
  exact K.2 _ _ (if_pos hi) g2 X (f1.w.tr (FCW.of f2 (fun i c q => by omega))) x1 (c1.chg f2 a2 (fun i c q => by omega))
theorem q225 (lk : Bool) (h : REF g D T n k w ea tx H) (wf : WF D M B) (K : KRC g D T n k w ea tx H (bCps D a lk) Φ) : Rn sc (d + 20) 225 [vR 0 70, vI a, vI (if lk = true then nI 1 else nI 0)] g Φ := by
  obtain ⟨s1, s2, s3, s4, s5⟩ := wf.spk
  have w10 := h.mc.l
  refine Rn.of rfl (y225_0 ?_)
  intro G1 e1
  obtain ⟨f1, h1, t1⟩ := h.z e1
  have m1 := h1.mc
  have w1 : G1 0 70 2 = nI w := m1.w
  have e2 : G1 0 71 (780 * w + 1) = nI (sN D) := m1.m.1.trans s1
  have i1 : inb (nI 780 * G1 0 70 2 + nI 1) 7800 = true := by rw [w1]; simp (disch := omega) only [u3_nc, u3_ek, u3_nk, upd_e, upd_n, dU_nk, dU_nc, dU_e, nI_ltI, nI_eq, nI_clamp, nI_add, nI_mul, inb_nI, nI_neg1, nI_ne1, nI_n1e, nI_neg1e, Nat.not_lt_zero, Nat.lt_irrefl, true_and, and_true, true_implies, false_implies, not_true_eq_false, not_false_eq_true, implies_true, forall_const, if_true, if_false, Nat.reduceEqDiff, eq_self, Nat.one_ne_zero, Nat.zero_ne_one, Nat.zero_add, Nat.add_zero]
  have i2 : (nI 780 * G1 0 70 2 + nI 1).toNatClampNeg = 780 * w + 1 := by rw [w1]; simp (disch := omega) only [u3_nc, u3_ek, u3_nk, upd_e, upd_n, dU_nk, dU_nc, dU_e, nI_ltI, nI_eq, nI_clamp, nI_add, nI_mul, inb_nI, nI_neg1, nI_ne1, nI_n1e, nI_neg1e, Nat.not_lt_zero, Nat.lt_irrefl, true_and, and_true, true_implies, false_implies, not_true_eq_false, not_false_eq_true, implies_true, forall_const, if_true, if_false, Nat.reduceEqDiff, eq_self, Nat.one_ne_zero, Nat.zero_ne_one, Nat.zero_add, Nat.add_zero]
  refine ⟨i1, ?_⟩
  rw [i2, e2]
  refine s128r (n := sN D) (by omega) (pre1 (by omega)) ⟨_, rfl, s134 (code := 1) t1 (Or.inl rfl) (fun hb => ⟨_, rfl, fun q => absurd q (by decide +kernel), fun _ => ?_⟩) (fun hb g' f t => ⟨_, rfl, fun _ => K.1 2 1 (if_neg hb) g' _ (f1.tr f).frf (h1.th f) t, fun q => absurd rfl q⟩)⟩
  refine s133 h1 (fun g2 f2 r2 b2 _ _ => ⟨rfl, ?_⟩)
  refine s172 (lk := lk) (r2 D EQD.rf).mc wf.cw wf.gn wf.ok wf.spn wf.sc wf.rt (fun g3 m3 f3 => ⟨_, rfl, ?_⟩)
  exact K.2 _ _ (if_pos hb) g3 (f1.frf.tr (f2.tr f3.frf)) (fun X hX => (r2 X hX).fS m3 f3) (by rw [f3.1.1 0 70 (by simp)]; exact (b2 0 (by decide) (by decide)).trans t1)
theorem q121 (h : CLS g D T n o k ea tx H) (wf : WF D M B) (K : KCC g D T n o k ea tx H (bDrp D) Φ) : Rn sc (d + 20) 121 [vR 0 20] g Φ := by
  obtain ⟨s1, s2, s3, s4, s5⟩ := wf.spk
  have e : g.1 0 0 12 = nI (sN D) := h.at.k (by decide) s1
  refine Rn.of rfl (y121_0 ?_)
  rw [e]
  refine ⟨fun q => ?_, fun q => K.x h (if_neg fun z => q ((nI_ltI (by decide) (by omega)).mpr z))⟩
  refine s52 h wf.cw.1 (fun g1 X f1 x1 c1 => ⟨rfl, ?_⟩)
  refine s17 rfl c1.at wf.cw.1 (fun g2 a2 _ f2 => ⟨_, rfl, ?_⟩)
  exact K.2 _ _ (if_pos ((nI_ltI (by decide) (by omega)).mp q)) g2 X (f1.w.tr (FCW.of f2 (fun i c q => by omega))) x1 (c1.chg f2 a2 (fun i c q => by omega))
theorem q226 (h : REF g D T n k w ea tx H) (wf : WF D M B) (K : KRC g D T n k w ea tx H (bDrp D) Φ) : Rn sc (d + 20) 226 [vR 0 70] g Φ := by
  obtain ⟨s1, s2, s3, s4, s5⟩ := wf.spk
  have n40 := wf.n40
  have w10 := h.mc.l
  refine Rn.of rfl (v226_0 ?_)
  intro G1 e1
  obtain ⟨f1, h1, t1⟩ := h.z e1
  have m1 := h1.mc
  have w1 : G1 0 70 2 = nI w := m1.w
  have e2 : G1 0 71 (780 * w + 1) = nI (sN D) := m1.m.1.trans s1
  have i1 : inb (nI 780 * G1 0 70 2 + nI 1) 7800 = true := by rw [w1]; simp (disch := omega) only [u3_nc, u3_ek, u3_nk, upd_e, upd_n, dU_nk, dU_nc, dU_e, nI_ltI, nI_eq, nI_clamp, nI_add, nI_mul, inb_nI, nI_neg1, nI_ne1, nI_n1e, nI_neg1e, Nat.not_lt_zero, Nat.lt_irrefl, true_and, and_true, true_implies, false_implies, not_true_eq_false, not_false_eq_true, implies_true, forall_const, if_true, if_false, Nat.reduceEqDiff, eq_self, Nat.one_ne_zero, Nat.zero_ne_one, Nat.zero_add, Nat.add_zero]
  have i2 : (nI 780 * G1 0 70 2 + nI 1).toNatClampNeg = 780 * w + 1 := by rw [w1]; simp (disch := omega) only [u3_nc, u3_ek, u3_nk, upd_e, upd_n, dU_nk, dU_nc, dU_e, nI_ltI, nI_eq, nI_clamp, nI_add, nI_mul, inb_nI, nI_neg1, nI_ne1, nI_n1e, nI_neg1e, Nat.not_lt_zero, Nat.lt_irrefl, true_and, and_true, true_implies, false_implies, not_true_eq_false, not_false_eq_true, implies_true, forall_const, if_true, if_false, Nat.reduceEqDiff, eq_self, Nat.one_ne_zero, Nat.zero_ne_one, Nat.zero_add, Nat.add_zero]
  refine ⟨i1, ?_⟩
  rw [i2, e2, t1]
  refine ⟨fun q => ⟨fun _ => ?_, fun q => absurd rfl q⟩, fun q => ⟨fun _ => ?_, fun q => absurd rfl q⟩⟩
  · have hq := (nI_ltI (by decide) (by omega)).mp q
    refine s133 h1 (fun g2 f2 r2 b2 _ _ => ⟨rfl, ?_⟩)
    have m2 := (r2 D EQD.rf).mc
    have w2 := m2.w
    have w9 := m2.l
    obtain ⟨u, hu⟩ : ∃ u, u = (w + 1) % 9 := ⟨_, rfl⟩
    rw [← hu] at w2 w9 m2
    have e3 : g2.1 0 71 (780 * u + 1) = D 0 12 := m2.m.1
    have i3 : inb (nI 780 * g2.1 0 70 2 + nI 1) 7800 = true := by rw [w2]; simp (disch := omega) only [u3_nc, u3_ek, u3_nk, upd_e, upd_n, dU_nk, dU_nc, dU_e, nI_ltI, nI_eq, nI_clamp, nI_add, nI_mul, inb_nI, nI_neg1, nI_ne1, nI_n1e, nI_neg1e, Nat.not_lt_zero, Nat.lt_irrefl, true_and, and_true, true_implies, false_implies, not_true_eq_false, not_false_eq_true, implies_true, forall_const, if_true, if_false, Nat.reduceEqDiff, eq_self, Nat.one_ne_zero, Nat.zero_ne_one, Nat.zero_add, Nat.add_zero]
    have i4 : (nI 780 * g2.1 0 70 2 + nI 1).toNatClampNeg = 780 * u + 1 := by rw [w2]; simp (disch := omega) only [u3_nc, u3_ek, u3_nk, upd_e, upd_n, dU_nk, dU_nc, dU_e, nI_ltI, nI_eq, nI_clamp, nI_add, nI_mul, inb_nI, nI_neg1, nI_ne1, nI_n1e, nI_neg1e, Nat.not_lt_zero, Nat.lt_irrefl, true_and, and_true, true_implies, false_implies, not_true_eq_false, not_false_eq_true, implies_true, forall_const, if_true, if_false, Nat.reduceEqDiff, eq_self, Nat.one_ne_zero, Nat.zero_ne_one, Nat.zero_add, Nat.add_zero]
    refine ⟨i3, ?_⟩
    rw [i4, e3]
    intro G8 e8
    have m8 : MC (G8, g2.2) u (dU D 0 12 (D 0 12 + -nI 1)) := by
      rw [e8]
      exact m2.putS (k := 1) (Or.inl rfl)
    have f8 : Fm u g2 (G8, g2.2) := by
      rw [e8]
      exact Fm.put (by unfold MW; omega)
    have w8 : G8 0 70 2 = nI u := m8.w
    have n8 : nR (dU D 0 12 (D 0 12 + -nI 1)) = nR D := nR_dU (by decide)
    have e9 : G8 0 71 (780 * u + 2) = nI (nR D) := by have := m8.n; rw [n8] at this; exact this
    have i5 : inb (nI 780 * G8 0 70 2 + nI 2) 7800 = true := by rw [w8]; simp (disch := omega) only [u3_nc, u3_ek, u3_nk, upd_e, upd_n, dU_nk, dU_nc, dU_e, nI_ltI, nI_eq, nI_clamp, nI_add, nI_mul, inb_nI, nI_neg1, nI_ne1, nI_n1e, nI_neg1e, Nat.not_lt_zero, Nat.lt_irrefl, true_and, and_true, true_implies, false_implies, not_true_eq_false, not_false_eq_true, implies_true, forall_const, if_true, if_false, Nat.reduceEqDiff, eq_self, Nat.one_ne_zero, Nat.zero_ne_one, Nat.zero_add, Nat.add_zero]
    have i6 : (nI 780 * G8 0 70 2 + nI 2).toNatClampNeg = 780 * u + 2 := by rw [w8]; simp (disch := omega) only [u3_nc, u3_ek, u3_nk, upd_e, upd_n, dU_nk, dU_nc, dU_e, nI_ltI, nI_eq, nI_clamp, nI_add, nI_mul, inb_nI, nI_neg1, nI_ne1, nI_n1e, nI_neg1e, Nat.not_lt_zero, Nat.lt_irrefl, true_and, and_true, true_implies, false_implies, not_true_eq_false, not_false_eq_true, implies_true, forall_const, if_true, if_false, Nat.reduceEqDiff, eq_self, Nat.one_ne_zero, Nat.zero_ne_one, Nat.zero_add, Nat.add_zero]
    refine ⟨i5, ?_⟩
    rw [i6, e9]
    refine s226L (nR D) _ _ m8 (by rw [n8]; exact Nat.le_refl _) (fun g9 m9 f9 => ?_)
    have f89 : Fm u g2 g9 := Fm.tr f8 f9
    refine K.2 _ _ (if_pos hq) g9 (f1.frf.tr (f2.tr f89.frf)) (fun X hX => ?_) (by rw [f89.1.1 0 70 (by simp)]; exact (b2 0 (by decide) (by decide)).trans t1)
    have r3 := r2 X hX
    rw [← hu] at r3 ⊢
    exact r3.fM m9 f89
  · intro G12 e12
    have f12 : TH (G1, g.2.1, g.2.2) (G12, g.2.1, g.2.2) := by rw [e12]; exact TH.u _ _
    have t12 : G12 0 70 0 = nI 1 := by rw [e12, u3_ek rfl]
    rw [t12]
    refine ⟨fun q => absurd q (by decide +kernel), fun _ => ?_⟩
    exact K.1 1 1 (if_neg fun z => q ((nI_ltI (by decide) (by omega)).mpr z)) _ _ (f1.tr f12).frf (h1.th f12) t12
end CQ
