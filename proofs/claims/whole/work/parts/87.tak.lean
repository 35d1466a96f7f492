/-! A STATE TAKEN OVER: what stays the same of it -/
/-- what E is once D is taken over -/
def aTk (D E : Nat → Nat → Int32) : Nat → Nat → Int32 := fun c k =>
  if (c = 0 ∧ 11 ≤ k ∧ k ≤ 14) ∨ (c = 1 ∧ k = 4) ∨ ((c = 2 ∨ c = 3) ∧ k < 4) ∨ ((c = 4 ∨ c = 5) ∧ k < 48) ∨ (6 ≤ c ∧ c < 16 ∧ k < nR D) then D c k else E c k
/-- alike in all that counts -/
def EQD (D X : Nat → Nat → Int32) : Prop := (∀ k, 11 ≤ k → k ≤ 14 → X 0 k = D 0 k) ∧ X 1 4 = D 1 4 ∧ (∀ c k, c = 2 ∨ c = 3 → k < 4 → X c k = D c k) ∧ (∀ c k, c = 4 ∨ c = 5 → k < 48 → X c k = D c k) ∧ ∀ c k, 6 ≤ c → c < 16 → k < nR D → X c k = D c k
theorem aTk_EQ {D E : Nat → Nat → Int32} : EQD D (aTk D E) := by
  unfold EQD aTk
  refine ⟨fun k h1 h2 => if_pos (by omega), if_pos (by omega), fun c k h1 h2 => if_pos (by omega), fun c k h1 h2 => if_pos (by omega), fun c k h1 h2 h3 => if_pos (by omega)⟩
theorem blw_congr {ou ov : Nat → Int32} {t : Int32} {sz : Nat} (ho : ∀ e, e < sz → ou e = -nI 1 ∨ ∃ o, o < e ∧ ou e = nI o) (s12 : sz ≤ 12) (h : ∀ e, e < sz → ov e = ou e) : ∀ f x, (x < nI 0 ∨ ∃ e, e < sz ∧ x = nI e) → blw ov t f x = blw ou t f x := by
  intro f
  induction f with
  | zero => intro x _; rfl
  | succ f ih =>
    intro x hx
    unfold blw
    by_cases h0 : x < nI 0
    · rw [if_pos h0, if_pos h0]
    · rw [if_neg h0, if_neg h0]
      obtain ⟨e, he, rfl⟩ := hx.resolve_left h0
      by_cases ht : nI e = t
      · rw [if_pos ht, if_pos ht]
      · rw [if_neg ht, if_neg ht, nI_clamp (by omega), h e he]
        refine ih _ ?_
        rcases ho e he with q | ⟨o, o1, o2⟩
        · rw [q]; exact Or.inl nI_neg1
        · exact Or.inr ⟨o, by omega, o2⟩
section EQ
variable {D X : Nat → Nat → Int32} {M B : Nat}
theorem EQD.n (h : EQD D X) : nR X = nR D := by unfold nR; rw [h.1 11 (by decide) (by decide)]
theorem EQD.v (h : EQD D X) : nV X = nV D := by unfold nV; rw [h.2.1]
theorem EQD.rk (h : EQD D X) (rk : ROK D) : ROK X := ⟨by rw [h.n, h.1 11 (by decide) (by decide)]; exact rk.1, by rw [h.n]; exact rk.2⟩
theorem EQD.s (h : EQD D X) {v : Nat} (hv : v < 4) : nS X v = nS D v := by unfold nS; rw [h.2.2.1 3 v (Or.inr rfl) hv]
theorem EQD.vk (h : EQD D X) (vk : VOK D) : VOK X := by
  obtain ⟨k1, k2, k3⟩ := vk
  refine ⟨by rw [h.v, h.2.1]; exact k1, by rw [h.v]; exact k2, fun v hv => ?_⟩
  rw [h.v] at hv
  obtain ⟨q1, q2, q3, q4, q5⟩ := k3 v hv
  rw [h.s (by omega), h.2.2.1 3 v (Or.inr rfl) (by omega)]
  refine ⟨q1, q2, q3, by rw [h.2.2.2.1 5 _ (Or.inr rfl) (by omega)]; exact q4, fun e he h0 => ?_⟩
  rw [h.2.2.2.1 5 _ (Or.inr rfl) (by omega)]
  exact q5 e he h0
theorem EQD.rmv (h : EQD D X) (vk : VOK D) {A : Nat → Int32} {w : Nat} (hR : RMV A w D) : RMV A w X := by
  obtain ⟨h1, h2, h3⟩ := hR
  have v4 := vk.2.1
  refine ⟨by rw [h.2.1]; exact h1, fun v hv => ?_, fun v e hv he => ?_⟩
  · rw [h.v] at hv
    rw [h.2.2.1 3 v (Or.inr rfl) (by omega), h.2.2.1 2 v (Or.inl rfl) (by omega)]
    exact h2 v hv
  · rw [h.v] at hv
    rw [h.s (by omega)] at he
    have s12 := (vk.2.2 v hv).2.2.1
    rw [h.2.2.2.1 5 _ (Or.inr rfl) (by omega), h.2.2.2.1 4 _ (Or.inl rfl) (by omega)]
    exact h3 v e hv he
theorem EQD.rmm (h : EQD D X) {A : Nat → Int32} {w : Nat} (hR : RMM A w D) : RMM A w X := by
  obtain ⟨m1, m2, m3, m4, m5⟩ := hR
  refine ⟨by rw [h.1 12 (by decide) (by decide)]; exact m1, by rw [h.1 11 (by decide) (by decide)]; exact m2, by rw [h.1 13 (by decide) (by decide)]; exact m3, by rw [h.1 14 (by decide) (by decide)]; exact m4, fun r hr k hk => ?_⟩
  rw [h.n] at hr
  rw [h.2.2.2.2 _ _ (by omega) (by omega) hr]
  exact m5 r hr k hk
theorem EQD.mc (h : EQD D X) {g : Gs} {w : Nat} (m : MC g w D) : MC g w X := ⟨m.1, m.2.1, h.rmm m.m, h.rk m.r, h.rmv m.vk m.v, h.vk m.vk⟩
theorem EQD.has (h : EQD D X) (cw : CW D M) {r : Nat} (hr : r < nR D) {dd : Int32} : hasD X r dd = hasD D r dd := by
  obtain ⟨k1, k2, k3, k4, k5, k6, k7, k8⟩ := volK cw hr
  have e8 : X 8 r = D 8 r := h.2.2.2.2 8 r (by decide) (by decide) hr
  have ev : vol X r = vol D r := by unfold vol; rw [e8]
  rw [hasD_eq, hasD_eq, ev, h.2.2.2.2 9 r (by decide) (by decide) hr, h.2.2.1 3 _ (Or.inr rfl) k2]
  refine blw_congr (volO cw hr) k6 (fun e he => h.2.2.2.1 5 _ (Or.inr rfl) (by omega)) 12 _ ?_
  by_cases hl : dd < D 3 (vol D r)
  · rw [if_pos hl]
    by_cases h0 : dd < nI 0
    · exact Or.inl h0
    · obtain ⟨e, he, rfl⟩ := nI_of (show ¬ dd < 0 from h0)
      rw [k4, nI_ltI he (by omega)] at hl
      exact Or.inr ⟨e, hl, rfl⟩
  · rw [if_neg hl]; exact Or.inl nI_neg1
theorem EQD.wz (h : EQD D X) (w : WZ D M B) : WZ X M B := by
  have e : ∀ {c r}, 6 ≤ c → c < 16 → r < nR D → X c r = D c r := fun a b c => h.2.2.2.2 _ _ a b c
  have e0 : ∀ {k}, 11 ≤ k → k ≤ 14 → X 0 k = D 0 k := fun a b => h.1 _ a b
  have f := w.f
  have cw := f.cw
  obtain ⟨n1, n2, n3, n4⟩ := cw.2.2.1
  have emk : mk X = mk D := by unfold mk; rw [e0 (by decide) (by decide)]
  have enm : ∀ {a}, a < nR D → nmr X a = nmr D a := fun ha => by unfold nmr; rw [e (by decide) (by decide) ha]
  have cwX : CW X M := by
    refine ⟨h.rk cw.1, h.vk cw.2.1, ⟨by rw [e0 (by decide) (by decide), emk]; exact n1, by rw [emk, h.n]; exact n2, n3, fun a ha => ?_⟩, fun a ha => ?_⟩
    · rw [h.n] at ha
      rw [e (by decide) (by decide) ha, enm ha, emk]
      refine ⟨(n4 a ha).1, (n4 a ha).2.1, fun b hb => ?_⟩
      rw [enm (by omega)]
      exact (n4 a ha).2.2 b hb
    · rw [h.n] at ha
      rw [e (by decide) (by decide) ha, e (by decide) (by decide) ha, h.v]
      exact cw.2.2.2 a ha
  refine ⟨⟨cwX, fun a ha => ?_, ?_, fun a ha => ?_, fun a ha => ?_, ?_, fun a b ha hb h0 e1 e2 => ?_, fun a b ha hb e1 => ?_, fun a ha e1 => ?_, ?_⟩, fun a ha => ?_, ?_⟩
  · rw [h.n] at ha
    rw [e (by decide) (by decide) ha, e (by decide) (by decide) ha]; exact f.gn a ha
  · unfold GRL
    rw [e0 (by decide) (by decide)]; exact f.gl
  · rw [h.n] at ha
    rw [e (by decide) (by decide) ha, e (by decide) (by decide) ha]; exact f.bt a ha
  · rw [h.n] at ha ⊢
    rw [e (by decide) (by decide) ha]
    rcases f.ok a ha with q | ⟨u, hu, q⟩
    · exact Or.inl q
    · exact Or.inr ⟨u, hu, by rw [e (by decide) (by decide) hu]; exact q⟩
  · obtain ⟨rk, hrk⟩ := f.rk
    refine ⟨rk, fun a u ha hu e1 => ?_⟩
    rw [h.n] at ha hu
    rw [e (by decide) (by decide) ha, e (by decide) (by decide) hu] at e1
    exact hrk a u ha hu e1
  · rw [h.n] at ha hb
    rw [e (by decide) (by decide) ha] at h0
    rw [e (by decide) (by decide) ha, e (by decide) (by decide) hb] at e1 e2
    exact f.uq a b ha hb h0 e1 e2
  · rw [h.n] at ha hb
    rw [e (by decide) (by decide) ha, e (by decide) (by decide) hb] at e1
    rw [e (by decide) (by decide) ha, e (by decide) (by decide) hb]
    exact f.sc a b ha hb e1
  · rw [h.n] at ha
    rw [e (by decide) (by decide) ha] at e1 ⊢
    exact f.rt a ha e1
  · obtain ⟨s, s1, s2, s3, s4, s5⟩ := f.sp
    refine ⟨s, by rw [e0 (by decide) (by decide)]; exact s1, s2, s3, fun a ha => ?_, fun z hz => ?_⟩
    · rw [h.n] at ha
      rw [e (by decide) (by decide) ha]; exact s4 a ha
    · obtain ⟨a, r1, r2, r3, r4⟩ := s5 z hz
      refine ⟨a, by rw [h.n]; exact r1, by rw [e (by decide) (by decide) r1]; exact r2, by rw [e (by decide) (by decide) r1]; exact r3, fun b hb q1 q2 => ?_⟩
      rw [h.n] at hb
      rw [e (by decide) (by decide) hb] at q1 q2
      exact r4 b hb q1 q2
  · rw [h.n] at ha
    rw [h.has cw ha, e (by decide) (by decide) ha]
    refine ⟨(w.p a ha).1, fun u hu q => ?_⟩
    rw [h.n] at hu
    rw [e (by decide) (by decide) ha, e (by decide) (by decide) hu] at q
    rw [h.has cw hu, e (by decide) (by decide) ha]
    exact (w.p a ha).2 u hu q
  · obtain ⟨hh, h1⟩ := w.d
    have v4 := cw.2.1.2.1
    refine ⟨hh, fun v e9 hv he => ?_⟩
    rw [h.v] at hv
    rw [h.s (by omega)] at he
    have s12 := (cw.2.1.2.2 v hv).2.2.1
    rw [h.2.2.2.1 5 _ (Or.inr rfl) (by omega)]
    exact h1 v e9 hv he
end EQ
section TO
variable {sc : SC} {d i j : Nat} {g : Gs} {Φ : RS → Gs → Prop} {D E : Nat → Nat → Int32}
theorem cpy0 {f g : Nat → Int32} {n : Nat} : va_cpy f g 0 0 n = fun k => if k < n then f k else g k := by
  funext k
  unfold va_cpy
  by_cases h : k < n
  · rw [if_pos ⟨Nat.zero_le _, by omega⟩, if_pos h, Nat.sub_zero, Nat.zero_add]
  · rw [if_neg (by omega), if_neg h]
theorem u2_ne9 {G : Gm} {i c i' c' : Nat} {w : Nat → Int32} (h : ¬ (i' = i ∧ c' = c)) : u2 G i c w i' c' = G i' c' := by
  funext k
  unfold u2
  rw [if_neg h]
theorem u2_eq9 {G : Gm} {i c : Nat} {w : Nat → Int32} : u2 G i c w i c = w := by
  funext k
  unfold u2
  rw [if_pos ⟨rfl, rfl⟩]
theorem s87 (hij : i ≠ j) (hD : At g j D) (hE : At g i E) (k : ∀ g', Fr (PD i) g g' → g'.1 i 1 = (fun k => if k = 4 then D 1 4 else E 1 k) → (∀ c, (c = 2 ∨ c = 3) → g'.1 i c = fun k => if k < 4 then D c k else E c k) → (∀ c, (c = 4 ∨ c = 5) → g'.1 i c = fun k => if k < 48 then D c k else E c k) → (∀ c, c < 16 → (c = 0 ∨ 6 ≤ c) → g'.1 i c = E c) → Φ (.inl none) g') : Rn sc (d + 1) 87 [vR i 1, vR j 1] g Φ := by
  refine Rn.of rfl (v87_0 ?_)
  rw [nI_clamp (by decide), nI_clamp (by decide), nI_clamp (by decide)]
  intro G1 e1 G2 e2 G3 e3 G4 e4 G5 e5
  have fr : Fr (PD i) g (G5, g.2) := by
    subst e1; subst e2; subst e3; subst e4; subst e5
    refine Fr.u2 (Fr.u2 (Fr.u2 (Fr.u2 (Fr.u3 (Fr.rf g) ⟨rfl, by decide⟩) ⟨rfl, by decide⟩) ⟨rfl, by decide⟩) ⟨rfl, by decide⟩) ⟨rfl, by decide⟩
  have j1 : ∀ c, c ≠ 1 → G1 j c = g.1 j c := fun c hc => by rw [e1, u3_rowc hc]
  have j2 : ∀ c, c ≠ 1 → G2 j c = g.1 j c := fun c hc => by rw [e2, u2_ne9 (fun q => hij q.1.symm)]; exact j1 c hc
  have j3 : ∀ c, c ≠ 1 → G3 j c = g.1 j c := fun c hc => by rw [e3, u2_ne9 (fun q => hij q.1.symm)]; exact j2 c hc
  have j4 : ∀ c, c ≠ 1 → G4 j c = g.1 j c := fun c hc => by rw [e4, u2_ne9 (fun q => hij q.1.symm)]; exact j3 c hc
  have a1 : ∀ c, c ≠ 1 → G1 i c = g.1 i c := fun c hc => by rw [e1, u3_rowc hc]
  rw [j1 2 (by decide), a1 2 (by decide), cpy0] at e2
  have a2 : ∀ c, c ≠ 1 → c ≠ 2 → G2 i c = g.1 i c := fun c h1 h2 => by rw [e2, u2_ne9 (fun q => h2 q.2)]; exact a1 c h1
  rw [j2 3 (by decide), a2 3 (by decide) (by decide), cpy0] at e3
  have a3 : ∀ c, c ≠ 1 → c ≠ 2 → c ≠ 3 → G3 i c = g.1 i c := fun c h1 h2 h3 => by rw [e3, u2_ne9 (fun q => h3 q.2)]; exact a2 c h1 h2
  rw [j3 4 (by decide), a3 4 (by decide) (by decide) (by decide), cpy0] at e4
  have a4 : ∀ c, c ≠ 1 → c ≠ 2 → c ≠ 3 → c ≠ 4 → G4 i c = g.1 i c := fun c h1 h2 h3 h4 => by rw [e4, u2_ne9 (fun q => h4 q.2)]; exact a3 c h1 h2 h3
  rw [j4 5 (by decide), a4 5 (by decide) (by decide) (by decide) (by decide), cpy0] at e5
  have h5 : ∀ c, c ≠ 5 → G5 i c = G4 i c := fun c hc => by rw [e5, u2_ne9 (fun q => hc q.2)]
  have h4 : ∀ c, c ≠ 4 → G4 i c = G3 i c := fun c hc => by rw [e4, u2_ne9 (fun q => hc q.2)]
  have h3 : ∀ c, c ≠ 3 → G3 i c = G2 i c := fun c hc => by rw [e3, u2_ne9 (fun q => hc q.2)]
  have h2 : ∀ c, c ≠ 2 → G2 i c = G1 i c := fun c hc => by rw [e2, u2_ne9 (fun q => hc q.2)]
  refine k (G5, g.2) fr ?_ (fun c hc => ?_) (fun c hc => ?_) (fun c hc h0 => ?_)
  · dsimp only
    rw [h5 1 (by decide), h4 1 (by decide), h3 1 (by decide), h2 1 (by decide), e1, u3_row, hD 1 (by decide), hE 1 (by decide)]
    funext z
    unfold upd
    by_cases hz : z = 4
    · rw [if_pos hz]
    · rw [if_neg hz]
  · rcases hc with rfl | rfl
    · dsimp only
      rw [h5 2 (by decide), h4 2 (by decide), h3 2 (by decide), e2, u2_eq9, hD 2 (by decide), hE 2 (by decide)]
    · dsimp only
      rw [h5 3 (by decide), h4 3 (by decide), e3, u2_eq9, hD 3 (by decide), hE 3 (by decide)]
  · rcases hc with rfl | rfl
    · dsimp only
      rw [h5 4 (by decide), e4, u2_eq9, hD 4 (by decide), hE 4 (by decide)]
    · dsimp only
      rw [e5, u2_eq9, hD 5 (by decide), hE 5 (by decide)]
  · dsimp only
    rw [h5 c (by omega), a4 c (by omega) (by omega) (by omega) (by omega)]
    exact hE c hc
/-- columns below m are taken over -/
def TK9 (D E : Nat → Nat → Int32) (i j m : Nat) (g s : Gs) : Prop := Fr (PD i) g s ∧ At s j D ∧ ∀ c, c < 16 → s.1 i c = if c < m then aTk D E c else E c
theorem TK9.s {s : Gs} {m : Nat} (hij : i ≠ j) (h : TK9 D E i j m g s) (h6 : 6 ≤ m) (h16 : m < 16) : TK9 D E i j (m + 1) g (u2 s.1 i m (fun k => if k < nR D then s.1 j m k else s.1 i m k), s.2) := by
  obtain ⟨h1, h2, h3⟩ := h
  refine ⟨h1.tr (Fr.u2 (Fr.rf _) ⟨rfl, h16⟩), fun c hc => by dsimp only; rw [u2_ne9 (fun q => hij q.1.symm)]; exact h2 c hc, fun c hc => ?_⟩
  dsimp only
  by_cases e : c = m
  · subst e
    rw [u2_eq9, if_pos (by omega), h2 c hc, h3 c hc, if_neg (by omega)]
    funext k
    unfold aTk
    by_cases hk : k < nR D
    · rw [if_pos hk, if_pos (by omega)]
    · rw [if_neg hk, if_neg (by omega)]
  · rw [u2_ne9 (fun q => e q.2), h3 c hc]
    by_cases e2 : c < m
    · rw [if_pos e2, if_pos (by omega)]
    · rw [if_neg e2, if_neg (by omega)]
theorem TK9.n {s : Gs} {m : Nat} (h : TK9 D E i j m g s) (h6 : 6 ≤ m) (rk : ROK D) : s.1 i 0 11 = nI (nR D) := by
  rw [h.2.2 0 (by decide), if_pos (by omega)]
  unfold aTk
  rw [if_pos (by omega)]
  exact rk.1
theorem s50 (hij : i ≠ j) (hD : At g j D) (hE : At g i E) (rk : ROK D) (k : ∀ g', Fr (PD i) g g' → At g' i (aTk D E) → Φ (.inl none) g') : Rn sc (d + 2) 50 [vR i 0, vR j 0] g Φ := by
  have n40 := rk.2
  have pre : ∀ {P : Prop}, P → (¬ nI 0 < nI 0 ∧ ¬ nI 0 < nI 0 ∧ ¬ nI (nR D) < nI 0 ∧ (nI 0).toNatClampNeg + (nI (nR D)).toNatClampNeg ≤ 40 ∧ (nI 0).toNatClampNeg + (nI (nR D)).toNatClampNeg ≤ 40) ∧ P := fun p => by
    rw [nI_clamp (by decide), nI_clamp (by omega)]
    exact ⟨⟨Int32.lt_irrefl, Int32.lt_irrefl, nI_nn (by omega), by omega, by omega⟩, p⟩
  have two : ∀ {s : Gs} {m : Nat} {P : Gm → Prop}, TK9 D E i j m g s → 6 ≤ m → m + 1 < 16 → (∀ G2, TK9 D E i j (m + 2) g (G2, s.2) → P G2) →
      ((¬ nI 0 < nI 0 ∧ ¬ nI 0 < nI 0 ∧ ¬ s.1 i 0 11 < nI 0 ∧ (nI 0).toNatClampNeg + (s.1 i 0 11).toNatClampNeg ≤ 40 ∧ (nI 0).toNatClampNeg + (s.1 i 0 11).toNatClampNeg ≤ 40) ∧ (∀ G1 : Nat → Nat → Nat → Int32, G1 = u2 s.1 i m (va_cpy (s.1 j m) (s.1 i m) (nI 0).toNatClampNeg (nI 0).toNatClampNeg (s.1 i 0 11).toNatClampNeg) → ((¬ nI 0 < nI 0 ∧ ¬ nI 0 < nI 0 ∧ ¬ G1 i 0 11 < nI 0 ∧ (nI 0).toNatClampNeg + (G1 i 0 11).toNatClampNeg ≤ 40 ∧ (nI 0).toNatClampNeg + (G1 i 0 11).toNatClampNeg ≤ 40) ∧ (∀ G2 : Nat → Nat → Nat → Int32, G2 = u2 G1 i (m + 1) (va_cpy (G1 j (m + 1)) (G1 i (m + 1)) (nI 0).toNatClampNeg (nI 0).toNatClampNeg (G1 i 0 11).toNatClampNeg) → P G2)))) := fun {s m P} h h6 h16 K => by
    rw [h.n h6 rk]
    refine pre (fun G1 e1 => ?_)
    rw [nI_clamp (by decide), nI_clamp (show nR D < 2 ^ 31 by omega), cpy0] at e1
    have h1 := h.s hij h6 (by omega)
    rw [← e1] at h1
    have n1 : G1 i 0 11 = nI (nR D) := h1.n (by omega) rk
    rw [n1]
    refine pre (fun G2 e2 => ?_)
    rw [nI_clamp (by decide), nI_clamp (show nR D < 2 ^ 31 by omega), cpy0] at e2
    have h2 := h1.s hij (by omega) (by omega)
    dsimp only at h2
    rw [← e2] at h2
    exact K G2 h2
  refine Rn.of rfl (v50_0 ?_)
  refine s87 hij hD hE (fun g1 f1 c1 c23 c45 c0 => ⟨rfl, ?_⟩)
  have j1 : At g1 j D := hD.fr f1 (fun c hc q => hij q.1.symm)
  have jo : g1.1 j 0 = D 0 := j1 0 (by decide)
  intro G4 e4 G5 e5 G6 e6 G7 e7
  have hji : ¬ j = i := fun q => hij q.symm
  have t6 : TK9 D E i j 6 g (G7, g1.2) := by
    have jg : ∀ c k v, u3 g1.1 i 0 k v j c = g1.1 j c := fun c k v => by
      funext z
      unfold u3
      rw [if_neg (fun q => hji q.1)]
    have j4 : ∀ c, G4 j c = g1.1 j c := fun c => by rw [e4, jg]
    have j5 : ∀ c, G5 j c = g1.1 j c := fun c => by
      rw [e5, ← j4 c]; funext z; unfold u3; rw [if_neg (fun q => hji q.1)]
    have j6 : ∀ c, G6 j c = g1.1 j c := fun c => by
      rw [e6, ← j5 c]; funext z; unfold u3; rw [if_neg (fun q => hji q.1)]
    have j7 : ∀ c, G7 j c = g1.1 j c := fun c => by
      rw [e7, ← j6 c]; funext z; unfold u3; rw [if_neg (fun q => hji q.1)]
    rw [j4 0, jo] at e5
    rw [j5 0, jo] at e6
    rw [j6 0, jo] at e7
    rw [jo] at e4
    have fr : Fr (PD i) g1 (G7, g1.2) := by
      subst e4; subst e5; subst e6; subst e7
      exact Fr.u3 (Fr.u3 (Fr.u3 (Fr.u3 (Fr.rf _) ⟨rfl, by decide⟩) ⟨rfl, by decide⟩) ⟨rfl, by decide⟩) ⟨rfl, by decide⟩
    have oth : ∀ c, c ≠ 0 → G7 i c = g1.1 i c := fun c hc => by
      rw [e7, u3_rowc hc, e6, u3_rowc hc, e5, u3_rowc hc, e4, u3_rowc hc]
    refine ⟨f1.tr fr, fun c hc => by dsimp only; rw [j7]; exact j1 c hc, fun c hc => ?_⟩
    dsimp only
    by_cases h0 : c = 0
    · subst h0
      rw [if_pos (by decide)]
      funext z
      rw [e7, e6, e5, e4]
      unfold aTk
      by_cases z14 : z = 14
      · subst z14; rw [u3_ek rfl, if_pos (by omega)]
      · rw [u3_nk z14]
        by_cases z13 : z = 13
        · subst z13; rw [u3_ek rfl, if_pos (by omega)]
        · rw [u3_nk z13]
          by_cases z12 : z = 12
          · subst z12; rw [u3_ek rfl, if_pos (by omega)]
          · rw [u3_nk z12]
            by_cases z11 : z = 11
            · subst z11; rw [u3_ek rfl, if_pos (by omega)]
            · rw [u3_nk z11, if_neg (by omega), c0 0 (by decide) (Or.inl rfl)]
    · rw [oth c h0]
      by_cases h6 : c < 6
      · rw [if_pos h6]
        rcases (show c = 1 ∨ (c = 2 ∨ c = 3) ∨ (c = 4 ∨ c = 5) by omega) with q | q | q
        · subst q
          rw [c1]
          funext z
          unfold aTk
          by_cases hz : z = 4
          · rw [if_pos hz, if_pos (by omega), hz]
          · rw [if_neg hz, if_neg (by omega)]
        · rw [c23 c q]
          funext z
          unfold aTk
          by_cases hz : z < 4
          · rw [if_pos hz, if_pos (by omega)]
          · rw [if_neg hz, if_neg (by omega)]
        · rw [c45 c q]
          funext z
          unfold aTk
          by_cases hz : z < 48
          · rw [if_pos hz, if_pos (by omega)]
          · rw [if_neg hz, if_neg (by omega)]
      · rw [if_neg h6]; exact c0 c hc (Or.inr (by omega))
  refine v50_43 (two t6 (by decide) (by decide) (fun G8 t8 => ?_))
  refine v50_77 (two t8 (by decide) (by decide) (fun G10 t10 => ?_))
  refine v50_111 (two t10 (by decide) (by decide) (fun G12 t12 => ?_))
  refine v50_145 (two t12 (by decide) (by decide) (fun G14 t14 => ?_))
  refine v50_179 (two t14 (by decide) (by decide) (fun G16 t16 => ?_))
  refine k _ t16.1 (fun c hc => ?_)
  rw [t16.2.2 c hc, if_pos hc]
end TO
