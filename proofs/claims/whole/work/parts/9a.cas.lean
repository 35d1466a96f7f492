/-! CASES of the law: queries and changing calls (written by wip/whole/gen_cas.py) -/
section CA
variable {sc : SC} {d M B : Nat} {g : Gs} {Φ : RS → Gs → Prop} {x4 : Int32} {w5 w6 : AV}
theorem x_aCnt {D : Nat → Nat → Int32} {a : Int32} : ∀ e c, aCnt D a = .inr (e, c) → e = 0 ∧ c = 1 := by
  intro e c q
  unfold aCnt at q
  split at q
  · cases q
  · cases q; exact ⟨rfl, rfl⟩
theorem x_aDrs {D : Nat → Nat → Int32} {a : Int32} : ∀ e c, aDrs D a = .inr (e, c) → e = 2 ∧ c = 1 := by
  intro e c q
  unfold aDrs at q
  split at q
  · cases q
  · cases q; exact ⟨rfl, rfl⟩
theorem x_aOut {D : Nat → Nat → Int32} {a b : Int32} : ∀ e c, aOut D a b = .inr (e, c) → e = 2 ∧ c = 1 := by
  intro e c q
  unfold aOut at q
  split at q
  · cases q
  · cases q; exact ⟨rfl, rfl⟩
theorem x_aTld {D : Nat → Nat → Int32} {a b : Int32} : ∀ e c, aTld D a b = .inr (e, c) → (e = 3 ∧ c = 1) ∨ (e = 0 ∧ c = 2) := by
  intro e c q
  unfold aTld at q
  split at q
  · cases q; exact Or.inl ⟨rfl, rfl⟩
  · split at q
    · cases q
    · cases q; exact Or.inr ⟨rfl, rfl⟩
theorem x_aAt {D : Nat → Nat → Int32} {a : Int32} : ∀ e c, aAt D a = .inr (e, c) → e = 2 ∧ c = 1 := by
  intro e c q
  unfold aAt at q
  split at q
  · cases q
  · cases q; exact ⟨rfl, rfl⟩
theorem x_aOn {D : Nat → Nat → Int32} {a b : Int32} : ∀ e c, aOn D a b = .inr (e, c) → e = 3 ∧ c = 1 := by
  intro e c q
  unfold aOn at q
  split at q
  · cases q; exact ⟨rfl, rfl⟩
  · cases q
theorem x_aSn {D : Nat → Nat → Int32} {a : Int32} : ∀ e c, aSn D a = .inr (e, c) → e = 2 ∧ c = 1 := by
  intro e c q
  unfold aSn at q
  split at q
  · cases q
  · cases q; exact ⟨rfl, rfl⟩
theorem x_aIsS {D : Nat → Nat → Int32} {a b : Int32} : ∀ e c, aIsS D a b = .inr (e, c) → e = 3 ∧ c = 1 := by
  intro e c q
  unfold aIsS at q
  split at q
  · cases q; exact ⟨rfl, rfl⟩
  · cases q
theorem x_aFol {D : Nat → Nat → Int32} {a : Int32} : ∀ e c, aFol D a = .inr (e, c) → e = 3 ∧ c = 1 := by
  intro e c q
  unfold aFol at q
  split at q
  · cases q; exact ⟨rfl, rfl⟩
  · cases q
theorem x_aWld {D : Nat → Nat → Int32} {a b : Int32} : ∀ e c, aWld D a b = .inr (e, c) → e = 3 ∧ c = 1 := by
  intro e c q
  unfold aWld at q
  split at q
  · cases q; exact ⟨rfl, rfl⟩
  · cases q
theorem x_aPth {D : Nat → Nat → Int32} {a : Int32} : ∀ e c, aPth D a = .inr (e, c) → e = 3 ∧ c = 1 := by
  intro e c q
  unfold aPth at q
  split at q
  · cases q; exact ⟨rfl, rfl⟩
  · cases q
theorem x_aPby {T : List Nat} {a : Int32} : ∀ e c, aPby T a = .inr (e, c) → e = 2 ∧ c = 1 := by
  intro e c q
  unfold aPby at q
  split at q
  · cases q
  · cases q; exact ⟨rfl, rfl⟩
theorem x_bMnt {D : Nat → Nat → Int32} {a1 a2 a3 : Int32} : ∀ e c, bMnt D a1 a2 a3 = .inl (e, c) → (e = 3 ∧ c = 1) ∨ (e = 2 ∧ c = 2) := by
  intro e c q
  unfold bMnt at q
  split at q
  · cases q; exact Or.inl ⟨rfl, rfl⟩
  · split at q
    · cases q
    · cases q; exact Or.inr ⟨rfl, rfl⟩
theorem x_bBnd {D : Nat → Nat → Int32} {a1 a2 a3 a4 : Int32} : ∀ e c, bBnd D a1 a2 a3 a4 = .inl (e, c) → e = 3 ∧ c = 1 := by
  intro e c q
  unfold bBnd at q
  split at q
  · cases q; exact ⟨rfl, rfl⟩
  · split at q
    · cases q; exact ⟨rfl, rfl⟩
    · cases q
theorem x_bMov {D : Nat → Nat → Int32} {a1 a2 a3 : Int32} : ∀ e c, bMov D a1 a2 a3 = .inl (e, c) → e = 3 ∧ c = 1 := by
  intro e c q
  unfold bMov at q
  split at q
  · cases q; exact ⟨rfl, rfl⟩
  · split at q
    · cases q; exact ⟨rfl, rfl⟩
    · cases q
theorem x_bUnm {D : Nat → Nat → Int32} {a1 : Int32} : ∀ e c, bUnm D a1 = .inl (e, c) → e = 3 ∧ c = 1 := by
  intro e c q
  unfold bUnm at q
  split at q
  · cases q; exact ⟨rfl, rfl⟩
  · cases q
theorem x_bMak {D : Nat → Nat → Int32} {a1 a2 : Int32} : ∀ e c, bMak D a1 a2 = .inl (e, c) → (e = 3 ∧ c = 1) ∨ (e = 0 ∧ c = 2) := by
  intro e c q
  unfold bMak at q
  split at q
  · cases q; exact Or.inl ⟨rfl, rfl⟩
  · split at q
    · cases q
    · cases q; exact Or.inr ⟨rfl, rfl⟩
theorem x_bCps {D : Nat → Nat → Int32} {a1 : Int32} {lk : Bool} : ∀ e c, bCps D a1 lk = .inl (e, c) → e = 2 ∧ c = 1 := by
  intro e c q
  unfold bCps at q
  split at q
  · cases q
  · cases q; exact ⟨rfl, rfl⟩
theorem x_bDrp {D : Nat → Nat → Int32}  : ∀ e c, bDrp D = .inl (e, c) → e = 1 ∧ c = 1 := by
  intro e c q
  unfold bDrp at q
  split at q
  · cases q
  · cases q; exact ⟨rfl, rfl⟩
theorem u231 {D : Nat → Nat → Int32} {T : List Nat} {n o k : Nat} {ea : Int32} {tx : Nat → Nat} {H : Nat → Nat → Nat → Int32} {a1 : Int32} (h : CLS g D T n o k ea tx H) (wf : WF D M B) (K : ∀ g', FCX g g' → CLS g' D T n o k ea tx H → (∀ v, aCnt D a1 = .inl v → g'.2.1 0 90 0 = v.toInt64) → Φ (.inl (some (vI (nI (anK (aCnt D a1)))))) g') : Rn sc (d + 30) 231 [vR 0 20, vI a1, vR 0 90] g Φ := Rn.of rfl (v231_0 (q98 h wf (post1 (Φ := Φ) (x_aCnt) K)))
theorem c298 (h : REL g M B) (hb : BND M B) (hi : IX sc x4) (N : NXT sc (d + 1300) x4 M B Φ) : Xe sc (d + 1300) 251 298 [vR 0 901, vR 0 20, vR 0 70, vR 0 90, vI x4, w5, w6] [] g Φ := by
  obtain ⟨D, T, n, o, k, w, ea, tx, H, hc, hr, hI, hT, hB, hE⟩ := h
  have hz := hI.1
  have hk := hc.2.2.2.2.2.2.2.2.1
  refine v251_298 ⟨hi.1, u231 hc hz.f (fun g1 f1 c1 v1 => ⟨_, rfl, hi.1, q199 (hr.cw f1) hz.f (KR.t (Φ := Φ) (d := d) (x4 := x4) (fun e c q => Or.inl (x_aCnt e c q).2) c1 v1 N hI hb hT hB (Nat.le_trans f1.2 (Nat.succ_le_succ hE)))⟩)⟩
theorem u232 {D : Nat → Nat → Int32} {T : List Nat} {n o k : Nat} {ea : Int32} {tx : Nat → Nat} {H : Nat → Nat → Nat → Int32} {a1 : Int32} (h : CLS g D T n o k ea tx H) (wf : WF D M B) (K : ∀ g', FCX g g' → CLS g' D T n o k ea tx H → (∀ v, aDrs D a1 = .inl v → g'.2.1 0 90 0 = v.toInt64) → Φ (.inl (some (vI (nI (anK (aDrs D a1)))))) g') : Rn sc (d + 30) 232 [vR 0 20, vI a1, vR 0 90] g Φ := Rn.of rfl (v232_0 (q99 h wf (post1 (Φ := Φ) (x_aDrs) K)))
theorem c354 (h : REL g M B) (hb : BND M B) (hi : IX sc x4) (N : NXT sc (d + 1300) x4 M B Φ) : Xe sc (d + 1300) 251 354 [vR 0 901, vR 0 20, vR 0 70, vR 0 90, vI x4, w5, w6] [] g Φ := by
  obtain ⟨D, T, n, o, k, w, ea, tx, H, hc, hr, hI, hT, hB, hE⟩ := h
  have hz := hI.1
  have hk := hc.2.2.2.2.2.2.2.2.1
  refine v251_354 ⟨hi.1, u232 hc hz.f (fun g1 f1 c1 v1 => ⟨_, rfl, hi.1, q201 (hr.cw f1) hz.f (KR.t (Φ := Φ) (d := d) (x4 := x4) (fun e c q => Or.inl (x_aDrs e c q).2) c1 v1 N hI hb hT hB (Nat.le_trans f1.2 (Nat.succ_le_succ hE)))⟩)⟩
theorem u233 {D : Nat → Nat → Int32} {T : List Nat} {n o k : Nat} {ea : Int32} {tx : Nat → Nat} {H : Nat → Nat → Nat → Int32} {a1 : Int32} {a2 : Int32} (h : CLS g D T n o k ea tx H) (wf : WF D M B) (K : ∀ g', FCX g g' → CLS g' D T n o k ea tx H → (∀ v, aOut D a1 a2 = .inl v → g'.2.1 0 90 0 = v.toInt64) → Φ (.inl (some (vI (nI (anK (aOut D a1 a2)))))) g') : Rn sc (d + 30) 233 [vR 0 20, vI a1, vI a2, vR 0 90] g Φ := Rn.of rfl (v233_0 (q100 h wf (post1 (Φ := Φ) (x_aOut) K)))
theorem c410 (h : REL g M B) (hb : BND M B) (hi : IX sc x4) (N : NXT sc (d + 1300) x4 M B Φ) : Xe sc (d + 1300) 251 410 [vR 0 901, vR 0 20, vR 0 70, vR 0 90, vI x4, w5, w6] [] g Φ := by
  obtain ⟨D, T, n, o, k, w, ea, tx, H, hc, hr, hI, hT, hB, hE⟩ := h
  have hz := hI.1
  have hk := hc.2.2.2.2.2.2.2.2.1
  refine v251_410 ⟨hi.1, hi.2.1, u233 hc hz.f (fun g1 f1 c1 v1 => ⟨_, rfl, hi.1, hi.2.1, q202 (hr.cw f1) hz.f (KR.t (Φ := Φ) (d := d) (x4 := x4) (fun e c q => Or.inl (x_aOut e c q).2) c1 v1 N hI hb hT hB (Nat.le_trans f1.2 (Nat.succ_le_succ hE)))⟩)⟩
theorem u234 {D : Nat → Nat → Int32} {T : List Nat} {n o k : Nat} {ea : Int32} {tx : Nat → Nat} {H : Nat → Nat → Nat → Int32} {a1 : Int32} {a2 : Int32} (h : CLS g D T n o k ea tx H) (wf : WF D M B) (K : ∀ g', FCX g g' → CLS g' D T n o k ea tx H → (∀ v, aTld D a1 a2 = .inl v → g'.2.1 0 90 0 = v.toInt64) → Φ (.inl (some (vI (nI (anK (aTld D a1 a2)))))) g') : Rn sc (d + 30) 234 [vR 0 20, vI a1, vI a2, vR 0 90] g Φ := Rn.of rfl (v234_0 (q102 h wf (post2 (Φ := Φ) (x_aTld) K)))
theorem c478 (h : REL g M B) (hb : BND M B) (hi : IX sc x4) (N : NXT sc (d + 1300) x4 M B Φ) : Xe sc (d + 1300) 251 478 [vR 0 901, vR 0 20, vR 0 70, vR 0 90, vI x4, w5, w6] [] g Φ := by
  obtain ⟨D, T, n, o, k, w, ea, tx, H, hc, hr, hI, hT, hB, hE⟩ := h
  have hz := hI.1
  have hk := hc.2.2.2.2.2.2.2.2.1
  refine v251_478 ⟨hi.1, hi.2.1, u234 hc hz.f (fun g1 f1 c1 v1 => ⟨_, rfl, hi.1, hi.2.1, q205 (hr.cw f1) hz.f (KR.t (Φ := Φ) (d := d) (x4 := x4) (fun e c q => (x_aTld e c q).imp And.right And.right) c1 v1 N hI hb hT hB (Nat.le_trans f1.2 (Nat.succ_le_succ hE)))⟩)⟩
theorem u235 {D : Nat → Nat → Int32} {T : List Nat} {n o k : Nat} {ea : Int32} {tx : Nat → Nat} {H : Nat → Nat → Nat → Int32} {a1 : Int32} (h : CLS g D T n o k ea tx H) (wf : WF D M B) (K : ∀ g', FCX g g' → CLS g' D T n o k ea tx H → (∀ v, aAt D a1 = .inl v → g'.2.1 0 90 0 = v.toInt64) → Φ (.inl (some (vI (nI (anK (aAt D a1)))))) g') : Rn sc (d + 30) 235 [vR 0 20, vI a1, vR 0 90] g Φ := Rn.of rfl (v235_0 (q105 h wf (post1 (Φ := Φ) (x_aAt) K)))
theorem c546 (h : REL g M B) (hb : BND M B) (hi : IX sc x4) (N : NXT sc (d + 1300) x4 M B Φ) : Xe sc (d + 1300) 251 546 [vR 0 901, vR 0 20, vR 0 70, vR 0 90, vI x4, w5, w6] [] g Φ := by
  obtain ⟨D, T, n, o, k, w, ea, tx, H, hc, hr, hI, hT, hB, hE⟩ := h
  have hz := hI.1
  have hk := hc.2.2.2.2.2.2.2.2.1
  refine v251_546 ⟨hi.1, u235 hc hz.f (fun g1 f1 c1 v1 => ⟨_, rfl, hi.1, q206 (hr.cw f1) hz.f (KR.t (Φ := Φ) (d := d) (x4 := x4) (fun e c q => Or.inl (x_aAt e c q).2) c1 v1 N hI hb hT hB (Nat.le_trans f1.2 (Nat.succ_le_succ hE)))⟩)⟩
theorem u236 {D : Nat → Nat → Int32} {T : List Nat} {n o k : Nat} {ea : Int32} {tx : Nat → Nat} {H : Nat → Nat → Nat → Int32} {a1 : Int32} {a2 : Int32} (h : CLS g D T n o k ea tx H) (wf : WF D M B) (K : ∀ g', FCX g g' → CLS g' D T n o k ea tx H → (∀ v, aOn D a1 a2 = .inl v → g'.2.1 0 90 0 = v.toInt64) → Φ (.inl (some (vI (nI (anK (aOn D a1 a2)))))) g') : Rn sc (d + 30) 236 [vR 0 20, vI a1, vI a2, vR 0 90] g Φ := Rn.of rfl (v236_0 (q106 h wf (post1 (Φ := Φ) (x_aOn) K)))
theorem c602 (h : REL g M B) (hb : BND M B) (hi : IX sc x4) (N : NXT sc (d + 1300) x4 M B Φ) : Xe sc (d + 1300) 251 602 [vR 0 901, vR 0 20, vR 0 70, vR 0 90, vI x4, w5, w6] [] g Φ := by
  obtain ⟨D, T, n, o, k, w, ea, tx, H, hc, hr, hI, hT, hB, hE⟩ := h
  have hz := hI.1
  have hk := hc.2.2.2.2.2.2.2.2.1
  refine v251_602 ⟨hi.1, hi.2.1, u236 hc hz.f (fun g1 f1 c1 v1 => ⟨_, rfl, hi.1, hi.2.1, q207 (hr.cw f1) hz.f (KR.t (Φ := Φ) (d := d) (x4 := x4) (fun e c q => Or.inl (x_aOn e c q).2) c1 v1 N hI hb hT hB (Nat.le_trans f1.2 (Nat.succ_le_succ hE)))⟩)⟩
theorem u238 {D : Nat → Nat → Int32} {T : List Nat} {n o k : Nat} {ea : Int32} {tx : Nat → Nat} {H : Nat → Nat → Nat → Int32} {a1 : Int32} (h : CLS g D T n o k ea tx H) (wz : WZ D M B) (K : ∀ g', FCX g g' → CLS g' D T n o k ea tx H → (∀ v, aSn D a1 = .inl v → g'.2.1 0 90 0 = v.toInt64) → Φ (.inl (some (vI (nI (anK (aSn D a1)))))) g') : Rn sc (d + 30) 238 [vR 0 20, vI a1, vR 0 90] g Φ := Rn.of rfl (v238_0 (q109 h wz (post1 (Φ := Φ) (x_aSn) K)))
theorem c738 (h : REL g M B) (hb : BND M B) (hi : IX sc x4) (N : NXT sc (d + 1300) x4 M B Φ) : Xe sc (d + 1300) 251 738 [vR 0 901, vR 0 20, vR 0 70, vR 0 90, vI x4, w5, w6] [] g Φ := by
  obtain ⟨D, T, n, o, k, w, ea, tx, H, hc, hr, hI, hT, hB, hE⟩ := h
  have hz := hI.1
  have hk := hc.2.2.2.2.2.2.2.2.1
  refine v251_738 ⟨hi.1, u238 hc hz (fun g1 f1 c1 v1 => ⟨_, rfl, hi.1, q212 (hr.cw f1) hz (KR.t (Φ := Φ) (d := d) (x4 := x4) (fun e c q => Or.inl (x_aSn e c q).2) c1 v1 N hI hb hT hB (Nat.le_trans f1.2 (Nat.succ_le_succ hE)))⟩)⟩
theorem u240 {D : Nat → Nat → Int32} {T : List Nat} {n o k : Nat} {ea : Int32} {tx : Nat → Nat} {H : Nat → Nat → Nat → Int32} {a1 : Int32} (h : CLS g D T n o k ea tx H) (wf : WF D M B) (K : ∀ g', FCX g g' → CLS g' D T n o k ea tx H → (∀ v, aFol D a1 = .inl v → g'.2.1 0 90 0 = v.toInt64) → Φ (.inl (some (vI (nI (anK (aFol D a1)))))) g') : Rn sc (d + 30) 240 [vR 0 20, vI a1, vR 0 90] g Φ := Rn.of rfl (v240_0 (q111 h wf (post1 (Φ := Φ) (x_aFol) K)))
theorem c869 (h : REL g M B) (hb : BND M B) (hi : IX sc x4) (N : NXT sc (d + 1300) x4 M B Φ) : Xe sc (d + 1300) 251 869 [vR 0 901, vR 0 20, vR 0 70, vR 0 90, vI x4, w5, w6] [] g Φ := by
  obtain ⟨D, T, n, o, k, w, ea, tx, H, hc, hr, hI, hT, hB, hE⟩ := h
  have hz := hI.1
  have hk := hc.2.2.2.2.2.2.2.2.1
  refine v251_869 ⟨hi.1, u240 hc hz.f (fun g1 f1 c1 v1 => ⟨_, rfl, hi.1, q214 (hr.cw f1) hz.f (KR.t (Φ := Φ) (d := d) (x4 := x4) (fun e c q => Or.inl (x_aFol e c q).2) c1 v1 N hI hb hT hB (Nat.le_trans f1.2 (Nat.succ_le_succ hE)))⟩)⟩
theorem u241 {D : Nat → Nat → Int32} {T : List Nat} {n o k : Nat} {ea : Int32} {tx : Nat → Nat} {H : Nat → Nat → Nat → Int32} {a1 : Int32} {a2 : Int32} (h : CLS g D T n o k ea tx H) (wf : WF D M B) (K : ∀ g', FCX g g' → CLS g' D T n o k ea tx H → (∀ v, aWld D a1 a2 = .inl v → g'.2.1 0 90 0 = v.toInt64) → Φ (.inl (some (vI (nI (anK (aWld D a1 a2)))))) g') : Rn sc (d + 30) 241 [vR 0 20, vI a1, vI a2, vR 0 90] g Φ := Rn.of rfl (v241_0 (q112 h wf (post1 (Φ := Φ) (x_aWld) K)))
theorem c925 (h : REL g M B) (hb : BND M B) (hi : IX sc x4) (N : NXT sc (d + 1300) x4 M B Φ) : Xe sc (d + 1300) 251 925 [vR 0 901, vR 0 20, vR 0 70, vR 0 90, vI x4, w5, w6] [] g Φ := by
  obtain ⟨D, T, n, o, k, w, ea, tx, H, hc, hr, hI, hT, hB, hE⟩ := h
  have hz := hI.1
  have hk := hc.2.2.2.2.2.2.2.2.1
  refine v251_925 ⟨hi.1, hi.2.1, u241 hc hz.f (fun g1 f1 c1 v1 => ⟨_, rfl, hi.1, hi.2.1, q215 (hr.cw f1) hz.f (KR.t (Φ := Φ) (d := d) (x4 := x4) (fun e c q => Or.inl (x_aWld e c q).2) c1 v1 N hI hb hT hB (Nat.le_trans f1.2 (Nat.succ_le_succ hE)))⟩)⟩
theorem u243 {D : Nat → Nat → Int32} {T : List Nat} {n o k : Nat} {ea : Int32} {tx : Nat → Nat} {H : Nat → Nat → Nat → Int32} {a1 : Int32} (h : CLS g D T n o k ea tx H) (hT : T.length ≤ 1400) (K : ∀ g', FCX g g' → CLS g' D T n o k ea tx H → (∀ v, aPby T a1 = .inl v → g'.2.1 0 90 0 = v.toInt64) → Φ (.inl (some (vI (nI (anK (aPby T a1)))))) g') : Rn sc (d + 30) 243 [vR 0 20, vI a1, vR 0 90] g Φ := Rn.of rfl (v243_0 (q114 h hT (post1 (Φ := Φ) (x_aPby) K)))
theorem c1049 (h : REL g M B) (hb : BND M B) (hi : IX sc x4) (N : NXT sc (d + 1300) x4 M B Φ) : Xe sc (d + 1300) 251 1049 [vR 0 901, vR 0 20, vR 0 70, vR 0 90, vI x4, w5, w6] [] g Φ := by
  obtain ⟨D, T, n, o, k, w, ea, tx, H, hc, hr, hI, hT, hB, hE⟩ := h
  have hz := hI.1
  have hk := hc.2.2.2.2.2.2.2.2.1
  refine v251_1049 ⟨hi.1, u243 hc hT (fun g1 f1 c1 v1 => ⟨_, rfl, hi.1, q219 (hr.cw f1) hT (KR.t (Φ := Φ) (d := d) (x4 := x4) (fun e c q => Or.inl (x_aPby e c q).2) c1 v1 N hI hb hT hB (Nat.le_trans f1.2 (Nat.succ_le_succ hE)))⟩)⟩
theorem u242 {D : Nat → Nat → Int32} {T : List Nat} {n o k : Nat} {ea a1 : Int32} {tx : Nat → Nat} {H : Nat → Nat → Nat → Int32} (h : CLS g D T n o k ea tx H) (wz : WZ D M B) (vn : VNK D) (K : ∀ g', FCX g g' → CLS g' D (tPth D a1 T) n o k ea tx H → (∀ v, aPth D a1 = .inl v → g'.2.1 0 90 0 = v.toInt64) → Φ (.inl (some (vI (nI (anK (aPth D a1)))))) g') : Rn sc (d + 30) 242 [vR 0 20, vI a1, vR 0 90] g Φ := Rn.of rfl (v242_0 (q113 h wz vn (post1 (Φ := Φ) x_aPth K)))
theorem c993 (h : REL g M B) (hb : BND M B) (hi : IX sc x4) (N : NXT sc (d + 1300) x4 M B Φ) : Xe sc (d + 1300) 251 993 [vR 0 901, vR 0 20, vR 0 70, vR 0 90, vI x4, w5, w6] [] g Φ := by
  obtain ⟨D, T, n, o, k, w, ea, tx, H, hc, hr, hI, hT, hB, hE⟩ := h
  have hz := hI.1
  have hk := hc.2.2.2.2.2.2.2.2.1
  have hT2 : (tPth D (sc.2 (x4 + nI 1).toNatClampNeg) T).length ≤ 1400 := by
    unfold tPth
    split
    · exact hT
    · rename_i r er
      exact txD_len hz.d hz.f.cw hz.p (rw9_some er).1
  refine v251_993 ⟨hi.1, u242 hc hz (VNK.of hr.mc.v) (fun g1 f1 c1 v1 => ⟨_, rfl, hi.1, q218 (hr.cw f1) hz (KR.t (Φ := Φ) (d := d) (x4 := x4) (fun e c q => Or.inl (x_aPth e c q).2) c1 v1 N hI hb hT2 hB (Nat.le_trans f1.2 (Nat.succ_le_succ hE)))⟩)⟩
theorem u244 {D : Nat → Nat → Int32} {T : List Nat} {n o k : Nat} {ea : Int32} {tx : Nat → Nat} {H : Nat → Nat → Nat → Int32} {a1 : Int32} {a2 : Int32} {a3 : Int32} (h : CLS g D T n o k ea tx H) (wf : WF D M B) (hB : B < 2 ^ 30) (K : ∀ g', FCX g g' → CP g' D T n o k ea tx H (bMnt D a1 a2 a3) → Φ (.inl (some (vI (nI (cnK (bMnt D a1 a2 a3)))))) g') : Rn sc (d + 30) 244 [vR 0 20, vI a1, vI a2, vI a3, vR 0 90] g Φ := Rn.of rfl (v244_0 (q115 h wf hB (pst2 (Φ := Φ) x_bMnt K)))
theorem c1105 (h : REL g M B) (hb : BND M B) (hi : IX sc x4) (N : NXT sc (d + 1300) x4 M B Φ) : Xe sc (d + 1300) 251 1105 [vR 0 901, vR 0 20, vR 0 70, vR 0 90, vI x4, w5, w6] [] g Φ := by
  obtain ⟨D, T, n, o, k, w, ea, tx, H, hc, hr, hI, hT, hB, hE⟩ := h
  have hz := hI.1
  have hk := hc.2.2.2.2.2.2.2.2.1
  have hB3 : B < 2 ^ 30 := by unfold BND at hb; omega
  have hB2 : B + 100 < 2 ^ 30 := by unfold BND at hb; omega
  have hM2 : M + 200 < 2 ^ 31 := by unfold BND at hb; omega
  refine v251_1105 ⟨hi.1, hi.2.1, hi.2.2.1, u244 hc hz.f hB3 (fun g1 f1 c1 => ⟨_, rfl, hi.1, hi.2.1, hi.2.2.1, q220 (hr.cw f1) hz.f hB3 (KRC.t (Φ := Φ) (d := d) (x4 := x4) (fun e c q => (x_bMnt e c q).imp And.right And.right) c1 N hI (fun v E q => bMnt_wz hz hB2 hM2 q) hk hb hT hB (Nat.le_trans f1.2 (Nat.succ_le_succ hE)))⟩)⟩
theorem u245 {D : Nat → Nat → Int32} {T : List Nat} {n o k : Nat} {ea : Int32} {tx : Nat → Nat} {H : Nat → Nat → Nat → Int32} {a1 : Int32} {a2 : Int32} {a3 : Int32} {a4 : Int32} (h : CLS g D T n o k ea tx H) (wf : WF D M B) (hB : B < 2 ^ 30) (K : ∀ g', FCX g g' → CP g' D T n o k ea tx H (bBnd D a1 a2 a3 a4) → Φ (.inl (some (vI (nI (cnK (bBnd D a1 a2 a3 a4)))))) g') : Rn sc (d + 30) 245 [vR 0 20, vI a1, vI a2, vI a3, vI a4, vR 0 90] g Φ := Rn.of rfl (v245_0 (q116 h wf hB (pst1 (Φ := Φ) x_bBnd K)))
theorem c1185 (h : REL g M B) (hb : BND M B) (hi : IX sc x4) (N : NXT sc (d + 1300) x4 M B Φ) : Xe sc (d + 1300) 251 1185 [vR 0 901, vR 0 20, vR 0 70, vR 0 90, vI x4, w5, w6] [] g Φ := by
  obtain ⟨D, T, n, o, k, w, ea, tx, H, hc, hr, hI, hT, hB, hE⟩ := h
  have hz := hI.1
  have hk := hc.2.2.2.2.2.2.2.2.1
  have hB3 : B < 2 ^ 30 := by unfold BND at hb; omega
  have hB2 : B + 100 < 2 ^ 30 := by unfold BND at hb; omega
  have hM2 : M + 200 < 2 ^ 31 := by unfold BND at hb; omega
  refine v251_1185 ⟨hi.1, hi.2.1, hi.2.2.1, hi.2.2.2.1, u245 hc hz.f hB3 (fun g1 f1 c1 => ⟨_, rfl, hi.1, hi.2.1, hi.2.2.1, hi.2.2.2.1, q221 (hr.cw f1) hz.f hB3 (KRC.t (Φ := Φ) (d := d) (x4 := x4) (fun e c q => Or.inl (x_bBnd e c q).2) c1 N hI (fun v E q => bBnd_wz hz hB2 hM2 q) hk hb hT hB (Nat.le_trans f1.2 (Nat.succ_le_succ hE)))⟩)⟩
theorem u246 {D : Nat → Nat → Int32} {T : List Nat} {n o k : Nat} {ea : Int32} {tx : Nat → Nat} {H : Nat → Nat → Nat → Int32} {a1 : Int32} {a2 : Int32} {a3 : Int32} (h : CLS g D T n o k ea tx H) (wf : WF D M B) (hB : B < 2 ^ 30) (K : ∀ g', FCX g g' → CP g' D T n o k ea tx H (bMov D a1 a2 a3) → Φ (.inl (some (vI (nI (cnK (bMov D a1 a2 a3)))))) g') : Rn sc (d + 30) 246 [vR 0 20, vI a1, vI a2, vI a3, vR 0 90] g Φ := Rn.of rfl (v246_0 (q117 h wf hB (pst1 (Φ := Φ) x_bMov K)))
theorem c1277 (h : REL g M B) (hb : BND M B) (hi : IX sc x4) (N : NXT sc (d + 1300) x4 M B Φ) : Xe sc (d + 1300) 251 1277 [vR 0 901, vR 0 20, vR 0 70, vR 0 90, vI x4, w5, w6] [] g Φ := by
  obtain ⟨D, T, n, o, k, w, ea, tx, H, hc, hr, hI, hT, hB, hE⟩ := h
  have hz := hI.1
  have hk := hc.2.2.2.2.2.2.2.2.1
  have hB3 : B < 2 ^ 30 := by unfold BND at hb; omega
  have hB2 : B + 100 < 2 ^ 30 := by unfold BND at hb; omega
  have hM2 : M + 200 < 2 ^ 31 := by unfold BND at hb; omega
  refine v251_1277 ⟨hi.1, hi.2.1, hi.2.2.1, u246 hc hz.f hB3 (fun g1 f1 c1 => ⟨_, rfl, hi.1, hi.2.1, hi.2.2.1, q222 (hr.cw f1) hz.f hB3 (KRC.t (Φ := Φ) (d := d) (x4 := x4) (fun e c q => Or.inl (x_bMov e c q).2) c1 N hI (fun v E q => bMov_wz hz hB2 hM2 q) hk hb hT hB (Nat.le_trans f1.2 (Nat.succ_le_succ hE)))⟩)⟩
theorem u247 {D : Nat → Nat → Int32} {T : List Nat} {n o k : Nat} {ea : Int32} {tx : Nat → Nat} {H : Nat → Nat → Nat → Int32} {a1 : Int32} (h : CLS g D T n o k ea tx H) (wf : WF D M B) (K : ∀ g', FCX g g' → CP g' D T n o k ea tx H (bUnm D a1) → Φ (.inl (some (vI (nI (cnK (bUnm D a1)))))) g') : Rn sc (d + 30) 247 [vR 0 20, vI a1, vR 0 90] g Φ := Rn.of rfl (v247_0 (q118 h wf (pst1 (Φ := Φ) x_bUnm K)))
theorem c1357 (h : REL g M B) (hb : BND M B) (hi : IX sc x4) (N : NXT sc (d + 1300) x4 M B Φ) : Xe sc (d + 1300) 251 1357 [vR 0 901, vR 0 20, vR 0 70, vR 0 90, vI x4, w5, w6] [] g Φ := by
  obtain ⟨D, T, n, o, k, w, ea, tx, H, hc, hr, hI, hT, hB, hE⟩ := h
  have hz := hI.1
  have hk := hc.2.2.2.2.2.2.2.2.1
  have hB3 : B < 2 ^ 30 := by unfold BND at hb; omega
  have hB2 : B + 100 < 2 ^ 30 := by unfold BND at hb; omega
  have hM2 : M + 200 < 2 ^ 31 := by unfold BND at hb; omega
  refine v251_1357 ⟨hi.1, u247 hc hz.f (fun g1 f1 c1 => ⟨_, rfl, hi.1, q223 (hr.cw f1) hz.f (KRC.t (Φ := Φ) (d := d) (x4 := x4) (fun e c q => Or.inl (x_bUnm e c q).2) c1 N hI (fun v E q => bUnm_wz hz hM2 q) hk hb hT hB (Nat.le_trans f1.2 (Nat.succ_le_succ hE)))⟩)⟩
theorem u248 {D : Nat → Nat → Int32} {T : List Nat} {n o k : Nat} {ea : Int32} {tx : Nat → Nat} {H : Nat → Nat → Nat → Int32} {a1 : Int32} {a2 : Int32} (h : CLS g D T n o k ea tx H) (wf : WF D M B) (K : ∀ g', FCX g g' → CP g' D T n o k ea tx H (bMak D a1 a2) → Φ (.inl (some (vI (nI (cnK (bMak D a1 a2)))))) g') : Rn sc (d + 30) 248 [vR 0 20, vI a1, vI a2, vR 0 90] g Φ := Rn.of rfl (v248_0 (q119 h wf (pst2 (Φ := Φ) x_bMak K)))
theorem c1413 (h : REL g M B) (hb : BND M B) (hi : IX sc x4) (N : NXT sc (d + 1300) x4 M B Φ) : Xe sc (d + 1300) 251 1413 [vR 0 901, vR 0 20, vR 0 70, vR 0 90, vI x4, w5, w6] [] g Φ := by
  obtain ⟨D, T, n, o, k, w, ea, tx, H, hc, hr, hI, hT, hB, hE⟩ := h
  have hz := hI.1
  have hk := hc.2.2.2.2.2.2.2.2.1
  have hB3 : B < 2 ^ 30 := by unfold BND at hb; omega
  have hB2 : B + 100 < 2 ^ 30 := by unfold BND at hb; omega
  have hM2 : M + 200 < 2 ^ 31 := by unfold BND at hb; omega
  refine v251_1413 ⟨hi.1, hi.2.1, u248 hc hz.f (fun g1 f1 c1 => ⟨_, rfl, hi.1, hi.2.1, q224 (hr.cw f1) hz.f (KRC.t (Φ := Φ) (d := d) (x4 := x4) (fun e c q => (x_bMak e c q).imp And.right And.right) c1 N hI (fun v E q => bMak_wz hz hB2 hM2 q) hk hb hT hB (Nat.le_trans f1.2 (Nat.succ_le_succ hE)))⟩)⟩
theorem u250 {D : Nat → Nat → Int32} {T : List Nat} {n o k : Nat} {ea : Int32} {tx : Nat → Nat} {H : Nat → Nat → Nat → Int32}  (h : CLS g D T n o k ea tx H) (wf : WF D M B) (K : ∀ g', FCX g g' → CP g' D T n o k ea tx H (bDrp D ) → Φ (.inl (some (vI (nI (cnK (bDrp D )))))) g') : Rn sc (d + 30) 250 [vR 0 20, vR 0 90] g Φ := Rn.of rfl (v250_0 (q121 h wf (pst1 (Φ := Φ) x_bDrp K)))
theorem c1565 (h : REL g M B) (hb : BND M B) (hi : IX sc x4) (N : NXT sc (d + 1300) x4 M B Φ) : Xe sc (d + 1300) 251 1565 [vR 0 901, vR 0 20, vR 0 70, vR 0 90, vI x4, w5, w6] [] g Φ := by
  obtain ⟨D, T, n, o, k, w, ea, tx, H, hc, hr, hI, hT, hB, hE⟩ := h
  have hz := hI.1
  have hk := hc.2.2.2.2.2.2.2.2.1
  have hB3 : B < 2 ^ 30 := by unfold BND at hb; omega
  have hB2 : B + 100 < 2 ^ 30 := by unfold BND at hb; omega
  have hM2 : M + 200 < 2 ^ 31 := by unfold BND at hb; omega
  refine v251_1565 (u250 hc hz.f (fun g1 f1 c1 => ⟨_, rfl, q226 (hr.cw f1) hz.f (KRC.t (Φ := Φ) (d := d) (x4 := x4) (fun e c q => Or.inl (x_bDrp e c q).2) c1 N hI (fun v E q => bDrp_wz hz hM2 q) hk hb hT hB (Nat.le_trans f1.2 (Nat.succ_le_succ hE)))⟩))
theorem u249 (lk : Bool) {D : Nat → Nat → Int32} {T : List Nat} {n o k : Nat} {ea : Int32} {tx : Nat → Nat} {H : Nat → Nat → Nat → Int32} {a1 : Int32} (h : CLS g D T n o k ea tx H) (wf : WF D M B) (K : ∀ g', FCX g g' → CP g' D T n o k ea tx H (bCps D a1 lk) → Φ (.inl (some (vI (nI (cnK (bCps D a1 lk)))))) g') : Rn sc (d + 30) 249 [vR 0 20, vI a1, vI (if lk = true then nI 1 else nI 0), vR 0 90] g Φ := Rn.of rfl (v249_0 (q120 lk h wf (pst1 (Φ := Φ) x_bCps K)))
theorem c1481 (h : REL g M B) (hb : BND M B) (hi : IX sc x4) (N : NXT sc (d + 1300) x4 M B Φ) : Xe sc (d + 1300) 251 1481 [vR 0 901, vR 0 20, vR 0 70, vR 0 90, vI x4, w5, w6] [] g Φ := by
  obtain ⟨D, T, n, o, k, w, ea, tx, H, hc, hr, hI, hT, hB, hE⟩ := h
  have hz := hI.1
  have hk := hc.2.2.2.2.2.2.2.2.1
  have hB3 : B < 2 ^ 30 := by unfold BND at hb; omega
  have hB2 : B + 100 < 2 ^ 30 := by unfold BND at hb; omega
  have hM2 : M + 200 < 2 ^ 31 := by unfold BND at hb; omega
  exact v251_1481 ⟨hi.1, hi.2.1, fun _ => u249 false hc hz.f (fun g1 f1 c1 => ⟨_, rfl, hi.1, hi.2.1, q225 false (hr.cw f1) hz.f (KRC.t (Φ := Φ) (d := d) (x4 := x4) (fun e c q => Or.inl (x_bCps e c q).2) c1 N hI (fun v E q => bCps_wz hz hM2 q) hk hb hT hB (Nat.le_trans f1.2 (Nat.succ_le_succ hE)))⟩), fun _ => u249 true hc hz.f (fun g1 f1 c1 => ⟨_, rfl, hi.1, hi.2.1, q225 true (hr.cw f1) hz.f (KRC.t (Φ := Φ) (d := d) (x4 := x4) (fun e c q => Or.inl (x_bCps e c q).2) c1 N hI (fun v E q => bCps_wz hz hM2 q) hk hb hT hB (Nat.le_trans f1.2 (Nat.succ_le_succ hE)))⟩)⟩
end CA
