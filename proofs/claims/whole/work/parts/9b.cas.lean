/-! CASES of the law: append, load, errorOffset, look, isSeen, undo, checksum -/
section CB
variable {sc : SC} {d M B : Nat} {g : Gs} {Φ : RS → Gs → Prop} {x4 : Int32} {w5 w6 : AV}
theorem c156 (h : REL g M B) (hb : BND M B) (hi : IX sc x4) (N : NXT sc (d + 1300) x4 M B Φ) : Xe sc (d + 1300) 251 156 [vR 0 901, vR 0 20, vR 0 70, vR 0 90, vI x4, w5, w6] [] g Φ := by
  obtain ⟨D, T, n, o, k, w, ea, tx, H, hc, hr, hI, hT, hB, hE⟩ := h
  obtain ⟨i1, i2, i3, i4, i5⟩ := hi
  refine v251_156 ⟨i1, i2, i3, i4, i5, q94 hc (fun q => ⟨_, rfl, i1, i2, i3, i4, i5, q175 hr (fun _ g2 f2 r2 => ⟨_, rfl, fun _ => N g2 _ _ (endQ hI hb hT hB (by rw [f2.2.2]; omega) (hc.frf f2) r2), fun z => absurd rfl z⟩) (fun z => by omega)⟩) (fun q g1 f1 c1 => ⟨_, rfl, i1, i2, i3, i4, i5, q175 (hr.cw f1.x) (fun z => by omega) (fun _ g2 f2 r2 => ⟨_, rfl, fun _ => N g2 _ _ (endQ hI hb hT hB (by rw [f2.2.2]; have := f1.2; omega) (c1.frf f2) r2), fun z => absurd rfl z⟩)⟩)⟩
theorem c285 (h : REL g M B) (hb : BND M B) (N : NXT sc (d + 1300) x4 M B Φ) : Xe sc (d + 1300) 251 285 [vR 0 901, vR 0 20, vR 0 70, vR 0 90, vI x4, w5, w6] [] g Φ := by
  obtain ⟨D, T, n, o, k, w, ea, tx, H, hc, hr, hI, hT, hB, hE⟩ := h
  refine v251_285 (q97 hc (fun g1 f1 c1 => ⟨ea, rfl, q196 (hr.cw f1) (fun g2 r f2 r2 t2 e2 => ⟨r, rfl, fun _ => N g2 _ _ (endQ hI hb hT hB (by rw [f2.2.2]; have := f1.2; omega) (c1.frf f2) r2), fun z => absurd (e2 ea rfl).symm z⟩)⟩))
theorem c1609 (h : REL g M B) (hb : BND M B) (N : NXT sc (d + 1300) x4 M B Φ) : Xe sc (d + 1300) 251 1609 [vR 0 901, vR 0 20, vR 0 70, vR 0 90, vI x4, w5, w6] [] g Φ := by
  obtain ⟨D, T, n, o, k, w, ea, tx, H, hc, hr, hI, hT, hB, hE⟩ := h
  refine v251_1609 (q122 hc (fun j hj => (hI.2 j hj).f.cw.1) (fun k0 => ⟨_, rfl, q227 hr (fun _ g2 f2 r2 => ⟨_, rfl, fun _ => N g2 _ _ (endQ hI hb hT hB (by rw [f2.2.2]; omega) (hc.frf f2) r2), fun z => absurd rfl z⟩) (fun q e => by omega)⟩) (fun q e g1 X f1 x1 c1 => ⟨_, rfl, q227 (hr.cw f1.x) (fun k0 => by omega) (fun q' e' g2 f2 r2 => ?_)⟩))
  have eq : q' = q := by omega
  subst eq
  refine ⟨_, rfl, fun _ => N g2 _ _ (endQ ⟨x1.wz (hI.2 q' (by omega)), fun j hj => hI.2 j (by omega)⟩ hb hT hB (by rw [f2.2.2]; have := f1.2; omega) (c1.frf f2) (r2 X x1)), fun z => absurd rfl z⟩
theorem c1622 (h : REL g M B) (hb : BND M B) (N : NXT sc (d + 1300) x4 M B Φ) : Xe sc (d + 1300) 251 1622 [vR 0 901, vR 0 20, vR 0 70, vR 0 90, vI x4, w5, w6] [] g Φ := by
  obtain ⟨D, T, n, o, k, w, ea, tx, H, hc, hr, hI, hT, hB, hE⟩ := h
  refine v251_1622 (q123 hc hI.1 (fun g1 f1 c1 => ⟨_, rfl, q229 (hr.cw f1.x) hI.1 (fun g2 f2 r2 => ⟨_, rfl, fun _ => N g2 _ _ (endQ hI hb hT hB (by rw [f2.2.2]; have := f1.2; omega) (c1.frf f2) r2), fun z => absurd lgc_self z⟩)⟩))
theorem u237x {D : Nat → Nat → Int32} {T : List Nat} {n o k : Nat} {ea a b : Int32} {tx : Nat → Nat} {H : Nat → Nat → Nat → Int32} {A : AN} (h : CLS g D T n o k ea tx H) (wf : WF D M B) (hA : (¬ INR a (sN D) ∧ A = .inr (2, 1)) ∨ (INR a (sN D) ∧ ¬ INR b (n + 1) ∧ A = .inr (0, 2))) (xA : ∀ e c, A = .inr (e, c) → (e = 2 ∧ c = 1) ∨ (e = 0 ∧ c = 2)) (K : ∀ g', FCX g g' → CLS g' D T n o k ea tx H → (∀ v, A = .inl v → g'.2.1 0 90 0 = v.toInt64) → Φ (.inl (some (vI (nI (anK A))))) g') : Rn sc (d + 30) 237 [vR 0 20, vI a, vI b, vR 0 90] g Φ := Rn.of rfl (v237_0 (q107x h wf hA (post2 (Φ := Φ) xA K)))
theorem c670 (h : REL g M B) (hb : BND M B) (hi : IX sc x4) (N : NXT sc (d + 1300) x4 M B Φ) : Xe sc (d + 1300) 251 670 [vR 0 901, vR 0 20, vR 0 70, vR 0 90, vI x4, w5, w6] [] g Φ := by
  obtain ⟨D, T, n, o, k, w, ea, tx, H, hc, hr, hI, hT, hB, hE⟩ := h
  have wf := hI.1.f
  obtain ⟨s1, s2, s3, s4, s5⟩ := wf.spk
  have n6 := hc.2.2.2.1.1
  obtain ⟨a, ha⟩ : ∃ a, a = sc.2 (x4 + nI 1).toNatClampNeg := ⟨_, rfl⟩
  obtain ⟨b, hb2⟩ : ∃ b, b = sc.2 (x4 + nI 2).toNatClampNeg := ⟨_, rfl⟩
  have bad : ∀ A : AN, (¬ INR a (sN D) ∧ A = .inr (2, 1)) ∨ (INR a (sN D) ∧ ¬ INR b (n + 1) ∧ A = .inr (0, 2)) → Xe sc (d + 1300) 251 670 [vR 0 901, vR 0 20, vR 0 70, vR 0 90, vI x4, w5, w6] [] g Φ := fun A hA => by
    have xA : ∀ e c, A = .inr (e, c) → (e = 2 ∧ c = 1) ∨ (e = 0 ∧ c = 2) := fun e c q => by
      rcases hA with ⟨_, e1⟩ | ⟨_, _, e1⟩
      · rw [e1] at q; cases q; exact Or.inl ⟨rfl, rfl⟩
      · rw [e1] at q; cases q; exact Or.inr ⟨rfl, rfl⟩
    refine v251_670 ?_
    rw [← ha, ← hb2]
    exact ⟨hi.1, hi.2.1, u237x hc wf hA xA (fun g1 f1 c1 v1 => ⟨_, rfl, hi.1, hi.2.1, q208x (hr.cw f1) wf hA (KR.t (Φ := Φ) (d := d) (x4 := x4) (fun e c q => (xA e c q).imp And.right And.right) c1 v1 N hI hb hT hB (Nat.le_trans f1.2 (Nat.succ_le_succ hE)))⟩)⟩
  by_cases h1 : INR a (sN D)
  · by_cases h2 : INR b (n + 1)
    · obtain ⟨z, hz, ez⟩ := h1.of (by omega)
      obtain ⟨L, hL, eL⟩ := h2.of (by omega)
      obtain ⟨v, eb, hC, hR⟩ := lookP (tx := tx) hI.1 hz (show L ≤ n by omega) n6
      refine v251_670 ?_
      rw [← ha, ← hb2, ez, eL]
      refine ⟨hi.1, hi.2.1, Rn.of rfl (v237_0 ?_)⟩
      refine hC sc (d + 1279) g _ T o k ea H hc (fun g1 f1 c1 => Or.inl ⟨v, rfl, fun G5 e5 => ⟨_, rfl, hi.1, hi.2.1, ?_⟩⟩)
      refine hR sc (d + 1280) (g1.1, G5, g1.2.2) _ T k w ea H (hr.cw (g' := (g1.1, G5, g1.2.2)) f1.x) (fun g2 f2 r2 t2 => ⟨v, rfl, ?_⟩)
      have c2 : CLS (g1.1, G5, g1.2.2) D T 0 o k eb tx H := c1
      exact tail (kk := 0) (by decide) t2 (fun _ => (congrFun (f2.2.1 0 90 (by decide)) 0).trans (j90 e5)) (N g2 _ _ (endQ hI hb hT hB (by rw [f2.2.2]; have := f1.2; dsimp only; omega) (c2.frf f2) r2))
    · exact bad _ (Or.inr ⟨h1, h2, rfl⟩)
  · exact bad _ (Or.inl ⟨h1, rfl⟩)
theorem u230x {D : Nat → Nat → Int32} {T : List Nat} {n o k : Nat} {ea a : Int32} {tx : Nat → Nat} {H : Nat → Nat → Nat → Int32} (h : CLS g D T n o k ea tx H) (ha : ¬ INR a (n + 1)) (K : ∀ g', FCX g g' → CLS g' D T n o k ea tx H → (∀ v, (.inr (0, 1) : AN) = .inl v → g'.2.1 0 90 0 = v.toInt64) → Φ (.inl (some (vI (nI (anK (.inr (0, 1))))))) g') : Rn sc (d + 30) 230 [vR 0 20, vI a, vR 0 90] g Φ := Rn.of rfl (v230_0 (q95x h ha (post1 (Φ := Φ) (e0 := 0) (fun e c q => by cases q; exact ⟨rfl, rfl⟩) K)))
theorem c229 (h : REL g M B) (hb : BND M B) (hi : IX sc x4) (N : NXT sc (d + 1300) x4 M B Φ) : Xe sc (d + 1300) 251 229 [vR 0 901, vR 0 20, vR 0 70, vR 0 90, vI x4, w5, w6] [] g Φ := by
  obtain ⟨D, T, n, o, k, w, ea, tx, H, hc, hr, hI, hT, hB, hE⟩ := h
  have wf := hI.1.f
  have n6 := hc.2.2.2.1.1
  have hk := hc.2.2.2.2.2.2.2.2.1
  obtain ⟨a, ha⟩ : ∃ a, a = sc.2 (x4 + nI 1).toNatClampNeg := ⟨_, rfl⟩
  refine v251_229 ?_
  rw [← ha]
  by_cases h1 : INR a (n + 1)
  · obtain ⟨L, hL, eL⟩ := h1.of (by omega)
    rw [eL]
    obtain ⟨R, hE, hC, hR⟩ := loadP (tx := tx) (D := D) (show L ≤ n by omega) n6 (g.1 1)
    refine ⟨hi.1, Rn.of rfl (v230_0 ?_)⟩
    rcases R with ⟨c, off⟩ | E
    · refine hC sc (d + 59) g _ T o k ea H hc (fun _ _ => rfl) wf.cw.1 (fun c' off' q' g1 f1 c1 => ?_) (fun E q => by cases q)
      cases q'
      refine Or.inl ⟨c, rfl, fun G5 e5 => ⟨_, rfl, hi.1, ?_⟩⟩
      refine hR sc (d + 60) (g1.1, G5, g1.2.2) _ T k w ea H (hr.cw (g' := (g1.1, G5, g1.2.2)) f1.x) (fun c' off' q' g2 f2 r2 t2 => ?_) (fun E q => by cases q)
      cases q'
      have c2 : CLS (g1.1, G5, g1.2.2) D T 0 o k (nI off) tx H := c1
      exact ⟨c, rfl, tail (kk := 0) (by decide) t2 (fun _ => (congrFun (f2.2.1 0 90 (by decide)) 0).trans (j90 e5)) (N g2 _ _ (endQ hI hb hT hB (by rw [f2.2.2]; have := f1.2; dsimp only; omega) (c2.frf f2) r2))⟩
    · refine hC sc (d + 59) g _ T o k ea H hc (fun _ _ => rfl) wf.cw.1 (fun c' off' q' => by cases q') (fun E' q g1 X Y f1 x1 y1 c1 => ?_)
      cases q
      refine Or.inl ⟨_, rfl, fun G5 e5 => ⟨_, rfl, hi.1, ?_⟩⟩
      refine hR sc (d + 60) (g1.1, G5, g1.2.2) _ T k w ea H (hr.cw (g' := (g1.1, G5, g1.2.2)) f1.x) (fun c' off' q' => by cases q') (fun E' q g2 f2 r2 t2 => ?_)
      cases q
      have c2 : CLS (g1.1, G5, g1.2.2) Y T 0 (oN o k) (kN k) (-nI 1) tx (hN k H X) := c1
      have hY : WZ Y M B := y1.wz ((hE E rfl).mono (Nat.zero_le _) hB (by unfold BND at hb; omega))
      exact ⟨_, rfl, tail (kk := 0) (by decide) t2 (fun _ => (congrFun (f2.2.1 0 90 (by decide)) 0).trans (j90 e5)) (N g2 _ _ (endQ ⟨hY, (hI.kp hk x1).2⟩ hb hT hB (by rw [f2.2.2]; have := f1.2; dsimp only; omega) (c2.frf f2) (r2 X Y x1 y1)))⟩
  · exact ⟨hi.1, u230x hc h1 (fun g1 f1 c1 v1 => ⟨_, rfl, hi.1, q195x (hr.cw f1) h1 (KR.t (Φ := Φ) (d := d) (x4 := x4) (fun e c q => by cases q; exact Or.inl rfl) c1 v1 N hI hb hT hB (Nat.le_trans f1.2 (Nat.succ_le_succ hE)))⟩)⟩
theorem aIsS_v {D : Nat → Nat → Int32} {a b v : Int32} (h : aIsS D a b = .inl v) : v = nI 0 ∨ v = nI 1 := by
  unfold aIsS at h
  split at h
  · cases h
  · injection h with h
    rw [← h]
    split
    · exact Or.inr rfl
    · exact Or.inl rfl
theorem u239 {D : Nat → Nat → Int32} {T : List Nat} {n o k : Nat} {ea a1 a2 : Int32} {tx : Nat → Nat} {H : Nat → Nat → Nat → Int32} (h : CLS g D T n o k ea tx H) (wz : WZ D M B) (K : ∀ g', FCX g g' → CLS g' D T n o k ea tx H → (∀ v, aIsS D a1 a2 = .inl v → g'.2.1 0 90 0 = if v = nI 0 then Int64.ofNat 0 else Int64.ofNat 1) → Φ (.inl (some (vI (nI (anK (aIsS D a1 a2)))))) g') : Rn sc (d + 30) 239 [vR 0 20, vI a1, vI a2, vR 0 90] g Φ := by
  refine Rn.of rfl (v239_0 (q110 h wz (fun g1 f1 c1 => ?_)))
  have hx := x_aIsS (D := D) (a := a1) (b := a2)
  cases hA : aIsS D a1 a2 with
  | inl v =>
    rw [hA] at K
    refine Or.inl ⟨v, rfl, fun q G5 e5 => K _ f1 c1 (fun v' q' => ?_), fun q G5 e5 => K _ f1 c1 (fun v' q' => ?_)⟩
    · injection q' with q'; rw [← q', if_pos q]; exact j90 e5
    · injection q' with q'; rw [← q', if_neg q]; exact j90 e5
  | inr ec =>
    obtain ⟨e, c⟩ := ec
    obtain ⟨rfl, rfl⟩ := hx e c hA
    rw [hA] at K
    exact Or.inr ⟨rfl, K g1 f1 c1 (fun v q => by cases q)⟩
theorem c794 (h : REL g M B) (hb : BND M B) (hi : IX sc x4) (N : NXT sc (d + 1300) x4 M B Φ) : Xe sc (d + 1300) 251 794 [vR 0 901, vR 0 20, vR 0 70, vR 0 90, vI x4, w5, w6] [] g Φ := by
  obtain ⟨D, T, n, o, k, w, ea, tx, H, hc, hr, hI, hT, hB, hE⟩ := h
  refine v251_794 ⟨hi.1, hi.2.1, u239 hc hI.1 (fun g1 f1 c1 v1 => ⟨_, rfl, hi.1, hi.2.1, q213 (hr.cw f1) hI.1 (fun g2 r f2 r2 t2 e2 => ⟨r, rfl, ?_⟩)⟩)⟩
  have hN := fun x y => N g2 x y (endQ hI hb hT hB (by rw [f2.2.2]; have := f1.2; omega) (c1.frf f2) r2)
  obtain ⟨A, hA⟩ : ∃ A, A = aIsS D (sc.2 (x4 + nI 1).toNatClampNeg) (sc.2 (x4 + nI 2).toNatClampNeg) := ⟨_, rfl⟩
  have hx : ∀ e c, A = .inr (e, c) → e = 3 ∧ c = 1 := fun e c q => x_aIsS e c (hA ▸ q)
  have hv : ∀ v, A = .inl v → v = nI 0 ∨ v = nI 1 := fun v q => aIsS_v (hA ▸ q)
  rw [← hA] at t2 e2 v1 ⊢
  refine Rn.of rfl (v127_0 ⟨_, rfl, fun _ => ⟨fun q => ?_, fun _ => hN _ _⟩, fun q => absurd t2 q⟩)
  have e0 : (nI 0).toNatClampNeg = 0 := by decide +kernel
  have e9 : g2.2.1 0 90 0 = g1.2.1 0 90 0 := congrFun (f2.2.1 0 90 (by decide)) 0
  rw [e0, e9]
  rcases A with v | ⟨e, c⟩
  · have er := e2 v rfl
    have ev := v1 v rfl
    subst er
    rw [ev]
    refine ⟨fun z => ?_, fun z => ?_⟩
    · rw [if_pos z]; exact ⟨fun _ => hN _ _, fun y => absurd lgc_self y⟩
    · rw [if_neg z]; exact ⟨fun _ => hN _ _, fun y => absurd lgc_self y⟩
  · obtain ⟨rfl, rfl⟩ := hx e c rfl
    exact absurd q (by decide +kernel)
end CB
