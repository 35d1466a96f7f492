/-! QUERIES: seen, isSeen, followers, wouldMake, path, pathByte; undo -/
def sN (D : Nat → Nat → Int32) : Nat := (D 0 12).toNatClampNeg
def rt9 (D : Nat → Nat → Int32) (sp : Int32) : Nat := (fst9 (nR D) fun a => decide (D 7 a = sp ∧ D 10 a = -nI 1)).getD 0
theorem rt9_of {D : Nat → Nat → Int32} {sp : Int32} {a : Nat} (h : ROT D sp a) : rt9 D sp = a := by
  obtain ⟨h1, h2, h3, h4⟩ := h
  unfold rt9
  cases e : fst9 (nR D) fun a => decide (D 7 a = sp ∧ D 10 a = -nI 1) with
  | none =>
    have := fst9_none e a h1
    rw [decide_eq_false_iff_not] at this
    exact absurd ⟨h2, h3⟩ this
  | some b =>
    obtain ⟨b1, b2, _⟩ := fst9_some e
    have b3 := of_decide_eq_true b2
    exact h4 b b1 b3.1 b3.2
theorem WF.spk {D : Nat → Nat → Int32} {M B : Nat} (h : WF D M B) : D 0 12 = nI (sN D) ∧ 1 ≤ sN D ∧ sN D ≤ 4 ∧ (∀ a, a < nR D → ∃ z, z < sN D ∧ D 7 a = nI z) ∧ ∀ z, z < sN D → ROT D (nI z) (rt9 D (nI z)) := by
  obtain ⟨s, h1, h2, h3, h4, h5⟩ := h.sp
  have e : sN D = s := by unfold sN; rw [h1, nI_clamp (by omega)]
  rw [e]
  refine ⟨h1, h2, h3, h4, fun z hz => ?_⟩
  obtain ⟨a, ha⟩ := h5 z hz
  rw [rt9_of ha]
  exact ha
noncomputable def aSn (D : Nat → Nat → Int32) (a : Int32) : AN := if INR a (sN D) then .inl (nI (visN D (rtz D (rt9 D a)))) else .inr (2, 1)
noncomputable def aIsS (D : Nat → Nat → Int32) (a b : Int32) : AN := match pl9 D a b with
  | none => .inr (3, 1)
  | some r => .inl (if visB D (rtz D (rt9 D (D 7 r))) (plc (r, b)) = true then nI 1 else nI 0)
noncomputable def aFol (D : Nat → Nat → Int32) (a : Int32) : AN := match rw9 D a with
  | none => .inr (3, 1)
  | some r => .inl (nI (folL D r).length)
noncomputable def aWld (D : Nat → Nat → Int32) (a b : Int32) : AN := match pl9 D a b with
  | none => .inr (3, 1)
  | some r => .inl (match onP D r b with | none => nI (1 + ((folL D r).filter (cpb D r b)).length) | some _ => nI 0)
def aPth (D : Nat → Nat → Int32) (a : Int32) : AN := match rw9 D a with
  | none => .inr (3, 1)
  | some r => .inl (nI (txD D r).length)
def tPth (D : Nat → Nat → Int32) (a : Int32) (T : List Nat) : List Nat := match rw9 D a with
  | none => T
  | some r => txD D r
def aPby (T : List Nat) (a : Int32) : AN := if INR a T.length then .inl (nI (T.getD a.toNatClampNeg 0)) else .inr (2, 1)
theorem txD_len {D : Nat → Nat → Int32} {M x : Nat} (vd : VDP D) (cw : CW D M) (P : PIN D) (hx : x < nR D) : (txD D x).length ≤ 1400 := by
  unfold txD
  split
  · decide
  · exact part_len vd cw P hx (fun a ha => List.mem_reverse.mp ha) (by rw [List.length_reverse]; exact chn_len _ _)
section QQ
variable {sc : SC} {d n o k w M B : Nat} {g g' : Gs} {Φ : RS → Gs → Prop} {D : Nat → Nat → Int32} {T : List Nat} {ea a b : Int32} {tx : Nat → Nat} {H : Nat → Nat → Nat → Int32}
theorem FV.frf (f : FV g g') : FRF g g' := FRF.of f.1 (fun i c q => by omega)
theorem REF.fv (h : REF g D T n k w ea tx H) (f : FV g g') : REF g' D T n k w ea tx H := h.wk (fun z hz => f.2 z (by omega) (by omega)) (f.1.1 0 71 (by simp)) (f.1.1 0 78 (by simp)) (f.1.1 0 80 (by simp))
theorem q109 (h : CLS g D T n o k ea tx H) (wz : WZ D M B) (K : KC g D T n o k ea tx H (aSn D a) Φ) : Rn sc (d + 20) 109 [vR 0 20, vI a] g Φ := by
  obtain ⟨s1, s2, s3, s4, s5⟩ := wz.f.spk
  refine Rn.of rfl (y109_0 (s108 h.at s1 (fun hi => Or.inl ⟨rfl, ?_⟩) (fun hi => Or.inr ⟨_, rfl, K.x h (if_neg hi)⟩)))
  obtain ⟨z, hz, rfl⟩ := hi.of (by omega)
  refine s74 h.at wz.f.cw wz.f.ok wz.p (s5 z hz) (fun g1 L f1 _ _ _ _ _ => ⟨_, rfl, ?_⟩)
  exact K.v (FCW.of f1 (fun i c q => by omega)) (h.fr f1 (fun i c q => by omega)) (if_pos hi)
theorem q212 (h : REF g D T n k w ea tx H) (wz : WZ D M B) (K : KR g D T n k w ea tx H (aSn D a) Φ) : Rn sc (d + 20) 212 [vR 0 70, vI a] g Φ := by
  obtain ⟨s1, s2, s3, s4, s5⟩ := wz.f.spk
  have w10 := h.mc.l
  refine Rn.of rfl (y212_0 ?_)
  intro G1 e1
  obtain ⟨f1, h1, t1⟩ := h.z e1
  have m1 := h1.mc
  have w1 : G1 0 70 2 = nI w := m1.w
  have e2 : G1 0 71 (780 * w + 1) = nI (sN D) := m1.m.1.trans s1
  have i1 : inb (nI 780 * G1 0 70 2 + nI 1) 7800 = true := by rw [w1]; simp (disch := omega) only [u3_nc, u3_ek, u3_nk, upd_e, upd_n, dU_nk, dU_nc, dU_e, nI_ltI, nI_eq, nI_clamp, nI_add, nI_mul, inb_nI, nI_neg1, nI_ne1, nI_n1e, nI_neg1e, Nat.not_lt_zero, Nat.lt_irrefl, true_and, and_true, true_implies, false_implies, not_true_eq_false, not_false_eq_true, implies_true, forall_const, if_true, if_false, Nat.reduceEqDiff, eq_self, Nat.one_ne_zero, Nat.zero_ne_one, Nat.zero_add, Nat.add_zero]
  have i2 : (nI 780 * G1 0 70 2 + nI 1).toNatClampNeg = 780 * w + 1 := by rw [w1]; simp (disch := omega) only [u3_nc, u3_ek, u3_nk, upd_e, upd_n, dU_nk, dU_nc, dU_e, nI_ltI, nI_eq, nI_clamp, nI_add, nI_mul, inb_nI, nI_neg1, nI_ne1, nI_n1e, nI_neg1e, Nat.not_lt_zero, Nat.lt_irrefl, true_and, and_true, true_implies, false_implies, not_true_eq_false, not_false_eq_true, implies_true, forall_const, if_true, if_false, Nat.reduceEqDiff, eq_self, Nat.one_ne_zero, Nat.zero_ne_one, Nat.zero_add, Nat.add_zero]
  refine ⟨i1, ?_⟩
  rw [i2, e2]
  refine s128r (n := sN D) (by omega) (pre1 (by omega)) ⟨_, rfl, s134 (code := 1) t1 (Or.inl rfl) (fun hb => ⟨_, rfl, fun q => absurd q (by decide +kernel), fun _ => ?_⟩) (fun hb g' f t => ⟨_, rfl, fun _ => K.x (f1.tr f).frf (h1.th f) t (if_neg hb), fun q => absurd rfl q⟩)⟩
  obtain ⟨z, hz, rfl⟩ := hb.of (by omega)
  refine s211 m1 wz.f.cw wz.f.rk wz.p (s5 z hz) (fun g2 m2 f2 _ => ⟨_, rfl, ?_⟩)
  exact K.v (f1.frf.tr f2.frf) (h1.fv f2) ((f2.2 0 (by decide) (by decide)).trans t1) (if_pos hb)
theorem q110 (h : CLS g D T n o k ea tx H) (wz : WZ D M B) (K : KC g D T n o k ea tx H (aIsS D a b) Φ) : Rn sc (d + 20) 110 [vR 0 20, vI a, vI b] g Φ := by
  obtain ⟨s1, s2, s3, s4, s5⟩ := wz.f.spk
  have n40 := wz.f.n40
  refine Rn.of rfl (y110_0 (s104 h.at wz.f.cw (fun r er => Or.inl ⟨_, rfl, ?_⟩) (fun er => Or.inr ⟨_, rfl, K.x h (by unfold aIsS; rw [er])⟩)))
  obtain ⟨hr, hd⟩ := pl9_some er
  obtain ⟨z, hz, e7⟩ := s4 r hr
  have c7 : (nI r).toNatClampNeg = r := nI_clamp (by omega)
  refine ⟨inb_nI (by omega) (by decide), ?_⟩
  rw [c7, h.at 7 (by decide), e7]
  refine s74 h.at wz.f.cw wz.f.ok wz.p (s5 z hz) (fun g1 L f1 t1 hL vL lL l48 => ⟨_, rfl, ?_⟩)
  have sh := t1.shows wz.f.cw vL hr hd
  refine s77 (N := L.length) t1.1 l48 ⟨_, rfl, ?_, ?_⟩
  · split
    · exact Or.inr rfl
    · exact Or.inl rfl
  · refine K.v (FCW.of f1 (fun i c q => by omega)) (h.fr f1 (fun i c q => by omega)) ?_
    unfold aIsS
    rw [er]
    dsimp only
    rw [sh, e7]
    congr 1
    have := hL (plc (r, b))
    by_cases hv : visB D (rtz D (rt9 D (nI z))) (plc (r, b)) = true
    · rw [if_pos hv, if_pos (decide_eq_true (this.mpr hv))]
    · rw [if_neg hv, if_neg (fun q => hv (this.mp (of_decide_eq_true q)))]
theorem q213 (h : REF g D T n k w ea tx H) (wz : WZ D M B) (K : KR g D T n k w ea tx H (aIsS D a b) Φ) : Rn sc (d + 20) 213 [vR 0 70, vI a, vI b] g Φ := by
  obtain ⟨s1, s2, s3, s4, s5⟩ := wz.f.spk
  have n40 := wz.f.n40
  have w10 := h.mc.l
  refine Rn.of rfl (y213_0 ?_)
  intro G1 e1
  obtain ⟨f1, h1, t1⟩ := h.z e1
  have m1 := h1.mc
  have w1 : G1 0 70 2 = nI w := m1.w
  refine s203p m1 wz.f.cw t1 (fun r er => ⟨fun _ => ?_, fun q => absurd rfl q⟩) (fun er q g' f t => ⟨fun q => absurd q (by decide +kernel), fun _ => K.x (f1.tr f).frf (h1.th f) t (by unfold aIsS; rw [er])⟩)
  obtain ⟨hr, hd⟩ := pl9_some er
  obtain ⟨z, hz, e7⟩ := s4 r hr
  obtain ⟨c, hc, rfl⟩ := hasD_nat wz.f.cw hr hd
  have hv := (wz.f.cw.2.2.2 r hr).1
  have hS := wz.f.cw.2.1.2.2
  have c12 : c < 12 := by
    obtain ⟨v, hv1, hv2⟩ := hv
    have : vol D r = v := by unfold vol; rw [hv2, nI_clamp (by have := wz.f.cw.2.1.2.1; omega)]
    rw [this] at hc
    have := (hS v hv1).2.2.1
    omega
  have e3 : G1 0 71 (780 * w + (369 + 10 * r + 1)) = nI z := (m1.m.2.2.2.2 r hr 1 (by decide)).trans e7
  have i1 : inb (nI 780 * G1 0 70 2 + (nI 369 + nI 10 * nI r + nI 1)) 7800 = true := by rw [w1]; simp (disch := omega) only [u3_nc, u3_ek, u3_nk, upd_e, upd_n, dU_nk, dU_nc, dU_e, nI_ltI, nI_eq, nI_clamp, nI_add, nI_mul, inb_nI, nI_neg1, nI_ne1, nI_n1e, nI_neg1e, Nat.not_lt_zero, Nat.lt_irrefl, true_and, and_true, true_implies, false_implies, not_true_eq_false, not_false_eq_true, implies_true, forall_const, if_true, if_false, Nat.reduceEqDiff, eq_self, Nat.one_ne_zero, Nat.zero_ne_one, Nat.zero_add, Nat.add_zero]
  have i2 : (nI 780 * G1 0 70 2 + (nI 369 + nI 10 * nI r + nI 1)).toNatClampNeg = 780 * w + (369 + 10 * r + 1) := by rw [w1]; simp (disch := omega) only [u3_nc, u3_ek, u3_nk, upd_e, upd_n, dU_nk, dU_nc, dU_e, nI_ltI, nI_eq, nI_clamp, nI_add, nI_mul, inb_nI, nI_neg1, nI_ne1, nI_n1e, nI_neg1e, Nat.not_lt_zero, Nat.lt_irrefl, true_and, and_true, true_implies, false_implies, not_true_eq_false, not_false_eq_true, implies_true, forall_const, if_true, if_false, Nat.reduceEqDiff, eq_self, Nat.one_ne_zero, Nat.zero_ne_one, Nat.zero_add, Nat.add_zero]
  refine ⟨i1, ?_⟩
  rw [i2]
  change Rn _ _ _ [vR 0 70, vI (G1 0 71 (780 * w + (369 + 10 * r + 1)))] _ _
  rw [e3]
  refine s211 m1 wz.f.cw wz.f.rk wz.p (s5 z hz) (fun g2 m2 f2 t2 => ⟨_, rfl, ?_⟩)
  have i3 : inb (nI 12 * nI r + nI c) 480 = true := by simp (disch := omega) only [u3_nc, u3_ek, u3_nk, upd_e, upd_n, dU_nk, dU_nc, dU_e, nI_ltI, nI_eq, nI_clamp, nI_add, nI_mul, inb_nI, nI_neg1, nI_ne1, nI_n1e, nI_neg1e, Nat.not_lt_zero, Nat.lt_irrefl, true_and, and_true, true_implies, false_implies, not_true_eq_false, not_false_eq_true, implies_true, forall_const, if_true, if_false, Nat.reduceEqDiff, eq_self, Nat.one_ne_zero, Nat.zero_ne_one, Nat.zero_add, Nat.add_zero]
  have i4 : (nI 12 * nI r + nI c).toNatClampNeg = 12 * r + c := by simp (disch := omega) only [u3_nc, u3_ek, u3_nk, upd_e, upd_n, dU_nk, dU_nc, dU_e, nI_ltI, nI_eq, nI_clamp, nI_add, nI_mul, inb_nI, nI_neg1, nI_ne1, nI_n1e, nI_neg1e, Nat.not_lt_zero, Nat.lt_irrefl, true_and, and_true, true_implies, false_implies, not_true_eq_false, not_false_eq_true, implies_true, forall_const, if_true, if_false, Nat.reduceEqDiff, eq_self, Nat.one_ne_zero, Nat.zero_ne_one, Nat.zero_add, Nat.add_zero]
  refine ⟨i3, ?_⟩
  have e79 : g2.1 0 79 (nI 12 * nI r + nI c).toNatClampNeg = if visB D (rtz D (rt9 D (nI z))) (12 * r + c) = true then nI 1 else nI 0 := by
    rw [i4]; exact t2 (12 * r + c) (by omega)
  rw [e79]
  refine ⟨by split; exact Or.inr rfl; exact Or.inl rfl, ?_⟩
  refine K.v (f1.frf.tr f2.frf) (h1.fv f2) ((f2.2 0 (by decide) (by decide)).trans t1) ?_
  unfold aIsS
  rw [er]
  dsimp only
  rw [e7, show plc (r, nI c) = 12 * r + c by unfold plc; dsimp only; rw [nI_clamp (by omega)]]
theorem q111 (h : CLS g D T n o k ea tx H) (wf : WF D M B) (K : KC g D T n o k ea tx H (aFol D a) Φ) : Rn sc (d + 20) 111 [vR 0 20, vI a] g Φ := by
  refine Rn.of rfl (y111_0 (s103 h.at wf.cw.1 (fun r er => Or.inl ⟨_, rfl, ?_⟩) (fun er => Or.inr ⟨_, rfl, K.x h (by unfold aFol; rw [er])⟩)))
  have hr := (rw9_some er).1
  refine s19 (D := D) (fun c hc => h.at c hc) wf.cw.1 hr (fun g1 f1 d1 => ⟨rfl, ?_⟩)
  rw [d1.1]
  exact K.v (FCW.of f1 (fun i c q => by omega)) (h.fr f1 (fun i c q => by omega)) (by unfold aFol; rw [er])
theorem FRF.pm (f : Fr PM g g') : FRF g g' := FRF.of f (fun i c q => by omega)
theorem REF.pm (h : REF g D T n k w ea tx H) (f : Fr PM g g') : REF g' D T n k w ea tx H := h.wk (fun z hz => by rw [f.1 0 70 (by simp)]) (f.1 0 71 (by simp)) (f.1 0 78 (by simp)) (f.1 0 80 (by simp))
theorem q214 (h : REF g D T n k w ea tx H) (wf : WF D M B) (K : KR g D T n k w ea tx H (aFol D a) Φ) : Rn sc (d + 20) 214 [vR 0 70, vI a] g Φ := by
  refine Rn.of rfl (y214_0 ?_)
  intro G1 e1
  obtain ⟨f1, h1, t1⟩ := h.z e1
  refine s203 h1.mc t1 (fun r er => ⟨_, rfl, fun _ => ?_, fun q => absurd t1 q⟩) (fun er g' f t => ⟨_, rfl, fun q => ?_, fun _ => ?_⟩)
  · have hr := (rw9_some er).1
    refine s152 h1.mc wf.gn hr (fun g2 f2 _ => ⟨_, rfl, ?_⟩)
    exact K.v (f1.frf.tr (FRF.pm f2)) (h1.pm f2) (by rw [f2.1 0 70 (by simp)]; exact t1) (by unfold aFol; rw [er])
  · rw [t] at q
    exact absurd q (by decide +kernel)
  · exact K.x (f1.tr f).frf (h1.th f) t (by unfold aFol; rw [er])
theorem q112 (h : CLS g D T n o k ea tx H) (wf : WF D M B) (K : KC g D T n o k ea tx H (aWld D a b) Φ) : Rn sc (d + 20) 112 [vR 0 20, vI a, vI b] g Φ := by
  have n40 := wf.n40
  refine Rn.of rfl (y112_0 (s104 h.at wf.cw (fun r er => Or.inl ⟨_, rfl, ?_⟩) (fun er => Or.inr ⟨_, rfl, K.x h (by unfold aWld; rw [er])⟩)))
  have hr := (pl9_some er).1
  refine s42A h.at wf.cw.1 hr ⟨_, rfl, ?_⟩
  cases e : onP D r b with
  | none =>
    refine ⟨fun _ => ?_, fun q => absurd eo_none q⟩
    refine s6 rfl h.at wf.cw hr (fun g1 f1 _ => ⟨_, rfl, ?_⟩)
    rw [nI_add, cpbM_n1 n40]
    exact K.v (FCW.of f1 (fun i c q => by omega)) (h.fr f1 (fun i c q => by omega)) (by unfold aWld; rw [er]; dsimp only; rw [e])
  | some x =>
    have hx := (fst9_some e).1
    exact ⟨fun q => absurd q (nI_nn (by omega)), fun _ => K.v (FCW.rf _) h (by unfold aWld; rw [er]; dsimp only; rw [e])⟩
theorem q215 (h : REF g D T n k w ea tx H) (wf : WF D M B) (K : KR g D T n k w ea tx H (aWld D a b) Φ) : Rn sc (d + 20) 215 [vR 0 70, vI a, vI b] g Φ := by
  have n40 := wf.n40
  refine Rn.of rfl (y215_0 ?_)
  intro G1 e1
  obtain ⟨f1, h1, t1⟩ := h.z e1
  have m1 := h1.mc
  refine s203p m1 wf.cw t1 (fun r er => ⟨fun _ => ?_, fun q => absurd rfl q⟩) (fun er q g' f t => ⟨fun q => absurd q (by decide +kernel), fun _ => K.x (f1.tr f).frf (h1.th f) t (by unfold aWld; rw [er])⟩)
  have hr := (pl9_some er).1
  refine s147 m1.w m1.l m1.m m1.r hr ⟨_, rfl, ?_⟩
  change (eo (onP D r b) = -nI 1 → _) ∧ (¬ eo (onP D r b) = -nI 1 → _)
  cases e : onP D r b with
  | none =>
    refine ⟨fun _ => ?_, fun q => absurd rfl q⟩
    refine s152 m1 wf.gn hr (fun g2 f2 k2 => ⟨_, rfl, ?_⟩)
    have h2 := h1.pm f2
    refine s154 h2.mc wf.cw (Nat.le_refl _) hr k2 ⟨_, rfl, ?_⟩
    rw [nI_add]
    exact K.v (f1.frf.tr (FRF.pm f2)) h2 (by rw [f2.1 0 70 (by simp)]; exact t1) (by unfold aWld; rw [er]; dsimp only; rw [e])
  | some x =>
    have hx := (fst9_some e).1
    exact ⟨fun q => absurd q (nI_ne1 (by omega)), fun _ => K.v f1.frf h1 t1 (by unfold aWld; rw [er]; dsimp only; rw [e])⟩
theorem q113 (h : CLS g D T n o k ea tx H) (wz : WZ D M B) (vn : VNK D) (K : ∀ g', FCX g g' → CLS g' D (tPth D a T) n o k ea tx H → Φ (anR (aPth D a)) g') : Rn sc (d + 20) 113 [vR 0 20, vI a] g Φ := by
  refine Rn.of rfl (y113_0 (s103 h.at wz.f.cw.1 (fun r er => Or.inl ⟨_, rfl, ?_⟩) (fun er => Or.inr ⟨_, rfl, ?_⟩)))
  · have hr := (rw9_some er).1
    have e1 : tPth D a T = txD D r := by unfold tPth; rw [er]
    have e2 : aPth D a = .inl (nI (txD D r).length) := by unfold aPth; rw [er]
    rw [e1, e2] at K
    refine s55 h.at wz.f.cw wz.p wz.d vn wz.f.ok hr (fun g1 f1 t1 => ⟨_, rfl, K g1 (FCW.of f1 (fun i c q => by omega)).x ?_⟩)
    obtain ⟨h1, h2, h3, h4, h5, h6, h7, h8, h9, h10⟩ := h
    have e : ∀ i c, ¬ (i = 0 ∧ 55 ≤ c ∧ c ≤ 58) → g1.1 i c = g.1 i c := f1.1
    exact ⟨fun c hc => by rw [e 0 c (by omega)]; exact h1 c hc, by rw [e 0 20 (by omega)]; exact h2, by rw [e 0 21 (by omega)]; exact h3, ⟨h4.1, fun t ht => by rw [e 0 22 (by omega)]; exact h4.2 t ht⟩, t1, by rw [e 0 62 (by omega)]; exact h6, h7, by rw [e 0 62 (by omega)]; exact h8, h9, fun j hj c hc => by rw [e _ c (by omega)]; exact h10 j hj c hc⟩
  · have e1 : tPth D a T = T := by unfold tPth; rw [er]
    have e2 : aPth D a = .inr (3, 1) := by unfold aPth; rw [er]
    rw [e1, e2] at K
    exact K (g.1, g.2.1, g.2.2 + 1) (FCX.t g) (h.cw fun _ _ _ => rfl)
theorem q218 (h : REF g D T n k w ea tx H) (wz : WZ D M B) (K : KR g D (tPth D a T) n k w ea tx H (aPth D a) Φ) : Rn sc (d + 20) 218 [vR 0 70, vI a] g Φ := by
  refine Rn.of rfl (y218_0 ?_)
  intro G1 e1
  obtain ⟨f1, h1, t1⟩ := h.z e1
  refine s203 h1.mc t1 (fun r er => ⟨_, rfl, fun _ => ?_, fun q => absurd t1 q⟩) (fun er g' f t => ⟨_, rfl, fun q => ?_, fun _ => ?_⟩)
  · have hr := (rw9_some er).1
    have e1 : tPth D a T = txD D r := by unfold tPth; rw [er]
    have e2 : aPth D a = .inl (nI (txD D r).length) := by unfold aPth; rw [er]
    rw [e1, e2] at K
    intro G6 e6
    have f6 : Fr (fun i c => i = 0 ∧ c = 70) (G1, g.2.1, g.2.2) (G6, g.2.1, g.2.2) := by rw [e6]; exact Fr.u3 (Fr.rf _) ⟨rfl, rfl⟩
    have b6 : ∀ z, z ≠ 27 → G6 0 70 z = G1 0 70 z := fun z hz => by rw [e6, u3_nk hz]
    have m6 : MC (G6, g.2.1, g.2.2) w D := by rw [e6]; exact h1.mc.c70 (by decide) (fun _ => by decide)
    refine s218L m6 wz.f.cw wz.f.rk wz.p wz.d wz.f.ok hr (by dsimp only; rw [e6, u3_ek rfl]) (fun g7 f7 t7 => ?_)
    have b7 : ∀ i c, ¬ (i = 0 ∧ (c = 70 ∨ c = 80 ∨ n81 c)) → g7.1 i c = G6 i c := f7.1.1
    have a6 : ∀ i c, ¬ (i = 0 ∧ c = 70) → G6 i c = G1 i c := f6.1
    have e70 : ∀ z, z ≠ 27 → g7.1 0 70 z = G1 0 70 z := fun z hz => (f7.2 z hz).trans (b6 z hz)
    have e71 : g7.1 0 71 = G1 0 71 := (b7 0 71 (by simp)).trans (a6 0 71 (by simp))
    have e78 : g7.1 0 78 = G1 0 78 := (b7 0 78 (by simp)).trans (a6 0 78 (by simp))
    refine K g7 _ (f1.frf.tr ((FRF.of f6 (fun i c q => by omega)).tr (FRF.of f7.1 (fun i c q => by omega)))) ?_ ((e70 0 (by decide)).trans t1) (fun v q => by injection q)
    obtain ⟨c1, c2, c3, c4, c5, c6, c7, c8, c9⟩ := h1
    exact ⟨⟨(e70 2 (by decide)).trans c1.1, c1.2.1, by rw [e71]; exact c1.m, c1.r, by rw [e71]; exact c1.v, c1.vk⟩, c2, (e70 15 (by decide)).trans c3, (e70 14 (by decide)).trans c4, ⟨c5.1, fun t ht => by rw [e78]; exact c5.2 t ht⟩, t7, (e70 3 (by decide)).trans c7, c8, fun j hj => by rw [e71]; exact c9 j hj⟩
  · rw [t] at q
    exact absurd q (by decide +kernel)
  · have e1 : tPth D a T = T := by unfold tPth; rw [er]
    rw [e1] at K
    exact K.x (f1.tr f).frf (h1.th f) t (by unfold aPth; rw [er])
theorem q114 (h : CLS g D T n o k ea tx H) (hT : T.length ≤ 1400) (K : KC g D T n o k ea tx H (aPby T a) Φ) : Rn sc (d + 20) 114 [vR 0 20, vI a] g Φ := by
  obtain ⟨p1, p2⟩ := h.2.2.2.2.1
  refine Rn.of rfl (v114_0 ⟨fun q => K.x h (if_neg fun z => z.1 q), fun q0 => ?_⟩)
  rw [p1]
  refine ⟨fun q => ?_, fun q => K.x h (if_neg fun z => q z.2)⟩
  have hK := K.v (FCW.rf _) h (if_pos (c := INR a T.length) ⟨q0, q⟩)
  obtain ⟨z, hz, rfl⟩ := INR.of (a := a) (n := T.length) ⟨q0, q⟩ (by omega)
  rw [nI_clamp (by omega)] at hK ⊢
  have e : T[z]? = some (T.getD z 0) := by rw [List.getD_eq_getElem?_getD, List.getElem?_eq_getElem hz]; rfl
  rw [p2 z _ e]
  exact ⟨inb_nI (by omega) (by decide), hK⟩
theorem q219 (h : REF g D T n k w ea tx H) (hT : T.length ≤ 1400) (K : KR g D T n k w ea tx H (aPby T a) Φ) : Rn sc (d + 20) 219 [vR 0 70, vI a] g Φ := by
  refine Rn.of rfl (y219_0 ?_)
  intro G1 e1
  obtain ⟨f1, h1, t1⟩ := h.z e1
  obtain ⟨p1, p2⟩ := h1.2.2.2.2.2.1
  have p1' : G1 0 70 27 = nI T.length := p1
  rw [p1']
  refine s128r (n := T.length) (by omega) (pre1 (by omega)) ⟨_, rfl, s134 (code := 1) t1 (Or.inl rfl) (fun hb => ⟨_, rfl, fun q => absurd q (by decide +kernel), fun _ => ?_⟩) (fun hb g' f t => ⟨_, rfl, fun _ => K.x (f1.tr f).frf (h1.th f) t (if_neg hb), fun q => absurd rfl q⟩)⟩
  have hK := K.v f1.frf h1 t1 (if_pos hb)
  obtain ⟨z, hz, rfl⟩ := hb.of (by omega)
  rw [nI_clamp (by omega)] at hK ⊢
  have e : T[z]? = some (T.getD z 0) := by rw [List.getD_eq_getElem?_getD, List.getElem?_eq_getElem hz]; rfl
  rw [p2 z _ e]
  exact ⟨inb_nI (by omega) (by decide), hK⟩
theorem q122 (h : CLS g D T n o k ea tx H) (rk : ∀ j, j < k → ROK (H j)) (K0 : k = 0 → Φ (.inl (some (vI (-nI 1)))) g) (K1 : ∀ q, k = q + 1 → ∀ g' X, FCW g g' → EQD (H q) X → CLS g' X T n o q ea tx H → Φ (.inl (some (vI (nI q)))) g') : Rn sc (d + 20) 122 [vR 0 20] g Φ := by
  have e8 := h.2.2.2.2.2.2.2.1
  have k8 := h.2.2.2.2.2.2.2.2.1
  refine Rn.of rfl (y122_0 ?_)
  rw [e8]
  cases k with
  | zero => exact ⟨fun _ => K0 rfl, fun q => absurd rfl q⟩
  | succ q =>
    refine ⟨fun z => ?_, fun _ => ?_⟩
    · rw [nI_eq (by omega) (by decide)] at z
      omega
    · refine s53 h (rk q (by omega)) (fun g1 X f1 x1 c1 => ⟨rfl, ?_⟩)
      rw [c1.2.2.2.2.2.2.2.1]
      exact K1 q rfl g1 X f1.w x1 c1
theorem q227 (h : REF g D T n k w ea tx H) (K0 : k = 0 → ∀ g', FRF g g' → REF g' D T n k w ea tx H → Φ (.inl (some (vI (-nI 1)))) g') (K1 : ∀ q, k = q + 1 → ∀ g', FRF g g' → (∀ X, EQD (H q) X → REF g' X T n q ((w + 8) % 9) ea tx H) → Φ (.inl (some (vI (nI q)))) g') : Rn sc (d + 20) 227 [vR 0 70] g Φ := by
  refine Rn.of rfl (v227_0 ?_)
  intro G1 e1
  obtain ⟨f1, h1, t1⟩ := h.z e1
  have w9 := h1.2.1
  have e3 : G1 0 70 3 = nI k := h1.2.2.2.2.2.2.1
  have k8 := h1.2.2.2.2.2.2.2.1
  have w1 : G1 0 70 2 = nI w := h1.mc.w
  rw [e3]
  cases k with
  | zero => exact ⟨fun _ => K0 rfl _ f1.frf h1, fun q => absurd rfl q⟩
  | succ q =>
    refine ⟨fun z => ?_, fun _ => ?_⟩
    · rw [nI_eq (by omega) (by decide)] at z
      omega
    · intro G2 e2 G3 e3'
      rw [nI_prd] at e2
      have w2 : G2 0 70 2 = nI w := by rw [e2, u3_nk (by decide)]; exact w1
      rw [w2, nI_add, nI_prd, mod9 (by omega)] at e3'
      have f3 : Fr (fun i c => i = 0 ∧ c = 70) (G1, g.2.1, g.2.2) (G3, g.2.1, g.2.2) := by
        rw [e3', e2]
        exact Fr.u3 (Fr.u3 (Fr.rf _) ⟨rfl, rfl⟩) ⟨rfl, rfl⟩
      have a3 : ∀ i c, ¬ (i = 0 ∧ c = 70) → G3 i c = G1 i c := f3.1
      have b3 : ∀ z, z ≠ 2 → z ≠ 3 → G3 0 70 z = G1 0 70 z := fun z h2 h3 => by rw [e3', u3_nk h2, e2, u3_nk h3]
      have c3 : G3 0 70 3 = nI q := by rw [e3', u3_nk (by decide), e2, u3_ek rfl]
      have c2 : G3 0 70 2 = nI ((w + 8) % 9) := by rw [e3', u3_ek rfl]
      rw [c3]
      refine K1 q rfl _ (f1.frf.tr (FRF.of f3 (fun i c z => by omega))) (fun X hX => ?_)
      obtain ⟨p1, p2, p3, p4, p5, p6, p7, p8, p9⟩ := h1
      have e71 : G3 0 71 = G1 0 71 := a3 0 71 (by simp)
      have hw := hX.wh (p9 q (by omega))
      rw [show (w + 9 - (q + 1 - q)) % 9 = (w + 8) % 9 by omega] at hw
      have hw2 : WH (G3 0 71) ((w + 8) % 9) X := by rw [e71]; exact hw
      exact ⟨⟨c2, by omega, hw2.1, hw2.2.1, hw2.2.2.1, hw2.2.2.2⟩, by omega, (b3 15 (by decide) (by decide)).trans p3, (b3 14 (by decide) (by decide)).trans p4, ⟨p5.1, fun t ht => by dsimp only; rw [a3 0 78 (by simp)]; exact p5.2 t ht⟩, p6.fr (b3 27 (by decide) (by decide)) (a3 0 80 (by simp)), c3, by omega, fun j hj => by
        dsimp only
        rw [e71, show ((w + 8) % 9 + 9 - (q - j)) % 9 = (w + 9 - (q + 1 - j)) % 9 by omega]
        exact p9 j (by omega)⟩
end QQ
