/-! QUERIES: count, directories, outer, told, mountAt, mountOn, errorOffset -/
def KC (g : Gs) (D : Nat → Nat → Int32) (T : List Nat) (n o k : Nat) (ea : Int32) (tx : Nat → Nat) (H : Nat → Nat → Nat → Int32) (A : AN) (Φ : RS → Gs → Prop) : Prop := ∀ g', FCX g g' → CLS g' D T n o k ea tx H → Φ (anR A) g'
def KR (g : Gs) (D : Nat → Nat → Int32) (T : List Nat) (n k w : Nat) (ea : Int32) (tx : Nat → Nat) (H : Nat → Nat → Nat → Int32) (A : AN) (Φ : RS → Gs → Prop) : Prop := ∀ g' r, FRF g g' → REF g' D T n k w ea tx H → g'.1 0 70 0 = nI (anK A) → (∀ v, A = .inl v → r = v) → Φ (.inl (some (vI r))) g'
section KK
variable {g g' : Gs} {Φ : RS → Gs → Prop} {D : Nat → Nat → Int32} {T : List Nat} {n o k w : Nat} {ea : Int32} {tx : Nat → Nat} {H : Nat → Nat → Nat → Int32} {A : AN}
theorem KC.v (K : KC g D T n o k ea tx H A Φ) (f : FCW g g') (h : CLS g' D T n o k ea tx H) {v : Int32} (q : A = .inl v) : Φ (.inl (some (vI v))) g' := by
  have := K g' f.x h
  rw [q] at this
  exact this
theorem KC.x (K : KC g D T n o k ea tx H A Φ) (h : CLS g D T n o k ea tx H) {e c : Nat} (q : A = .inr (e, c)) : Φ (.inr e) (g.1, g.2.1, g.2.2 + 1) := by
  have := K (g.1, g.2.1, g.2.2 + 1) (FCX.t g) (h.cw fun _ _ _ => rfl)
  rw [q] at this
  exact this
theorem KR.v (K : KR g D T n k w ea tx H A Φ) (f : FRF g g') (h : REF g' D T n k w ea tx H) (t : g'.1 0 70 0 = nI 0) {v : Int32} (q : A = .inl v) : Φ (.inl (some (vI v))) g' := K g' v f h (by rw [q]; exact t) (fun v' q' => by rw [q] at q'; injection q')
theorem KR.x (K : KR g D T n k w ea tx H A Φ) (f : FRF g g') (h : REF g' D T n k w ea tx H) {e c : Nat} (t : g'.1 0 70 0 = nI c) (q : A = .inr (e, c)) {r : Int32} : Φ (.inl (some (vI r))) g' := K g' r f h (by rw [q]; exact t) (fun v' q' => by rw [q] at q'; cases q')
/-- the reference's call begins -/
theorem REF.z (h : REF g D T n k w ea tx H) {G : Gm} (e : G = u3 g.1 0 70 0 (nI 0)) : TH g (G, g.2.1, g.2.2) ∧ REF (G, g.2.1, g.2.2) D T n k w ea tx H ∧ G 0 70 0 = nI 0 := by
  subst e
  have f : TH g (u3 g.1 0 70 0 (nI 0), g.2.1, g.2.2) := TH.u g _
  exact ⟨f, h.th f, u3_ek rfl⟩
end KK
/-- answers -/
def aCnt (D : Nat → Nat → Int32) (a : Int32) : AN := if INR a 9 then .inl (countD D (nR D) a) else .inr (0, 1)
def aDrs (D : Nat → Nat → Int32) (a : Int32) : AN := if INR a (nV D) then .inl (D 3 a.toNatClampNeg) else .inr (2, 1)
def aOut (D : Nat → Nat → Int32) (a b : Int32) : AN := if INR a (nV D) ∧ INR b (nS D a.toNatClampNeg) then .inl (D 5 (a.toNatClampNeg * 12 + b.toNatClampNeg)) else .inr (2, 1)
def aTld (D : Nat → Nat → Int32) (a b : Int32) : AN := match rw9 D a with
  | none => .inr (3, 1)
  | some r => if INR b 9 then .inl (factD D r b) else .inr (0, 2)
def aAt (D : Nat → Nat → Int32) (a : Int32) : AN := if INR a (nR D) then .inl (D 6 a.toNatClampNeg) else .inr (2, 1)
def aOn (D : Nat → Nat → Int32) (a b : Int32) : AN := match pl9 D a b with
  | none => .inr (3, 1)
  | some r => .inl (match onP D r b with | none => -nI 1 | some x => D 6 x)
theorem factD_nI {D : Nat → Nat → Int32} {r c : Nat} (hc : c < 9) : factD D r (nI c) = D (7 + c) r := by
  unfold factD
  have : c = 0 ∨ c = 1 ∨ c = 2 ∨ c = 3 ∨ c = 4 ∨ c = 5 ∨ c = 6 ∨ c = 7 ∨ c = 8 := by omega
  rcases this with rfl | rfl | rfl | rfl | rfl | rfl | rfl | rfl | rfl <;> simp (disch := omega) only [nI_eq, Nat.reduceEqDiff, if_true, if_false]
theorem cnt_gn {f : Nat → Int32} {m : Nat} (h : ∀ x, x < m → ¬ f x < nI 0) : cntF (fun r => decide (¬ f r = nI 0)) m = cntF (fun r => decide (nI 0 < f r)) m := cntF_congr fun x hx => by
  obtain ⟨z, hz, e⟩ := nI_of (h x hx)
  rw [e]
  have e1 : (nI 0 < nI z) ↔ 0 < z := nI_ltI (by decide) hz
  have e2 : (nI z = nI 0) ↔ z = 0 := by rw [nI_eq hz (by decide)]
  simp only [e1, e2]
  exact decide_eq_decide.mpr (by omega)
section QQ
variable {sc : SC} {d n o k w M B : Nat} {g : Gs} {Φ : RS → Gs → Prop} {D : Nat → Nat → Int32} {T : List Nat} {ea a b : Int32} {tx : Nat → Nat} {H : Nat → Nat → Nat → Int32}
theorem s198 (h : MC g w D) (wf : WF D M B) {c : Nat} (hc : c < 9) (kk : Φ (.inl (some (vI (countD D (nR D) (nI c))))) g) : Rn sc (d + 5) 198 [vR 0 70, vI (nI c)] g Φ := by
  have w10 := h.l
  have v4 := h.vk.2.1
  have f0 : g.1 0 71 (780 * w) = D 1 4 := h.v.1
  have f1 := h.m.1
  have f2 := h.m.2.1
  have f3 := h.m.2.2.1
  have f4 := h.m.2.2.2.1
  have g12 : cntF (fun r => decide (¬ D 12 r = nI 0)) (nR D) = cntF (fun r => decide (nI 0 < D (6 + 6) r)) (nR D) := cnt_gn fun x hx => (wf.gn x hx).1
  have g13 : cntF (fun r => decide (¬ D 13 r = nI 0)) (nR D) = cntF (fun r => decide (nI 0 < D (6 + 7) r)) (nR D) := cnt_gn fun x hx => (wf.gn x hx).2
  have g14 : cntF (fun r => decide (¬ D 14 r = nI 0)) (nR D) = cntF (fun r => decide (nI 0 < D (6 + 8) r)) (nR D) := cnt_gn fun x hx => by
    rcases (wf.bt x hx).1 with e | e <;> rw [e] <;> decide +kernel
  have g15 : cntF (fun r => decide (¬ D 15 r = nI 0)) (nR D) = cntF (fun r => decide (nI 0 < D (6 + 9) r)) (nR D) := cnt_gn fun x hx => by
    rcases (wf.bt x hx).2 with e | e <;> rw [e] <;> decide +kernel
  unfold countD at kk
  refine Rn.of rfl (v198_0 ?_)
  have : c = 0 ∨ c = 1 ∨ c = 2 ∨ c = 3 ∨ c = 4 ∨ c = 5 ∨ c = 6 ∨ c = 7 ∨ c = 8 := by omega
  rcases this with rfl | rfl | rfl | rfl | rfl | rfl | rfl | rfl | rfl
  · simp (disch := omega) only [u3_nc, u3_ek, u3_nk, upd_e, upd_n, dU_nk, dU_nc, dU_e, nI_ltI, nI_eq, nI_clamp, nI_add, nI_mul, inb_nI, nI_neg1, nI_ne1, nI_n1e, nI_neg1e, Nat.not_lt_zero, Nat.lt_irrefl, true_and, and_true, true_implies, false_implies, not_true_eq_false, not_false_eq_true, implies_true, forall_const, if_true, if_false, Nat.reduceEqDiff, eq_self, Nat.one_ne_zero, Nat.zero_ne_one, Nat.zero_add, Nat.add_zero, h.w, f0] at kk ⊢; exact kk
  · simp (disch := omega) only [u3_nc, u3_ek, u3_nk, upd_e, upd_n, dU_nk, dU_nc, dU_e, nI_ltI, nI_eq, nI_clamp, nI_add, nI_mul, inb_nI, nI_neg1, nI_ne1, nI_n1e, nI_neg1e, Nat.not_lt_zero, Nat.lt_irrefl, true_and, and_true, true_implies, false_implies, not_true_eq_false, not_false_eq_true, implies_true, forall_const, if_true, if_false, Nat.reduceEqDiff, eq_self, Nat.one_ne_zero, Nat.zero_ne_one, Nat.zero_add, Nat.add_zero, h.w, f1] at kk ⊢; exact kk
  · simp (disch := omega) only [u3_nc, u3_ek, u3_nk, upd_e, upd_n, dU_nk, dU_nc, dU_e, nI_ltI, nI_eq, nI_clamp, nI_add, nI_mul, inb_nI, nI_neg1, nI_ne1, nI_n1e, nI_neg1e, Nat.not_lt_zero, Nat.lt_irrefl, true_and, and_true, true_implies, false_implies, not_true_eq_false, not_false_eq_true, implies_true, forall_const, if_true, if_false, Nat.reduceEqDiff, eq_self, Nat.one_ne_zero, Nat.zero_ne_one, Nat.zero_add, Nat.add_zero, h.w, f2] at kk ⊢; exact kk
  · simp (disch := omega) only [u3_nc, u3_ek, u3_nk, upd_e, upd_n, dU_nk, dU_nc, dU_e, nI_ltI, nI_eq, nI_clamp, nI_add, nI_mul, inb_nI, nI_neg1, nI_ne1, nI_n1e, nI_neg1e, Nat.not_lt_zero, Nat.lt_irrefl, true_and, and_true, true_implies, false_implies, not_true_eq_false, not_false_eq_true, implies_true, forall_const, if_true, if_false, Nat.reduceEqDiff, eq_self, Nat.one_ne_zero, Nat.zero_ne_one, Nat.zero_add, Nat.add_zero, h.w, g12] at kk ⊢; exact s197 (c := 6) (by decide) h.w h.l h.m h.r ⟨_, rfl, kk⟩
  · simp (disch := omega) only [u3_nc, u3_ek, u3_nk, upd_e, upd_n, dU_nk, dU_nc, dU_e, nI_ltI, nI_eq, nI_clamp, nI_add, nI_mul, inb_nI, nI_neg1, nI_ne1, nI_n1e, nI_neg1e, Nat.not_lt_zero, Nat.lt_irrefl, true_and, and_true, true_implies, false_implies, not_true_eq_false, not_false_eq_true, implies_true, forall_const, if_true, if_false, Nat.reduceEqDiff, eq_self, Nat.one_ne_zero, Nat.zero_ne_one, Nat.zero_add, Nat.add_zero, h.w, g13] at kk ⊢; exact s197 (c := 7) (by decide) h.w h.l h.m h.r ⟨_, rfl, kk⟩
  · simp (disch := omega) only [u3_nc, u3_ek, u3_nk, upd_e, upd_n, dU_nk, dU_nc, dU_e, nI_ltI, nI_eq, nI_clamp, nI_add, nI_mul, inb_nI, nI_neg1, nI_ne1, nI_n1e, nI_neg1e, Nat.not_lt_zero, Nat.lt_irrefl, true_and, and_true, true_implies, false_implies, not_true_eq_false, not_false_eq_true, implies_true, forall_const, if_true, if_false, Nat.reduceEqDiff, eq_self, Nat.one_ne_zero, Nat.zero_ne_one, Nat.zero_add, Nat.add_zero, h.w, g14] at kk ⊢; exact s197 (c := 8) (by decide) h.w h.l h.m h.r ⟨_, rfl, kk⟩
  · simp (disch := omega) only [u3_nc, u3_ek, u3_nk, upd_e, upd_n, dU_nk, dU_nc, dU_e, nI_ltI, nI_eq, nI_clamp, nI_add, nI_mul, inb_nI, nI_neg1, nI_ne1, nI_n1e, nI_neg1e, Nat.not_lt_zero, Nat.lt_irrefl, true_and, and_true, true_implies, false_implies, not_true_eq_false, not_false_eq_true, implies_true, forall_const, if_true, if_false, Nat.reduceEqDiff, eq_self, Nat.one_ne_zero, Nat.zero_ne_one, Nat.zero_add, Nat.add_zero, h.w, g15] at kk ⊢; exact s197 (c := 9) (by decide) h.w h.l h.m h.r ⟨_, rfl, kk⟩
  · simp (disch := omega) only [u3_nc, u3_ek, u3_nk, upd_e, upd_n, dU_nk, dU_nc, dU_e, nI_ltI, nI_eq, nI_clamp, nI_add, nI_mul, inb_nI, nI_neg1, nI_ne1, nI_n1e, nI_neg1e, Nat.not_lt_zero, Nat.lt_irrefl, true_and, and_true, true_implies, false_implies, not_true_eq_false, not_false_eq_true, implies_true, forall_const, if_true, if_false, Nat.reduceEqDiff, eq_self, Nat.one_ne_zero, Nat.zero_ne_one, Nat.zero_add, Nat.add_zero, h.w, f3] at kk ⊢; exact kk
  · simp (disch := omega) only [u3_nc, u3_ek, u3_nk, upd_e, upd_n, dU_nk, dU_nc, dU_e, nI_ltI, nI_eq, nI_clamp, nI_add, nI_mul, inb_nI, nI_neg1, nI_ne1, nI_n1e, nI_neg1e, Nat.not_lt_zero, Nat.lt_irrefl, true_and, and_true, true_implies, false_implies, not_true_eq_false, not_false_eq_true, implies_true, forall_const, if_true, if_false, Nat.reduceEqDiff, eq_self, Nat.one_ne_zero, Nat.zero_ne_one, Nat.zero_add, Nat.add_zero, h.w, f4] at kk ⊢; exact kk
theorem q98 (h : CLS g D T n o k ea tx H) (wf : WF D M B) (K : KC g D T n o k ea tx H (aCnt D a) Φ) : Rn sc (d + 20) 98 [vR 0 20, vI a] g Φ := by
  have e := INR.le (a := a) (n := 8) (by decide)
  refine Rn.of rfl (v98_0 ⟨fun q => K.x h (if_neg fun z => z.1 q), fun q0 => ⟨fun q => K.x h (if_neg fun z => (e.mpr z).2 q), fun q => ?_⟩⟩)
  refine s47 (n := nR D) (h.at.k (by decide) wf.cw.1.1) wf.cw.1.2 ⟨_, rfl, ?_⟩
  have e2 : countD (g.1 0) (nR D) a = countD D (nR D) a := by
    unfold countD
    rw [h.at 1 (by decide), h.at 0 (by decide), h.at 12 (by decide), h.at 13 (by decide), h.at 14 (by decide), h.at 15 (by decide)]
  rw [e2]
  exact K.v (FCW.rf _) h (if_pos (e.mp ⟨q0, q⟩))
theorem q199 (h : REF g D T n k w ea tx H) (wf : WF D M B) (K : KR g D T n k w ea tx H (aCnt D a) Φ) : Rn sc (d + 20) 199 [vR 0 70, vI a] g Φ := by
  refine Rn.of rfl (y199_0 ?_)
  intro G1 e1
  obtain ⟨f1, h1, t1⟩ := h.z e1
  refine s128r8 ⟨_, rfl, s134 (code := 1) t1 (Or.inl rfl) (fun hi => ⟨_, rfl, fun q => absurd q (by decide +kernel), fun _ => ?_⟩) (fun hi g' f t => ⟨_, rfl, fun _ => K.x (f1.tr f).frf (h1.th f) t (if_neg hi), fun q => absurd rfl q⟩)⟩
  have hK := K.v f1.frf h1 t1 (if_pos hi)
  obtain ⟨z, hz, rfl⟩ := hi.of (by decide)
  exact s198 h1.mc wf hz ⟨_, rfl, hK⟩
theorem q99 (h : CLS g D T n o k ea tx H) (wf : WF D M B) (K : KC g D T n o k ea tx H (aDrs D a) Φ) : Rn sc (d + 20) 99 [vR 0 20, vI a] g Φ := by
  have v4 := wf.cw.2.1.2.1
  refine Rn.of rfl (y99_0 (s101 h.at wf.cw.2.1 (fun hi => Or.inl ⟨rfl, ?_⟩) (fun hi => Or.inr ⟨_, rfl, K.x h (if_neg hi)⟩)))
  rw [h.at 3 (by decide)]
  refine ⟨?_, K.v (FCW.rf _) h (if_pos hi)⟩
  obtain ⟨z, hz, rfl⟩ := hi.of (by omega)
  exact inb_nI (by omega) (by decide)
theorem q201 (h : REF g D T n k w ea tx H) (wf : WF D M B) (K : KR g D T n k w ea tx H (aDrs D a) Φ) : Rn sc (d + 20) 201 [vR 0 70, vI a] g Φ := by
  have v4 := wf.cw.2.1.2.1
  have w10 := h.mc.l
  refine Rn.of rfl (y201_0 ?_)
  intro G1 e1
  obtain ⟨f1, h1, t1⟩ := h.z e1
  refine s200 (code := 1) h1.mc t1 (Or.inl rfl) (fun hi => ⟨_, rfl, fun _ => ?_, fun q => absurd rfl q⟩) (fun hi g' f t => ⟨_, rfl, fun q => absurd q (by decide +kernel), fun _ => K.x (f1.tr f).frf (h1.th f) t (if_neg hi)⟩)
  have hK := K.v f1.frf h1 t1 (if_pos hi)
  obtain ⟨z, hz, rfl⟩ := hi.of (by omega)
  have m1 := h1.mc
  have e3 : G1 0 71 (780 * w + (5 + 7 * z + 6)) = D 3 z := by
    have : G1 0 71 (780 * w + (5 + 7 * z + 6)) = nI (nS D z) := m1.v.s m1.vk z hz
    rw [this]
    exact (m1.vk.2.2 z hz).1.symm
  have w1 : G1 0 70 2 = nI w := m1.w
  rw [nI_clamp (by omega)] at hK
  simp (disch := omega) only [u3_nc, u3_ek, u3_nk, upd_e, upd_n, dU_nk, dU_nc, dU_e, nI_ltI, nI_eq, nI_clamp, nI_add, nI_mul, inb_nI, nI_neg1, nI_ne1, nI_n1e, nI_neg1e, Nat.not_lt_zero, Nat.lt_irrefl, true_and, and_true, true_implies, false_implies, not_true_eq_false, not_false_eq_true, implies_true, forall_const, if_true, if_false, Nat.reduceEqDiff, eq_self, Nat.one_ne_zero, Nat.zero_ne_one, Nat.zero_add, Nat.add_zero, w1, e3]
  exact hK
theorem q100 (h : CLS g D T n o k ea tx H) (wf : WF D M B) (K : KC g D T n o k ea tx H (aOut D a b) Φ) : Rn sc (d + 20) 100 [vR 0 20, vI a, vI b] g Φ := by
  have vk := wf.cw.2.1
  have v4 := vk.2.1
  refine Rn.of rfl (y100_0 (s101 h.at vk (fun hi => Or.inl ⟨rfl, ?_⟩) (fun hi => Or.inr ⟨_, rfl, K.x h (if_neg fun z => hi z.1)⟩)))
  refine ⟨fun q => K.x h (if_neg fun z => z.2.1 q), fun q0 => ?_⟩
  obtain ⟨z, hz, ez⟩ := hi.of (by omega)
  obtain ⟨p1, p2, p3, p4, p5⟩ := vk.2.2 z hz
  have ec : a.toNatClampNeg = z := by rw [ez, nI_clamp (by omega)]
  rw [ec, h.at 3 (by decide), h.at 5 (by decide), p1]
  refine ⟨by rw [ez]; exact inb_nI (by omega) (by decide), fun q => ?_, fun q => K.x h (if_neg fun y => q (by have := y.2.2; rw [ec] at this; exact this))⟩
  have hK := K.v (FCW.rf _) h (if_pos (c := INR a (nV D) ∧ INR b (nS D a.toNatClampNeg)) ⟨hi, q0, by rw [ec]; exact q⟩)
  obtain ⟨y, hy, ey⟩ := INR.of (a := b) (n := nS D z) ⟨q0, q⟩ (by omega)
  rw [ez, ey] at hK ⊢
  rw [nI_clamp (by omega), nI_clamp (by omega)] at hK
  rw [nI_mul, nI_add, nI_clamp (by omega)]
  exact ⟨inb_nI (by omega) (by decide), hK⟩
theorem q202 (h : REF g D T n k w ea tx H) (wf : WF D M B) (K : KR g D T n k w ea tx H (aOut D a b) Φ) : Rn sc (d + 20) 202 [vR 0 70, vI a, vI b] g Φ := by
  have vk := wf.cw.2.1
  have v4 := vk.2.1
  have w10 := h.mc.l
  refine Rn.of rfl (y202_0 ?_)
  intro G1 e1
  obtain ⟨f1, h1, t1⟩ := h.z e1
  refine s200 (code := 1) h1.mc t1 (Or.inl rfl) (fun hi => ⟨_, rfl, fun _ => ?_, fun q => absurd rfl q⟩) (fun hi g' f t => ⟨_, rfl, fun q => absurd q (by decide +kernel), fun _ => K.x (f1.tr f).frf (h1.th f) t (if_neg fun y => hi y.1)⟩)
  obtain ⟨z, hz, ez⟩ := hi.of (by omega)
  obtain ⟨p1, p2, p3, p4, p5⟩ := vk.2.2 z hz
  have ec : a.toNatClampNeg = z := by rw [ez, nI_clamp (by omega)]
  have m1 := h1.mc
  have e3 : (G1, g.2.1, g.2.2).1 0 71 (780 * w + (5 + 7 * z + 6)) = nI (nS D z) := m1.v.s m1.vk z hz
  have w1 : G1 0 70 2 = nI w := m1.w
  have i1 : inb (nI 780 * G1 0 70 2 + (nI 5 + nI 7 * a + nI 6)) 7800 = true := by
    rw [w1, ez]; simp (disch := omega) only [u3_nc, u3_ek, u3_nk, upd_e, upd_n, dU_nk, dU_nc, dU_e, nI_ltI, nI_eq, nI_clamp, nI_add, nI_mul, inb_nI, nI_neg1, nI_ne1, nI_n1e, nI_neg1e, Nat.not_lt_zero, Nat.lt_irrefl, true_and, and_true, true_implies, false_implies, not_true_eq_false, not_false_eq_true, implies_true, forall_const, if_true, if_false, Nat.reduceEqDiff, eq_self, Nat.one_ne_zero, Nat.zero_ne_one, Nat.zero_add, Nat.add_zero]
  have i2 : (nI 780 * G1 0 70 2 + (nI 5 + nI 7 * a + nI 6)).toNatClampNeg = 780 * w + (5 + 7 * z + 6) := by
    rw [w1, ez]; simp (disch := omega) only [u3_nc, u3_ek, u3_nk, upd_e, upd_n, dU_nk, dU_nc, dU_e, nI_ltI, nI_eq, nI_clamp, nI_add, nI_mul, inb_nI, nI_neg1, nI_ne1, nI_n1e, nI_neg1e, Nat.not_lt_zero, Nat.lt_irrefl, true_and, and_true, true_implies, false_implies, not_true_eq_false, not_false_eq_true, implies_true, forall_const, if_true, if_false, Nat.reduceEqDiff, eq_self, Nat.one_ne_zero, Nat.zero_ne_one, Nat.zero_add, Nat.add_zero]
  refine ⟨i1, ?_⟩
  rw [i2, e3]
  refine s128r (n := nS D z) (by omega) (pre1 (by omega)) ⟨_, rfl, s134 (code := 1) t1 (Or.inl rfl) (fun hb => ⟨_, rfl, fun q => absurd q (by decide +kernel), fun _ => ?_⟩) (fun hb g' f t => ⟨_, rfl, fun _ => K.x (f1.tr f).frf (h1.th f) t (if_neg fun y => hb (by have := y.2; rw [ec] at this; exact this)), fun q => absurd rfl q⟩)⟩
  have hK := K.v f1.frf h1 t1 (if_pos (c := INR a (nV D) ∧ INR b (nS D a.toNatClampNeg)) ⟨hi, by rw [ec]; exact hb⟩)
  obtain ⟨y, hy, ey⟩ := hb.of (by omega)
  rw [ez, ey] at hK ⊢
  rw [nI_clamp (by omega), nI_clamp (by omega)] at hK
  have e5 : G1 0 71 (780 * w + (33 + 7 * (12 * z + y) + 6)) = D 5 (z * 12 + y) := m1.v.o z y hz hy
  simp (disch := omega) only [u3_nc, u3_ek, u3_nk, upd_e, upd_n, dU_nk, dU_nc, dU_e, nI_ltI, nI_eq, nI_clamp, nI_add, nI_mul, inb_nI, nI_neg1, nI_ne1, nI_n1e, nI_neg1e, Nat.not_lt_zero, Nat.lt_irrefl, true_and, and_true, true_implies, false_implies, not_true_eq_false, not_false_eq_true, implies_true, forall_const, if_true, if_false, Nat.reduceEqDiff, eq_self, Nat.one_ne_zero, Nat.zero_ne_one, Nat.zero_add, Nat.add_zero, w1, e5]
  exact hK
theorem q102 (h : CLS g D T n o k ea tx H) (wf : WF D M B) (K : KC g D T n o k ea tx H (aTld D a b) Φ) : Rn sc (d + 20) 102 [vR 0 20, vI a, vI b] g Φ := by
  have e := INR.le (a := b) (n := 8) (by decide)
  have n40 := wf.n40
  refine Rn.of rfl (y102_0 (s103 h.at wf.cw.1 (fun r er => Or.inl ⟨_, rfl, ?_⟩) (fun er => Or.inr ⟨_, rfl, K.x h (by unfold aTld; rw [er])⟩)))
  have hr := (rw9_some er).1
  have ea : aTld D a b = if INR b 9 then .inl (factD D r b) else .inr (0, 2) := by unfold aTld; rw [er]
  refine ⟨fun q => K.x h (by rw [ea]; exact if_neg fun z => z.1 q), fun q0 => ⟨fun q => K.x h (by rw [ea]; exact if_neg fun z => (e.mpr z).2 q), fun q => ?_⟩⟩
  refine s49 (by omega) ⟨_, rfl, ?_⟩
  have e2 : factD (g.1 0) r b = factD D r b := by
    unfold factD
    rw [h.at 7 (by decide), h.at 8 (by decide), h.at 9 (by decide), h.at 10 (by decide), h.at 11 (by decide), h.at 12 (by decide), h.at 13 (by decide), h.at 14 (by decide), h.at 15 (by decide)]
  rw [e2]
  exact K.v (FCW.rf _) h (by rw [ea]; exact if_pos (e.mp ⟨q0, q⟩))
theorem q205 (h : REF g D T n k w ea tx H) (wf : WF D M B) (K : KR g D T n k w ea tx H (aTld D a b) Φ) : Rn sc (d + 20) 205 [vR 0 70, vI a, vI b] g Φ := by
  have n40 := wf.n40
  have w10 := h.mc.l
  refine Rn.of rfl (y205_0 ?_)
  intro G1 e1
  obtain ⟨f1, h1, t1⟩ := h.z e1
  refine s203 h1.mc t1 (fun r er => ⟨_, rfl, ?_⟩) (fun er g' f t => ⟨_, rfl, ?_⟩)
  · have hr := (rw9_some er).1
    have ea : aTld D a b = if INR b 9 then .inl (factD D r b) else .inr (0, 2) := by unfold aTld; rw [er]
    refine s128r8 ⟨_, rfl, s134 (code := 2) t1 (Or.inr rfl) (fun hi => ⟨_, rfl, fun q => absurd q (by decide +kernel), fun _ => ?_⟩) (fun hi g' f t => ⟨_, rfl, fun _ => K.x (f1.tr f).frf (h1.th f) t (by rw [ea]; exact if_neg hi), fun q => absurd rfl q⟩)⟩
    have hK := K.v f1.frf h1 t1 (ea.trans (if_pos hi))
    obtain ⟨z, hz, rfl⟩ := hi.of (by decide)
    have m1 := h1.mc
    have e3 := m1.m.2.2.2.2 r hr (1 + z) (by omega)
    have w1 : G1 0 70 2 = nI w := m1.w
    rw [factD_nI hz, show 7 + z = 6 + (1 + z) by omega, ← e3] at hK
    simp (disch := omega) only [u3_nc, u3_ek, u3_nk, upd_e, upd_n, dU_nk, dU_nc, dU_e, nI_ltI, nI_eq, nI_clamp, nI_add, nI_mul, inb_nI, nI_neg1, nI_ne1, nI_n1e, nI_neg1e, Nat.not_lt_zero, Nat.lt_irrefl, true_and, and_true, true_implies, false_implies, not_true_eq_false, not_false_eq_true, implies_true, forall_const, if_true, if_false, Nat.reduceEqDiff, eq_self, Nat.one_ne_zero, Nat.zero_ne_one, Nat.zero_add, Nat.add_zero, w1]
    exact hK
  · refine s128r8 ⟨_, rfl, s134x (by rw [t]; decide +kernel) ⟨_, rfl, fun _ => ?_, fun q => absurd rfl q⟩⟩
    exact K.x (f1.tr f).frf (h1.th f) t (by unfold aTld; rw [er])
theorem q105 (h : CLS g D T n o k ea tx H) (wf : WF D M B) (K : KC g D T n o k ea tx H (aAt D a) Φ) : Rn sc (d + 20) 105 [vR 0 20, vI a] g Φ := by
  have n40 := wf.n40
  refine Rn.of rfl (v105_0 ⟨fun q => K.x h (if_neg fun z => z.1 q), fun q0 => ?_⟩)
  rw [h.at 0 (by decide), h.at 6 (by decide), wf.cw.1.1]
  refine ⟨fun q => ⟨?_, K.v (FCW.rf _) h (if_pos ⟨q0, q⟩)⟩, fun q => K.x h (if_neg fun z => q z.2)⟩
  obtain ⟨z, hz, rfl⟩ := INR.of (a := a) (n := nR D) ⟨q0, q⟩ (by omega)
  exact inb_nI (by omega) (by decide)
theorem q206 (h : REF g D T n k w ea tx H) (wf : WF D M B) (K : KR g D T n k w ea tx H (aAt D a) Φ) : Rn sc (d + 20) 206 [vR 0 70, vI a] g Φ := by
  have n40 := wf.n40
  have w10 := h.mc.l
  refine Rn.of rfl (y206_0 ?_)
  intro G1 e1
  obtain ⟨f1, h1, t1⟩ := h.z e1
  have m1 := h1.mc
  have w1 : G1 0 70 2 = nI w := m1.w
  have e2 : G1 0 71 (780 * w + 2) = nI (nR D) := m1.n
  have i1 : inb (nI 780 * G1 0 70 2 + nI 2) 7800 = true := by rw [w1]; simp (disch := omega) only [u3_nc, u3_ek, u3_nk, upd_e, upd_n, dU_nk, dU_nc, dU_e, nI_ltI, nI_eq, nI_clamp, nI_add, nI_mul, inb_nI, nI_neg1, nI_ne1, nI_n1e, nI_neg1e, Nat.not_lt_zero, Nat.lt_irrefl, true_and, and_true, true_implies, false_implies, not_true_eq_false, not_false_eq_true, implies_true, forall_const, if_true, if_false, Nat.reduceEqDiff, eq_self, Nat.one_ne_zero, Nat.zero_ne_one, Nat.zero_add, Nat.add_zero]
  have i2 : (nI 780 * G1 0 70 2 + nI 2).toNatClampNeg = 780 * w + 2 := by rw [w1]; simp (disch := omega) only [u3_nc, u3_ek, u3_nk, upd_e, upd_n, dU_nk, dU_nc, dU_e, nI_ltI, nI_eq, nI_clamp, nI_add, nI_mul, inb_nI, nI_neg1, nI_ne1, nI_n1e, nI_neg1e, Nat.not_lt_zero, Nat.lt_irrefl, true_and, and_true, true_implies, false_implies, not_true_eq_false, not_false_eq_true, implies_true, forall_const, if_true, if_false, Nat.reduceEqDiff, eq_self, Nat.one_ne_zero, Nat.zero_ne_one, Nat.zero_add, Nat.add_zero]
  refine ⟨i1, ?_⟩
  rw [i2, e2]
  refine s128r (n := nR D) (by omega) (pre1 (by omega)) ⟨_, rfl, s134 (code := 1) t1 (Or.inl rfl) (fun hb => ⟨_, rfl, fun q => absurd q (by decide +kernel), fun _ => ?_⟩) (fun hb g' f t => ⟨_, rfl, fun _ => K.x (f1.tr f).frf (h1.th f) t (if_neg hb), fun q => absurd rfl q⟩)⟩
  have hK := K.v f1.frf h1 t1 (if_pos hb)
  obtain ⟨y, hy, ey⟩ := hb.of (by omega)
  rw [ey] at hK ⊢
  rw [nI_clamp (by omega)] at hK
  have e3 := m1.m.2.2.2.2 y hy 0 (by decide)
  rw [← e3] at hK
  simp (disch := omega) only [u3_nc, u3_ek, u3_nk, upd_e, upd_n, dU_nk, dU_nc, dU_e, nI_ltI, nI_eq, nI_clamp, nI_add, nI_mul, inb_nI, nI_neg1, nI_ne1, nI_n1e, nI_neg1e, Nat.not_lt_zero, Nat.lt_irrefl, true_and, and_true, true_implies, false_implies, not_true_eq_false, not_false_eq_true, implies_true, forall_const, if_true, if_false, Nat.reduceEqDiff, eq_self, Nat.one_ne_zero, Nat.zero_ne_one, Nat.zero_add, Nat.add_zero, w1]
  exact hK
theorem q106 (h : CLS g D T n o k ea tx H) (wf : WF D M B) (K : KC g D T n o k ea tx H (aOn D a b) Φ) : Rn sc (d + 20) 106 [vR 0 20, vI a, vI b] g Φ := by
  have n40 := wf.n40
  refine Rn.of rfl (y106_0 (s104 h.at wf.cw (fun r er => Or.inl ⟨_, rfl, ?_⟩) (fun er => Or.inr ⟨_, rfl, K.x h (by unfold aOn; rw [er])⟩)))
  have hr := (pl9_some er).1
  refine s42A h.at wf.cw.1 hr ⟨_, rfl, ?_⟩
  have hK : ∀ v, (match onP D r b with | none => -nI 1 | some x => D 6 x) = v → Φ (.inl (some (vI v))) g := fun v ev => K.v (FCW.rf _) h (by unfold aOn; rw [er]; dsimp only; rw [ev])
  cases e : onP D r b with
  | none =>
    rw [e] at hK
    exact ⟨fun _ => hK _ rfl, fun q => absurd eo_none q⟩
  | some x =>
    rw [e] at hK
    have hx := (fst9_some e).1
    refine ⟨fun q => absurd q (nI_nn (by omega)), fun _ => ⟨inb_nI (by omega) (by decide), ?_⟩⟩
    have e2 : (eo (some x)).toNatClampNeg = x := nI_clamp (by omega)
    rw [e2, h.at 6 (by decide)]
    exact hK _ rfl
theorem q207 (h : REF g D T n k w ea tx H) (wf : WF D M B) (K : KR g D T n k w ea tx H (aOn D a b) Φ) : Rn sc (d + 20) 207 [vR 0 70, vI a, vI b] g Φ := by
  have n40 := wf.n40
  have w10 := h.mc.l
  refine Rn.of rfl (y207_0 ?_)
  intro G1 e1
  obtain ⟨f1, h1, t1⟩ := h.z e1
  have m1 := h1.mc
  have w1 : G1 0 70 2 = nI w := m1.w
  refine s203p m1 wf.cw t1 (fun r er => ⟨fun _ => ?_, fun q => absurd rfl q⟩) (fun er q g' f t => ⟨fun q => absurd q (by decide +kernel), fun _ => K.x (f1.tr f).frf (h1.th f) t (by unfold aOn; rw [er])⟩)
  have hr := (pl9_some er).1
  refine s147 m1.w m1.l m1.m m1.r hr ⟨_, rfl, ?_⟩
  change (eo (onP D r b) = -nI 1 → _) ∧ (¬ eo (onP D r b) = -nI 1 → _ ∧ _)
  have hK : ∀ v, (match onP D r b with | none => -nI 1 | some x => D 6 x) = v → Φ (.inl (some (vI v))) (G1, g.2.1, g.2.2) := fun v ev => K.v f1.frf h1 t1 (by unfold aOn; rw [er]; dsimp only; rw [ev])
  cases e : onP D r b with
  | none =>
    rw [e] at hK
    exact ⟨fun _ => hK _ rfl, fun q => absurd rfl q⟩
  | some x =>
    rw [e] at hK
    have hx := (fst9_some e).1
    have e3 := m1.m.2.2.2.2 x hx 0 (by decide)
    have e4 : eo (some x) = nI x := rfl
    have hk : Φ (.inl (some (vI (D 6 x)))) (G1, g.2.1, g.2.2) := hK _ rfl
    rw [show D 6 x = G1 0 71 (780 * w + (369 + 10 * x + 0)) from e3.symm] at hk
    refine ⟨fun q => absurd q (nI_ne1 (by omega)), fun _ => ?_⟩
    change inb (_ + (nI 369 + nI 10 * eo (onP D r b) + nI 0)) 7800 = true ∧ Φ (.inl (some (vI (G1 0 71 (nI 780 * G1 0 70 2 + (nI 369 + nI 10 * eo (onP D r b) + nI 0)).toNatClampNeg)))) (G1, g.2.1, g.2.2)
    rw [e, e4]
    simp (disch := omega) only [u3_nc, u3_ek, u3_nk, upd_e, upd_n, dU_nk, dU_nc, dU_e, nI_ltI, nI_eq, nI_clamp, nI_add, nI_mul, inb_nI, nI_neg1, nI_ne1, nI_n1e, nI_neg1e, Nat.not_lt_zero, Nat.lt_irrefl, true_and, and_true, true_implies, false_implies, not_true_eq_false, not_false_eq_true, implies_true, forall_const, if_true, if_false, Nat.reduceEqDiff, eq_self, Nat.one_ne_zero, Nat.zero_ne_one, Nat.zero_add, Nat.add_zero, w1]
    exact hk
theorem q97 (h : CLS g D T n o k ea tx H) (K : KC g D T n o k ea tx H (.inl ea) Φ) : Rn sc (d + 20) 97 [vR 0 20] g Φ := by
  refine Rn.of rfl (v97_0 ?_)
  rw [h.2.1]
  exact K.v (FCW.rf _) h rfl
theorem q196 (h : REF g D T n k w ea tx H) (K : KR g D T n k w ea tx H (.inl ea) Φ) : Rn sc (d + 20) 196 [vR 0 70] g Φ := by
  refine Rn.of rfl (v196_0 ?_)
  intro G1 e1
  obtain ⟨f1, h1, t1⟩ := h.z e1
  have e : G1 0 70 15 = ea := h1.2.2.1
  rw [e]
  exact K.v f1.frf h1 t1 rfl
end QQ
