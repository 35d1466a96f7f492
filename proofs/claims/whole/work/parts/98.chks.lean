/-! THE CHECKSUM -/
def sm (f : Nat → Int32) : Nat → Int64 → Int64
  | 0, a => a
  | k + 1, a => (31 : Int64) * sm f k a + (f k).toInt64
theorem sm_sh {f : Nat → Int32} {a : Int64} : ∀ k, sm f (k + 1) a = sm (fun c => f (c + 1)) k ((31 : Int64) * a + (f 0).toInt64) := by
  intro k
  induction k with
  | zero => rfl
  | succ k ih =>
    show (31 : Int64) * sm f (k + 1) a + (f (k + 1)).toInt64 = _
    rw [ih]
    rfl
theorem sm_congr {f h : Nat → Int32} {a : Int64} : ∀ k, (∀ c, c < k → f c = h c) → sm f k a = sm h k a := by
  intro k
  induction k with
  | zero => intro _; rfl
  | succ k ih =>
    intro e
    show (31 : Int64) * sm f k a + (f k).toInt64 = (31 : Int64) * sm h k a + (h k).toInt64
    rw [ih (fun c hc => e c (by omega)), e k (by omega)]
def vsm (D : Nat → Nat → Int32) : Nat → Int64 → Int64
  | 0, a => a
  | v + 1, a => sm (fun e => D 5 (v * 12 + e)) (nS D v) ((31 : Int64) * vsm D v a + (D 3 v).toInt64)
noncomputable def msm (D : Nat → Nat → Int32) : Nat → Int64 → Int64
  | 0, a => a
  | m + 1, a => (31 : Int64) * sm (fun c => D (6 + c) m) 10 (msm D m a) + (nI (folL D m).length).toInt64
noncomputable def csm (D : Nat → Nat → Int32) : Int64 := sm (fun z => nI (visN D (rtz D (rt9 D (nI z))))) (sN D) (msm D (nR D) (vsm D (nV D) (sm (fun c => countD D (nR D) (nI c)) 9 (Int64.ofNat 0))))
section CS
variable {sc : SC} {d n o k w M B : Nat} {g : Gs} {Φ : RS → Gs → Prop} {D : Nat → Nat → Int32} {T : List Nat} {ea : Int32} {a : Int64} {tx : Nat → Nat} {H : Nat → Nat → Nat → Int32}
theorem s124 (hA : At g 0 D) (vk : VOK D) (kk : Φ (.inl (some (vJ (vsm D (nV D) a)))) g) : Rn sc (d + 3) 124 [vR 0 20, vJ a] g Φ := by
  have v4 := vk.2.1
  have e4 : g.1 0 1 4 = nI (nV D) := hA.k (by decide) vk.1
  have e3 : g.1 0 3 = D 3 := hA 3 (by decide)
  have e5 : g.1 0 5 = D 5 := hA 5 (by decide)
  refine Rn.of rfl (v124_0 ?_)
  suffices hh : ∀ w6 w7 : AV, Xe sc (d + 2) 124 5 [vR 0 20, vJ a, vU, vJ (vsm D 0 a), vU, vI (nI 0), w6, w7] [] g Φ from hh _ _
  refine turns (W := fun v => ∀ w6 w7 : AV, Xe sc (d + 2) 124 5 [vR 0 20, vJ a, vU, vJ (vsm D v a), vU, vI (nI v), w6, w7] [] g Φ) (n := nV D) (fun v hv hW => ?_) ?_
  · intro w6 w7
    obtain ⟨p1, p2, p3, p4, p5⟩ := vk.2.2 v hv
    refine v124_5 ⟨fun _ => ⟨inb_nI (by omega) (by decide), ?_⟩, fun q => absurd (by rw [e4]; exact (nI_ltI (by omega) (by omega)).mpr hv) q⟩
    rw [nI_clamp (by omega), e3, p1]
    obtain ⟨b, hb⟩ : ∃ b, b = (31 : Int64) * vsm D v a + (D 3 v).toInt64 := ⟨_, rfl⟩
    rw [← p1, ← hb, p1]
    suffices hh : Xe sc (d + 2) 124 47 [vR 0 20, vJ a, vU, vJ (sm (fun e => D 5 (v * 12 + e)) 0 b), vU, vI (nI v), vI (nI (nS D v)), vI (nI 0)] [] g Φ from hh
    refine turns (W := fun e => Xe sc (d + 2) 124 47 [vR 0 20, vJ a, vU, vJ (sm (fun e => D 5 (v * 12 + e)) e b), vU, vI (nI v), vI (nI (nS D v)), vI (nI e)] [] g Φ) (n := nS D v) (fun e he hW2 => ?_) ?_
    · refine v124_47 ⟨fun _ => ?_, fun q => absurd ((nI_ltI (by omega) (by omega)).mpr he) q⟩
      rw [nI_mul, nI_add, nI_add, nI_clamp (by omega), e5]
      exact ⟨inb_nI (by omega) (by decide), hW2⟩
    · refine v124_47 ⟨fun q => absurd ((nI_ltI (by omega) (by omega)).mp q) (Nat.lt_irrefl _), fun _ => ?_⟩
      rw [nI_add]
      have e9 : sm (fun e => D 5 (v * 12 + e)) (nS D v) b = vsm D (v + 1) a := by rw [hb]; rfl
      rw [e9]
      exact hW _ _
  · intro w6 w7
    refine v124_5 ⟨fun q => ?_, fun _ => kk⟩
    rw [e4] at q
    exact absurd ((nI_ltI (by omega) (by omega)).mp q) (Nat.lt_irrefl _)
theorem s125 {m : Nat} (h : CLS g D T n o k ea tx H) (wf : WF D M B) (hm : m < nR D) (kk : ∀ g', FCW g g' → CLS g' D T n o k ea tx H → Φ (.inl (some (vJ ((31 : Int64) * sm (fun c => D (6 + c) m) 10 a + (nI (folL D m).length).toInt64)))) g') : Rn sc (d + 6) 125 [vR 0 20, vJ a, vI (nI m)] g Φ := by
  have n40 := wf.n40
  refine Rn.of rfl (v125_0 ⟨inb_nI (by omega) (by decide), ?_⟩)
  rw [nI_clamp (by omega), h.at 6 (by decide)]
  have ef : ∀ c, c < 9 → factD (g.1 0) m (nI c) = D (7 + c) m := fun c hc => by
    rw [factD_nI hc]
    have e := h.at (7 + c) (by omega)
    rw [e]
  rw [sm_sh] at kk
  obtain ⟨b, hb⟩ : ∃ b, b = (31 : Int64) * a + (D (6 + 0) m).toInt64 := ⟨_, rfl⟩
  rw [← hb] at kk
  rw [show (31 : Int64) * a + (D 6 m).toInt64 = b from hb.symm]
  suffices hh : Xe sc (d + 5) 125 21 [vR 0 20, vJ a, vU, vI (nI m), vJ (sm (fun c => D (6 + (c + 1)) m) 0 b), vU, vI (nI 0)] [] g Φ from hh
  refine turns (W := fun q => Xe sc (d + 5) 125 21 [vR 0 20, vJ a, vU, vI (nI m), vJ (sm (fun c => D (6 + (c + 1)) m) q b), vU, vI (nI q)] [] g Φ) (n := 9) (fun q hq hW => ?_) ?_
  · refine v125_21 ⟨fun z => absurd ((nI_ltI (by decide) (by omega)).mp z) (by omega), fun _ => ?_⟩
    refine s49 (by omega) ⟨_, rfl, ?_⟩
    rw [ef q hq, nI_add, show 7 + q = 6 + (q + 1) by omega]
    exact hW
  · refine v125_21 ⟨fun _ => ?_, fun z => absurd (by decide +kernel) z⟩
    refine s19 (D := D) (fun c hc => h.at c hc) wf.cw.1 hm (fun g1 f1 d1 => ⟨rfl, ?_⟩)
    rw [d1.1]
    exact kk g1 (FCW.of f1 (fun i c q => by omega)) (h.fr f1 (fun i c q => by omega))
theorem q123 (h : CLS g D T n o k ea tx H) (wz : WZ D M B) (kk : ∀ g', FCW g g' → CLS g' D T n o k ea tx H → Φ (.inl (some (vJ (csm D)))) g') : Rn sc (d + 20) 123 [vR 0 20] g Φ := by
  have wf := wz.f
  have n40 := wf.n40
  obtain ⟨s1, s2, s3, s4, s5⟩ := wf.spk
  refine Rn.of rfl (y123_0 ?_)
  suffices hh : Xe sc (d + 19) 123 4 [vR 0 20, vJ (sm (fun c => countD D (nR D) (nI c)) 0 (Int64.ofNat 0)), vU, vI (nI 0)] [] g Φ from hh
  refine turns (W := fun q => Xe sc (d + 19) 123 4 [vR 0 20, vJ (sm (fun c => countD D (nR D) (nI c)) q (Int64.ofNat 0)), vU, vI (nI q)] [] g Φ) (n := 9) (fun q hq hW => ?_) ?_
  · refine y123_4 ⟨fun z => absurd ((nI_ltI (by decide) (by omega)).mp z) (by omega), fun _ => ?_⟩
    refine s47 (n := nR D) (h.at.k (by decide) wf.cw.1.1) wf.cw.1.2 ⟨_, rfl, ?_⟩
    have e2 : countD (g.1 0) (nR D) (nI q) = countD D (nR D) (nI q) := by
      unfold countD
      rw [h.at 1 (by decide), h.at 0 (by decide), h.at 12 (by decide), h.at 13 (by decide), h.at 14 (by decide), h.at 15 (by decide)]
    rw [e2, nI_add]
    exact hW
  · refine y123_4 ⟨fun _ => ?_, fun z => absurd (by decide +kernel) z⟩
    unfold csm at kk
    obtain ⟨a1, ha1⟩ : ∃ a1, a1 = sm (fun c => countD D (nR D) (nI c)) 9 (Int64.ofNat 0) := ⟨_, rfl⟩
    rw [← ha1] at kk ⊢
    refine s124 h.at wf.cw.2.1 ⟨_, rfl, ?_⟩
    obtain ⟨a2, ha2⟩ : ∃ a2, a2 = vsm D (nV D) a1 := ⟨_, rfl⟩
    rw [← ha2] at kk ⊢
    suffices hh : Xe sc (d + 19) 123 40 [vR 0 20, vJ (msm D 0 a2), vU, vI (nI 0)] [] g Φ from hh
    refine turnsS (σ := Gs) (W := fun q s => Xe sc (d + 19) 123 40 [vR 0 20, vJ (msm D q a2), vU, vI (nI q)] [] s Φ) (I := fun _ s => FCW g s ∧ CLS s D T n o k ea tx H) (n := nR D) (fun q s hq hI hW => ?_) (fun s hI => ?_) g ⟨FCW.rf g, h⟩
    · obtain ⟨fs, hs⟩ := hI
      have e11 : s.1 0 0 11 = nI (nR D) := hs.at.k (by decide) wf.cw.1.1
      refine y123_40 ⟨fun _ => ?_, fun z => absurd (by rw [e11]; exact (nI_ltI (by omega) (by omega)).mpr hq) z⟩
      refine s125 hs wf hq (fun g1 f1 c1 => ⟨_, rfl, ?_⟩)
      rw [nI_add]
      exact hW g1 ⟨fs.tr f1, c1⟩
    · obtain ⟨fs, hs⟩ := hI
      have e11 : s.1 0 0 11 = nI (nR D) := hs.at.k (by decide) wf.cw.1.1
      refine y123_40 ⟨fun z => ?_, fun _ => ?_⟩
      · rw [e11] at z
        exact absurd ((nI_ltI (by omega) (by omega)).mp z) (Nat.lt_irrefl _)
      · obtain ⟨a3, ha3⟩ : ∃ a3, a3 = msm D (nR D) a2 := ⟨_, rfl⟩
        rw [← ha3] at kk ⊢
        suffices hh : Xe sc (d + 19) 123 66 [vR 0 20, vJ (sm (fun z => nI (visN D (rtz D (rt9 D (nI z))))) 0 a3), vU, vI (nI 0)] [] s Φ from hh
        refine turnsS (σ := Gs) (W := fun q s => Xe sc (d + 19) 123 66 [vR 0 20, vJ (sm (fun z => nI (visN D (rtz D (rt9 D (nI z))))) q a3), vU, vI (nI q)] [] s Φ) (I := fun _ s => FCW g s ∧ CLS s D T n o k ea tx H) (n := sN D) (fun q s hq hI hW => ?_) (fun s hI => ?_) s ⟨fs, hs⟩
        · obtain ⟨fs, hs⟩ := hI
          have e12 : s.1 0 0 12 = nI (sN D) := hs.at.k (by decide) s1
          refine y123_66 ⟨fun _ => ?_, fun z => absurd (by rw [e12]; exact (nI_ltI (by omega) (by omega)).mpr hq) z⟩
          refine s74 hs.at wf.cw wf.ok wz.p (s5 q hq) (fun g1 L f1 _ _ _ _ _ => ⟨_, rfl, ?_⟩)
          rw [nI_add]
          exact hW g1 ⟨fs.tr (FCW.of f1 (fun i c q => by omega)), hs.fr f1 (fun i c q => by omega)⟩
        · obtain ⟨fs, hs⟩ := hI
          have e12 : s.1 0 0 12 = nI (sN D) := hs.at.k (by decide) s1
          refine y123_66 ⟨fun z => ?_, fun _ => kk s fs hs⟩
          rw [e12] at z
          exact absurd ((nI_ltI (by omega) (by omega)).mp z) (Nat.lt_irrefl _)
/-- the reference's sum so far -/
def JS (g : Gs) (D : Nat → Nat → Int32) (T : List Nat) (n k w : Nat) (ea : Int32) (tx : Nat → Nat) (H : Nat → Nat → Nat → Int32) (a : Int64) (s : Gs) : Prop := FRF g s ∧ REF s D T n k w ea tx H ∧ s.2.1 0 70 28 = a
theorem j3_e {G : Nat → Nat → Nat → Int64} {i c k : Nat} {v : Int64} : u3 G i c k v i c k = v := if_pos ⟨rfl, rfl, rfl⟩
theorem j3_n {G : Nat → Nat → Nat → Int64} {i c k i' c' : Nat} {v : Int64} (h : c' ≠ c) : u3 G i c k v i' c' = G i' c' := funext fun _ => if_neg fun q => h q.2.1
theorem JS.st {s : Gs} {v : Int64} (h : JS g D T n k w ea tx H a s) {G : Nat → Nat → Nat → Int64} (e : G = u3 s.2.1 0 70 28 v) : JS g D T n k w ea tx H v (s.1, G, s.2.2) := by
  obtain ⟨h1, h2, h3⟩ := h
  refine ⟨⟨h1.1, fun i c hc => ?_, h1.2.2⟩, h2, by rw [e]; exact j3_e (G := s.2.1) (i := 0) (c := 70) (k := 28) (v := v)⟩
  rw [e]
  refine (j3_n hc).trans ?_
  exact h1.2.1 i c hc
theorem q229 (h : REF g D T n k w ea tx H) (wz : WZ D M B) (kk : ∀ g', FRF g g' → REF g' D T n k w ea tx H → Φ (.inl (some (vJ (csm D)))) g') : Rn sc (d + 20) 229 [vR 0 70] g Φ := by
  have wf := wz.f
  have n40 := wf.n40
  have vk := wf.cw.2.1
  have v4 := vk.2.1
  have w10 := h.mc.l
  obtain ⟨s1, s2, s3, s4, s5⟩ := wf.spk
  refine Rn.of rfl (v229_0 ?_)
  intro G1 e1 G2 e2
  obtain ⟨f1, h1, t1⟩ := h.z e1
  have j0 : JS g D T n k w ea tx H (sm (fun c => countD D (nR D) (nI c)) 0 (Int64.ofNat 0)) (G1, G2, g.2.2) := JS.st (s := (G1, g.2.1, g.2.2)) (a := g.2.1 0 70 28) ⟨f1.frf, h1, rfl⟩ e2
  refine turnsS (σ := Gs) (W := fun q s => Xe sc (d + 19) 229 12 [vR 0 70, vI (nI q), vU] [] s Φ) (I := fun q s => JS g D T n k w ea tx H (sm (fun c => countD D (nR D) (nI c)) q (Int64.ofNat 0)) s) (n := 9) (fun q s hq hI hW => ?_) (fun s hI => ?_) (G1, G2, g.2.2) j0
  · refine v229_12 ⟨fun _ => ?_, fun z => absurd ((nI_ltI (by omega) (by decide)).mpr hq) z⟩
    refine s198 hI.2.1.mc wf hq ⟨_, rfl, ?_⟩
    intro G6 e6
    rw [nI_add]
    rw [hI.2.2] at e6
    exact hW _ (hI.st e6)
  · refine v229_12 ⟨fun z => absurd ((nI_ltI (by decide) (by decide)).mp z) (by decide), fun _ => ?_⟩
    unfold csm at kk
    obtain ⟨a1, ha1⟩ : ∃ a1, a1 = sm (fun c => countD D (nR D) (nI c)) 9 (Int64.ofNat 0) := ⟨_, rfl⟩
    rw [← ha1] at kk hI
    -- volumes
    suffices hh : ∀ w2 : AV, Xe sc (d + 19) 229 36 [vR 0 70, vI (nI 0), w2] [] s Φ from hh _
    refine turnsS (σ := Gs) (W := fun q s => ∀ w2 : AV, Xe sc (d + 19) 229 36 [vR 0 70, vI (nI q), w2] [] s Φ) (I := fun q s => JS g D T n k w ea tx H (vsm D q a1) s) (n := nV D) (fun v s hv hI hW => ?_) (fun s hI => ?_) s hI
    · intro w2
      obtain ⟨p1, p2, p3, p4, p5⟩ := vk.2.2 v hv
      have m := hI.2.1.mc
      have wm := m.w
      have ev : s.1 0 71 (780 * w) = nI (nV D) := m.v.1.trans vk.1
      have es : s.1 0 71 (780 * w + (5 + 7 * v + 6)) = D 3 v := (m.v.s vk v hv).trans p1.symm
      refine v229_36 ?_
      simp (disch := omega) only [u3_nc, u3_ek, u3_nk, upd_e, upd_n, dU_nk, dU_nc, dU_e, nI_ltI, nI_eq, nI_clamp, nI_add, nI_mul, inb_nI, nI_neg1, nI_ne1, nI_n1e, nI_neg1e, Nat.not_lt_zero, Nat.lt_irrefl, true_and, and_true, true_implies, false_implies, not_true_eq_false, not_false_eq_true, implies_true, forall_const, if_true, if_false, Nat.reduceEqDiff, eq_self, Nat.one_ne_zero, Nat.zero_ne_one, Nat.zero_add, Nat.add_zero, wm, ev, hv, es]
      intro G6 e6
      rw [hI.2.2] at e6
      obtain ⟨b, hb⟩ : ∃ b, b = (31 : Int64) * vsm D v a1 + (D 3 v).toInt64 := ⟨_, rfl⟩
      rw [← hb] at e6
      have jb : JS g D T n k w ea tx H (sm (fun e => D 5 (v * 12 + e)) 0 b) (s.1, G6, s.2.2) := hI.st e6
      refine turnsS (σ := Gs) (W := fun e s => Xe sc (d + 19) 229 57 [vR 0 70, vI (nI v), vI (nI e)] [] s Φ) (I := fun e s => JS g D T n k w ea tx H (sm (fun e => D 5 (v * 12 + e)) e b) s) (n := nS D v) (fun e s he hI hW2 => ?_) (fun s hI => ?_) (s.1, G6, s.2.2) jb
      · have m := hI.2.1.mc
        have wm := m.w
        have es : s.1 0 71 (780 * w + (5 + 7 * v + 6)) = nI (nS D v) := m.v.s vk v hv
        have eo : s.1 0 71 (780 * w + (33 + 7 * (12 * v + e) + 6)) = D 5 (v * 12 + e) := m.v.o v e hv he
        refine v229_57 ?_
        simp (disch := omega) only [u3_nc, u3_ek, u3_nk, upd_e, upd_n, dU_nk, dU_nc, dU_e, nI_ltI, nI_eq, nI_clamp, nI_add, nI_mul, inb_nI, nI_neg1, nI_ne1, nI_n1e, nI_neg1e, Nat.not_lt_zero, Nat.lt_irrefl, true_and, and_true, true_implies, false_implies, not_true_eq_false, not_false_eq_true, implies_true, forall_const, if_true, if_false, Nat.reduceEqDiff, eq_self, Nat.one_ne_zero, Nat.zero_ne_one, Nat.zero_add, Nat.add_zero, wm, es, he, eo]
        intro G8 e8
        rw [hI.2.2] at e8
        exact hW2 _ (hI.st e8)
      · have m := hI.2.1.mc
        have wm := m.w
        have es : s.1 0 71 (780 * w + (5 + 7 * v + 6)) = nI (nS D v) := m.v.s vk v hv
        refine v229_57 ?_
        simp (disch := omega) only [u3_nc, u3_ek, u3_nk, upd_e, upd_n, dU_nk, dU_nc, dU_e, nI_ltI, nI_eq, nI_clamp, nI_add, nI_mul, inb_nI, nI_neg1, nI_ne1, nI_n1e, nI_neg1e, Nat.not_lt_zero, Nat.lt_irrefl, true_and, and_true, true_implies, false_implies, not_true_eq_false, not_false_eq_true, implies_true, forall_const, if_true, if_false, Nat.reduceEqDiff, eq_self, Nat.one_ne_zero, Nat.zero_ne_one, Nat.zero_add, Nat.add_zero, wm, es]
        have e9 : sm (fun e => D 5 (v * 12 + e)) (nS D v) b = vsm D (v + 1) a1 := by rw [hb]; rfl
        rw [e9] at hI
        exact hW s hI _
    · intro w2
      have m := hI.2.1.mc
      have wm := m.w
      have ev : s.1 0 71 (780 * w) = nI (nV D) := m.v.1.trans vk.1
      refine v229_36 ?_
      simp (disch := omega) only [u3_nc, u3_ek, u3_nk, upd_e, upd_n, dU_nk, dU_nc, dU_e, nI_ltI, nI_eq, nI_clamp, nI_add, nI_mul, inb_nI, nI_neg1, nI_ne1, nI_n1e, nI_neg1e, Nat.not_lt_zero, Nat.lt_irrefl, true_and, and_true, true_implies, false_implies, not_true_eq_false, not_false_eq_true, implies_true, forall_const, if_true, if_false, Nat.reduceEqDiff, eq_self, Nat.one_ne_zero, Nat.zero_ne_one, Nat.zero_add, Nat.add_zero, wm, ev]
      obtain ⟨a2, ha2⟩ : ∃ a2, a2 = vsm D (nV D) a1 := ⟨_, rfl⟩
      rw [← ha2] at kk hI
      -- mounts
      revert w2
      refine turnsS (σ := Gs) (W := fun q s => ∀ w2 : AV, Xe sc (d + 19) 229 91 [vR 0 70, vI (nI q), w2] [] s Φ) (I := fun q s => JS g D T n k w ea tx H (msm D q a2) s) (n := nR D) (fun q s hq hI hW => ?_) (fun s hI => ?_) s hI
      · intro w2
        have m := hI.2.1.mc
        have wm := m.w
        have en := m.n
        refine v229_91 ?_
        simp (disch := omega) only [u3_nc, u3_ek, u3_nk, upd_e, upd_n, dU_nk, dU_nc, dU_e, nI_ltI, nI_eq, nI_clamp, nI_add, nI_mul, inb_nI, nI_neg1, nI_ne1, nI_n1e, nI_neg1e, Nat.not_lt_zero, Nat.lt_irrefl, true_and, and_true, true_implies, false_implies, not_true_eq_false, not_false_eq_true, implies_true, forall_const, if_true, if_false, Nat.reduceEqDiff, eq_self, Nat.one_ne_zero, Nat.zero_ne_one, Nat.zero_add, Nat.add_zero, wm, en, hq]
        have jb : JS g D T n k w ea tx H (sm (fun c => D (6 + c) q) 0 (msm D q a2)) s := hI
        refine turnsS (σ := Gs) (W := fun e s => Xe sc (d + 19) 229 102 [vR 0 70, vI (nI q), vI (nI e)] [] s Φ) (I := fun e s => JS g D T n k w ea tx H (sm (fun c => D (6 + c) q) e (msm D q a2)) s) (n := 10) (fun e s he hI hW2 => ?_) (fun s hI => ?_) s jb
        · have m := hI.2.1.mc
          have wm := m.w
          have eo := m.m.2.2.2.2 q hq e he
          refine v229_102 ⟨fun z => absurd ((nI_ltI (by decide) (by omega)).mp z) (by omega), fun _ => ?_⟩
          simp (disch := omega) only [u3_nc, u3_ek, u3_nk, upd_e, upd_n, dU_nk, dU_nc, dU_e, nI_ltI, nI_eq, nI_clamp, nI_add, nI_mul, inb_nI, nI_neg1, nI_ne1, nI_n1e, nI_neg1e, Nat.not_lt_zero, Nat.lt_irrefl, true_and, and_true, true_implies, false_implies, not_true_eq_false, not_false_eq_true, implies_true, forall_const, if_true, if_false, Nat.reduceEqDiff, eq_self, Nat.one_ne_zero, Nat.zero_ne_one, Nat.zero_add, Nat.add_zero, wm, eo]
          intro G8 e8
          rw [hI.2.2] at e8
          exact hW2 _ (hI.st e8)
        · refine v229_102 ⟨fun _ => ?_, fun z => absurd (by decide +kernel) z⟩
          refine s152 hI.2.1.mc wf.gn hq (fun g1 f1 _ => ⟨_, rfl, ?_⟩)
          intro G6 e6
          have j1 : JS g D T n k w ea tx H (sm (fun c => D (6 + c) q) 10 (msm D q a2)) g1 := ⟨hI.1.tr (FRF.pm f1), hI.2.1.pm f1, by rw [f1.2]; exact hI.2.2⟩
          rw [j1.2.2] at e6
          rw [nI_add]
          exact hW _ (j1.st e6) _
      · intro w2
        have m := hI.2.1.mc
        have wm := m.w
        have en := m.n
        refine v229_91 ?_
        simp (disch := omega) only [u3_nc, u3_ek, u3_nk, upd_e, upd_n, dU_nk, dU_nc, dU_e, nI_ltI, nI_eq, nI_clamp, nI_add, nI_mul, inb_nI, nI_neg1, nI_ne1, nI_n1e, nI_neg1e, Nat.not_lt_zero, Nat.lt_irrefl, true_and, and_true, true_implies, false_implies, not_true_eq_false, not_false_eq_true, implies_true, forall_const, if_true, if_false, Nat.reduceEqDiff, eq_self, Nat.one_ne_zero, Nat.zero_ne_one, Nat.zero_add, Nat.add_zero, wm, en]
        obtain ⟨a3, ha3⟩ : ∃ a3, a3 = msm D (nR D) a2 := ⟨_, rfl⟩
        rw [← ha3] at kk hI
        -- spaces
        revert w2
        refine turnsS (σ := Gs) (W := fun q s => ∀ w2 : AV, Xe sc (d + 19) 229 143 [vR 0 70, vI (nI q), w2] [] s Φ) (I := fun q s => JS g D T n k w ea tx H (sm (fun z => nI (visN D (rtz D (rt9 D (nI z))))) q a3) s) (n := sN D) (fun q s hq hI hW => ?_) (fun s hI => ?_) s hI
        · intro w2
          have m := hI.2.1.mc
          have wm := m.w
          have e1 : s.1 0 71 (780 * w + 1) = nI (sN D) := m.m.1.trans s1
          refine v229_143 ?_
          simp (disch := omega) only [u3_nc, u3_ek, u3_nk, upd_e, upd_n, dU_nk, dU_nc, dU_e, nI_ltI, nI_eq, nI_clamp, nI_add, nI_mul, inb_nI, nI_neg1, nI_ne1, nI_n1e, nI_neg1e, Nat.not_lt_zero, Nat.lt_irrefl, true_and, and_true, true_implies, false_implies, not_true_eq_false, not_false_eq_true, implies_true, forall_const, if_true, if_false, Nat.reduceEqDiff, eq_self, Nat.one_ne_zero, Nat.zero_ne_one, Nat.zero_add, Nat.add_zero, wm, e1, hq]
          refine s211 m wf.cw wf.rk wz.p (s5 q hq) (fun g1 m1 f1 _ => ⟨_, rfl, ?_⟩)
          intro G7 e7
          have j1 : JS g D T n k w ea tx H (sm (fun z => nI (visN D (rtz D (rt9 D (nI z))))) q a3) g1 := ⟨hI.1.tr f1.frf, hI.2.1.fv f1, by rw [f1.1.2]; exact hI.2.2⟩
          rw [j1.2.2] at e7
          exact hW _ (j1.st e7) _
        · intro w2
          have m := hI.2.1.mc
          have wm := m.w
          have e1 : s.1 0 71 (780 * w + 1) = nI (sN D) := m.m.1.trans s1
          refine v229_143 ?_
          simp (disch := omega) only [u3_nc, u3_ek, u3_nk, upd_e, upd_n, dU_nk, dU_nc, dU_e, nI_ltI, nI_eq, nI_clamp, nI_add, nI_mul, inb_nI, nI_neg1, nI_ne1, nI_n1e, nI_neg1e, Nat.not_lt_zero, Nat.lt_irrefl, true_and, and_true, true_implies, false_implies, not_true_eq_false, not_false_eq_true, implies_true, forall_const, if_true, if_false, Nat.reduceEqDiff, eq_self, Nat.one_ne_zero, Nat.zero_ne_one, Nat.zero_add, Nat.add_zero, wm, e1]
          rw [hI.2.2]
          exact kk s hI.1 hI.2.1
end CS
