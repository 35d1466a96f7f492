/-! LOOK: the text is opened, a path is followed -/
section LK
variable {g g' : Gs} {D : Nat → Nat → Int32} {T : List Nat} {n o k w N : Nat} {ea eb : Int32} {tx : Nat → Nat} {H : Nat → Nat → Nat → Int32}
theorem CLS.fin {P : Nat → Nat → Prop} (h : CLS g D T n o k ea tx H) (f : Fr P g g') (hp : ∀ i c, P i c → i = 1 ∨ c = 20 ∨ c = 21 ∨ (23 ≤ c ∧ c ≤ 54)) (e1 : g'.1 0 20 1 = eb) (e2 : g'.1 0 21 1 = nI 0) : CLS g' D T 0 o k eb tx H := by
  obtain ⟨h1, h2, h3, h4, h5, h6, h7, h8, h9, h10⟩ := h
  have e : ∀ i c, ¬ (i = 1 ∨ c = 20 ∨ c = 21 ∨ (23 ≤ c ∧ c ≤ 54)) → g'.1 i c = g.1 i c := fun i c hn => f.1 i c (fun q => hn (hp i c q))
  refine ⟨fun c hc => by rw [e 0 c (by omega)]; exact h1 c hc, e1, e2, ⟨by decide, fun t ht => by omega⟩, ?_, by rw [e 0 62 (by omega)]; exact h6, h7, by rw [e 0 62 (by omega)]; exact h8, h9, fun j hj c hc => by rw [e _ c (by omega)]; exact h10 j hj c hc⟩
  unfold TXC
  rw [e 0 55 (by omega), e 0 58 (by omega)]
  exact h5
theorem REF.fin (h : REF g D T n k w ea tx H) (e70 : ∀ z, (z = 2 ∨ z = 3 ∨ z = 27) → g'.1 0 70 z = g.1 0 70 z) (e14 : g'.1 0 70 14 = nI 0) (e15 : g'.1 0 70 15 = eb) (e71 : g'.1 0 71 = g.1 0 71) (e80 : g'.1 0 80 = g.1 0 80) : REF g' D T 0 k w eb tx H := by
  obtain ⟨h1, h2, h3, h4, h5, h6, h7, h8, h9⟩ := h
  exact ⟨⟨by rw [e70 2 (by omega)]; exact h1.1, h1.2.1, by rw [e71]; exact h1.m, h1.r, by rw [e71]; exact h1.v, h1.vk⟩, h2, e15, e14, ⟨by decide, fun t ht => by omega⟩, h6.fr (e70 27 (by omega)) e80, by rw [e70 3 (by omega)]; exact h7, h8, fun j hj => by rw [e71]; exact h9 j hj⟩
theorem s26 {sc : SC} {d : Nat} {Φ : RS → Gs → Prop} (h6 : N ≤ 600) (hb : ∀ t, t < N → tx t < 256 ∧ g.1 0 22 t = sbI (tx t)) (kk : ∀ g', Fr P21 g g' → g'.1 0 21 1 = nI 0 → CIN g' tx N (skp tx N 0) → Φ (.inl none) g') : Rn sc (d + 4) 26 [vR 0 21, vI (nI N)] g Φ := by
  have e : (if nI 0 < (if nI 600 < nI N then nI 600 else nI N) then (if nI 600 < nI N then nI 600 else nI N) else nI 0) = nI N := by
    rw [if_neg (fun q => absurd ((nI_ltI (by decide) (by omega)).mp q) (by omega))]
    by_cases h0 : N = 0
    · subst h0; rw [if_neg (by decide +kernel)]
    · rw [if_pos ((nI_ltI (by decide) (by omega)).mpr (by omega))]
  refine Rn.of rfl (v26_0 ?_)
  rw [e]
  intro G1 e1 G2 e2 G3 e3 G4 e4 G5 e5
  have f5 : Fr P21 g (G5, g.2) := by
    rw [e5, e4, e3, e2, e1]
    exact Fr.u3 (Fr.u3 (Fr.u3 (Fr.u3 (Fr.u3 (Fr.rf _) ⟨rfl, rfl⟩) ⟨rfl, rfl⟩) ⟨rfl, rfl⟩) ⟨rfl, rfl⟩) ⟨rfl, rfl⟩
  have b5 : ∀ i c, ¬ (i = 0 ∧ c = 21) → G5 i c = g.1 i c := f5.1
  have c1 : G5 0 21 1 = nI 0 := by rw [e5, u3_nk (by decide), e4, u3_nk (by decide), e3, u3_nk (by decide), e2, u3_nk (by decide), e1, u3_ek rfl]
  have c5 : G5 0 21 5 = nI N := by rw [e5, u3_nk (by decide), e4, u3_nk (by decide), e3, u3_nk (by decide), e2, u3_ek rfl]
  have c4 : G5 0 21 4 = nI 0 := by rw [e5, u3_nk (by decide), e4, u3_nk (by decide), e3, u3_ek rfl]
  have c7 : G5 0 21 7 = -nI 1 := by rw [e5, u3_ek rfl]
  have hB : BYT (G5, g.2.1, g.2.2) tx N := ⟨c5, h6, fun t ht => by dsimp only; rw [b5 0 22 (by simp)]; exact hb t ht⟩
  exact s27 hB c4 (Nat.zero_le _) c7 (fun g6 f6 c6 => ⟨rfl, kk g6 (Fr.tr f5 f6.1) (f6.2.1.trans c1) c6⟩)
/-- what is not there -/
theorem q107x {sc : SC} {d M B : Nat} {Φ : RS → Gs → Prop} {a b : Int32} {A : AN} (h : CLS g D T n o k ea tx H) (wf : WF D M B) (hA : (¬ INR a (sN D) ∧ A = .inr (2, 1)) ∨ (INR a (sN D) ∧ ¬ INR b (n + 1) ∧ A = .inr (0, 2))) (K : KC g D T n o k ea tx H A Φ) : Rn sc (d + 20) 107 [vR 0 20, vI a, vI b] g Φ := by
  obtain ⟨s1, s2, s3, s4, s5⟩ := wf.spk
  refine Rn.of rfl (y107_0 (s108 h.at s1 (fun hi => Or.inl ⟨rfl, ?_⟩) (fun hi => Or.inr ⟨_, rfl, ?_⟩)))
  · rcases hA with ⟨q, _⟩ | ⟨q, r, e⟩
    · exact absurd hi q
    · exact s96 h.2.2.1 h.2.2.2.1.1 (fun z => absurd z r) (fun _ => Or.inr ⟨_, rfl, K.x h e⟩)
  · rcases hA with ⟨q, e⟩ | ⟨q, r, e⟩
    · exact K.x h e
    · exact absurd q hi
theorem q208x {sc : SC} {d M B : Nat} {Φ : RS → Gs → Prop} {a b : Int32} {A : AN} (h : REF g D T n k w ea tx H) (wf : WF D M B) (hA : (¬ INR a (sN D) ∧ A = .inr (2, 1)) ∨ (INR a (sN D) ∧ ¬ INR b (n + 1) ∧ A = .inr (0, 2))) (K : KR g D T n k w ea tx H A Φ) : Rn sc (d + 20) 208 [vR 0 70, vI a, vI b] g Φ := by
  obtain ⟨s1, s2, s3, s4, s5⟩ := wf.spk
  have w10 := h.mc.l
  have n6 := h.2.2.2.2.1.1
  refine Rn.of rfl (y208_0 ?_)
  intro G1 e1
  obtain ⟨f1, h1, t1⟩ := h.z e1
  have m1 := h1.mc
  have w1 : G1 0 70 2 = nI w := m1.w
  have e2 : G1 0 71 (780 * w + 1) = nI (sN D) := m1.m.1.trans s1
  have e14 : (G1, g.2.1, g.2.2).1 0 70 14 = nI n := h1.2.2.2.1
  have i1 : inb (nI 780 * G1 0 70 2 + nI 1) 7800 = true := by rw [w1]; simp (disch := omega) only [u3_nc, u3_ek, u3_nk, upd_e, upd_n, dU_nk, dU_nc, dU_e, nI_ltI, nI_eq, nI_clamp, nI_add, nI_mul, inb_nI, nI_neg1, nI_ne1, nI_n1e, nI_neg1e, Nat.not_lt_zero, Nat.lt_irrefl, true_and, and_true, true_implies, false_implies, not_true_eq_false, not_false_eq_true, implies_true, forall_const, if_true, if_false, Nat.reduceEqDiff, eq_self, Nat.one_ne_zero, Nat.zero_ne_one, Nat.zero_add, Nat.add_zero]
  have i2 : (nI 780 * G1 0 70 2 + nI 1).toNatClampNeg = 780 * w + 1 := by rw [w1]; simp (disch := omega) only [u3_nc, u3_ek, u3_nk, upd_e, upd_n, dU_nk, dU_nc, dU_e, nI_ltI, nI_eq, nI_clamp, nI_add, nI_mul, inb_nI, nI_neg1, nI_ne1, nI_n1e, nI_neg1e, Nat.not_lt_zero, Nat.lt_irrefl, true_and, and_true, true_implies, false_implies, not_true_eq_false, not_false_eq_true, implies_true, forall_const, if_true, if_false, Nat.reduceEqDiff, eq_self, Nat.one_ne_zero, Nat.zero_ne_one, Nat.zero_add, Nat.add_zero]
  refine ⟨i1, ?_⟩
  rw [i2, e2]
  refine s128r (n := sN D) (by omega) (pre1 (by omega)) ⟨_, rfl, s134 (code := 1) t1 (Or.inl rfl) (fun hi => ⟨_, rfl, fun q => absurd q (by decide +kernel), fun _ => ?_⟩) (fun hi g' f t => ⟨_, rfl, fun _ => ?_, fun q => absurd rfl q⟩)⟩
  · rcases hA with ⟨q, _⟩ | ⟨q, r, e⟩
    · exact absurd hi q
    · rw [e14]
      refine s128r (n := n + 1) (by omega) (pre0 (by omega)) ⟨_, rfl, s134 (code := 2) t1 (Or.inr rfl) (fun hj => absurd hj r) (fun hj g' f t => ⟨_, rfl, fun _ => K.x (f1.tr f).frf (h1.th f) t e, fun q => absurd rfl q⟩)⟩
  · rcases hA with ⟨q, e⟩ | ⟨q, r, e⟩
    · exact K.x (f1.tr f).frf (h1.th f) t e
    · exact absurd q hi
end LK
theorem lookP {D : Nat → Nat → Int32} {n N M B z : Nat} {tx : Nat → Nat} (wz : WZ D M B) (hz : z < sN D) (hN : N ≤ n) (n6 : n ≤ 600) : ∃ v eb : Int32,
    (∀ (sc : SC) (d : Nat) (g : Gs) (Φ : RS → Gs → Prop) (T : List Nat) (o k : Nat) (ea : Int32) (H : Nat → Nat → Nat → Int32), CLS g D T n o k ea tx H → (∀ g', FCW g g' → CLS g' D T 0 o k eb tx H → Φ (.inl (some (vI v))) g') → Rn sc (d + 20) 107 [vR 0 20, vI (nI z), vI (nI N)] g Φ) ∧
    (∀ (sc : SC) (d : Nat) (g : Gs) (Φ : RS → Gs → Prop) (T : List Nat) (k w : Nat) (ea : Int32) (H : Nat → Nat → Nat → Int32), REF g D T n k w ea tx H → (∀ g', FRF g g' → REF g' D T 0 k w eb tx H → g'.1 0 70 0 = nI 0 → Φ (.inl (some (vI v))) g') → Rn sc (d + 20) 208 [vR 0 70, vI (nI z), vI (nI N)] g Φ) := by
  obtain ⟨s1, s2, s3, s4, s5⟩ := wz.f.spk
  have n40 := wz.f.n40
  obtain ⟨k1, k2, k3, k4⟩ := skp_K (tx := tx) (Nat.zero_le N)
  obtain ⟨res, hV, hC, hR⟩ := path9 (tx := tx) (N := N) wz.f.cw wz.f.rk wz.p wz.f.ok (show N ≤ 600 by omega) (s5 z hz) k4
  have iz : INR (nI z) (sN D) := INR.nat hz (by omega)
  have iN : INR (nI N) (n + 1) := INR.nat (by omega) (by omega)
  have n10 : ¬ nI 1 = nI 0 := by decide +kernel
  -- the class up to the path
  have cl : ∀ (sc : SC) (d : Nat) (g : Gs) (Φ : RS → Gs → Prop) (T : List Nat) (o k : Nat) (ea : Int32) (H : Nat → Nat → Nat → Int32), CLS g D T n o k ea tx H → (∀ g', Fr (fun i c => i = 0 ∧ (c = 21 ∨ c = 45)) g g' → g'.1 0 21 1 = nI 0 → PCo tx N 0 res g' → (((pb res = nI 0) → (∀ G14 : Nat → Nat → Nat → Int32, G14 = u3 g'.1 0 20 1 (g'.1 0 21 7) → (Φ (.inl (some (vI (G14 0 21 6)))) (G14, g'.2.1, g'.2.2)))) ∧ (¬ (pb res = nI 0) → (Rn sc (d + 19) 30 [vR 0 21] g' (fun r g15 => ∃ r18 : Int32, r = .inl (some (vI r18)) ∧ (((r18 = nI 0) → (∀ G19 : Nat → Nat → Nat → Int32, G19 = u3 g15.1 0 20 1 (g15.1 0 21 7) → (Φ (.inl (some (vI (G19 0 21 6)))) (G19, g15.2.1, g15.2.2)))) ∧ (¬ (r18 = nI 0) → (∀ G20 : Nat → Nat → Nat → Int32, G20 = u3 g15.1 0 20 1 (g15.1 0 21 7) → ((inb (G20 0 45 1) 40 = true) ∧ (Φ (.inl (some (vI (((nI 100) * (G20 0 6 (G20 0 45 1).toNatClampNeg)) + (G20 0 45 2))))) (G20, g15.2.1, g15.2.2))))))))))) → Rn sc (d + 20) 107 [vR 0 20, vI (nI z), vI (nI N)] g Φ := fun sc d g Φ T o k ea H h K => by
    refine Rn.of rfl (y107_0 (s108 h.at s1 (fun hi => Or.inl ⟨rfl, ?_⟩) (fun hi => absurd iz hi)))
    refine s96 h.2.2.1 n6 (fun _ => Or.inl ⟨rfl, ?_⟩) (fun q => absurd iN q)
    refine s26 (tx := tx) (by omega) (fun t ht => h.2.2.2.1.2 t (by omega)) (fun g1 f1 q1 c1 => ⟨rfl, ?_⟩)
    have a1 : At g1 0 D := h.at.fr f1 (by omega)
    refine hC sc (d + 14) 0 g1 _ rfl c1 a1 (fun g2 f2 p2 => ⟨_, rfl, ?_⟩)
    exact K g2 (Fr.tr (f1.wk fun i c q => ⟨q.1, Or.inl q.2⟩) (f2.1.wk fun i c q => by omega)) (f2.2.1.trans q1) p2
  -- the reference up to the path
  have rl : ∀ (sc : SC) (d : Nat) (g : Gs) (Φ : RS → Gs → Prop) (T : List Nat) (k w : Nat) (ea : Int32) (H : Nat → Nat → Nat → Int32), REF g D T n k w ea tx H → (∀ g24, FRF g g24 → (∀ x, (x = 2 ∨ x = 3 ∨ x = 27) → g24.1 0 70 x = g.1 0 70 x) → g24.1 0 70 0 = nI 0 → g24.1 0 70 14 = nI 0 → g24.1 0 70 15 = -nI 1 → g24.1 0 71 = g.1 0 71 → g24.1 0 80 = g.1 0 80 → MC g24 w D → PRo tx N res g24 → (((g24.1 0 70 18 = nI 0) → (Rn sc (d + 19) 177 [vR 0 70] g24 (fun r g27 => ∃ r30 : Int32, r = .inl (some (vI r30)) ∧ (((r30 = (-nI 1)) → (((g27.1 0 70 18 = nI 0) → ((inb (((nI 780) * (g27.1 0 70 2)) + (((nI 369) + ((nI 10) * (g27.1 0 70 11))) + (nI 0))) 7800 = true) ∧ (Φ (.inl (some (vI (((nI 100) * (g27.1 0 71 (((nI 780) * (g27.1 0 70 2)) + (((nI 369) + ((nI 10) * (g27.1 0 70 11))) + (nI 0))).toNatClampNeg)) + (g27.1 0 70 12))))) g27))) ∧ (¬ (g27.1 0 70 18 = nI 0) → (∀ G34 : Nat → Nat → Nat → Int32, G34 = u3 g27.1 0 70 15 (g27.1 0 70 19) → (Φ (.inl (some (vI (G34 0 70 18)))) (G34, g27.2.1, g27.2.2)))))) ∧ (¬ (r30 = (-nI 1)) → (((g27.1 0 70 18 = nI 0) → (∀ G37 : Nat → Nat → Nat → Int32, G37 = u3 g27.1 0 70 18 (-nI 12) → (∀ G38 : Nat → Nat → Nat → Int32, G38 = u3 G37 0 70 19 (g27.1 0 70 17) → (((G38 0 70 18 = nI 0) → ((inb (((nI 780) * (G38 0 70 2)) + (((nI 369) + ((nI 10) * (G38 0 70 11))) + (nI 0))) 7800 = true) ∧ (Φ (.inl (some (vI (((nI 100) * (G38 0 71 (((nI 780) * (G38 0 70 2)) + (((nI 369) + ((nI 10) * (G38 0 70 11))) + (nI 0))).toNatClampNeg)) + (G38 0 70 12))))) (G38, g27.2.1, g27.2.2)))) ∧ (¬ (G38 0 70 18 = nI 0) → (∀ G42 : Nat → Nat → Nat → Int32, G42 = u3 G38 0 70 15 (G38 0 70 19) → (Φ (.inl (some (vI (G42 0 70 18)))) (G42, g27.2.1, g27.2.2)))))))) ∧ (¬ (g27.1 0 70 18 = nI 0) → (∀ G44 : Nat → Nat → Nat → Int32, G44 = u3 g27.1 0 70 15 (g27.1 0 70 19) → (Φ (.inl (some (vI (G44 0 70 18)))) (G44, g27.2.1, g27.2.2)))))))))) ∧ (¬ (g24.1 0 70 18 = nI 0) → (∀ G47 : Nat → Nat → Nat → Int32, G47 = u3 g24.1 0 70 15 (g24.1 0 70 19) → (Φ (.inl (some (vI (G47 0 70 18)))) (G47, g24.2.1, g24.2.2)))))) → Rn sc (d + 20) 208 [vR 0 70, vI (nI z), vI (nI N)] g Φ := fun sc d g Φ T k w ea H h K => by
    have w10 := h.mc.l
    refine Rn.of rfl (y208_0 ?_)
    intro G1 e1
    obtain ⟨f1, h1, t1⟩ := h.z e1
    have m1 := h1.mc
    have w1 : G1 0 70 2 = nI w := m1.w
    have e2 : G1 0 71 (780 * w + 1) = nI (sN D) := m1.m.1.trans s1
    have e14 : (G1, g.2.1, g.2.2).1 0 70 14 = nI n := h1.2.2.2.1
    have i1 : inb (nI 780 * G1 0 70 2 + nI 1) 7800 = true := by rw [w1]; simp (disch := omega) only [u3_nc, u3_ek, u3_nk, upd_e, upd_n, dU_nk, dU_nc, dU_e, nI_ltI, nI_eq, nI_clamp, nI_add, nI_mul, inb_nI, nI_neg1, nI_ne1, nI_n1e, nI_neg1e, Nat.not_lt_zero, Nat.lt_irrefl, true_and, and_true, true_implies, false_implies, not_true_eq_false, not_false_eq_true, implies_true, forall_const, if_true, if_false, Nat.reduceEqDiff, eq_self, Nat.one_ne_zero, Nat.zero_ne_one, Nat.zero_add, Nat.add_zero]
    have i2 : (nI 780 * G1 0 70 2 + nI 1).toNatClampNeg = 780 * w + 1 := by rw [w1]; simp (disch := omega) only [u3_nc, u3_ek, u3_nk, upd_e, upd_n, dU_nk, dU_nc, dU_e, nI_ltI, nI_eq, nI_clamp, nI_add, nI_mul, inb_nI, nI_neg1, nI_ne1, nI_n1e, nI_neg1e, Nat.not_lt_zero, Nat.lt_irrefl, true_and, and_true, true_implies, false_implies, not_true_eq_false, not_false_eq_true, implies_true, forall_const, if_true, if_false, Nat.reduceEqDiff, eq_self, Nat.one_ne_zero, Nat.zero_ne_one, Nat.zero_add, Nat.add_zero]
    refine ⟨i1, ?_⟩
    rw [i2, e2]
    refine s128r (n := sN D) (by omega) (pre1 (by omega)) ⟨_, rfl, s134 (code := 1) t1 (Or.inl rfl) (fun hi => ⟨_, rfl, fun q => absurd q (by decide +kernel), fun _ => ?_⟩) (fun hi => absurd iz hi)⟩
    rw [e14]
    refine s128r (n := n + 1) (by omega) (pre0 (by omega)) ⟨_, rfl, s134 (code := 2) t1 (Or.inr rfl) (fun hj => ⟨_, rfl, fun q => absurd q (by decide +kernel), fun _ => ?_⟩) (fun hj => absurd iN hj)⟩
    intro G19 e19 G20 e20 G21 e21 G22 e22 G23 e23
    have f23 : Fr (fun i c => i = 0 ∧ c = 70) (G1, g.2.1, g.2.2) (G23, g.2.1, g.2.2) := by
      rw [e23, e22, e21, e20, e19]
      exact Fr.u3 (Fr.u3 (Fr.u3 (Fr.u3 (Fr.u3 (Fr.rf _) ⟨rfl, rfl⟩) ⟨rfl, rfl⟩) ⟨rfl, rfl⟩) ⟨rfl, rfl⟩) ⟨rfl, rfl⟩
    have b23 : ∀ i c, ¬ (i = 0 ∧ c = 70) → G23 i c = G1 i c := f23.1
    have o23 : ∀ x, x ≠ 16 → x ≠ 14 → x ≠ 15 → x ≠ 17 → x ≠ 18 → G23 0 70 x = G1 0 70 x := fun x x1 x2 x3 x4 x5 => by rw [e23, u3_nk x5, e22, u3_nk x4, e21, u3_nk x3, e20, u3_nk x2, e19, u3_nk x1]
    have c16 : G23 0 70 16 = nI N := by rw [e23, u3_nk (by decide), e22, u3_nk (by decide), e21, u3_nk (by decide), e20, u3_nk (by decide), e19, u3_ek rfl]
    have c14 : G23 0 70 14 = nI 0 := by rw [e23, u3_nk (by decide), e22, u3_nk (by decide), e21, u3_nk (by decide), e20, u3_ek rfl]
    have c15 : G23 0 70 15 = -nI 1 := by rw [e23, u3_nk (by decide), e22, u3_nk (by decide), e21, u3_ek rfl]
    have c17 : G23 0 70 17 = nI 0 := by rw [e23, u3_nk (by decide), e22, u3_ek rfl]
    have c18 : G23 0 70 18 = nI 0 := by rw [e23, u3_ek rfl]
    have rin : RIN (G23, g.2.1, g.2.2) tx N (skp tx N 0) := ⟨⟨c16, by omega, fun t ht => by dsimp only; rw [b23 0 78 (by simp)]; exact h1.2.2.2.2.1.2 t (by omega)⟩, k4, c18, 0, c17, Nat.zero_le _, fun t _ ht => k3 t (Nat.zero_le _) ht⟩
    have m23 : MC (G23, g.2.1, g.2.2) w D := by
      have e71 := b23 0 71 (by simp)
      exact ⟨(o23 2 (by decide) (by decide) (by decide) (by decide) (by decide)).trans m1.1, m1.2.1, by dsimp only; rw [e71]; exact m1.m, m1.r, by dsimp only; rw [e71]; exact m1.v, m1.vk⟩
    refine hR sc (d + 12) w _ _ rin m23 (fun g24 f24 m24 p24 => ⟨rfl, ?_⟩)
    have b24 : ∀ i c, ¬ (i = 0 ∧ c = 70) → g24.1 i c = G23 i c := f24.1.1
    have a1 : ∀ i c, ¬ (i = 0 ∧ c = 70) → G1 i c = g.1 i c := f1.1.1
    have o24 : ∀ x, ¬ (x = 11 ∨ x = 12 ∨ 17 ≤ x ∧ x ≤ 22) → g24.1 0 70 x = G23 0 70 x := f24.2
    refine K g24 (f1.frf.tr ((FRF.of f23 (fun i c q => by omega)).tr (FRF.of f24.1 (fun i c q => by omega)))) (fun x hx => ?_) ?_ ((o24 14 (by decide)).trans c14) ((o24 15 (by decide)).trans c15) ((b24 0 71 (by simp)).trans ((b23 0 71 (by simp)).trans (a1 0 71 (by simp)))) ((b24 0 80 (by simp)).trans ((b23 0 80 (by simp)).trans (a1 0 80 (by simp)))) m24 p24
    · exact (o24 x (by omega)).trans ((o23 x (by omega) (by omega) (by omega) (by omega) (by omega)).trans (f1.2 x (by omega)))
    · exact (o24 0 (by decide)).trans ((o23 0 (by decide) (by decide) (by decide) (by decide) (by decide)).trans t1)
  -- ends
  have ce : ∀ {g g1 : Gs} {T : List Nat} {o k : Nat} {ea eb : Int32} {H : Nat → Nat → Nat → Int32}, CLS g D T n o k ea tx H → Fr (fun i c => i = 0 ∧ (c = 21 ∨ c = 45)) g g1 → g1.1 0 21 1 = nI 0 → g1.1 0 21 7 = eb → FCW g (u3 g1.1 0 20 1 (g1.1 0 21 7), g1.2) ∧ CLS (u3 g1.1 0 20 1 (g1.1 0 21 7), g1.2) D T 0 o k eb tx H := fun {g g1 T o k ea eb H} h f q1 q7 => by
    have f0 : Fr (fun i c => i = 0 ∧ (c = 20 ∨ c = 21 ∨ c = 45)) g g1 := f.wk fun i c q => ⟨q.1, by omega⟩
    have f2 : Fr (fun i c => i = 0 ∧ (c = 20 ∨ c = 21 ∨ c = 45)) g (u3 g1.1 0 20 1 (g1.1 0 21 7), g1.2) := Fr.tr f0 (Fr.u3 (Fr.rf g1) ⟨rfl, Or.inl rfl⟩)
    exact ⟨FCW.of f2 (fun i c q => by omega), h.fin f2 (fun i c q => by omega) (by dsimp only; rw [u3_ek rfl]; exact q7) (by dsimp only; rw [u3_nc (by decide)]; exact q1)⟩
  have re : ∀ {g g1 : Gs} {T : List Nat} {k w : Nat} {ea eb : Int32} {H : Nat → Nat → Nat → Int32}, REF g D T n k w ea tx H → (∀ x, (x = 2 ∨ x = 3 ∨ x = 27) → g1.1 0 70 x = g.1 0 70 x) → g1.1 0 70 14 = nI 0 → g1.1 0 71 = g.1 0 71 → g1.1 0 80 = g.1 0 80 → g1.1 0 70 19 = eb → REF (u3 g1.1 0 70 15 (g1.1 0 70 19), g1.2) D T 0 k w eb tx H := fun {g g1 T k w ea eb H} h e70 e14 e71 e80 e19 => by
    refine h.fin (fun x hx => ?_) ?_ ?_ ?_ ?_
    · dsimp only; rw [u3_nk (by omega)]; exact e70 x hx
    · dsimp only; rw [u3_nk (by decide)]; exact e14
    · dsimp only; rw [u3_ek rfl]; exact e19
    · dsimp only; rw [u3_rowc (by decide)]; exact e71
    · dsimp only; rw [u3_rowc (by decide)]; exact e80
  cases res with
  | inl co =>
    obtain ⟨c, off⟩ := co
    have hc0 : ¬ c = nI 0 := hV
    refine ⟨c, nI off, fun sc d g Φ T o k ea H h K => ?_, fun sc d g Φ T k w ea H h K => ?_⟩
    · refine cl sc d g Φ T o k ea H h (fun g1 f1 q1 p1 => ⟨fun _ => ?_, fun q => absurd rfl q⟩)
      obtain ⟨x6, x7⟩ : CE g1 c off := p1
      intro G14 e14
      subst e14
      rw [u3_nc (by decide), x6]
      obtain ⟨y1, y2⟩ := ce h f1 q1 x7
      exact K _ y1 y2
    · refine rl sc d g Φ T k w ea H h (fun g1 f1 e70 t1 e14 e15 e71 e80 m1 p1 => ⟨fun q => ?_, fun _ => ?_⟩)
      · have p2 : RER g1 tx N c off := p1
        exact absurd (p2.2.1.symm.trans q) hc0
      · have p2 : RER g1 tx N c off := p1
        intro G47 e47
        subst e47
        rw [u3_nk (by decide), p2.2.1]
        refine K _ (f1.tr (FRF.of (Fr.u3 (Fr.rf _) ⟨rfl, rfl⟩ : Fr (fun i c => i = 0 ∧ c = 70) g1 _) (fun i c q => by omega))) (re h e70 e14 e71 e80 p2.2.2.2.1) (by dsimp only; rw [u3_nk (by decide)]; exact t1)
  | inr sz =>
    obtain ⟨s, r, e⟩ := sz
    obtain ⟨v1, v2, v3⟩ : skp tx N 0 < s ∧ r < nR D ∧ hasD D r e = true := hV
    by_cases hs : s = N
    · refine ⟨nI 100 * D 6 r + e, -nI 1, fun sc d g Φ T o k ea H h K => ?_, fun sc d g Φ T k w ea H h K => ?_⟩
      · refine cl sc d g Φ T o k ea H h (fun g1 f1 q1 p1 => ⟨fun q => absurd q n10, fun _ => ?_⟩)
        obtain ⟨c1, x1, x2⟩ : CIN g1 tx N s ∧ g1.1 0 45 1 = nI r ∧ g1.1 0 45 2 = e := p1
        refine s30 c1 (fun _ => ⟨_, rfl, fun q => absurd q n10, fun _ => ?_⟩) (fun q => absurd hs q)
        intro G20 e20
        obtain ⟨y1, y2⟩ := ce h f1 q1 c1.2.2.2.2.2
        have z1 : G20 0 45 1 = nI r := by rw [e20, u3_nc (by decide)]; exact x1
        have z2 : G20 0 45 2 = e := by rw [e20, u3_nc (by decide)]; exact x2
        have z6 : G20 0 6 = D 6 := by rw [e20, u3_rowc (by decide), f1.1 0 6 (by simp)]; exact h.at 6 (by decide)
        rw [z1, z2, z6, nI_clamp (by omega)]
        rw [← e20] at y1 y2
        exact ⟨inb_nI (by omega) (by decide), K _ y1 y2⟩
      · refine rl sc d g Φ T k w ea H h (fun g1 f1 e70 t1 e14 e15 e71 e80 m1 p1 => ?_)
        obtain ⟨r1, x1, x2⟩ : RIN g1 tx N s ∧ g1.1 0 70 11 = nI r ∧ g1.1 0 70 12 = e := p1
        refine ⟨fun _ => ?_, fun q => absurd r1.2.2.1 q⟩
        refine s177A r1 (fun g2 r2 f2 e2 => ⟨_, rfl, ?_⟩)
        have e3 : seeV tx N s = -nI 1 := if_neg (by omega)
        rw [e3]
        refine ⟨fun _ => ⟨fun _ => ?_, fun q => absurd r2.2.2.1 q⟩, fun q => absurd rfl q⟩
        have w10 := m1.l
        have m2 := m1.fq f2
        have w2 := m2.w
        have z1 : g2.1 0 70 11 = nI r := (f2.2 11 (by decide)).trans x1
        have z2 : g2.1 0 70 12 = e := (f2.2 12 (by decide)).trans x2
        have z6 := m2.m.2.2.2.2 r v2 0 (by decide)
        have hK := K g2 (f1.tr (FRF.of f2.1 (fun i c q => by omega))) (h.fin (fun x hx => (f2.2 x (by omega)).trans (e70 x hx)) ((f2.2 14 (by decide)).trans e14) ((f2.2 15 (by decide)).trans e15) ((f2.1.1 0 71 (by simp)).trans e71) ((f2.1.1 0 80 (by simp)).trans e80)) ((f2.2 0 (by decide)).trans t1)
        rw [show D 6 r = g2.1 0 71 (780 * w + (369 + 10 * r + 0)) from z6.symm] at hK
        simp (disch := omega) only [u3_nc, u3_ek, u3_nk, upd_e, upd_n, dU_nk, dU_nc, dU_e, nI_ltI, nI_eq, nI_clamp, nI_add, nI_mul, inb_nI, nI_neg1, nI_ne1, nI_n1e, nI_neg1e, Nat.not_lt_zero, Nat.lt_irrefl, true_and, and_true, true_implies, false_implies, not_true_eq_false, not_false_eq_true, implies_true, forall_const, if_true, if_false, Nat.reduceEqDiff, eq_self, Nat.one_ne_zero, Nat.zero_ne_one, Nat.zero_add, Nat.add_zero, w2, z1, z2]
        exact hK
    · refine ⟨-nI 12, nI s, fun sc d g Φ T o k ea H h K => ?_, fun sc d g Φ T k w ea H h K => ?_⟩
      · refine cl sc d g Φ T o k ea H h (fun g1 f1 q1 p1 => ⟨fun q => absurd q n10, fun _ => ?_⟩)
        obtain ⟨c1, x1, x2⟩ : CIN g1 tx N s ∧ g1.1 0 45 1 = nI r ∧ g1.1 0 45 2 = e := p1
        refine s30 c1 (fun q => absurd q hs) (fun _ g2 f2 x => ⟨_, rfl, fun _ => ?_, fun q => absurd rfl q⟩)
        obtain ⟨x6, x7⟩ : CE g2 (-nI 12) s := x
        intro G19 e19
        subst e19
        rw [u3_nc (by decide), x6]
        obtain ⟨y1, y2⟩ := ce h (Fr.tr f1 (f2.1.wk fun i c q => ⟨q.1, Or.inl q.2⟩)) (f2.2.1.trans q1) x7
        exact K _ y1 y2
      · refine rl sc d g Φ T k w ea H h (fun g1 f1 e70 t1 e14 e15 e71 e80 m1 p1 => ?_)
        obtain ⟨r1, x1, x2⟩ : RIN g1 tx N s ∧ g1.1 0 70 11 = nI r ∧ g1.1 0 70 12 = e := p1
        refine ⟨fun _ => ?_, fun q => absurd r1.2.2.1 q⟩
        refine s177A r1 (fun g2 r2 f2 e2 => ⟨_, rfl, ?_⟩)
        have hsN := r2.2.1.1
        have e3 : ¬ seeV tx N s = -nI 1 := by
          unfold seeV
          rw [if_pos (by omega)]
          exact nI_ne1 (by have := (r2.1.2.2 s (by omega)).1; omega)
        refine ⟨fun q => absurd q e3, fun _ => ⟨fun _ => ?_, fun q => absurd r2.2.2.1 q⟩⟩
        intro G37 e37 G38 e38
        have c18 : G38 0 70 18 = -nI 12 := by rw [e38, u3_nk (by decide), e37, u3_ek rfl]
        have c19 : G38 0 70 19 = nI s := by rw [e38, u3_ek rfl]; exact e2
        have o38 : ∀ x, x ≠ 18 → x ≠ 19 → G38 0 70 x = g2.1 0 70 x := fun x y1 y2 => by rw [e38, u3_nk y2, e37, u3_nk y1]
        have f38 : Fr (fun i c => i = 0 ∧ c = 70) g2 (G38, g2.2) := by rw [e38, e37]; exact Fr.u3 (Fr.u3 (Fr.rf _) ⟨rfl, rfl⟩) ⟨rfl, rfl⟩
        have b38 : ∀ i c, ¬ (i = 0 ∧ c = 70) → G38 i c = g2.1 i c := f38.1
        rw [c18]
        refine ⟨fun q => absurd q (by decide +kernel), fun _ => ?_⟩
        intro G42 e42
        have c18' : G42 0 70 18 = -nI 12 := by rw [e42, u3_nk (by decide)]; exact c18
        rw [c18', e42]
        have hr := re (g1 := (G38, g2.2)) (eb := nI s) h (fun x hx => (o38 x (by omega) (by omega)).trans ((f2.2 x (by omega)).trans (e70 x hx))) ((o38 14 (by decide) (by decide)).trans ((f2.2 14 (by decide)).trans e14)) ((b38 0 71 (by simp)).trans ((f2.1.1 0 71 (by simp)).trans e71)) ((b38 0 80 (by simp)).trans ((f2.1.1 0 80 (by simp)).trans e80)) c19
        refine K _ (f1.tr ((FRF.of f2.1 (fun i c q => by omega)).tr (FRF.of (Fr.u3 f38 ⟨rfl, rfl⟩ : Fr (fun i c => i = 0 ∧ c = 70) g2 _) (fun i c q => by omega)))) hr (by dsimp only; rw [u3_nk (by decide)]; exact (o38 0 (by decide) (by decide)).trans ((f2.2 0 (by decide)).trans t1))
