/-! PATHS are read alike: by the class's walker and by the reference -/
abbrev PRes : Type := (Int32 × Nat) ⊕ (Nat × Nat × Int32)
def pb : PRes → Int32
  | .inl _ => nI 0
  | .inr _ => nI 1
def PCo (tx : Nat → Nat) (N i : Nat) (r : PRes) (g : Gs) : Prop := match r with
  | .inl (c, o) => CE g c o
  | .inr (s, z, e) => CIN g tx N s ∧ g.1 i 45 1 = nI z ∧ g.1 i 45 2 = e
def PRo (tx : Nat → Nat) (N : Nat) (r : PRes) (g : Gs) : Prop := match r with
  | .inl (c, o) => RER g tx N c o
  | .inr (s, z, e) => RIN g tx N s ∧ g.1 0 70 11 = nI z ∧ g.1 0 70 12 = e
def PV (D : Nat → Nat → Int32) (s : Nat) (r : PRes) : Prop := match r with
  | .inl (c, _) => ¬ c = nI 0
  | .inr (s2, z, e) => s < s2 ∧ z < nR D ∧ hasD D z e = true
/-- the class's frame of a path -/
def FW (i : Nat) (g g' : Gs) : Prop := Fr (fun i' c => (i' = 0 ∧ c = 21) ∨ (i' = i ∧ c = 45)) g g' ∧ g'.1 0 21 1 = g.1 0 21 1 ∧ g'.1 0 21 5 = g.1 0 21 5
theorem FW.rf (i : Nat) (g : Gs) : FW i g g := ⟨Fr.rf g, rfl, rfl⟩
theorem FW.tr {i : Nat} {a b c : Gs} (h1 : FW i a b) (h2 : FW i b c) : FW i a c := ⟨h1.1.tr h2.1, h2.2.1.trans h1.2.1, h2.2.2.trans h1.2.2⟩
theorem FW.c {i : Nat} {a b : Gs} (h : FC a b) : FW i a b := ⟨h.1.wk (fun _ _ q => Or.inl q), h.2.1, h.2.2⟩
theorem FW.w {i : Nat} {a b : Gs} (h : Fr (P45 i) a b) : FW i a b := ⟨h.wk (fun _ _ q => Or.inr q), by rw [h.1 0 21 (by simp)], by rw [h.1 0 21 (by simp)]⟩
theorem CIN.w {g g' : Gs} {tx : Nat → Nat} {N s i : Nat} (h : CIN g tx N s) (f : Fr (P45 i) g g') : CIN g' tx N s := by
  obtain ⟨⟨b1, b2, b3⟩, t, e3, e2, e4⟩ := h
  have e21 := f.1 0 21 (by simp)
  have e22 := f.1 0 22 (by simp)
  exact ⟨⟨by rw [e21]; exact b1, b2, fun t ht => by rw [e22]; exact b3 t ht⟩, t, by rw [e21]; exact e3, by rw [e21]; exact e2, by rw [e21]; exact e4⟩
theorem At.fw {g g' : Gs} {i j : Nat} {D : Nat → Nat → Int32} (h : At g i D) (f : FW j g g') : At g' i D := h.fr f.1 (by omega)
/-- the reference's frame of a path -/
def FH (g g' : Gs) : Prop := Fr (fun i c => i = 0 ∧ c = 70) g g' ∧ ∀ k, ¬ (k = 11 ∨ k = 12 ∨ 17 ≤ k ∧ k ≤ 22) → g'.1 0 70 k = g.1 0 70 k
theorem FH.rf (g : Gs) : FH g g := ⟨Fr.rf g, fun _ _ => rfl⟩
theorem FH.tr {a b c : Gs} (h1 : FH a b) (h2 : FH b c) : FH a c := ⟨h1.1.tr h2.1, fun k p => (h2.2 k p).trans (h1.2 k p)⟩
theorem FH.q {a b : Gs} (h : FQ a b) : FH a b := ⟨h.1, fun k p => h.2 k (by omega)⟩
theorem FH.d {a b : Gs} (h : FD a b) : FH a b := ⟨h.1, fun k p => h.2 k (by omega) (by omega)⟩
theorem RIN.fd {g g' : Gs} {tx : Nat → Nat} {N s : Nat} (h : RIN g tx N s) (f : FD g g') : RIN g' tx N s := by
  obtain ⟨⟨b1, b2, b3⟩, t, e, n, n1, n2⟩ := h
  have e78 := f.1.1 0 78 (by simp)
  exact ⟨⟨by rw [f.2 16 (by decide) (by decide)]; exact b1, b2, fun t ht => by rw [e78]; exact b3 t ht⟩, t, by rw [f.2 18 (by decide) (by decide)]; exact e, n, by rw [f.2 17 (by decide) (by decide)]; exact n1, n2⟩
section PA
variable {tx : Nat → Nat} {N s M : Nat} {D : Nat → Nat → Int32}
/-- what is named in a place -/
def dnm (D : Nat → Nat → Int32) (v : Nat) (o : Int32) (c : Nat) : Option Nat := (fst9 (nS D v - 1) fun e => decide (D 5 (v * 12 + (e + 1)) = o ∧ D 4 (v * 12 + (e + 1)) = nI c)).map (· + 1)
theorem dnm_K {v c e : Nat} {o : Int32} (h : dnm D v o c = some e) : e < nS D v ∧ D 5 (v * 12 + e) = o := by
  unfold dnm at h
  cases hf : fst9 (nS D v - 1) (fun e => decide (D 5 (v * 12 + (e + 1)) = o ∧ D 4 (v * 12 + (e + 1)) = nI c)) with
  | none => rw [hf] at h; cases h
  | some j =>
    rw [hf] at h
    cases h
    obtain ⟨h1, h2, -⟩ := fst9_some hf
    exact ⟨by show j + 1 < nS D v; omega, (of_decide_eq_true h2).1⟩
/-- one name of a path -/
theorem stX (hw : CW D M) (rk : RNK D) (P : PIN D) {z : Nat} {dd : Int32} (hz : z < nR D) (hdd : hasD D z dd = true) (hT : TOK tx N s) : ∃ res : PRes, PV D s res ∧
    (∀ (sc : SC) (d i : Nat) (g : Gs) (Φ : RS → Gs → Prop), fm i = i → CIN g tx N s → At g i D → g.1 i 45 1 = nI z → g.1 i 45 2 = dd → (∀ g', FW i g g' → PCo tx N i res g' → Φ (.inl (some (vI (pb res)))) g') → Rn sc (d + 4) 92 [vR i 45, vR 0 21] g Φ) ∧
    (∀ (sc : SC) (d w : Nat) (g : Gs) (Φ : RS → Gs → Prop), RIN g tx N s → MC g w D → g.1 0 70 11 = nI z → g.1 0 70 12 = dd → (∀ g', FH g g' → MC g' w D → PRo tx N res g' → Φ (.inl none) g') → Rn sc (d + 6) 190 [vR 0 70] g Φ) := by
  have n40 := hw.1.2
  have hz40 : z < 40 := by omega
  obtain ⟨k1, k2, k3, k4, k5, k6, k7, k8⟩ := volK hw hz
  obtain ⟨e, he, rfl⟩ := hasD_nat hw hz hdd
  cases hN : isN tx N s with
  | false =>
    refine ⟨.inl (-nI 12, s), (show ¬ (-nI 12 : Int32) = nI 0 by decide +kernel), fun sc d i g Φ hi hc hA c1 c2 k => ?_, fun sc d w g Φ hr hm c1 c2 k => ?_⟩
    · obtain ⟨x1, x2⟩ := hc.er (code := -nI 12)
      have e3 := hc.2.2.1
      refine Rn.of rfl (v92_0 ?_)
      refine s34 hc ⟨_, rfl, ⟨fun _ => ?_, fun q => absurd ((nmc_0 hT).mpr hN) q⟩⟩
      intro G2 h2 G3 h3
      subst h2; subst h3
      rw [u3_nk (by decide), e3]
      exact k _ (FW.c x2) x1
    · refine Rn.of rfl (v190_0 ?_)
      refine s181 hr (fun q => by rw [hN] at q; cases q) (fun _ g' f' r' => ⟨_, rfl, ⟨fun _ => ?_, fun q => absurd rfl q⟩⟩)
      exact k g' (FH.q f') (hm.fq f') r'
  | true =>
    have hc0 : ¬ nI (nmc tx N s) = nI 0 := fun q => by rw [(nmc_0 hT).mp q] at hN; cases hN
    cases hd : dnm D (vol D z) (nI e) (nmc tx N s) with
    | none =>
      refine ⟨.inl (-nI 13, s), (show ¬ (-nI 13 : Int32) = nI 0 by decide +kernel), fun sc d i g Φ hi hc hA c1 c2 k => ?_, fun sc d w g Φ hr hm c1 c2 k => ?_⟩
      · obtain ⟨x1, x2⟩ := hc.er (code := -nI 13)
        have e3 := hc.2.2.1
        have e8 : g.1 i 8 z = nI (vol D z) := by rw [hA 8 (by decide)]; exact k3
        have e33 : g.1 i 3 (vol D z) = nI (nS D (vol D z)) := by rw [hA 3 (by decide)]; exact k4
        refine Rn.of rfl (v92_0 ?_)
        refine s34 hc ⟨_, rfl, ⟨fun q => absurd q hc0, fun _ => ?_⟩⟩
        rw [hi, c1, c2]
        simp (disch := omega) only [u3_nc, u3_ek, u3_nk, upd_e, upd_n, dU_nk, dU_nc, dU_e, nI_ltI, nI_eq, nI_clamp, nI_add, nI_mul, inb_nI, nI_neg1, nI_ne1, nI_n1e, nI_neg1e, Nat.not_lt_zero, Nat.lt_irrefl, true_and, and_true, true_implies, false_implies, not_true_eq_false, not_false_eq_true, implies_true, forall_const, forall_eq, if_true, if_false, Nat.reduceEqDiff, eq_self, Nat.one_ne_zero, Nat.zero_ne_one, Nat.zero_add, Nat.add_zero, hz40, e8]
        refine s86 k2 e33 k5 k6 ⟨_, rfl, ?_⟩
        rw [hA 5 (by decide), hA 4 (by decide)]
        rw [show (fst9 (nS D (vol D z) - 1) fun e_1 => decide (D 5 (vol D z * 12 + (e_1 + 1)) = nI e ∧ D 4 (vol D z * 12 + (e_1 + 1)) = nI (nmc tx N s))).map (· + 1) = none from hd]
        refine ⟨fun _ => ?_, fun q => absurd eo_none q⟩
        rw [e3]
        exact k _ (FW.c x2) x1
      · refine Rn.of rfl (v190_0 ?_)
        refine s181 hr (fun _ s1 f1 r1 nm => ⟨_, rfl, ⟨fun q => absurd q (by decide +kernel), fun _ => ?_⟩⟩) (fun q => by rw [hN] at q; cases q)
        have m1 := hm.fq f1
        have c1' : s1.1 0 70 11 = nI z := by rw [f1.2 11 (by decide)]; exact c1
        have c2' : s1.1 0 70 12 = nI e := by rw [f1.2 12 (by decide)]; exact c2
        have ws := m1.w
        have w10 := m1.l
        have q2 := m1.m.f2 z hz
        rw [k3] at q2
        rw [c1', c2']
        simp (disch := omega) only [u3_nc, u3_ek, u3_nk, upd_e, upd_n, dU_nk, dU_nc, dU_e, nI_ltI, nI_eq, nI_clamp, nI_add, nI_mul, inb_nI, nI_neg1, nI_ne1, nI_n1e, nI_neg1e, Nat.not_lt_zero, Nat.lt_irrefl, true_and, and_true, true_implies, false_implies, not_true_eq_false, not_false_eq_true, implies_true, forall_const, forall_eq, if_true, if_false, Nat.reduceEqDiff, eq_self, Nat.one_ne_zero, Nat.zero_ne_one, Nat.zero_add, Nat.add_zero, ws, q2]
        refine s185 r1.1 hT nm ws m1.l m1.v m1.vk k1 ⟨_, rfl, ?_⟩
        rw [show (fst9 (nS D (vol D z) - 1) fun e_1 => decide (D 5 (vol D z * 12 + (e_1 + 1)) = nI e ∧ D 4 (vol D z * 12 + (e_1 + 1)) = nI (nmc tx N s))).map (· + 1) = none from hd]
        rw [r1.2.2.1, nm.2.1]
        refine ⟨fun _ => ⟨fun _ => ?_, fun q => absurd rfl q⟩, fun q => absurd rfl q⟩
        have fe : FQ s1 (u3 (u3 s1.1 0 70 18 (-nI 13)) 0 70 19 (nI s), s1.2) := (FQ.p (k := 18) (v := -nI 13) (by decide)).tr (FQ.p (k := 19) (v := nI s) (by decide))
        refine k _ (FH.q (f1.tr fe)) (m1.fq fe) ?_
        obtain ⟨n, h1, h2, h3⟩ := r1.sk
        exact ⟨r1.1.fq fe, by dsimp only; rw [u3_nk (by decide), u3_ek rfl], by decide +kernel, by dsimp only; rw [u3_ek rfl], n, by dsimp only; rw [u3_nk (by decide), u3_nk (by decide)]; exact h1, h2⟩
    | some b =>
      obtain ⟨b1, b2⟩ := dnm_K hd
      have q1 : (12 * z + e) / 12 = z := by omega
      have q2 : (12 * z + e) % 12 = e := by omega
      have q3 : (12 * z + b) % 12 = b := by omega
      have hzz : VZ D (12 * z + e) := by unfold VZ; rw [q1, q2]; exact ⟨hz, hdd⟩
      have hin : 12 * z + b ∈ inn D (12 * z + e) := inn_mem.mpr ⟨b, by rw [q1]; exact b1, by rw [q1, q2]; exact b2, by rw [q1]⟩
      obtain ⟨-, -, -, hb, -, -⟩ := inn_K hw P hzz hin
      rw [q1, q3] at hb
      obtain ⟨p1, p2⟩ := dn_has P 40 z (nI b) hz hb
      obtain ⟨hs, -, -, -, -, -⟩ := isN_K hN hT
      obtain ⟨t1, t2, t3⟩ := nxt9_K (tx := tx) hT.1
      refine ⟨.inr (nxt9 tx N s, (dnD D z (nI b)).1, (dnD D z (nI b)).2), ⟨t3 hs, p1, p2⟩, fun sc d i g Φ hi hc hA c1 c2 k => ?_, fun sc d w g Φ hr hm c1 c2 k => ?_⟩
      · have e8 : g.1 i 8 z = nI (vol D z) := by rw [hA 8 (by decide)]; exact k3
        have e33 : g.1 i 3 (vol D z) = nI (nS D (vol D z)) := by rw [hA 3 (by decide)]; exact k4
        refine Rn.of rfl (v92_0 ?_)
        refine s34 hc ⟨_, rfl, ⟨fun q => absurd q hc0, fun _ => ?_⟩⟩
        rw [hi, c1, c2]
        simp (disch := omega) only [u3_nc, u3_ek, u3_nk, upd_e, upd_n, dU_nk, dU_nc, dU_e, nI_ltI, nI_eq, nI_clamp, nI_add, nI_mul, inb_nI, nI_neg1, nI_ne1, nI_n1e, nI_neg1e, Nat.not_lt_zero, Nat.lt_irrefl, true_and, and_true, true_implies, false_implies, not_true_eq_false, not_false_eq_true, implies_true, forall_const, forall_eq, if_true, if_false, Nat.reduceEqDiff, eq_self, Nat.one_ne_zero, Nat.zero_ne_one, Nat.zero_add, Nat.add_zero, hz40, e8]
        refine s86 k2 e33 k5 k6 ⟨_, rfl, ?_⟩
        rw [hA 5 (by decide), hA 4 (by decide)]
        rw [show (fst9 (nS D (vol D z) - 1) fun e_1 => decide (D 5 (vol D z * 12 + (e_1 + 1)) = nI e ∧ D 4 (vol D z * 12 + (e_1 + 1)) = nI (nmc tx N s))).map (· + 1) = some b from hd]
        refine ⟨fun q => absurd q (nI_nn (show b < 2 ^ 31 by omega)), fun _ => ?_⟩
        rw [c1]
        refine s89 hi hA hw.1 hz (fun s1 f1 w1 w2 => ⟨rfl, ?_⟩)
        refine s27A (hc.w f1) (fun s2 f2 hc2 => ⟨rfl, ?_⟩)
        refine k s2 ((FW.w f1).tr (FW.c f2)) ⟨hc2, ?_, ?_⟩
        · rw [f2.1.1 i 45 (by simp)]; exact w1
        · rw [f2.1.1 i 45 (by simp)]; exact w2
      · refine Rn.of rfl (v190_0 ?_)
        refine s181 hr (fun _ s1 f1 r1 nm => ⟨_, rfl, ⟨fun q => absurd q (by decide +kernel), fun _ => ?_⟩⟩) (fun q => by rw [hN] at q; cases q)
        have m1 := hm.fq f1
        have c1' : s1.1 0 70 11 = nI z := by rw [f1.2 11 (by decide)]; exact c1
        have c2' : s1.1 0 70 12 = nI e := by rw [f1.2 12 (by decide)]; exact c2
        have ws := m1.w
        have w10 := m1.l
        have q2 := m1.m.f2 z hz
        rw [k3] at q2
        rw [c1', c2']
        simp (disch := omega) only [u3_nc, u3_ek, u3_nk, upd_e, upd_n, dU_nk, dU_nc, dU_e, nI_ltI, nI_eq, nI_clamp, nI_add, nI_mul, inb_nI, nI_neg1, nI_ne1, nI_n1e, nI_neg1e, Nat.not_lt_zero, Nat.lt_irrefl, true_and, and_true, true_implies, false_implies, not_true_eq_false, not_false_eq_true, implies_true, forall_const, forall_eq, if_true, if_false, Nat.reduceEqDiff, eq_self, Nat.one_ne_zero, Nat.zero_ne_one, Nat.zero_add, Nat.add_zero, ws, q2]
        refine s185 r1.1 hT nm ws m1.l m1.v m1.vk k1 ⟨_, rfl, ?_⟩
        rw [show (fst9 (nS D (vol D z) - 1) fun e_1 => decide (D 5 (vol D z * 12 + (e_1 + 1)) = nI e ∧ D 4 (vol D z * 12 + (e_1 + 1)) = nI (nmc tx N s))).map (· + 1) = some b from hd]
        refine ⟨fun q => absurd q (nI_ne1 (show b < 2 ^ 31 by omega)), fun _ => ?_⟩
        rw [show eo (some b) = nI b from rfl]
        have fb : FD s1 (u3 s1.1 0 70 12 (nI b), s1.2) := FD.p (Or.inr rfl)
        refine s173 (r := z) (dd := nI b) (MC.c70 (c := 70) (k := 12) (v := nI b) m1 (by decide) (fun _ => by decide)) rk hz ?_ ?_ (fun s2 m2 f2 w1 w2 => ⟨rfl, ?_⟩)
        · dsimp only; rw [u3_nk (by decide)]; exact c1'
        · dsimp only; rw [u3_ek rfl]
        · exact k s2 (FH.tr (FH.q f1) (FH.d (fb.tr f2))) m2 ⟨r1.fd (fb.tr f2), w1, w2⟩
/-- the rest of a path, a name on -/
theorem stL (hw : CW D M) (rk : RNK D) (P : PIN D) (h6 : N ≤ 600) : ∀ f z dd s n, N - s < f → n < s → z < nR D → hasD D z dd = true → TOK tx N s → ∃ res : PRes, PV D s res ∧
    (∀ (sc : SC) (d i : Nat) (g : Gs) (Φ : RS → Gs → Prop) (x2 : Int32), fm i = i → CIN g tx N s → At g i D → g.1 i 45 1 = nI z → g.1 i 45 2 = dd → (∀ g', FW i g g' → PCo tx N i res g' → Φ (.inl (some (vI (pb res)))) g') → Xe sc (d + 4) 91 29 [vR i 45, vR 0 21, vI x2, vI (nI n)] [] g Φ) ∧
    (∀ (sc : SC) (d w : Nat) (g : Gs) (Φ : RS → Gs → Prop) (x1 : Int32), RIN g tx N s → MC g w D → g.1 0 70 11 = nI z → g.1 0 70 12 = dd → (∀ g', FH g g' → MC g' w D → PRo tx N res g' → Φ (.inl none) g') → Rn sc (d + 6) 190 [vR 0 70] g (fun r g1 => r = .inl none ∧ Xe sc (d + 6) 191 34 [vR 0 70, vI x1] [] g1 Φ)) := by
  intro f
  induction f with
  | zero => intro z dd s n hf; omega
  | succ f ih =>
    intro z dd s n hf hn hz hdd hT
    obtain ⟨res, pv, hC, hR⟩ := stX hw rk P hz hdd hT
    have hsN := hT.1
    have n600 : n < 600 := by omega
    cases res with
    | inl ce =>
      refine ⟨.inl ce, pv, fun sc d i g Φ x2 hi hc hA c1 c2 k => ?_, fun sc d w g Φ x1 hr hm c1 c2 k => ?_⟩
      · refine v91_29 ?_
        simp (disch := omega) only [u3_nc, u3_ek, u3_nk, upd_e, upd_n, dU_nk, dU_nc, dU_e, nI_ltI, nI_eq, nI_clamp, nI_add, nI_mul, inb_nI, nI_neg1, nI_ne1, nI_n1e, nI_neg1e, Nat.not_lt_zero, Nat.lt_irrefl, true_and, and_true, true_implies, false_implies, not_true_eq_false, not_false_eq_true, implies_true, forall_const, forall_eq, if_true, if_false, Nat.reduceEqDiff, eq_self, Nat.one_ne_zero, Nat.zero_ne_one, Nat.zero_add, Nat.add_zero, n600]
        exact hC sc d i g _ hi hc hA c1 c2 (fun g' f' p' => ⟨_, rfl, ⟨fun _ => k g' f' p', fun q => absurd rfl q⟩⟩)
      · refine hR sc d w g _ hr hm c1 c2 (fun g' f' m' p' => ⟨rfl, ?_⟩)
        exact v191_34 ⟨fun q => absurd (p'.2.1.symm.trans q) p'.2.2.1, fun _ => k g' f' m' p'⟩
    | inr q =>
      obtain ⟨s2, z2, e2⟩ := q
      obtain ⟨pv1, pv2, pv3⟩ := pv
      by_cases hT2 : TOK tx N s2
      · by_cases hsl : s2 < N ∧ tx s2 = 47
        · obtain ⟨t1, t2, t3⟩ := nxt9_K (tx := tx) hT2.1
          have t4 := t3 hsl.1
          obtain ⟨res3, pv3', hC3, hR3⟩ := ih z2 e2 (nxt9 tx N s2) (n + 1) (by omega) (by omega) pv2 pv3 t1
          refine ⟨res3, ?_, fun sc d i g Φ x2 hi hc hA c1 c2 k => ?_, fun sc d w g Φ x1 hr hm c1 c2 k => ?_⟩
          · cases res3 with
            | inl ce => exact pv3'
            | inr q3 => exact ⟨by have := pv3'.1; omega, pv3'.2⟩
          · refine v91_29 ?_
            simp (disch := omega) only [u3_nc, u3_ek, u3_nk, upd_e, upd_n, dU_nk, dU_nc, dU_e, nI_ltI, nI_eq, nI_clamp, nI_add, nI_mul, inb_nI, nI_neg1, nI_ne1, nI_n1e, nI_neg1e, Nat.not_lt_zero, Nat.lt_irrefl, true_and, and_true, true_implies, false_implies, not_true_eq_false, not_false_eq_true, implies_true, forall_const, forall_eq, if_true, if_false, Nat.reduceEqDiff, eq_self, Nat.one_ne_zero, Nat.zero_ne_one, Nat.zero_add, Nat.add_zero, n600]
            refine hC sc d i g _ hi hc hA c1 c2 (fun g1 f1 p1 => ⟨_, rfl, ⟨fun q => absurd q (show ¬ nI 1 = nI 0 by decide +kernel), fun _ => ?_⟩⟩)
            obtain ⟨p1, p2, p3⟩ := p1
            have ks := knd_sign p1.1 p1.2.1 (b := 47) (by decide) (by decide)
            rw [p1.2.2.2.1, ks]
            refine ⟨fun _ => ?_, fun q => absurd hsl q⟩
            refine s27A p1 (fun g2 f2 p4 => ⟨rfl, ?_⟩)
            refine hC3 sc d i g2 Φ x2 hi p4 ((hA.fw f1).fw (FW.c (i := i) f2)) ?_ ?_ (fun g3 f3 p5 => k g3 (f1.tr ((FW.c f2).tr f3)) p5)
            · rw [f2.1.1 i 45 (by simp)]; exact p2
            · rw [f2.1.1 i 45 (by simp)]; exact p3
          · refine hR sc d w g _ hr hm c1 c2 (fun g1 f1 m1 p1 => ⟨rfl, ?_⟩)
            obtain ⟨p1, p2, p3⟩ := p1
            refine v191_34 ⟨fun _ => ?_, fun q => absurd p1.2.2.1 q⟩
            refine s177A p1 (fun g2 r2 f2 e17 => ⟨_, rfl, ?_⟩)
            rw [see_lt p1.1 (b := 47) (by decide), e17]
            refine ⟨fun _ => ?_, fun q => absurd hsl q⟩
            intro G5 e5
            subst e5
            rw [nI_add]
            obtain ⟨a, b⟩ := r2.next (show s2 + 1 = nxp tx N s2 by unfold nxp; rw [if_pos hsl.1, hsl.2, if_neg (by decide)])
            have m2 := (m1.fq f2).fq b
            refine hR3 sc d w _ Φ x1 a m2 ?_ ?_ (fun g3 f3 m3 p5 => k g3 (f1.tr ((FH.q (f2.tr b)).tr f3)) m3 p5)
            · rw [(f2.tr b).2 11 (by decide)]; exact p2
            · rw [(f2.tr b).2 12 (by decide)]; exact p3
        · refine ⟨.inr (s2, z2, e2), ⟨pv1, pv2, pv3⟩, fun sc d i g Φ x2 hi hc hA c1 c2 k => ?_, fun sc d w g Φ x1 hr hm c1 c2 k => ?_⟩
          · refine v91_29 ?_
            simp (disch := omega) only [u3_nc, u3_ek, u3_nk, upd_e, upd_n, dU_nk, dU_nc, dU_e, nI_ltI, nI_eq, nI_clamp, nI_add, nI_mul, inb_nI, nI_neg1, nI_ne1, nI_n1e, nI_neg1e, Nat.not_lt_zero, Nat.lt_irrefl, true_and, and_true, true_implies, false_implies, not_true_eq_false, not_false_eq_true, implies_true, forall_const, forall_eq, if_true, if_false, Nat.reduceEqDiff, eq_self, Nat.one_ne_zero, Nat.zero_ne_one, Nat.zero_add, Nat.add_zero, n600]
            refine hC sc d i g _ hi hc hA c1 c2 (fun g1 f1 p1 => ⟨_, rfl, ⟨fun q => absurd q (show ¬ nI 1 = nI 0 by decide +kernel), fun _ => ?_⟩⟩)
            have ks := knd_sign p1.1.1 p1.1.2.1 (b := 47) (by decide) (by decide)
            rw [p1.1.2.2.2.1, ks]
            exact ⟨fun q => absurd q hsl, fun _ => k g1 f1 p1⟩
          · refine hR sc d w g _ hr hm c1 c2 (fun g1 f1 m1 p1 => ⟨rfl, ?_⟩)
            obtain ⟨p1, p2, p3⟩ := p1
            refine v191_34 ⟨fun _ => ?_, fun q => absurd p1.2.2.1 q⟩
            refine s177A p1 (fun g2 r2 f2 e17 => ⟨_, rfl, ?_⟩)
            rw [see_lt p1.1 (b := 47) (by decide)]
            refine ⟨fun q => absurd q hsl, fun _ => ?_⟩
            refine k g2 (f1.tr (FH.q f2)) (m1.fq f2) ⟨r2, ?_, ?_⟩
            · rw [f2.2 11 (by decide)]; exact p2
            · rw [f2.2 12 (by decide)]; exact p3
      · refine ⟨.inr (s2, z2, e2), ⟨pv1, pv2, pv3⟩, fun sc d i g Φ x2 hi hc hA c1 c2 k => ?_, fun sc d w g Φ x1 hr hm c1 c2 k => ?_⟩
        · refine v91_29 ?_
          simp (disch := omega) only [u3_nc, u3_ek, u3_nk, upd_e, upd_n, dU_nk, dU_nc, dU_e, nI_ltI, nI_eq, nI_clamp, nI_add, nI_mul, inb_nI, nI_neg1, nI_ne1, nI_n1e, nI_neg1e, Nat.not_lt_zero, Nat.lt_irrefl, true_and, and_true, true_implies, false_implies, not_true_eq_false, not_false_eq_true, implies_true, forall_const, forall_eq, if_true, if_false, Nat.reduceEqDiff, eq_self, Nat.one_ne_zero, Nat.zero_ne_one, Nat.zero_add, Nat.add_zero, n600]
          exact hC sc d i g _ hi hc hA c1 c2 (fun g1 f1 p1 => absurd p1.1.2.1 hT2)
        · exact hR sc d w g _ hr hm c1 c2 (fun g1 f1 m1 p1 => absurd p1.1.2.1 hT2)
/-- a path -/
theorem path9 (hw : CW D M) (rk : RNK D) (P : PIN D) (ok : OKP D) (h6 : N ≤ 600) {sp : Int32} {a : Nat} (hr0 : ROT D sp a) (hT : TOK tx N s) : ∃ res : PRes, PV D s res ∧
    (∀ (sc : SC) (d i : Nat) (g : Gs) (Φ : RS → Gs → Prop), fm i = i → CIN g tx N s → At g i D → (∀ g', FW i g g' → PCo tx N i res g' → Φ (.inl (some (vI (pb res)))) g') → Rn sc (d + 5) 91 [vR i 45, vR 0 21, vI sp] g Φ) ∧
    (∀ (sc : SC) (d w : Nat) (g : Gs) (Φ : RS → Gs → Prop), RIN g tx N s → MC g w D → (∀ g', FH g g' → MC g' w D → PRo tx N res g' → Φ (.inl none) g') → Rn sc (d + 7) 191 [vR 0 70, vI sp] g Φ) := by
  by_cases hsl : s < N ∧ tx s = 47
  · obtain ⟨t1, t2, t3⟩ := nxt9_K (tx := tx) hT.1
    have t4 := t3 hsl.1
    obtain ⟨p1, p2⟩ := dn_has P 40 a (D 9 a) hr0.1 (P a hr0.1).1
    obtain ⟨s1, hs1⟩ : ∃ s1, s1 = nxt9 tx N s := ⟨_, rfl⟩
    rw [← hs1] at t1 t2 t4
    -- the class: a slash, then the root
    have hC : ∀ (res : PRes) (sc : SC) (d i : Nat) (g : Gs) (Φ : RS → Gs → Prop), fm i = i → CIN g tx N s → At g i D → (∀ g', FW i g g' → CIN g' tx N s1 → g'.1 i 45 1 = nI (dnD D a (D 9 a)).1 → g'.1 i 45 2 = (dnD D a (D 9 a)).2 → (s1 < N ∧ isL (tx s1) = true → Xe sc (d + 4) 91 29 [vR i 45, vR 0 21, vI sp, vI (nI 0)] [] g' Φ) ∧ (¬ (s1 < N ∧ isL (tx s1) = true) → Φ (.inl (some (vI (nI 1)))) g')) → Rn sc (d + 5) 91 [vR i 45, vR 0 21, vI sp] g Φ := fun res sc d i g Φ hi hc hA k => by
      refine Rn.of rfl (v91_0 ?_)
      refine s31 hc (b := 47) (by decide) (by decide) (fun _ g1 f1 h1 => ⟨_, rfl, ⟨fun q => absurd q (by decide +kernel), fun _ => ?_⟩⟩) (fun q => absurd hsl q)
      rw [← hs1] at h1
      refine s90 hi (hA.fw (FW.c (i := i) f1)) hw ok hr0 (fun g2 f2 w1 w2 => ⟨rfl, ?_⟩)
      have h2 := h1.w f2
      have kw := knd_word h2.1 h2.2.1
      rw [h2.2.2.2.1, kw]
      exact k g2 ((FW.c f1).tr (FW.w f2)) h2 w1 w2
    have hR : ∀ (sc : SC) (d w : Nat) (g : Gs) (Φ : RS → Gs → Prop), RIN g tx N s → MC g w D → (∀ g', FH g g' → MC g' w D → RIN g' tx N s1 → g'.1 0 70 11 = nI (dnD D a (D 9 a)).1 → g'.1 0 70 12 = (dnD D a (D 9 a)).2 → (s1 < N ∧ isL (tx s1) = true → Rn sc (d + 6) 190 [vR 0 70] g' (fun r g1 => r = .inl none ∧ Xe sc (d + 6) 191 34 [vR 0 70, vI sp] [] g1 Φ)) ∧ (¬ (s1 < N ∧ isL (tx s1) = true) → Φ (.inl none) g')) → Rn sc (d + 7) 191 [vR 0 70, vI sp] g Φ := fun sc d w g Φ hr hm k => by
      refine Rn.of rfl (v191_0 ?_)
      refine s180 hr (b := 47) (by decide) (by decide) (fun _ g1 f1 r1 => ⟨rfl, ⟨fun _ => ?_, fun q => absurd r1.2.2.1 q⟩⟩) (fun q => absurd hsl q)
      rw [← hs1] at r1
      refine s174 (hm.fq f1) rk hr0 (fun g2 m2 f2 w1 w2 => ⟨rfl, ?_⟩)
      refine s177A (r1.fd f2) (fun g3 r3 f3 e17 => ⟨_, rfl, ?_⟩)
      have kk := k g3 ((FH.q f1).tr ((FH.d f2).tr (FH.q f3))) (m2.fq f3) r3 (by rw [f3.2 11 (by decide)]; exact w1) (by rw [f3.2 12 (by decide)]; exact w2)
      unfold seeV
      by_cases hlt : s1 < N
      · rw [if_pos hlt]
        have hb := (r3.1.2.2 s1 hlt).1
        have hl := lo_b hb
        cases hL : isL (tx s1) with
        | true =>
          have nlo : ¬ (nI (tx s1) < nI 97 ∨ nI 122 < nI (tx s1)) := fun q => by rw [hl.mp q] at hL; cases hL
          exact ⟨fun q => absurd (Or.inl q) nlo, fun _ => ⟨fun q => absurd (Or.inr q) nlo, fun _ => kk.1 ⟨hlt, hL⟩⟩⟩
        | false =>
          have lo := hl.mpr hL
          have kk2 := kk.2 (fun q => by rw [hL] at q; cases q.2)
          exact ⟨fun _ => kk2, fun q1 => ⟨fun _ => kk2, fun q2 => absurd lo (fun z => z.elim q1 q2)⟩⟩
      · rw [if_neg hlt]
        have kk2 := kk.2 (fun q => hlt q.1)
        exact ⟨fun _ => kk2, fun q1 => absurd (by decide +kernel) q1⟩
    by_cases hl : s1 < N ∧ isL (tx s1) = true
    · obtain ⟨res, pv, hC3, hR3⟩ := stL hw rk P h6 (N - s1 + 1) _ _ s1 0 (by omega) (by omega) p1 p2 t1
      refine ⟨res, ?_, fun sc d i g Φ hi hc hA k => ?_, fun sc d w g Φ hr hm k => ?_⟩
      · cases res with
        | inl ce => exact pv
        | inr q => exact ⟨by have := pv.1; omega, pv.2⟩
      · refine hC res sc d i g Φ hi hc hA (fun g1 f1 h1 w1 w2 => ⟨fun _ => ?_, fun q => absurd hl q⟩)
        exact hC3 sc d i g1 Φ sp hi h1 (hA.fw f1) w1 w2 (fun g2 f2 p2 => k g2 (f1.tr f2) p2)
      · refine hR sc d w g Φ hr hm (fun g1 f1 m1 r1 w1 w2 => ⟨fun _ => ?_, fun q => absurd hl q⟩)
        exact hR3 sc d w g1 Φ sp r1 m1 w1 w2 (fun g2 f2 m2 p2 => k g2 (f1.tr f2) m2 p2)
    · refine ⟨.inr (s1, (dnD D a (D 9 a)).1, (dnD D a (D 9 a)).2), ⟨by omega, p1, p2⟩, fun sc d i g Φ hi hc hA k => ?_, fun sc d w g Φ hr hm k => ?_⟩
      · exact hC (.inl (nI 0, 0)) sc d i g Φ hi hc hA (fun g1 f1 h1 w1 w2 => ⟨fun q => absurd q hl, fun _ => k g1 f1 ⟨h1, w1, w2⟩⟩)
      · exact hR sc d w g Φ hr hm (fun g1 f1 m1 r1 w1 w2 => ⟨fun q => absurd q hl, fun _ => k g1 f1 m1 ⟨r1, w1, w2⟩⟩)
  · refine ⟨.inl (-nI 12, s), (show ¬ (-nI 12 : Int32) = nI 0 by decide +kernel), fun sc d i g Φ hi hc hA k => ?_, fun sc d w g Φ hr hm k => ?_⟩
    · refine Rn.of rfl (v91_0 ?_)
      exact s31 hc (b := 47) (by decide) (by decide) (fun q => absurd q hsl) (fun _ g1 f1 h1 => ⟨_, rfl, ⟨fun _ => k g1 (FW.c f1) h1, fun q => absurd rfl q⟩⟩)
    · refine Rn.of rfl (v191_0 ?_)
      exact s180 hr (b := 47) (by decide) (by decide) (fun q => absurd q hsl) (fun _ g1 f1 r1 => ⟨rfl, ⟨fun q => absurd (r1.2.1.symm.trans q) r1.2.2.1, fun _ => k g1 (FH.q f1) (hm.fq f1) r1⟩⟩)
end PA
