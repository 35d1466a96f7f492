/-! NAMES, in the reference -/
section NR
variable {sc : SC} {d N s n w M : Nat} {g : Gs} {Φ : RS → Gs → Prop} {tx : Nat → Nat} {D : Nat → Nat → Int32}
theorem s181 (h : RIN g tx N s) (k1 : isN tx N s = true → ∀ g', FQ g g' → RIN g' tx N (nxt9 tx N s) → NAM g' tx N s → Φ (.inl (some (vI (nI 1)))) g') (k0 : isN tx N s = false → ∀ g', FQ g g' → RER g' tx N (-nI 12) s → Φ (.inl (some (vI (nI 0)))) g') : Rn sc (d + 2) 181 [vR 0 70] g Φ := by
  have e18 := h.2.2.1
  have n600 := h.1.2.1
  have hT := h.2.1
  obtain ⟨w1, w2, w3, w4⟩ := wnd_K (tx := tx) hT.1
  refine Rn.of rfl (v181_0 ?_)
  rw [e18]
  refine ⟨fun _ => ?_, fun q => absurd rfl q⟩
  refine s177A h (fun s1 r1 f1 e17 => ⟨_, rfl, ?_⟩)
  intro G5 e5 G6 e6
  subst e5; subst e6
  rw [u3_nk (by decide), e17]
  have fq2 : ∀ t, FQ s1 (u3 (u3 s1.1 0 70 21 (nI s)) 0 70 22 (nI t), s1.2) := fun t => (FQ.p (k := 21) (v := nI s) (by decide)).tr (FQ.p (k := 22) (v := nI t) (by decide))
  refine scnW (W := fun t => ∀ s2, FQ s1 s2 → (∀ k, k ≠ 21 → k ≠ 22 → s2.1 0 70 k = s1.1 0 70 k) → s2.1 0 70 21 = nI s → s2.1 0 70 22 = nI t → Xe sc (d + 1) 181 30 [vR 0 70] [] s2 Φ) (N := N) (p := fun t => !isL (tx t)) hT.1 (fun t a b c hW => ?_) ?_ _ (fq2 s) (fun k h1 h2 => by dsimp only; rw [u3_nk h2, u3_nk h1]) (by dsimp only; rw [u3_nk (by decide), u3_ek rfl]) (by dsimp only; rw [u3_ek rfl])
  · intro s2 f2 k2 c21 c22
    have b2 := r1.1.fq f2
    have htN : t < N := by
      have : t < wnd tx N s := b
      omega
    obtain ⟨l1, l2⟩ := b2.2.2 t htN
    have e16 := b2.1
    have hLt := w3 t a b
    have nlo : ¬ (nI (tx t) < nI 97 ∨ nI 122 < nI (tx t)) := fun q => by rw [(lo_b l1).mp q] at hLt; cases hLt
    have nl1 : ¬ nI (tx t) < nI 97 := fun q => nlo (Or.inl q)
    have nl2 : ¬ nI 122 < nI (tx t) := fun q => nlo (Or.inr q)
    have h600 : t < 600 := by omega
    refine v181_30 ?_
    simp (disch := omega) only [u3_nc, u3_ek, u3_nk, upd_e, upd_n, dU_nk, dU_nc, dU_e, nI_ltI, nI_eq, nI_clamp, nI_add, nI_mul, inb_nI, nI_neg1, nI_ne1, nI_n1e, nI_neg1e, Nat.not_lt_zero, Nat.lt_irrefl, true_and, and_true, true_implies, false_implies, not_true_eq_false, not_false_eq_true, implies_true, forall_const, if_true, if_false, Nat.reduceEqDiff, eq_self, Nat.one_ne_zero, Nat.zero_ne_one, Nat.zero_add, Nat.add_zero, c22, e16, htN, h600]
    rw [l2]
    refine ⟨fun q => absurd q nl1, fun _ => ⟨fun q => absurd q nl2, fun _ => ?_⟩⟩
    intro G24 e24
    subst e24
    exact hW _ (f2.tr (FQ.p (by decide))) (fun k h1 h2 => by dsimp only; rw [u3_nk h2]; exact k2 k h1 h2) (by dsimp only; rw [u3_nk (by decide)]; exact c21) (by dsimp only; rw [u3_ek rfl])
  · intro s2 f2 k2 c21 c22'
    obtain ⟨e, he⟩ : ∃ e, e = wnd tx N s := ⟨_, rfl⟩
    have c22 : s2.1 0 70 22 = nI e := by rw [he]; exact c22'
    have b2 := r1.1.fq f2
    have e16 := b2.1
    have e18' : s2.1 0 70 18 = nI 0 := by rw [k2 18 (by decide) (by decide)]; exact r1.2.2.1
    have e17' : s2.1 0 70 17 = nI s := by rw [k2 17 (by decide) (by decide)]; exact e17
    have r2 : RIN s2 tx N s := ⟨b2, hT, e18', s, e17', Nat.le_refl _, fun t a b => by omega⟩
    -- the end, whatever stands there
    have bad : isN tx N s = false → ∀ G3 G4, G3 = u3 s2.1 0 70 18 (-nI 12) → G4 = u3 G3 0 70 19 (nI s) → Φ (.inl (some (vI (nI 0)))) (G4, s2.2.1, s2.2.2) := fun hf G3 G4 e3 e4 => by
      subst e3; subst e4
      obtain ⟨a, b⟩ := r2.er (code := -nI 12) (by decide +kernel)
      exact k0 hf _ (f1.tr (f2.tr b)) a
    have good : isN tx N s = true → ∀ G, G = u3 s2.1 0 70 17 (nI e) → Φ (.inl (some (vI (nI 1)))) (G, s2.2.1, s2.2.2) := fun ht G eG => by
      subst eG
      obtain ⟨-, -, -, -, -, hx⟩ := isN_K ht hT
      obtain ⟨a, b⟩ := r2.next (show e = nxp tx N s by rw [hx, he])
      refine k1 ht _ (f1.tr (f2.tr b)) a ⟨ht, ?_, ?_⟩
      · dsimp only; rw [u3_nk (by decide)]; exact c21
      · dsimp only; rw [u3_nk (by decide)]; exact c22'
    have hse : s ≤ e := by rw [he]; exact w1
    have heN : e ≤ N := by rw [he]; exact w2
    have isE : isN tx N s = true ↔ ¬ e = s ∧ e - s ≤ 6 := by
      unfold isN
      rw [decide_eq_true_iff, ← he]
      refine ⟨fun q => ⟨fun q2 => ?_, q.2.2⟩, fun q => ?_⟩
      · have := wnd_lt q.1 q.2.1; omega
      · have := w3 s (Nat.le_refl _) (by omega)
        exact ⟨by omega, this, q.2⟩
    have both : ((nI e = nI s → ((nI 0 = nI 0 → ∀ G3 : Nat → Nat → Nat → Int32, G3 = u3 s2.1 0 70 18 (-nI 12) → ∀ G4 : Nat → Nat → Nat → Int32, G4 = u3 G3 0 70 19 (nI s) → Φ (.inl (some (vI (nI 0)))) (G4, s2.2.1, s2.2.2)) ∧ (¬ nI 0 = nI 0 → Φ (.inl (some (vI (nI 0)))) s2))) ∧ (¬ nI e = nI s → ((nI 6 < nI e - nI s → ((nI 0 = nI 0 → ∀ G7 : Nat → Nat → Nat → Int32, G7 = u3 s2.1 0 70 18 (-nI 12) → ∀ G8 : Nat → Nat → Nat → Int32, G8 = u3 G7 0 70 19 (nI s) → Φ (.inl (some (vI (nI 0)))) (G8, s2.2.1, s2.2.2)) ∧ (¬ nI 0 = nI 0 → Φ (.inl (some (vI (nI 0)))) s2))) ∧ (¬ nI 6 < nI e - nI s → ∀ G10 : Nat → Nat → Nat → Int32, G10 = u3 s2.1 0 70 17 (nI e) → Φ (.inl (some (vI (nI 1)))) (G10, s2.2.1, s2.2.2))))) := by
      rw [nI_eq (by omega) (by omega), nI_sub hse, nI_ltI (by decide) (by omega)]
      have f0 : ¬ (¬ e = s ∧ e - s ≤ 6) → isN tx N s = false := fun q => Bool.eq_false_iff.mpr (fun q2 => q (isE.mp q2))
      exact ⟨fun q => ⟨fun _ G3 a G4 b => bad (f0 (fun z => z.1 q)) G3 G4 a b, fun z => absurd rfl z⟩, fun q => ⟨fun q2 => ⟨fun _ G3 a G4 b => bad (f0 (fun z => by omega)) G3 G4 a b, fun z => absurd rfl z⟩, fun q2 G b => good (isE.mpr ⟨q, by omega⟩) G b⟩⟩
    refine v181_30 ?_
    rw [c22, e16, c21, e18', e17']
    by_cases hlt : e < N
    · obtain ⟨l1, l2⟩ := b2.2.2 e hlt
      have hlo := (lo_b l1).mpr (by rw [he]; exact w4 (by omega))
      have h600 : e < 600 := by omega
      rw [nI_clamp (by omega), l2]
      refine ⟨fun _ => ⟨inb_nI h600 (by decide), fun _ => both, fun h1 => ⟨fun _ => both, fun h2 => ?_⟩⟩, fun q => absurd ((nI_ltI (by omega) (by omega)).mpr hlt) q⟩
      exact absurd hlo (fun q => q.elim h1 h2)
    · exact ⟨fun q => absurd ((nI_ltI (by omega) (by omega)).mp q) hlt, fun _ => both⟩
theorem s181E {code : Int32} {off : Nat} (h : RER g tx N code off) (k : Φ (.inl (some (vI (nI 0)))) g) : Rn sc (d + 2) 181 [vR 0 70] g Φ := by
  have e18 := h.2.1
  refine Rn.of rfl (v181_0 ?_)
  rw [e18]
  exact ⟨fun q => absurd q h.2.2.1, fun _ => k⟩
/-- a letter of the passed name -/
theorem nam_k (hB : BYR g tx N) (hT : TOK tx N s) (hn : isN tx N s = true) {k : Nat} (hk : k < 6) : (s + k < wnd tx N s → s + k < 600 ∧ g.1 0 78 (s + k) = cellv (nam tx N s) k) ∧ (¬ s + k < wnd tx N s → nI 0 = cellv (nam tx N s) k) := by
  have n600 := hB.2.1
  obtain ⟨w1, w2, w3, w4⟩ := wnd_K (tx := tx) hT.1
  unfold cellv nam lts
  refine ⟨fun h => ?_, fun h => ?_⟩
  · obtain ⟨b1, b2, b3, b4⟩ := letters_b hB hT (i := k) (by omega)
    refine ⟨by omega, ?_⟩
    rw [List.getElem?_map, List.getElem?_range (by omega)]
    dsimp only [Option.map]
    rw [(hB.2.2 _ b1).2, show 96 + (tx (s + k) - 96) = tx (s + k) by omega]
  · rw [List.getElem?_map, List.getElem?_eq_none (by rw [List.length_range]; omega)]
    rfl
theorem s182 {a : Nat} {x : Int32} (hB : BYR g tx N) (hT : TOK tx N s) (hN : NAM g tx N s) (hw : g.1 0 70 2 = nI w) (w10 : w < 10) (ha : a + 6 ≤ 780) (hx : NM x (fun k => g.1 0 71 (780 * w + (a + k)))) (k : Φ (.inl (some (vI (if x = nI (nmc tx N s) then nI 1 else nI 0)))) g) : Rn sc (d + 2) 182 [vR 0 70, vI (nI a)] g Φ := by
  obtain ⟨n1, n2, n3⟩ := hN
  have n600 := hB.2.1
  obtain ⟨L, L6, Ll, Lx, Lc⟩ := hx.c
  obtain ⟨-, -, m3, m4, m5, -⟩ := isN_K n1 hT
  obtain ⟨e1, e2, e3⟩ := nmc_K n1 hT
  have L30 := cdL_30 L6 Ll
  have hle := (wnd_K (tx := tx) hT.1).2.1
  have hTN := hT.1
  have heq : x = nI (nmc tx N s) ↔ cdL L = cdL (nam tx N s) := by rw [Lx, e1, nI_eq (by omega) (by omega)]
  refine Rn.of rfl (v182_0 ?_)
  refine srch (W := fun q => Xe sc (d + 1) 182 2 [vR 0 70, vI (nI a), vI (nI q)] [] g Φ) (n := 6) (p := fun i => decide (¬ cellv L i = cellv (nam tx N s) i)) (fun q hq hp hW => ?_) (fun q hs hq hp => ?_) (fun hs => ?_)
  · have hp2 := Decidable.not_not.mp (of_decide_eq_false hp)
    obtain ⟨c1, c2⟩ := nam_k hB hT n1 hq
    have c3 := (Lc q hq).trans hp2
    refine v182_2 ?_
    by_cases hlt : s + q < wnd tx N s
    · obtain ⟨c4, c5⟩ := c1 hlt
      simp (disch := omega) only [u3_nc, u3_ek, u3_nk, upd_e, upd_n, dU_nk, dU_nc, dU_e, nI_ltI, nI_eq, nI_clamp, nI_add, nI_mul, inb_nI, nI_neg1, nI_ne1, nI_n1e, nI_neg1e, Nat.not_lt_zero, Nat.lt_irrefl, true_and, and_true, true_implies, false_implies, not_true_eq_false, not_false_eq_true, implies_true, forall_const, forall_eq, if_true, if_false, Nat.reduceEqDiff, eq_self, Nat.one_ne_zero, Nat.zero_ne_one, Nat.zero_add, Nat.add_zero, hw, n2, n3, hq, hlt, c4, c3, c5]
      exact hW
    · have c5 := c2 hlt
      simp (disch := omega) only [u3_nc, u3_ek, u3_nk, upd_e, upd_n, dU_nk, dU_nc, dU_e, nI_ltI, nI_eq, nI_clamp, nI_add, nI_mul, inb_nI, nI_neg1, nI_ne1, nI_n1e, nI_neg1e, Nat.not_lt_zero, Nat.lt_irrefl, true_and, and_true, true_implies, false_implies, not_true_eq_false, not_false_eq_true, implies_true, forall_const, forall_eq, if_true, if_false, Nat.reduceEqDiff, eq_self, Nat.one_ne_zero, Nat.zero_ne_one, Nat.zero_add, Nat.add_zero, hw, n2, n3, hq, hlt, c3]
      exact ⟨fun _ => hW, fun z => absurd c5.symm z⟩
  · have hp2 := of_decide_eq_true hp
    obtain ⟨c1, c2⟩ := nam_k hB hT n1 hq
    have c3 := Lc q hq
    rw [if_neg (fun z => hp2 (by rw [cdL_inj L6 m4 Ll m5 (heq.mp z)]))] at k
    refine v182_2 ?_
    by_cases hlt : s + q < wnd tx N s
    · obtain ⟨c4, c5⟩ := c1 hlt
      simp (disch := omega) only [u3_nc, u3_ek, u3_nk, upd_e, upd_n, dU_nk, dU_nc, dU_e, nI_ltI, nI_eq, nI_clamp, nI_add, nI_mul, inb_nI, nI_neg1, nI_ne1, nI_n1e, nI_neg1e, Nat.not_lt_zero, Nat.lt_irrefl, true_and, and_true, true_implies, false_implies, not_true_eq_false, not_false_eq_true, implies_true, forall_const, forall_eq, if_true, if_false, Nat.reduceEqDiff, eq_self, Nat.one_ne_zero, Nat.zero_ne_one, Nat.zero_add, Nat.add_zero, hw, n2, n3, hq, hlt, c4, c3, c5]
      exact ⟨fun z => absurd z hp2, fun _ => k⟩
    · have c5 := c2 hlt
      simp (disch := omega) only [u3_nc, u3_ek, u3_nk, upd_e, upd_n, dU_nk, dU_nc, dU_e, nI_ltI, nI_eq, nI_clamp, nI_add, nI_mul, inb_nI, nI_neg1, nI_ne1, nI_n1e, nI_neg1e, Nat.not_lt_zero, Nat.lt_irrefl, true_and, and_true, true_implies, false_implies, not_true_eq_false, not_false_eq_true, implies_true, forall_const, forall_eq, if_true, if_false, Nat.reduceEqDiff, eq_self, Nat.one_ne_zero, Nat.zero_ne_one, Nat.zero_add, Nat.add_zero, hw, n2, n3, hq, hlt, c3]
      exact ⟨fun z => absurd (z.trans c5) hp2, fun _ => k⟩
  · have : L = nam tx N s := cell_inj L6 m4 Ll m5 (fun k hk => Decidable.not_not.mp (of_decide_eq_false (fst9_none hs k hk)))
    rw [if_pos (heq.mpr (by rw [this]))] at k
    refine v182_2 ?_
    simp (disch := omega) only [u3_nc, u3_ek, u3_nk, upd_e, upd_n, dU_nk, dU_nc, dU_e, nI_ltI, nI_eq, nI_clamp, nI_add, nI_mul, inb_nI, nI_neg1, nI_ne1, nI_n1e, nI_neg1e, Nat.not_lt_zero, Nat.lt_irrefl, true_and, and_true, true_implies, false_implies, not_true_eq_false, not_false_eq_true, implies_true, forall_const, forall_eq, if_true, if_false, Nat.reduceEqDiff, eq_self, Nat.one_ne_zero, Nat.zero_ne_one, Nat.zero_add, Nat.add_zero]
    exact k
theorem s183 {a : Nat} (hB : BYR g tx N) (hT : TOK tx N s) (hN : NAM g tx N s) (hw : g.1 0 70 2 = nI w) (w10 : w < 10) (ha : a + 6 ≤ 780) (k : ∀ g', Fr (fun i c => i = 0 ∧ c = 71) g g' → (∀ k, k < 6 → g'.1 0 71 (780 * w + (a + k)) = cellv (nam tx N s) k) → (∀ j, ¬ (780 * w + a ≤ j ∧ j < 780 * w + a + 6) → g'.1 0 71 j = g.1 0 71 j) → Φ (.inl none) g') : Rn sc (d + 2) 183 [vR 0 70, vI (nI a)] g Φ := by
  obtain ⟨n1, n2, n3⟩ := hN
  have n600 := hB.2.1
  have hle := (wnd_K (tx := tx) hT.1).2.1
  have hTN := hT.1
  refine Rn.of rfl (v183_0 ?_)
  refine turnsS (σ := Gs) (W := fun q s => Xe sc (d + 1) 183 2 [vR 0 70, vI (nI a), vI (nI q)] [] s Φ) (I := fun q t => Fr (fun i c => i = 0 ∧ c = 71) g t ∧ (∀ k, k < q → t.1 0 71 (780 * w + (a + k)) = cellv (nam tx N s) k) ∧ ∀ j, ¬ (780 * w + a ≤ j ∧ j < 780 * w + a + 6) → t.1 0 71 j = g.1 0 71 j) (n := 6)
    (fun q t hq ⟨i1, i2, i3⟩ hW => ?_) (fun t ⟨i1, i2, i3⟩ => ?_) g ⟨Fr.rf g, fun k hk => absurd hk (Nat.not_lt_zero k), fun _ _ => rfl⟩
  · obtain ⟨c1, c2⟩ := nam_k hB hT n1 hq
    have t70 := i1.1 0 70 (by simp)
    have t78 := i1.1 0 78 (by simp)
    rw [← t70] at n2 n3 hw
    rw [← t78] at c1
    have nxt : ∀ v, v = cellv (nam tx N s) q → Xe sc (d + 1) 183 2 [vR 0 70, vI (nI a), vI (nI (q + 1))] [] (u3 t.1 0 71 (780 * w + (a + q)) v, t.2) Φ := fun v hv => by
      refine hW _ ⟨i1.tr (Fr.u3 (Fr.rf _) ⟨rfl, rfl⟩), fun k hk => ?_, fun j hj => ?_⟩
      · dsimp only
        by_cases e : k = q
        · rw [u3_ek (by omega), e]; exact hv
        · rw [u3_nk (by omega)]; exact i2 k (by omega)
      · dsimp only
        rw [u3_nk (by omega)]; exact i3 j hj
    refine v183_2 ?_
    by_cases hlt : s + q < wnd tx N s
    · obtain ⟨c4, c5⟩ := c1 hlt
      simp (disch := omega) only [u3_nc, u3_ek, u3_nk, upd_e, upd_n, dU_nk, dU_nc, dU_e, nI_ltI, nI_eq, nI_clamp, nI_add, nI_mul, inb_nI, nI_neg1, nI_ne1, nI_n1e, nI_neg1e, Nat.not_lt_zero, Nat.lt_irrefl, true_and, and_true, true_implies, false_implies, not_true_eq_false, not_false_eq_true, implies_true, forall_const, forall_eq, if_true, if_false, Nat.reduceEqDiff, eq_self, Nat.one_ne_zero, Nat.zero_ne_one, Nat.zero_add, Nat.add_zero, hw, n2, n3, hq, hlt, c4]
      exact nxt _ c5
    · have c5 := c2 hlt
      simp (disch := omega) only [u3_nc, u3_ek, u3_nk, upd_e, upd_n, dU_nk, dU_nc, dU_e, nI_ltI, nI_eq, nI_clamp, nI_add, nI_mul, inb_nI, nI_neg1, nI_ne1, nI_n1e, nI_neg1e, Nat.not_lt_zero, Nat.lt_irrefl, true_and, and_true, true_implies, false_implies, not_true_eq_false, not_false_eq_true, implies_true, forall_const, forall_eq, if_true, if_false, Nat.reduceEqDiff, eq_self, Nat.one_ne_zero, Nat.zero_ne_one, Nat.zero_add, Nat.add_zero, hw, n2, n3, hq, hlt]
      exact nxt _ c5
  · refine v183_2 ?_
    simp (disch := omega) only [u3_nc, u3_ek, u3_nk, upd_e, upd_n, dU_nk, dU_nc, dU_e, nI_ltI, nI_eq, nI_clamp, nI_add, nI_mul, inb_nI, nI_neg1, nI_ne1, nI_n1e, nI_neg1e, Nat.not_lt_zero, Nat.lt_irrefl, true_and, and_true, true_implies, false_implies, not_true_eq_false, not_false_eq_true, implies_true, forall_const, forall_eq, if_true, if_false, Nat.reduceEqDiff, eq_self, Nat.one_ne_zero, Nat.zero_ne_one, Nat.zero_add, Nat.add_zero]
    exact k t i1 i2 i3
theorem s184 (hB : BYR g tx N) (hT : TOK tx N s) (hN : NAM g tx N s) (hw : g.1 0 70 2 = nI w) (w10 : w < 10) (hV : RMV (g.1 0 71) w D) (vk : VOK D) (k : Φ (.inl (some (vI (eo (fst9 (nV D) fun v => decide (D 2 v = nI (nmc tx N s))))))) g) : Rn sc (d + 3) 184 [vR 0 70] g Φ := by
  have hn := hV.n vk
  have v4 := vk.2.1
  refine Rn.of rfl (v184_0 ?_)
  refine srch (W := fun q => Xe sc (d + 2) 184 2 [vR 0 70, vI (nI q)] [] g Φ) (n := nV D) (p := fun v => decide (D 2 v = nI (nmc tx N s))) (fun q hq hp hW => ?_) (fun q hs hq hp => ?_) (fun hs => ?_)
  · have hp2 := of_decide_eq_false hp
    refine v184_2 ?_
    simp (disch := omega) only [u3_nc, u3_ek, u3_nk, upd_e, upd_n, dU_nk, dU_nc, dU_e, nI_ltI, nI_eq, nI_clamp, nI_add, nI_mul, inb_nI, nI_neg1, nI_ne1, nI_n1e, nI_neg1e, Nat.not_lt_zero, Nat.lt_irrefl, true_and, and_true, true_implies, false_implies, not_true_eq_false, not_false_eq_true, implies_true, forall_const, forall_eq, if_true, if_false, Nat.reduceEqDiff, eq_self, Nat.one_ne_zero, Nat.zero_ne_one, Nat.zero_add, Nat.add_zero, hw, hn, hq]
    refine s182 hB hT hN hw w10 (by omega) (hV.2.1 q hq).2 ⟨_, rfl, ?_⟩
    rw [if_neg hp2]
    exact ⟨fun _ => hW, fun z => absurd rfl z⟩
  · have hp2 := of_decide_eq_true hp
    rw [hs] at k
    refine v184_2 ?_
    simp (disch := omega) only [u3_nc, u3_ek, u3_nk, upd_e, upd_n, dU_nk, dU_nc, dU_e, nI_ltI, nI_eq, nI_clamp, nI_add, nI_mul, inb_nI, nI_neg1, nI_ne1, nI_n1e, nI_neg1e, Nat.not_lt_zero, Nat.lt_irrefl, true_and, and_true, true_implies, false_implies, not_true_eq_false, not_false_eq_true, implies_true, forall_const, forall_eq, if_true, if_false, Nat.reduceEqDiff, eq_self, Nat.one_ne_zero, Nat.zero_ne_one, Nat.zero_add, Nat.add_zero, hw, hn, hq]
    refine s182 hB hT hN hw w10 (by omega) (hV.2.1 q hq).2 ⟨_, rfl, ?_⟩
    rw [if_pos hp2]
    exact ⟨fun z => absurd z (by decide +kernel), fun _ => k⟩
  · rw [hs] at k
    refine v184_2 ?_
    simp (disch := omega) only [u3_nc, u3_ek, u3_nk, upd_e, upd_n, dU_nk, dU_nc, dU_e, nI_ltI, nI_eq, nI_clamp, nI_add, nI_mul, inb_nI, nI_neg1, nI_ne1, nI_n1e, nI_neg1e, Nat.not_lt_zero, Nat.lt_irrefl, true_and, and_true, true_implies, false_implies, not_true_eq_false, not_false_eq_true, implies_true, forall_const, forall_eq, if_true, if_false, Nat.reduceEqDiff, eq_self, Nat.one_ne_zero, Nat.zero_ne_one, Nat.zero_add, Nat.add_zero, hw, hn]
    exact k
theorem s185 {v : Nat} {o : Int32} (hB : BYR g tx N) (hT : TOK tx N s) (hN : NAM g tx N s) (hw : g.1 0 70 2 = nI w) (w10 : w < 10) (hV : RMV (g.1 0 71) w D) (vk : VOK D) (hv : v < nV D) (k : Φ (.inl (some (vI (eo ((fst9 (nS D v - 1) fun e => decide (D 5 (v * 12 + (e + 1)) = o ∧ D 4 (v * 12 + (e + 1)) = nI (nmc tx N s))).map (· + 1)))))) g) : Rn sc (d + 4) 185 [vR 0 70, vI (nI v), vI o] g Φ := by
  have hs6 := hV.s vk v hv
  have v4 := vk.2.1
  obtain ⟨q1, q2, q3, -⟩ := vk.2.2 v hv
  obtain ⟨sz, hsz⟩ : ∃ sz, sz = nS D v := ⟨_, rfl⟩
  rw [← hsz] at hs6 k q2 q3
  refine Rn.of rfl (v185_0 ?_)
  refine srch (W := fun q => Xe sc (d + 3) 185 2 [vR 0 70, vI (nI v), vI o, vI (nI (q + 1))] [] g Φ) (n := sz - 1) (p := fun e => decide (D 5 (v * 12 + (e + 1)) = o ∧ D 4 (v * 12 + (e + 1)) = nI (nmc tx N s))) (fun q hq hp hW => ?_) (fun q hs hq hp => ?_) (fun hs => ?_)
  · have hp2 := of_decide_eq_false hp
    have hq2 : q + 1 < sz := by omega
    have c5 := hV.o v (q + 1) hv (by omega)
    refine v185_2 ?_
    simp (disch := omega) only [u3_nc, u3_ek, u3_nk, upd_e, upd_n, dU_nk, dU_nc, dU_e, nI_ltI, nI_eq, nI_clamp, nI_add, nI_mul, inb_nI, nI_neg1, nI_ne1, nI_n1e, nI_neg1e, Nat.not_lt_zero, Nat.lt_irrefl, true_and, and_true, true_implies, false_implies, not_true_eq_false, not_false_eq_true, implies_true, forall_const, forall_eq, if_true, if_false, Nat.reduceEqDiff, eq_self, Nat.one_ne_zero, Nat.zero_ne_one, Nat.zero_add, Nat.add_zero, hw, hs6, hq2, c5]
    refine ⟨fun h1 => ?_, fun _ => hW⟩
    refine s182 hB hT hN hw w10 (by omega) (hV.2.2 v (q + 1) hv (by omega)).2 ⟨_, rfl, ?_⟩
    rw [if_neg (fun h2 => hp2 ⟨h1, h2⟩)]
    exact ⟨fun _ => hW, fun z => absurd rfl z⟩
  · obtain ⟨p1, p2⟩ := of_decide_eq_true hp
    have hq2 : q + 1 < sz := by omega
    have c5 := hV.o v (q + 1) hv (by omega)
    rw [hs] at k
    refine v185_2 ?_
    simp (disch := omega) only [u3_nc, u3_ek, u3_nk, upd_e, upd_n, dU_nk, dU_nc, dU_e, nI_ltI, nI_eq, nI_clamp, nI_add, nI_mul, inb_nI, nI_neg1, nI_ne1, nI_n1e, nI_neg1e, Nat.not_lt_zero, Nat.lt_irrefl, true_and, and_true, true_implies, false_implies, not_true_eq_false, not_false_eq_true, implies_true, forall_const, forall_eq, if_true, if_false, Nat.reduceEqDiff, eq_self, Nat.one_ne_zero, Nat.zero_ne_one, Nat.zero_add, Nat.add_zero, hw, hs6, hq2, c5]
    refine ⟨fun h1 => ?_, fun z => absurd p1 z⟩
    refine s182 hB hT hN hw w10 (by omega) (hV.2.2 v (q + 1) hv (by omega)).2 ⟨_, rfl, ?_⟩
    rw [if_pos p2]
    exact ⟨fun z => absurd z (by decide +kernel), fun _ => k⟩
  · have hq2 : ¬ sz - 1 + 1 < sz := by omega
    rw [hs] at k
    refine v185_2 ?_
    simp (disch := omega) only [u3_nc, u3_ek, u3_nk, upd_e, upd_n, dU_nk, dU_nc, dU_e, nI_ltI, nI_eq, nI_clamp, nI_add, nI_mul, inb_nI, nI_neg1, nI_ne1, nI_n1e, nI_neg1e, Nat.not_lt_zero, Nat.lt_irrefl, true_and, and_true, true_implies, false_implies, not_true_eq_false, not_false_eq_true, implies_true, forall_const, forall_eq, if_true, if_false, Nat.reduceEqDiff, eq_self, Nat.one_ne_zero, Nat.zero_ne_one, Nat.zero_add, Nat.add_zero, hw, hs6, hq2]
    exact k
end NR
