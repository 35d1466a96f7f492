/-! THE CLASS COPIES A SPACE -/
section DT
variable {sc : SC} {d i w r M : Nat} {g : Gs} {Φ : RS → Gs → Prop} {D E : Nat → Nat → Int32} {sp : Int32} {lk : Bool}
theorem up_of {M u a : Nat} (hw : CW D M) (hu : u < nR D) (h : D 10 a = D 6 u) : up D a = some u := by
  unfold up
  rw [h]
  exact hw.2.2.1.row hw.1.2 hu
/-- rows found by number while copies are made -/
theorem dup_find {ls : List Nat} {f10 f11 : Nat → Nat → Int32} {s12 : Int32} {a : Nat} (hw : CW D M) (ok : OKP D) (ha : a < nR D) (h40 : nR D + ls.length ≤ 40) : fst9 (nR D + ls.length) (fun z => decide (dupF D ls f10 f11 lk s12 6 z = D 10 a)) = up D a := by
  have nb := hw.2.2.1
  rcases ok a ha with e | ⟨u, hu, e⟩
  · rw [up_no hw (by rw [e]; exact nI_neg1)]
    refine fst9_no (fun z hz => decide_eq_false (fun q => ?_))
    rw [e] at q
    by_cases hzn : z < nR D
    · rw [dupF_old hzn (by decide)] at q
      exact num_nn hw hzn (by rw [q]; exact nI_neg1)
    · obtain ⟨j, rfl⟩ : ∃ j, z = nR D + j := ⟨z - nR D, by omega⟩
      rw [dupF_new (by omega) (by decide)] at q
      unfold dupV at q
      rw [if_pos rfl, nb.1, nI_add] at q
      exact nI_ne1 (by have := nb.2; omega) q
  · rw [up_of hw hu e, e]
    refine fst9_eq (by omega) (decide_eq_true (dupF_old hu (by decide))) (fun z hz => decide_eq_false (fun q => ?_))
    rw [dupF_old (by omega) (by decide)] at q
    have := nb.uq (by omega) (by omega) hu q
    omega
theorem s15 (hi : fm i = i) (hA : At g i D) (hw : CW D M) (ok : OKP D) (sn : SPN D) (sc' : SPC D)
    (k : ∀ g', At g' i (aCps D sp lk).2 → Fr (fun i' c => i' = i ∧ (c < 16 ∨ c = 43)) g g' → Φ (.inl (some (vI (aCps D sp lk).1))) g') : Rn sc (d + 3) 15 [vR i 40, vI sp, vI (if lk = true then nI 1 else nI 0)] g Φ := by
  have n40 := hw.1.2
  obtain ⟨s, hs, hs1, hs4⟩ := sn
  have h11 : g.1 i 0 11 = nI (nR D) := hA.k (by decide) hw.1.1
  have e7 : g.1 i 7 = D 7 := hA 7 (by decide)
  have e12 : g.1 i 0 12 = D 0 12 := by rw [hA 0 (by decide)]
  obtain ⟨p, hp⟩ : ∃ p, p = inS D sp := ⟨_, rfl⟩
  obtain ⟨n, hn⟩ : ∃ n, n = nR D := ⟨_, rfl⟩
  obtain ⟨L, hL⟩ : ∃ L : Int32, L = if lk = true then nI 1 else nI 0 := ⟨_, rfl⟩
  have hcn : cntF p n ≤ n := cntF_le p n
  unfold aCps at k
  rw [← hp, ← hn] at k
  rw [← hn] at h11 n40
  refine Rn.of rfl (v15_0 ?_)
  rw [← hL, hi, h11]
  -- the copies' places
  have thr : ∀ g1, At g1 i (dupF D (lqq p n) (fun _ r => D 10 r) (fun _ r => D 11 r) lk (D 0 12 + nI 1)) → Fr (fun i' c => i' = i ∧ (c < 16 ∨ c = 43)) g g1 → (∀ u, u < n → p u = true → g1.1 i 43 u = D 0 13 + nI (cntF p u)) → n + cntF p n ≤ 40 → ¬ D 0 12 = nI 4 → ∀ (x4 : Int32) w7, Xe sc (d + 2) 15 136 [vR i 40, vI sp, vI L, vI (nI n), vI x4, vI (D 0 12), vI (nI n), w7] [] g1 Φ := by
    intro g1 a1 f1 c1 hb h4 x4 w7
    rw [if_neg h4, if_neg (by omega)] at k
    have hl : (lqq p n).length = cntF p n := lqq_len
    suffices H : ∀ w7, Xe sc (d + 2) 15 136 [vR i 40, vI sp, vI L, vI (nI n), vI x4, vI (D 0 12), vI (nI (n + 0)), w7] [] g1 Φ from H w7
    refine turnsS (σ := Gs) (W := fun j s => ∀ w7, Xe sc (d + 2) 15 136 [vR i 40, vI sp, vI L, vI (nI n), vI x4, vI (D 0 12), vI (nI (n + j)), w7] [] s Φ)
      (I := fun j s => At s i (dupF D (lqq p n) (fun a r => if a < j then fxD D sp r else D 10 r) (fun _ r => D 11 r) lk (D 0 12 + nI 1)) ∧ Fr (PD i) g1 s) (n := cntF p n)
      (fun j s hj ⟨i1, i2⟩ hW w7 => ?_) (fun s ⟨i1, i2⟩ w7 => ?_) g1 ⟨?_, Fr.rf g1⟩
    · obtain ⟨E, hE⟩ : ∃ E, E = dupF D (lqq p n) (fun a r => if a < j then fxD D sp r else D 10 r) (fun _ r => D 11 r) lk (D 0 12 + nI 1) := ⟨_, rfl⟩
      have hr40 : nR D + (lqq p n).length ≤ 40 := by omega
      have hEr : nR E = n + cntF p n := by rw [hE, dupF_nR hr40]; omega
      have hEk : ROK E := by rw [hE]; exact dupF_rok hr40
      obtain ⟨r1, r2, r3⟩ := posA n j (by rw [hl]; exact hj : j < (lqq p n).length)
      obtain ⟨r, hr⟩ : ∃ r, r = rrr (lqq p n) j := ⟨_, rfl⟩
      rw [← hr] at r1 r2 r3
      have hnj : n + j = nR D + j := by omega
      have e10 : s.1 i 10 (n + j) = D 10 r := by
        rw [i1 10 (by decide), hnj, dupF_new (by omega) (by decide)]
        unfold dupV
        rw [← hr]
        simp
      rw [← hE] at i1
      have e011 : s.1 i 0 11 = nI (n + cntF p n) := by rw [← hEr]; exact i1.k (by decide) hEk.1
      have hfd : fst9 (nR E) (fun z => decide (E 6 z = D 10 r)) = up D r := by
        have hE2 : nR E = nR D + (lqq p n).length := by omega
        rw [hE2, hE]
        exact dup_find hw ok (by omega) (by omega)
      have hjn : n + j < n + cntF p n := by omega
      have don : ∀ v, v = fxD D sp r → ∀ w7, Xe sc (d + 2) 15 136 [vR i 40, vI sp, vI L, vI (nI n), vI x4, vI (D 0 12), vI (nI (n + j + 1)), w7] [] (u3 s.1 i 10 (n + j) v, s.2) Φ := fun v hv w7 => by
        refine hW _ ⟨?_, i2.tr (by exact Fr.u3 (Fr.rf _) ⟨rfl, by decide⟩)⟩ w7
        have h1 : At (u3 s.1 i 10 (n + j) v, s.2) i (dU E 10 (n + j) v) := At.uc i1
        rw [hE, hnj, dupF_10 (by omega), ← hnj] at h1
        rw [dupF_congr (h10 := fun a b => if a = j then v else if a < j then fxD D sp b else D 10 b) (h11 := fun _ r => D 11 r) (fun a ha => ?_) (fun _ _ => rfl)]
        · exact h1
        · try dsimp only
          by_cases haj : a = j
          · rw [if_pos (by omega), if_pos haj, haj, ← hr, hv]
          · rw [if_neg haj]
            by_cases hlt : a < j
            · rw [if_pos (by omega), if_pos hlt]
            · rw [if_neg (by omega), if_neg hlt]
      refine v15_136 ?_
      simp (disch := omega) only [u3_nc, u3_ek, u3_nk, upd_e, upd_n, dU_nk, dU_nc, dU_e, nI_ltI, nI_eq, nI_clamp, nI_add, nI_mul, inb_nI, nI_neg1, nI_ne1, nI_n1e, nI_neg1e, Nat.not_lt_zero, Nat.lt_irrefl, true_and, and_true, true_implies, false_implies, not_true_eq_false, not_false_eq_true, implies_true, forall_const, forall_eq, if_true, if_false, Nat.reduceEqDiff, eq_self, Nat.one_ne_zero, Nat.zero_ne_one, Nat.zero_add, Nat.add_zero, hi, e011, hjn, e10]
      refine s41A i1 hEk ⟨_, rfl, ?_⟩
      rw [hfd]
      rcases ok r (by omega) with e | ⟨u, hu, e⟩
      · rw [up_no hw (by rw [e]; exact nI_neg1)]
        refine ⟨fun _ => don _ ?_ _, fun h => absurd eo_none h⟩
        unfold fxD
        rw [if_pos e]
      · rw [up_of hw hu e]
        have hpu : p u = true := by
          rw [hp] at r2 ⊢
          exact decide_eq_true ((sc' r u (by omega) hu e).symm.trans (of_decide_eq_true r2))
        have c43 : s.1 i 43 u = D 0 13 + nI (cntF p u) := by rw [i2.1 i 43 (by omega)]; exact c1 u (by omega) hpu
        refine ⟨fun h => absurd h (nI_nn (show u < 2 ^ 31 by omega)), fun _ => ?_⟩
        rw [show eo (some u) = nI u from rfl]
        simp (disch := omega) only [u3_nc, u3_ek, u3_nk, upd_e, upd_n, dU_nk, dU_nc, dU_e, nI_ltI, nI_eq, nI_clamp, nI_add, nI_mul, inb_nI, nI_neg1, nI_ne1, nI_n1e, nI_neg1e, Nat.not_lt_zero, Nat.lt_irrefl, true_and, and_true, true_implies, false_implies, not_true_eq_false, not_false_eq_true, implies_true, forall_const, forall_eq, if_true, if_false, Nat.reduceEqDiff, eq_self, Nat.one_ne_zero, Nat.zero_ne_one, Nat.zero_add, Nat.add_zero, c43]
        refine don _ ?_ _
        unfold fxD
        rw [if_neg (by rw [e]; exact fun q => num_nn hw hu (by rw [q]; exact nI_neg1)), up_of hw hu e, hp]
        rfl
    · have hr40 : nR D + (lqq p n).length ≤ 40 := by omega
      have e011 : s.1 i 0 11 = nI (n + cntF p n) := by
        have h1 := i1.k (c := 0) (k := 11) (by decide) (dupF_rok hr40).1
        rw [dupF_nR hr40, ← hn, hl] at h1
        exact h1
      refine v15_136 ?_
      simp (disch := omega) only [u3_nc, u3_ek, u3_nk, upd_e, upd_n, dU_nk, dU_nc, dU_e, nI_ltI, nI_eq, nI_clamp, nI_add, nI_mul, inb_nI, nI_neg1, nI_ne1, nI_n1e, nI_neg1e, Nat.not_lt_zero, Nat.lt_irrefl, true_and, and_true, true_implies, false_implies, not_true_eq_false, not_false_eq_true, implies_true, forall_const, forall_eq, if_true, if_false, Nat.reduceEqDiff, eq_self, Nat.one_ne_zero, Nat.zero_ne_one, Nat.zero_add, Nat.add_zero, hi, e011]
      refine k s ?_ (f1.tr (i2.wk (fun _ _ q => ⟨q.1, Or.inl q.2⟩)))
      unfold aDup
      rw [← hp, ← hn]
      rw [dupF_congr (h10 := fun a r => if a < cntF p n then fxD D sp r else D 10 r) (h11 := fun _ r => D 11 r) (fun a ha => ?_) (fun _ _ => rfl)]
      · exact i1
      · try dsimp only
        rw [if_pos (by omega)]
    · rw [dupF_congr (h10 := fun _ r => D 10 r) (h11 := fun _ r => D 11 r) (fun a ha => ?_) (fun _ _ => rfl)]
      · exact a1
      · try dsimp only
        rw [if_neg (Nat.not_lt_zero a)]
  -- the copies
  have two : ∀ g1, At g1 i (dU D 0 12 (D 0 12 + nI 1)) → Fr (PD i) g g1 → n + cntF p n ≤ 40 → ¬ D 0 12 = nI 4 → ∀ x4 : Int32, Xe sc (d + 2) 15 98 [vR i 40, vI sp, vI L, vI (nI n), vI x4, vI (D 0 12), vI (nI 0), vU] [] g1 Φ := by
    intro g1 a1 f1 hb h4 x4
    refine turnsS (σ := Gs) (W := fun q s => Xe sc (d + 2) 15 98 [vR i 40, vI sp, vI L, vI (nI n), vI x4, vI (D 0 12), vI (nI q), vU] [] s Φ)
      (I := fun q s => At s i (dupF D (lqq p q) (fun _ r => D 10 r) (fun _ r => D 11 r) lk (D 0 12 + nI 1)) ∧ Fr (fun i' c => i' = i ∧ (c < 16 ∨ c = 43)) g s ∧ ∀ u, u < q → p u = true → s.1 i 43 u = D 0 13 + nI (cntF p u)) (n := n)
      (fun q s hq ⟨i1, i2, i3⟩ hW => ?_) (fun s ⟨i1, i2, i3⟩ => ?_) g1 ⟨?_, f1.wk (fun _ _ q => ⟨q.1, Or.inl q.2⟩), fun u hu => absurd hu (Nat.not_lt_zero u)⟩
    · obtain ⟨E, hE⟩ : ∃ E, E = dupF D (lqq p q) (fun _ r => D 10 r) (fun _ r => D 11 r) lk (D 0 12 + nI 1) := ⟨_, rfl⟩
      have hlq : (lqq p q).length = cntF p q := lqq_len
      have hmq : cntF p (q + 1) ≤ cntF p n := cntF_mono (by omega)
      have hms : cntF p (q + 1) = cntF p q + (bif p q then 1 else 0) := rfl
      have hr40 : nR D + (lqq p q).length ≤ 40 := by
        have := cntF_mono (p := p) (show q ≤ q + 1 by omega)
        omega
      have hEr : nR E = n + cntF p q := by rw [hE, dupF_nR hr40]; omega
      have hEk : ROK E := by rw [hE]; exact dupF_rok hr40
      have e7q : s.1 i 7 q = D 7 q := by rw [i1 7 (by decide), dupF_old (by omega) (by decide)]
      rw [← hE] at i1
      refine v15_98 ?_
      simp (disch := omega) only [u3_nc, u3_ek, u3_nk, upd_e, upd_n, dU_nk, dU_nc, dU_e, nI_ltI, nI_eq, nI_clamp, nI_add, nI_mul, inb_nI, nI_neg1, nI_ne1, nI_n1e, nI_neg1e, Nat.not_lt_zero, Nat.lt_irrefl, true_and, and_true, true_implies, false_implies, not_true_eq_false, not_false_eq_true, implies_true, forall_const, forall_eq, if_true, if_false, Nat.reduceEqDiff, eq_self, Nat.one_ne_zero, Nat.zero_ne_one, Nat.zero_add, Nat.add_zero, hq, hi, e7q]
      refine ⟨fun h => ?_, fun h => ?_⟩
      · have hpq : p q = true := by rw [hp]; exact decide_eq_true h
        rw [hpq] at hms
        have hms2 : cntF p (q + 1) = cntF p q + 1 := hms
        rw [hL]
        refine s16 hi i1 hEk (by omega) (by omega) (fun c hc => by rw [hE]; exact dupF_old (by omega) (by omega)) (fun g' a' f' c' => ⟨rfl, ?_⟩)
        rw [← hL]
        refine hW g' ⟨?_, i2.tr f', fun u hu hpu => ?_⟩
        · rw [lqq_s, if_pos hpq, ← dupF_s (by omega), ← hE]
          exact a'
        · rw [c']
          by_cases hur : u = q
          · rw [if_pos hur, hur, hE]
            unfold dupF
            rw [if_pos rfl, if_neg (by decide), if_pos rfl, hlq]
          · rw [if_neg hur]; exact i3 u (by omega) hpu
      · have hpq : ¬ p q = true := by rw [hp]; exact fun h2 => h (of_decide_eq_true h2)
        refine hW s ⟨?_, i2, fun u hu hpu => ?_⟩
        · rw [lqq_s, if_neg hpq, ← hE]; exact i1
        · by_cases hur : u = q
          · rw [hur] at hpu; exact absurd hpu hpq
          · exact i3 u (by omega) hpu
    · refine v15_98 ?_
      simp (disch := omega) only [u3_nc, u3_ek, u3_nk, upd_e, upd_n, dU_nk, dU_nc, dU_e, nI_ltI, nI_eq, nI_clamp, nI_add, nI_mul, inb_nI, nI_neg1, nI_ne1, nI_n1e, nI_neg1e, Nat.not_lt_zero, Nat.lt_irrefl, true_and, and_true, true_implies, false_implies, not_true_eq_false, not_false_eq_true, implies_true, forall_const, forall_eq, if_true, if_false, Nat.reduceEqDiff, eq_self, Nat.one_ne_zero, Nat.zero_ne_one, Nat.zero_add, Nat.add_zero]
      exact thr s i1 i2 i3 hb h4 x4 vU
    · rw [show lqq p 0 = [] from rfl, ← dupF_12 (s12 := D 0 12), dupF_nil hw.1]
      exact a1
  -- counting
  refine turns (W := fun q => Xe sc (d + 2) 15 14 [vR i 40, vI sp, vI L, vI (nI n), vI (nI (cntF p q)), vI (nI q), vU, vU] [] g Φ) (n := n) (fun q hq hW => ?_) ?_
  · have hcs : cntF p (q + 1) = cntF p q + (bif p q then 1 else 0) := rfl
    refine v15_14 ?_
    simp (disch := omega) only [u3_nc, u3_ek, u3_nk, upd_e, upd_n, dU_nk, dU_nc, dU_e, nI_ltI, nI_eq, nI_clamp, nI_add, nI_mul, inb_nI, nI_neg1, nI_ne1, nI_n1e, nI_neg1e, Nat.not_lt_zero, Nat.lt_irrefl, true_and, and_true, true_implies, false_implies, not_true_eq_false, not_false_eq_true, implies_true, forall_const, forall_eq, if_true, if_false, Nat.reduceEqDiff, eq_self, Nat.one_ne_zero, Nat.zero_ne_one, Nat.zero_add, Nat.add_zero, hq, hi, e7]
    refine ⟨fun h => ?_, fun h => ?_⟩
    · have hpq : p q = true := by rw [hp]; exact decide_eq_true h
      rw [hcs, hpq] at hW
      exact hW
    · have hpq : p q = false := by rw [hp]; exact decide_eq_false h
      rw [hcs, hpq] at hW
      exact hW
  · refine v15_14 ?_
    simp (disch := omega) only [u3_nc, u3_ek, u3_nk, upd_e, upd_n, dU_nk, dU_nc, dU_e, nI_ltI, nI_eq, nI_clamp, nI_add, nI_mul, inb_nI, nI_neg1, nI_ne1, nI_n1e, nI_neg1e, Nat.not_lt_zero, Nat.lt_irrefl, true_and, and_true, true_implies, false_implies, not_true_eq_false, not_false_eq_true, implies_true, forall_const, forall_eq, if_true, if_false, Nat.reduceEqDiff, eq_self, Nat.one_ne_zero, Nat.zero_ne_one, Nat.zero_add, Nat.add_zero, hi, e12, hs]
    have h4 : nI s = nI 4 ↔ s = 4 := nI_eq (by omega) (by omega)
    refine ⟨fun h1 => ⟨fun h2 => ?_, fun h2 => ?_⟩, fun h1 => ?_⟩
    · rw [hs, if_neg (fun q => by have := h4.mp q; omega), if_pos h2] at k
      exact k g hA (Fr.rf g)
    · have := two (u3 g.1 i 0 12 (nI (s + 1)), g.2) (by rw [hs, nI_add]; exact At.uc hA) (by exact Fr.u3 (Fr.rf g) ⟨rfl, by decide⟩) (by omega) (by rw [hs]; exact fun q => by have := h4.mp q; omega) (nI (cntF p n))
      rw [hs] at this
      exact this
    · rw [hs, if_pos (h4.mpr (by omega))] at k
      exact k g hA (Fr.rf g)
end DT
