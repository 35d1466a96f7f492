/-! WHAT STAYS WELL-FORMED: a space copied -/
section WFC
variable {D : Nat → Nat → Int32} {M B : Nat} {sp : Int32} {lk : Bool}
theorem WF.dup (h : WF D M B) {s z0 : Nat} (hs : D 0 12 = nI s) (hs4 : s < 4) (hz0 : z0 < s) (hsp : sp = nI z0) (hc : nR D + cntF (inS D sp) (nR D) ≤ 40) : WF (aDup D sp lk) M B := by
  have cw := h.cw
  have n40 := h.n40
  obtain ⟨mk1, mk2, mk3, mk4⟩ := cw.2.2.1
  obtain ⟨p, hp⟩ : ∃ p, p = inS D sp := ⟨_, rfl⟩
  obtain ⟨n, hn⟩ : ∃ n, n = nR D := ⟨_, rfl⟩
  obtain ⟨l, hl⟩ : ∃ l, l = lqq p n := ⟨_, rfl⟩
  have hll : l.length = cntF p n := by rw [hl]; exact lqq_len
  have hpe : ∀ {a}, p a = true → D 7 a = sp := fun ha => by rw [hp] at ha; exact of_decide_eq_true ha
  have hpi : ∀ {a}, D 7 a = sp → p a = true := fun ha => by rw [hp]; exact decide_eq_true ha
  have pA : ∀ {j}, j < l.length → rrr l j < n ∧ p (rrr l j) = true ∧ cntF p (rrr l j) = j := fun hj => by rw [hl] at hj ⊢; exact posA n _ hj
  have pB : ∀ {a}, a < n → p a = true → cntF p a < l.length ∧ rrr l (cntF p a) = a := fun ha hpa => by rw [hl]; exact posB n _ ha hpa
  obtain ⟨E, hE⟩ : ∃ E, E = aDup D sp lk := ⟨_, rfl⟩
  have hEd : E = dupF D l (fun _ r => fxD D sp r) (fun _ r => D 11 r) lk (D 0 12 + nI 1) := by rw [hE, hl, hp, hn]; rfl
  rw [← hp, ← hn] at hc
  have hb : nR D + l.length ≤ 40 := by omega
  have nE : nR E = n + l.length := by rw [hEd, dupF_nR hb]; omega
  have eo' : ∀ {c a}, a < n → c ≠ 0 → E c a = D c a := fun ha hc0 => by rw [hEd]; exact dupF_old (by omega) hc0
  have en : ∀ {c j}, j < l.length → 6 ≤ c ∧ c < 16 → E c (n + j) = dupV D lk (fxD D sp (rrr l j)) (D 11 (rrr l j)) (rrr l j) j c := fun hj hc0 => by rw [hEd, hn]; exact dupF_new hj hc0
  have e6 : ∀ {j}, j < l.length → E 6 (n + j) = nI (mk D + j) := fun hj => by rw [en hj (by decide)]; unfold dupV; rw [if_pos rfl, mk1, nI_add]
  have e7 : ∀ {j}, j < l.length → E 7 (n + j) = nI s := fun hj => by rw [en hj (by decide)]; unfold dupV; rw [if_neg (by decide), if_pos rfl, hs]
  have e8 : ∀ {j}, j < l.length → E 8 (n + j) = D 8 (rrr l j) := fun hj => by rw [en hj (by decide)]; unfold dupV; simp
  have e9 : ∀ {j}, j < l.length → E 9 (n + j) = D 9 (rrr l j) := fun hj => by rw [en hj (by decide)]; unfold dupV; simp
  have e10 : ∀ {j}, j < l.length → E 10 (n + j) = fxD D sp (rrr l j) := fun hj => by rw [en hj (by decide)]; unfold dupV; simp
  have e11 : ∀ {j}, j < l.length → E 11 (n + j) = D 11 (rrr l j) := fun hj => by rw [en hj (by decide)]; unfold dupV; simp
  have e12 : ∀ {j}, j < l.length → E 12 (n + j) = (if lk = true then nI 0 else D 12 (rrr l j)) := fun hj => by rw [en hj (by decide)]; unfold dupV; simp
  have e13 : ∀ {j}, j < l.length → E 13 (n + j) = (if lk = true ∧ ¬ D 12 (rrr l j) = nI 0 then D 12 (rrr l j) else D 13 (rrr l j)) := fun hj => by rw [en hj (by decide)]; unfold dupV; simp
  have e14 : ∀ {j}, j < l.length → E 14 (n + j) = D 14 (rrr l j) := fun hj => by rw [en hj (by decide)]; unfold dupV; simp
  have e15 : ∀ {j}, j < l.length → E 15 (n + j) = (if lk = true then nI 1 else D 15 (rrr l j)) := fun hj => by rw [en hj (by decide)]; unfold dupV; simp
  have e013 : E 0 13 = nI (mk D + l.length) := by rw [hEd]; unfold dupF; rw [if_pos rfl, if_neg (by decide), if_pos rfl, mk1, nI_add]
  have e012 : E 0 12 = nI (s + 1) := by rw [hEd]; unfold dupF; rw [if_pos rfl, if_neg (by decide), if_neg (by decide), if_pos rfl, hs, nI_add]
  have e014 : E 0 14 = D 0 14 := by rw [hEd]; unfold dupF; rw [if_pos rfl, if_neg (by decide), if_neg (by decide), if_neg (by decide)]
  have sv : SameV D E := by rw [hEd]; exact dupF_sv
  have emk : mk E = mk D + l.length := by unfold mk; rw [e013, nI_clamp (by omega)]; rfl
  have cs : ∀ {a}, a < nR E → a < n ∨ ∃ j, j < l.length ∧ a = n + j := fun {a} ha => by
    by_cases h1 : a < n
    · exact Or.inl h1
    · exact Or.inr ⟨a - n, by omega, by omega⟩
  have nmo : ∀ {a}, a < n → nmr E a = nmr D a := fun ha => by unfold nmr; rw [eo' ha (by decide)]
  have nmn : ∀ {j}, j < l.length → nmr E (n + j) = mk D + j := fun hj => by unfold nmr; rw [e6 hj, nI_clamp (by omega)]
  have cwE : CW E M := by
    refine ⟨by rw [hEd]; exact dupF_rok hb, cw.2.1.same sv, ⟨by rw [e013, emk], by rw [emk, nE]; omega, mk3, fun a ha => ?_⟩, fun a ha => ?_⟩
    · rcases cs ha with h1 | ⟨j, hj, rfl⟩
      · rw [eo' h1 (by decide), nmo h1, emk]
        obtain ⟨q1, q2, q3⟩ := mk4 a (by omega)
        exact ⟨q1, by omega, fun b hb2 => by rw [nmo (by omega)]; exact q3 b hb2⟩
      · rw [e6 hj, nmn hj, emk]
        refine ⟨rfl, by omega, fun b hb2 => ?_⟩
        rcases cs (show b < nR E by omega) with h2 | ⟨j2, hj2, rfl⟩
        · rw [nmo h2]
          have := (mk4 b (by omega)).2.1
          omega
        · rw [nmn hj2]; omega
    · rw [sameV_nV sv]
      rcases cs ha with h1 | ⟨j, hj, rfl⟩
      · rw [eo' h1 (by decide), eo' h1 (by decide)]; exact cw.2.2.2 a (by omega)
      · rw [e8 hj, e9 hj]; exact cw.2.2.2 _ (by have := (pA hj).1; omega)
  have uqE : ∀ {a b}, a < nR E → b < nR E → E 6 a = E 6 b → a = b := fun ha hb2 e => cwE.2.2.1.uq cwE.1.2 ha hb2 e
  -- what copies stand on
  have fx : ∀ {j}, j < l.length → (D 10 (rrr l j) = -nI 1 ∧ fxD D sp (rrr l j) = -nI 1) ∨ ∃ u, u < n ∧ D 10 (rrr l j) = D 6 u ∧ p u = true ∧ cntF p u < l.length ∧ fxD D sp (rrr l j) = E 6 (n + cntF p u) := fun {j} hj => by
    obtain ⟨r1, r2, r3⟩ := pA hj
    rcases h.ok _ (show rrr l j < nR D by omega) with q | ⟨u, hu, q⟩
    · exact Or.inl ⟨q, by unfold fxD; rw [if_pos q]⟩
    · have hpu : p u = true := hpi ((h.sc _ u (by omega) hu q).symm.trans (hpe r2))
      obtain ⟨b1, b2⟩ := pB (show u < n by omega) hpu
      refine Or.inr ⟨u, by omega, q, hpu, b1, ?_⟩
      rw [e6 b1]
      unfold fxD
      rw [if_neg (by rw [q]; exact num_ne cw hu), up_of cw hu q, ← hp, mk1, nI_add]
      rfl
  have old10 : ∀ {a j}, a < n → j < l.length → ¬ D 10 a = nI (mk D + j) := fun {a j} ha hj q => by
    rcases h.ok a (by omega) with w | ⟨u, hu, w⟩
    · rw [w] at q; exact nI_ne1 (by omega) q.symm
    · have h1 := mk4 u hu
      rw [w, h1.1, nI_eq (by omega) (by omega)] at q
      omega
  rw [← hE]
  refine ⟨cwE, fun a ha => ?_, ?_, fun a ha => ?_, fun a ha => ?_, ?_, fun a b ha hb2 h0 x1 x2 => ?_, fun a b ha hb2 x1 => ?_, fun a ha x1 => ?_, ?_⟩
  · rcases cs ha with h1 | ⟨j, hj, rfl⟩
    · rw [eo' h1 (by decide), eo' h1 (by decide)]; exact h.gn a (by omega)
    · obtain ⟨r1, -, -⟩ := pA hj
      have g := h.gn (rrr l j) (by omega)
      rw [e12 hj, e13 hj]
      refine ⟨?_, ?_⟩
      · split
        · exact Int32.lt_irrefl
        · exact g.1
      · split
        · exact g.1
        · exact g.2
  · unfold GRL
    rw [e014]; exact h.gl
  · rcases cs ha with h1 | ⟨j, hj, rfl⟩
    · rw [eo' h1 (by decide), eo' h1 (by decide)]; exact h.bt a (by omega)
    · obtain ⟨r1, -, -⟩ := pA hj
      have g := h.bt (rrr l j) (by omega)
      rw [e14 hj, e15 hj]
      refine ⟨g.1, ?_⟩
      split
      · exact Or.inr rfl
      · exact g.2
  · rcases cs ha with h1 | ⟨j, hj, rfl⟩
    · rw [eo' h1 (by decide)]
      rcases h.ok a (by omega) with q | ⟨u, hu, q⟩
      · exact Or.inl q
      · exact Or.inr ⟨u, by omega, by rw [eo' (by omega) (by decide)]; exact q⟩
    · rw [e10 hj]
      rcases fx hj with ⟨-, q⟩ | ⟨u, u1, u2, u3, u4, u5⟩
      · exact Or.inl q
      · exact Or.inr ⟨n + cntF p u, by omega, u5⟩
  · obtain ⟨rk, hrk⟩ := h.rk
    refine ⟨fun z => if z < n then rk z else rk (rrr l (z - n)), fun a u ha hu x1 => ?_⟩
    show (if u < n then rk u else rk (rrr l (u - n))) < (if a < n then rk a else rk (rrr l (a - n)))
    rcases cs ha with h1 | ⟨j, hj, rfl⟩
    · rw [eo' h1 (by decide)] at x1
      rcases cs hu with h2 | ⟨j2, hj2, rfl⟩
      · rw [eo' h2 (by decide)] at x1
        rw [if_pos h1, if_pos h2]; exact hrk a u (by omega) (by omega) x1
      · rw [e6 hj2] at x1; exact absurd x1 (old10 h1 hj2)
    · rw [e10 hj] at x1
      rcases fx hj with ⟨-, q⟩ | ⟨u', u1, u2, u3, u4, u5⟩
      · rw [q] at x1; exact absurd x1.symm (num_ne cwE hu)
      · rw [u5] at x1
        have := uqE (by omega) hu x1
        subst this
        obtain ⟨b1, b2⟩ := pB u1 u3
        rw [if_neg (by omega), if_neg (by omega), Nat.add_sub_cancel_left, Nat.add_sub_cancel_left, b2]
        exact hrk _ u' (by have := (pA hj).1; omega) (by omega) u2
  · rcases cs ha with h1 | ⟨j, hj, rfl⟩
    · rw [eo' h1 (by decide)] at h0 x1
      rw [eo' h1 (by decide)] at x2
      rcases cs hb2 with h2 | ⟨j2, hj2, rfl⟩
      · rw [eo' h2 (by decide)] at x1 x2
        exact h.uq a b (by omega) (by omega) h0 x1 x2
      · rw [e10 hj2] at x1
        rcases fx hj2 with ⟨-, q⟩ | ⟨u', u1, u2, u3, u4, u5⟩
        · rw [q] at x1; exact absurd x1 h0
        · rw [u5, e6 u4] at x1; exact absurd x1 (old10 h1 u4)
    · rw [e10 hj] at h0 x1
      rw [e11 hj] at x2
      rcases fx hj with ⟨-, q⟩ | ⟨u', u1, u2, u3, u4, u5⟩
      · exact absurd q h0
      · rcases cs hb2 with h2 | ⟨j2, hj2, rfl⟩
        · rw [eo' h2 (by decide), u5, e6 u4] at x1; exact absurd x1.symm (old10 h2 u4)
        · rw [e10 hj2] at x1
          rw [e11 hj2] at x2
          rcases fx hj2 with ⟨-, q⟩ | ⟨v', v1, v2, v3, v4, v5⟩
          · rw [q] at x1; exact absurd x1 h0
          · rw [u5, v5] at x1
            have hx := uqE (by omega) (by omega) x1
            have hx2 : cntF p u' = cntF p v' := by omega
            have hx3 : u' = v' := by rw [← (pB u1 u3).2, ← (pB v1 v3).2, hx2]
            have hr := h.uq (rrr l j) (rrr l j2) (by have := (pA hj).1; omega) (by have := (pA hj2).1; omega) (by rw [u2]; exact num_ne cw (by omega)) (by rw [u2, v2, hx3]) x2
            have : j = j2 := by rw [← (pA hj).2.2, ← (pA hj2).2.2, hr]
            rw [this]
  · rcases cs ha with h1 | ⟨j, hj, rfl⟩
    · rw [eo' h1 (by decide)] at x1
      rw [eo' h1 (by decide)]
      rcases cs hb2 with h2 | ⟨j2, hj2, rfl⟩
      · rw [eo' h2 (by decide)] at x1
        rw [eo' h2 (by decide)]; exact h.sc a b (by omega) (by omega) x1
      · rw [e6 hj2] at x1; exact absurd x1 (old10 h1 hj2)
    · rw [e10 hj] at x1
      rcases fx hj with ⟨-, q⟩ | ⟨u', u1, u2, u3, u4, u5⟩
      · rw [q] at x1; exact absurd x1.symm (num_ne cwE hb2)
      · rw [u5] at x1
        have := uqE (by omega) hb2 x1
        subst this
        rw [e7 hj, e7 u4]
  · rcases cs ha with h1 | ⟨j, hj, rfl⟩
    · rw [eo' h1 (by decide)] at x1 ⊢
      exact h.rt a (by omega) x1
    · rw [e10 hj] at x1
      rw [e11 hj]
      rcases fx hj with ⟨q, -⟩ | ⟨u', u1, u2, u3, u4, u5⟩
      · exact h.rt _ (by have := (pA hj).1; omega) q
      · rw [u5] at x1; exact absurd x1 (num_ne cwE (by omega))
  · obtain ⟨s', t1, t2, t3, t4, t5⟩ := h.sp
    have hss : s' = s := by rw [hs, nI_eq (by omega) (by omega)] at t1; exact t1.symm
    subst hss
    refine ⟨s' + 1, e012, by omega, by omega, fun a ha => ?_, fun z hz => ?_⟩
    · rcases cs ha with h1 | ⟨j, hj, rfl⟩
      · rw [eo' h1 (by decide)]
        obtain ⟨z, z1, z2⟩ := t4 a (by omega)
        exact ⟨z, by omega, z2⟩
      · rw [e7 hj]; exact ⟨s', by omega, rfl⟩
    · by_cases hzs : z = s'
      · subst hzs
        obtain ⟨a, r1, r2, r3, r4⟩ := t5 z0 hz0
        have hpa : p a = true := hpi (by rw [hsp]; exact r2)
        obtain ⟨b1, b2⟩ := pB (show a < n by omega) hpa
        refine ⟨n + cntF p a, by omega, e7 b1, ?_, fun b hb2 x1 x2 => ?_⟩
        · rw [e10 b1, b2]
          unfold fxD
          rw [if_pos r3]
        · rcases cs hb2 with h2 | ⟨j2, hj2, rfl⟩
          · rw [eo' h2 (by decide)] at x1
            obtain ⟨z, z1, z2⟩ := t4 b (by omega)
            rw [z2, nI_eq (by omega) (by omega)] at x1
            omega
          · rw [e10 hj2] at x2
            rcases fx hj2 with ⟨q, -⟩ | ⟨u', u1, u2, u3, u4, u5⟩
            · have := r4 (rrr l j2) (by have := (pA hj2).1; omega) (by rw [← hsp]; exact hpe (pA hj2).2.1) q
              rw [← this, (pA hj2).2.2]
            · rw [u5] at x2; exact absurd x2 (num_ne cwE (by omega))
      · obtain ⟨a, r1, r2, r3, r4⟩ := t5 z (by omega)
        refine ⟨a, by omega, by rw [eo' (by omega) (by decide)]; exact r2, by rw [eo' (by omega) (by decide)]; exact r3, fun b hb2 x1 x2 => ?_⟩
        rcases cs hb2 with h2 | ⟨j2, hj2, rfl⟩
        · rw [eo' h2 (by decide)] at x1 x2
          exact r4 b (by omega) x1 x2
        · rw [e7 hj2, nI_eq (by omega) (by omega)] at x1
          omega
theorem WF.cps (h : WF D M B) (hsp : ∃ z0, sp = nI z0 ∧ ∀ s, D 0 12 = nI s → s ≤ 4 → z0 < s) : WF (aCps D sp lk).2 M B := by
  obtain ⟨z0, e0, h0⟩ := hsp
  obtain ⟨s', t1, t2, t3⟩ := h.spn
  unfold aCps
  split
  · exact h
  · rename_i h4
    split
    · exact h
    · rename_i hc
      have h5 : s' ≠ 4 := fun q => h4 (by rw [t1, q])
      show WF (aDup D sp lk) M B
      exact h.dup t1 (by omega) (h0 s' t1 t3) e0 (by omega)
end WFC
