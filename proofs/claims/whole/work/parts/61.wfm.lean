/-! WHAT STAYS WELL-FORMED: a kind, a move, a row taken away -/
section WFM
variable {D E : Nat → Nat → Int32} {M B : Nat} {dd kd : Int32} {m x : Nat}
theorem WF.rb (h : WF D M B) {v : Int32} (hv : v = nI 0 ∨ v = nI 1) : WF (dU D 14 x v) M B := by
  have e : ∀ {c a}, c ≠ 14 → dU D 14 x v c a = D c a := fun hc => dU_nc hc
  refine h.sm (h.cw.du (by omega)) (nR_dU (by omega)) (e (by decide)) (fun _ => e (by decide)) (fun _ => e (by decide)) (fun _ => e (by decide)) (fun _ => e (by decide)) (fun a ha => ?_) ?_ (fun a ha => ?_)
  · rw [nR_dU (by omega)] at ha; rw [e (by decide), e (by decide)]; exact h.gn a ha
  · unfold GRL
    rw [e (by decide)]
    exact h.gl
  · rw [nR_dU (by omega)] at ha
    refine ⟨?_, by rw [e (by decide)]; exact (h.bt a ha).2⟩
    by_cases hax : a = x
    · rw [dU_e rfl hax]; exact hv
    · rw [dU_nk hax]; exact (h.bt a ha).1
theorem WF.rm (h : WF D M B) {v : Int32} (hv : ¬ v < nI 0) : WF (dU D 13 x v) M B := by
  have e : ∀ {c a}, c ≠ 13 → dU D 13 x v c a = D c a := fun hc => dU_nc hc
  refine h.sm (h.cw.du (by omega)) (nR_dU (by omega)) (e (by decide)) (fun _ => e (by decide)) (fun _ => e (by decide)) (fun _ => e (by decide)) (fun _ => e (by decide)) (fun a ha => ?_) ?_ (fun a ha => ?_)
  · rw [nR_dU (by omega)] at ha
    refine ⟨by rw [e (by decide)]; exact (h.gn a ha).1, ?_⟩
    by_cases hax : a = x
    · rw [dU_e rfl hax]; exact hv
    · rw [dU_nk hax]; exact (h.gn a ha).2
  · unfold GRL
    rw [e (by decide)]
    exact h.gl
  · rw [nR_dU (by omega)] at ha; rw [e (by decide), e (by decide)]; exact h.bt a ha
theorem WF.mak (h : WF D M B) (hB : B + 100 < 2 ^ 30) (hx : x < nR D) : WF (aMak D x kd) M (B + 41) := by
  have hb : (if kd = nI 3 then nI 1 else nI 0) = nI 0 ∨ (if kd = nI 3 then nI 1 else nI 0) = nI 1 := by
    split
    · exact Or.inr rfl
    · exact Or.inl rfl
  obtain ⟨b, g1, g2⟩ := h.gl
  have hm := h.mono (show B ≤ B + 41 by omega)
  unfold aMak
  split
  · split
    · rw [g1, nI_add]
      exact ((h.rb hb).lg (by omega)).rg (nI_nn (by omega))
    · exact hm.rb hb
  · split
    · split
      · exact ((hm.rb hb).rm (h.gn x hx).1).rg Int32.lt_irrefl
      · exact (hm.rb hb).rg Int32.lt_irrefl
    · exact ((hm.rb hb).rm Int32.lt_irrefl).rg Int32.lt_irrefl
theorem und_all (h : WF D M B) (rk : Nat → Nat) (hrk : ∀ a u, a < nR D → u < nR D → D 10 a = D 6 u → rk u < rk a) : ∀ k f z (L : List Nat), L.length + k = 40 → L.Nodup → (∀ y ∈ L, y < nR D ∧ rk z < rk y) → z < nR D → und D x f (some z) = true → und D x k (some z) = true := by
  intro k
  induction k with
  | zero =>
    intro f z L hL hd hl hz _
    have := nodup_len (nR D) (z :: L) (List.nodup_cons.mpr ⟨fun hm => Nat.lt_irrefl _ (hl z hm).2, hd⟩) (fun y hy => by
      rcases List.mem_cons.mp hy with q | q
      · rw [q]; exact hz
      · exact (hl y q).1)
    rw [List.length_cons] at this
    have := h.n40
    omega
  | succ k ih =>
    intro f z L hL hd hl hz hu
    cases f with
    | zero => exact absurd hu Bool.false_ne_true
    | succ f =>
      unfold und at hu ⊢
      by_cases hzx : z = x
      · rw [if_pos hzx]
      · rw [if_neg hzx] at hu ⊢
        cases ho : up D z with
        | none =>
          rw [ho] at hu
          cases f <;> exact absurd hu Bool.false_ne_true
        | some u =>
          rw [ho] at hu
          have hun := up_lt ho
          have hlt := hrk z u hz hun (up_eq ho)
          refine ih f u (z :: L) (by rw [List.length_cons]; omega) (List.nodup_cons.mpr ⟨fun hm => Nat.lt_irrefl _ (hl z hm).2, hd⟩) (fun y hy => ?_) hun hu
          rcases List.mem_cons.mp hy with q | q
          · rw [q]; exact ⟨hz, hlt⟩
          · exact ⟨(hl y q).1, Nat.lt_trans hlt (hl y q).2⟩
noncomputable def bel (D : Nat → Nat → Int32) (x z : Nat) : Bool := @decide (∃ f, und D x f (some z) = true) (Classical.propDecidable _)
theorem bel_iff {D : Nat → Nat → Int32} {x z : Nat} : bel D x z = true ↔ ∃ f, und D x f (some z) = true := by
  unfold bel
  exact @decide_eq_true_iff _ (Classical.propDecidable _)
theorem bel_up (h : WF D M B) {a u : Nat} (hax : a ≠ x) (hu : u < nR D) (e : D 10 a = D 6 u) : bel D x a = bel D x u := by
  have hup := up_of h.cw hu e
  refine bool_iff ?_
  rw [bel_iff, bel_iff]
  refine ⟨fun ⟨f, hf⟩ => ?_, fun ⟨f, hf⟩ => ⟨f + 1, ?_⟩⟩
  · cases f with
    | zero => exact absurd hf Bool.false_ne_true
    | succ f =>
      unfold und at hf
      rw [if_neg hax, hup] at hf
      exact ⟨f, hf⟩
  · unfold und
    rw [if_neg hax, hup]
    exact hf
theorem WF.std (h : WF D M B) (hx : x < nR D) (hm : m < nR D) (hxm : x ≠ m) (hu : ¬ und D x 40 (some m) = true) (hr : ¬ D 10 x = -nI 1) (ho : onP D m dd = none) (hs : D 7 x = D 7 m) : WF (aStd D m x dd) M B := by
  have e : ∀ {c a}, c ≠ 10 ∧ c ≠ 11 → aStd D m x dd c a = D c a := fun hc => aStd_c hc
  have ek : ∀ {c a}, a ≠ x → aStd D m x dd c a = D c a := fun hc => aStd_k hc
  have x10 : aStd D m x dd 10 x = D 6 m := by unfold aStd; rw [dU_nc (by decide), dU_e rfl rfl]
  have x11 : aStd D m x dd 11 x = dd := by unfold aStd; rw [dU_e rfl rfl]
  have nE : nR (aStd D m x dd) = nR D := aStd_nR
  have cw := h.cw
  have noP : ∀ b, b < nR D → D 10 b = D 6 m → D 11 b = dd → False := fun b hb e1 e2 => of_decide_eq_false (fst9_none ho b hb) ⟨e1, e2⟩
  refine ⟨(cw.du (Or.inr (by decide))).du (Or.inr (by decide)), fun a ha => ?_, ?_, fun a ha => ?_, fun a ha => ?_, ?_, fun a b ha hb h0 e1 e2 => ?_, fun a b ha hb e1 => ?_, fun a ha e1 => ?_, ?_⟩
  · rw [nE] at ha; rw [e (by decide), e (by decide)]; exact h.gn a ha
  · unfold GRL
    rw [e (by decide)]; exact h.gl
  · rw [nE] at ha; rw [e (by decide), e (by decide)]; exact h.bt a ha
  · rw [nE] at ha ⊢
    by_cases hax : a = x
    · rw [hax, x10]; exact Or.inr ⟨m, hm, (e (by decide)).symm⟩
    · rw [ek hax]
      rcases h.ok a ha with q | ⟨u, hu, q⟩
      · exact Or.inl q
      · exact Or.inr ⟨u, hu, by rw [e (by decide)]; exact q⟩
  · obtain ⟨rk, hrk⟩ := h.rk
    have bx : bel D x x = true := bel_iff.mpr ⟨1, by unfold und; rw [if_pos rfl]⟩
    have bm : bel D x m = false := Bool.eq_false_iff.mpr (fun q => by
      obtain ⟨f, hf⟩ := bel_iff.mp q
      exact hu (und_all h rk hrk 40 f m [] rfl List.nodup_nil (fun y hy => nomatch hy) hm hf))
    refine ⟨fun z => rk z + (bif bel D x z then rk m + 1 else 0), fun a u ha hun e1 => ?_⟩
    rw [nE] at ha hun
    rw [e (c := 6) (by decide)] at e1
    show rk u + (bif bel D x u then rk m + 1 else 0) < rk a + (bif bel D x a then rk m + 1 else 0)
    by_cases hax : a = x
    · rw [hax, x10] at e1
      have := cw.2.2.1.uq h.n40 hm hun e1
      rw [hax, ← this, bx, bm]
      show rk m + 0 < rk x + (rk m + 1)
      omega
    · rw [ek hax] at e1
      rw [bel_up h hax hun e1]
      have := hrk a u ha hun e1
      omega
  · rw [nE] at ha hb
    by_cases hax : a = x
    · by_cases hbx : b = x
      · rw [hax, hbx]
      · rw [hax, x10, ek hbx] at e1
        rw [hax, x11, ek hbx] at e2
        exact (noP b hb e1.symm e2.symm).elim
    · by_cases hbx : b = x
      · rw [hbx, x10, ek hax] at e1
        rw [hbx, x11, ek hax] at e2
        exact (noP a ha e1 e2).elim
      · rw [ek hax] at h0
        rw [ek hax, ek hbx] at e1 e2
        exact h.uq a b ha hb h0 e1 e2
  · rw [nE] at ha hb
    rw [e (c := 6) (by decide)] at e1
    rw [e (c := 7) (by decide), e (c := 7) (by decide)]
    by_cases hax : a = x
    · rw [hax, x10] at e1
      rw [hax, ← cw.2.2.1.uq h.n40 hm hb e1]; exact hs
    · rw [ek hax] at e1
      exact h.sc a b ha hb e1
  · rw [nE] at ha
    by_cases hax : a = x
    · rw [hax, x10] at e1; exact absurd e1 (num_ne cw hm)
    · rw [ek hax] at e1 ⊢; exact h.rt a ha e1
  · obtain ⟨s, s1, s2, s3, s4, s5⟩ := h.sp
    refine ⟨s, by rw [e (by decide)]; exact s1, s2, s3, fun a ha => by rw [nE] at ha; rw [e (by decide)]; exact s4 a ha, fun z hz => ?_⟩
    obtain ⟨a, r1, r2, r3, r4⟩ := s5 z hz
    have hax : a ≠ x := fun q => hr (by rw [← q]; exact r3)
    refine ⟨a, by rw [nE]; exact r1, by rw [e (by decide)]; exact r2, by rw [ek hax]; exact r3, fun b hb e1 e2 => ?_⟩
    rw [nE] at hb
    rw [e (by decide)] at e1
    by_cases hbx : b = x
    · rw [hbx, x10] at e2; exact absurd e2 (num_ne cw hm)
    · rw [ek hbx] at e2; exact r4 b hb e1 e2
theorem WF.mov (h : WF D M B) (hB : B + 100 < 2 ^ 30) (hx : x < nR D) (hm : m < nR D) : WF (aMov D x m dd).2 M (B + 41) := by
  unfold aMov
  by_cases h0 : aRef D x m dd = nI 0
  · rw [if_neg (fun q => q h0)]
    split
    · exact h.mono (by omega)
    · rename_i hc
      have hxm := aRef_ne h0
      show WF (aSpr D (aStd D m x dd) m x dd) M (B + 41)
      have hP := PUT_std (dd := dd) h.cw h.gn (h.gb (by omega)) h.uq hx hm hxm (by omega)
      unfold aRef at h0
      have bad : ∀ {k : Nat}, k < 8 → ¬ -nI (k + 1) = nI 0 := fun hk => by
        intro q
        have hh : ∀ k : Fin 8, ¬ -nI (k.1 + 1) = nI 0 := by decide +kernel
        exact hh ⟨_, hk⟩ q
      split at h0
      · exact absurd h0 (bad (k := 0) (by decide))
      · rename_i ho
        split at h0
        · exact absurd h0 (bad (k := 1) (by decide))
        · split at h0
          · exact absurd h0 (bad (k := 2) (by decide))
          · split at h0
            · exact absurd h0 (bad (k := 3) (by decide))
            · rename_i u hu
              split at h0
              · exact absurd h0 (bad (k := 4) (by decide))
              · split at h0
                · exact absurd h0 (bad (k := 5) (by decide))
                · split at h0
                  · exact absurd h0 (bad (k := 6) (by decide))
                  · rename_i hc7
                    refine WF.spread (h.std hx hm hxm (fun q => hc7 (Or.inr q)) (fun q => ?_) (isSome_no ho) (Decidable.byContradiction fun q => hc7 (Or.inl q))) hP hB
                    rw [up_no h.cw (by rw [q]; exact nI_neg1)] at hu
                    cases hu
  · rw [if_pos h0]
    exact h.mono (by omega)
end WFM
