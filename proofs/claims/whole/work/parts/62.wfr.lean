/-! WHAT STAYS WELL-FORMED: a row removed, an unmount -/
def sh (q a : Nat) : Nat := if a < q then a else a + 1
section WFR
variable {D : Nat → Nat → Int32} {M B : Nat} {q x : Nat}
theorem aRem_sh {n c a : Nat} (hc : 6 ≤ c ∧ c < 16) (ha : a + 1 < n) : aRem D q n c a = D c (sh q a) := by
  unfold aRem sh
  by_cases h : a < q
  · rw [if_neg (by omega), if_neg (by omega), if_pos h]
  · rw [if_pos ⟨hc.1, hc.2, by omega, ha⟩, if_neg h]
theorem sh_ne {a : Nat} : sh q a ≠ q := by
  unfold sh
  split <;> omega
theorem sh_lt {a b : Nat} (h : a < b) : sh q a < sh q b := by
  unfold sh
  split <;> split <;> omega
theorem sh_inj {a b : Nat} (h : sh q a = sh q b) : a = b := by
  unfold sh at h
  split at h <;> split at h <;> omega
theorem sh_n {a n : Nat} (h : a + 1 < n) : sh q a < n := by
  unfold sh
  split <;> omega
theorem sh_of {u n : Nat} (hu : u < n) (hq : q < n) (h : u ≠ q) : ∃ a, a + 1 < n ∧ sh q a = u := by
  by_cases h2 : u < q
  · exact ⟨u, by omega, by unfold sh; rw [if_pos h2]⟩
  · exact ⟨u - 1, by omega, by unfold sh; rw [if_neg (by omega)]; omega⟩
theorem CW.rem (h : CW D M) (hq : q < nR D) (hM : M + 101 < 2 ^ 31) : CW (aRem D q (nR D)) (M + 1) := by
  have n40 := h.1.2
  have hr : nR (aRem D q (nR D)) = nR D - 1 := nR_aRem n40
  obtain ⟨b1, b2, b3, b4⟩ := h.2.2.1
  have e13 : aRem D q (nR D) 0 13 = D 0 13 := aRem_0 (by decide)
  have emk : mk (aRem D q (nR D)) = mk D := by unfold mk; rw [e13]
  refine ⟨rok_aRem n40, h.2.1.same sameV_aRem, ⟨by rw [e13, emk]; exact b1, by rw [emk, hr]; omega, by omega, fun a ha => ?_⟩, fun a ha => ?_⟩
  · rw [hr] at ha
    have hs := sh_n (q := q) (show a + 1 < nR D by omega)
    have e6 : aRem D q (nR D) 6 a = D 6 (sh q a) := aRem_sh (by decide) (by omega)
    have en : nmr (aRem D q (nR D)) a = nmr D (sh q a) := by unfold nmr; rw [e6]
    rw [e6, en, emk]
    refine ⟨(b4 _ hs).1, (b4 _ hs).2.1, fun b hb => ?_⟩
    have eb : nmr (aRem D q (nR D)) b = nmr D (sh q b) := by unfold nmr; rw [aRem_sh (by decide) (by omega)]
    rw [eb]
    exact (b4 _ hs).2.2 _ (sh_lt hb)
  · rw [hr] at ha
    rw [sameV_nV sameV_aRem, aRem_sh (by decide) (by omega), aRem_sh (by decide) (by omega)]
    exact h.2.2.2 _ (sh_n (by omega))
theorem bsy_no (h : bsy D q = false) {a : Nat} (ha : a < nR D) : ¬ D 10 a = D 6 q := fun e => by
  have : (fst9 (nR D) fun o => decide (D 10 o = D 6 q)) = none := isSome_no (by unfold bsy at h; rw [h]; exact Bool.false_ne_true)
  exact of_decide_eq_false (fst9_none this a ha) e
theorem WF.rem (h : WF D M B) (hq : q < nR D) (hb : bsy D q = false) (hr : ¬ D 10 q = -nI 1) (hM : M + 101 < 2 ^ 31) : WF (aRem D q (nR D)) (M + 1) B := by
  have n40 := h.n40
  have nE : nR (aRem D q (nR D)) = nR D - 1 := nR_aRem n40
  have e : ∀ {c a}, 6 ≤ c ∧ c < 16 → a < nR D - 1 → aRem D q (nR D) c a = D c (sh q a) := fun hc ha => aRem_sh hc (by omega)
  have s : ∀ {a}, a < nR D - 1 → sh q a < nR D := fun ha => sh_n (by omega)
  refine ⟨h.cw.rem hq hM, fun a ha => ?_, ?_, fun a ha => ?_, fun a ha => ?_, ?_, fun a b ha hb' h0 e1 e2 => ?_, fun a b ha hb' e1 => ?_, fun a ha e1 => ?_, ?_⟩
  · rw [nE] at ha; rw [e (by decide) ha, e (by decide) ha]; exact h.gn _ (s ha)
  · unfold GRL
    rw [aRem_0 (by decide)]; exact h.gl
  · rw [nE] at ha; rw [e (by decide) ha, e (by decide) ha]; exact h.bt _ (s ha)
  · rw [nE] at ha ⊢
    rw [e (by decide) ha]
    rcases h.ok _ (s ha) with z | ⟨u, hu, z⟩
    · exact Or.inl z
    · have huq : u ≠ q := fun w => bsy_no hb (s ha) (z.trans (congrArg (D 6) w))
      obtain ⟨v, v1, v2⟩ := sh_of hu hq huq
      exact Or.inr ⟨v, by omega, by rw [e (by decide) (by omega), v2]; exact z⟩
  · obtain ⟨rk, hrk⟩ := h.rk
    refine ⟨fun z => rk (sh q z), fun a u ha hu e1 => ?_⟩
    rw [nE] at ha hu
    rw [e (by decide) ha, e (by decide) hu] at e1
    exact hrk _ _ (s ha) (s hu) e1
  · rw [nE] at ha hb'
    rw [e (by decide) ha] at h0
    rw [e (by decide) ha, e (by decide) hb'] at e1 e2
    exact sh_inj (h.uq _ _ (s ha) (s hb') h0 e1 e2)
  · rw [nE] at ha hb'
    rw [e (by decide) ha, e (by decide) hb'] at e1
    rw [e (by decide) ha, e (by decide) hb']
    exact h.sc _ _ (s ha) (s hb') e1
  · rw [nE] at ha
    rw [e (by decide) ha] at e1 ⊢
    exact h.rt _ (s ha) e1
  · obtain ⟨t, s1, s2, s3, s4, s5⟩ := h.sp
    refine ⟨t, by rw [aRem_0 (by decide)]; exact s1, s2, s3, fun a ha => by rw [nE] at ha; rw [e (by decide) ha]; exact s4 _ (s ha), fun z hz => ?_⟩
    obtain ⟨a, r1, r2, r3, r4⟩ := s5 z hz
    have haq : a ≠ q := fun w => hr (by rw [← w]; exact r3)
    obtain ⟨v, v1, v2⟩ := sh_of r1 hq haq
    refine ⟨v, by rw [nE]; omega, by rw [e (by decide) (by omega), v2]; exact r2, by rw [e (by decide) (by omega), v2]; exact r3, fun b hb' e1 e2 => ?_⟩
    rw [nE] at hb'
    rw [e (by decide) hb'] at e1 e2
    exact sh_inj (q := q) ((r4 _ (s hb') e1 e2).trans v2.symm)
theorem CW.mM (h : CW D M) {M' : Nat} (h1 : M ≤ M') (h2 : M' + 100 < 2 ^ 31) : CW D M' := by
  obtain ⟨a, b, ⟨c, d, e, f⟩, g⟩ := h
  exact ⟨a, b, ⟨c, by omega, h2, f⟩, g⟩
theorem WF.mM (h : WF D M B) {M' : Nat} (h1 : M ≤ M') (h2 : M' + 100 < 2 ^ 31) : WF D M' B := ⟨h.1.mM h1 h2, h.2⟩
theorem WF.cutA {dd v top nf : Int32} (h : WF D M B) (hM : M + 101 < 2 ^ 31) : WF (rmA dd v top D nf) (M + 1) B := by
  unfold rmA
  cases ho : rmO dd v top D nf with
  | none => exact h.mM (by omega) (by omega)
  | some y =>
    unfold rmO at ho
    cases hf : fst9 (nR D) (fun r => decide (D 6 r = nf)) with
    | none => rw [hf] at ho; cases ho
    | some f =>
      rw [hf] at ho
      dsimp only at ho
      have hfn := (fst9_some hf).1
      cases hy : onP D f dd with
      | none => rw [hy] at ho; cases ho
      | some z =>
        rw [hy] at ho
        dsimp only at ho
        obtain ⟨z1, z2, z3⟩ := onP_on hy
        split at ho
        · rename_i hc
          cases ho
          exact h.rem z1 hc.2.2.2 (by rw [z2]; exact num_ne h.cw hfn) hM
        · cases ho
theorem WF.cutS {dd v top : Int32} : ∀ (l : List Int32) (p : (Nat → Nat → Int32) × Nat) (M : Nat), WF p.1 M B → M + l.length + 100 < 2 ^ 31 → WF (l.foldl (rmS dd v top) p).1 (M + l.length) B := by
  intro l
  induction l with
  | nil => intro p M h _; exact h
  | cons a r ih =>
    intro p M h hM
    rw [List.length_cons] at hM ⊢
    have := ih (rmS dd v top p a) (M + 1) (h.cutA (by omega)) (by omega)
    rw [show M + (r.length + 1) = M + 1 + r.length by omega]
    exact this
theorem WF.unm (h : WF D M B) (hx : x < nR D) (hM : M + 200 < 2 ^ 31) : WF (aUnm D x).2 (M + 41) B := by
  have n40 := h.n40
  unfold aUnm
  split
  · exact h.mM (by omega) (by omega)
  · split
    · exact h.mM (by omega) (by omega)
    · rename_i u hu
      split
      · exact h.mM (by omega) (by omega)
      · rename_i hb
        have hun := (fst9_some hu).1
        have hue := of_decide_eq_true (fst9_some hu).2.1
        have hl : (numL D u).length ≤ 40 := by
          unfold numL
          rw [List.length_map]
          have h1 := (List.filter_sublist (p := fun f => decide (f ≠ u)) (l := folL D u)).length_le
          have h2 := folL_len (D := D) (r := u)
          omega
        have h1 := h.rem hx (Bool.eq_false_iff.mpr hb) (by rw [← hue]; exact num_ne h.cw hun) (by omega)
        have h2 := WF.cutS (dd := D 11 x) (v := D 8 x) (top := D 9 x) (numL D u) (aRem D x (nR D), 1) (M + 1) h1 (by omega)
        exact h2.mM (by omega) (by omega)
end WFR
