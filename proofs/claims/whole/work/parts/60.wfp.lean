/-! WHAT STAYS WELL-FORMED: copies, mounts, binds, kinds -/
theorem frO_nn {D : Nat → Nat → Int32} {l : List Nat} {own its old : Int32} {b : Nat} (hi : ¬ its < nI 0) (hb : b + 41 < 2 ^ 31) (hK : gK D l ≤ 40) : ¬ frO D l own its b old < nI 0 := by
  unfold frO
  split
  · rename_i t ht
    have h1 := (fst9_some ht).1
    unfold frs
    split
    · exact hi
    · have h2 : nwg D l own (t + 1) ≤ t + 1 := cntF_le _ _
      exact nI_nn (by omega)
  · exact Int32.lt_irrefl
theorem cpb_on {D : Nat → Nat → Int32} {m f : Nat} {dd : Int32} (h : cpb D m dd f = true) : f ≠ m ∧ onP D f dd = none := by
  unfold cpb at h
  rw [Bool.and_eq_true, Bool.and_eq_true] at h
  exact ⟨of_decide_eq_true h.1, Option.isNone_iff_eq_none.mp h.2.2⟩
section WFP
variable {D0 Ds D : Nat → Nat → Int32} {M B : Nat} {l : List Nat} {own its dd : Int32} {b m x : Nat}
theorem WF.fold (h : WF Ds M B) (hd : l.Nodup) (hl : ∀ f ∈ l, f < nR Ds) (hx : x < nR Ds) (h40 : nR Ds + (l.filter (cpb Ds m dd)).length ≤ 40) (h11 : Ds 11 x = dd) (hi : ¬ its < nI 0) (hb : b + 41 < 2 ^ 31) (hK : gK D0 l ≤ 40) :
    ∀ q, q ≤ l.length → WF ((l.take q).foldl (cp1 D0 l own its b m x dd) Ds) M B := by
  intro q
  induction q with
  | zero => intro _; exact h
  | succ q ih =>
    intro hq
    have hlt : q < l.length := by omega
    obtain ⟨E, hE⟩ : ∃ E, E = (l.take q).foldl (cp1 D0 l own its b m x dd) Ds := ⟨_, rfl⟩
    have i1 := ih (by omega)
    rw [← hE] at i1
    obtain ⟨j1, j2, j3, -⟩ := cpI h.cw hd hl hx h40 q (by omega) E hE
    obtain ⟨r1, r2⟩ := cpI_room h.cw hd hl hx h40 hlt hE
    have hfn := hl _ (List.getElem_mem hlt)
    rw [List.take_succ_eq_append_getElem hlt, List.foldl_append, ← hE, List.foldl_cons, List.foldl_nil]
    unfold cp1
    by_cases hc : cpb E m dd l[q] = true
    · rw [if_pos hc]
      have hx11 : E 11 x = dd := by rw [j3 11 x (by decide) hx]; exact h11
      have hfr := fun o => frO_nn (D := D0) (l := l) (own := own) (old := o) hi hb hK
      unfold aCpy
      rw [hx11]
      refine i1.new (r2 hc) (by omega) (i1.cw.2.2.2 x (by omega)).1 (i1.cw.2.2.2 x (by omega)).2 (cpb_on hc).2 ?_ ?_
      · split
        · exact (i1.gn x (by omega)).1
        · exact hfr _
      · split
        · exact (i1.gn x (by omega)).2
        · exact hfr _
    · rw [if_neg hc]; exact i1
theorem gK_le {D : Nat → Nat → Int32} {r : Nat} (h40 : nR D ≤ 40) : gK D (folL D r) ≤ 40 := (gK_spec (fun x hx => folL_lt hx : ∀ x ∈ folL D r, x < nR D) h40).2.1
theorem nwg_le {D : Nat → Nat → Int32} {r : Nat} {own : Int32} (h40 : nR D ≤ 40) : nwg D (folL D r) own (gK D (folL D r)) ≤ 40 := Nat.le_trans (cntF_le _ _) (gK_le h40)
theorem dU_k {D : Nat → Nat → Int32} {c k c' k' : Nat} {v : Int32} (h : c' ≠ c ∨ k' ≠ k) : dU D c k v c' k' = D c' k' := by
  rcases h with h | h
  · exact dU_nc h
  · exact dU_nk h
/-- the last group is raised -/
theorem WF.lg (h : WF D M B) {z : Nat} (hz : z ≤ B + 41) : WF (dU D 0 14 (nI z)) M (B + 41) := by
  have e : ∀ {c a}, c ≠ 0 → dU D 0 14 (nI z) c a = D c a := fun hc => dU_nc hc
  refine h.sm (h.cw.du (by omega)) (nR_dU (by omega)) (dU_nk (by decide)) (fun _ => e (by decide)) (fun _ => e (by decide)) (fun _ => e (by decide)) (fun _ => e (by decide)) (fun a ha => ?_) ⟨z, dU_e rfl rfl, hz⟩ (fun a ha => ?_)
  · rw [nR_dU (by omega)] at ha; rw [e (by decide), e (by decide)]; exact h.gn a ha
  · rw [nR_dU (by omega)] at ha; rw [e (by decide), e (by decide)]; exact h.bt a ha
/-- a row's group -/
theorem WF.rg (h : WF D M B) {v : Int32} {x : Nat} (hv : ¬ v < nI 0) : WF (dU D 12 x v) M B := by
  have e : ∀ {c a}, c ≠ 12 → dU D 12 x v c a = D c a := fun hc => dU_nc hc
  refine h.sm (h.cw.du (by omega)) (nR_dU (by omega)) (e (by decide)) (fun _ => e (by decide)) (fun _ => e (by decide)) (fun _ => e (by decide)) (fun _ => e (by decide)) (fun a ha => ?_) ?_ (fun a ha => ?_)
  · rw [nR_dU (by omega)] at ha
    refine ⟨?_, by rw [e (by decide)]; exact (h.gn a ha).2⟩
    by_cases hax : a = x
    · rw [dU_e rfl hax]; exact hv
    · rw [dU_nk hax]; exact (h.gn a ha).1
  · unfold GRL
    rw [e (by decide)]
    exact h.gl
  · rw [nR_dU (by omega)] at ha; rw [e (by decide), e (by decide)]; exact h.bt a ha
theorem WF.spread (h : WF D M B) (hp : PUT D0 D m x dd M) (hB : B + 100 < 2 ^ 30) : WF (aSpr D0 D m x dd) M (B + 41) := by
  obtain ⟨p1, p2, p3, p4, p5, p6, p7, p8, -, p10, p11, p12⟩ := hp
  obtain ⟨b, p9, pb⟩ := h.gl
  have n40 := p1.1.2
  have ecl : (D 0 14).toNatClampNeg = b := by rw [p9, nI_clamp (by omega)]
  have hl : ∀ f ∈ folL D0 m, f < nR D := fun f hf => by have := folL_lt hf; omega
  have hK := gK_le (r := m) p3
  have hN := nwg_le (r := m) (own := D 12 m) p3
  unfold aSpr
  rw [ecl]
  by_cases h0 : D 12 m = nI 0
  · rw [if_pos h0]; exact h.mono (by omega)
  · rw [if_neg h0]
    by_cases h1 : D 12 x = nI 0
    · rw [if_pos h1]
      have w1 : WF (dU D 0 14 (nI (b + 1))) M (B + 41) := h.lg (by omega)
      have w2 := w1.rg (v := nI (b + 1)) (x := x) (nI_nn (by omega))
      have w3 : WF (dU (dU (dU D 0 14 (nI (b + 1))) 12 x (nI (b + 1))) 0 14 (nI (b + 1 + nwg D0 (folL D0 m) (D 12 m) (gK D0 (folL D0 m))))) M (B + 41) := by
        rw [dU_cm (c := 12) (c2 := 0) (by decide), dU_twice]
        exact (h.lg (by omega)).rg (nI_nn (by omega))
      have er : nR (dU (dU (dU D 0 14 (nI (b + 1))) 12 x (nI (b + 1))) 0 14 (nI (b + 1 + nwg D0 (folL D0 m) (D 12 m) (gK D0 (folL D0 m))))) = nR D := by rw [nR_dU (by omega), nR_dU (by omega), nR_dU (by omega)]
      have ec : cpb (dU (dU (dU D 0 14 (nI (b + 1))) 12 x (nI (b + 1))) 0 14 (nI (b + 1 + nwg D0 (folL D0 m) (D 12 m) (gK D0 (folL D0 m))))) m dd = cpb D m dd := by rw [cpb_dU (by omega), cpb_dU (by omega), cpb_dU (by omega)]
      have := w3.fold (D0 := D0) (own := D 12 m) (its := nI (b + 1)) (b := b + 1) (m := m) (x := x) (dd := dd) (folL_nd D0 m) (by rw [er]; exact hl) (by rw [er]; exact p5) (by rw [er, ec]; exact p12) (by rw [dU_nc (by decide), dU_nc (by decide), dU_nc (by decide)]; exact p11) (nI_nn (by omega)) (by omega) hK (folL D0 m).length (Nat.le_refl _)
      rw [List.take_length] at this
      exact this
    · rw [if_neg h1]
      have w3 : WF (dU D 0 14 (nI (b + nwg D0 (folL D0 m) (D 12 m) (gK D0 (folL D0 m))))) M (B + 41) := h.lg (by omega)
      have er : nR (dU D 0 14 (nI (b + nwg D0 (folL D0 m) (D 12 m) (gK D0 (folL D0 m))))) = nR D := by rw [nR_dU (by omega)]
      have ec : cpb (dU D 0 14 (nI (b + nwg D0 (folL D0 m) (D 12 m) (gK D0 (folL D0 m))))) m dd = cpb D m dd := by rw [cpb_dU (by omega)]
      have := w3.fold (D0 := D0) (own := D 12 m) (its := D 12 x) (b := b) (m := m) (x := x) (dd := dd) (folL_nd D0 m) (by rw [er]; exact hl) (by rw [er]; exact p5) (by rw [er, ec]; exact p12) (by rw [dU_nc (by decide)]; exact p11) (h.gn x p5).1 (by omega) hK (folL D0 m).length (Nat.le_refl _)
      rw [List.take_length] at this
      exact this
theorem WF.tl {v t gp ms : Int32} (h : WF D M B) (hB : B + 100 < 2 ^ 30) (hm : m < nR D) (hv : ∃ z, z < nV D ∧ v = nI z) (ht : ¬ t < nI 0) (hg : ¬ gp < nI 0) (hs : ¬ ms < nI 0) (ho : onP D m dd = none) : WF (aTl D m v t gp ms dd).2 M (B + 41) := by
  unfold aTl
  split
  · exact h.mono (by omega)
  · rename_i hc
    show WF (aPut D (aRow D (D 7 m) v t gp ms) m (nR D) dd) M (B + 41)
    unfold aPut
    rw [aStd_new hm]
    exact (h.new (by omega) hm hv ht ho hg hs).spread (PUT_new h.cw h.gn (h.gb (by omega)) hm hv ht (by omega)) hB
theorem isSome_no {o : Option Nat} (h : ¬ o.isSome = true) : o = none := by
  cases o with
  | none => rfl
  | some j => exact absurd rfl h
theorem WF.mnt {v : Int32} (h : WF D M B) (hB : B + 100 < 2 ^ 30) (hm : m < nR D) (hv : ∃ z, z < nV D ∧ v = nI z) : WF (aMnt D m v dd).2 M (B + 41) := by
  unfold aMnt
  split
  · exact h.mono (by omega)
  · rename_i ho
    exact h.tl hB hm hv Int32.lt_irrefl Int32.lt_irrefl Int32.lt_irrefl (isSome_no ho)
theorem WF.bd {t : Int32} {s : Nat} (h : WF D M B) (hB : B + 100 < 2 ^ 30) (hm : m < nR D) (hs : s < nR D) (ht : ¬ t < nI 0) : WF (aBd D s t m dd).2 M (B + 41) := by
  unfold aBd
  split
  · exact h.mono (by omega)
  · rename_i ho
    split
    · exact h.mono (by omega)
    · split
      · exact h.mono (by omega)
      · exact h.tl hB hm (h.cw.2.2.2 s hs).1 ht (h.gn s hs).1 (h.gn s hs).2 (isSome_no ho)
end WFP
