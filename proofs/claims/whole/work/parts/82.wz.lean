/-! ALL THAT STAYS WELL-FORMED: rows, places, depths of directories -/
def WZ (D : Nat → Nat → Int32) (M B : Nat) : Prop := WF D M B ∧ PIN D ∧ VDP D
section WXS
variable {D D0 : Nat → Nat → Int32} {M B : Nat} {l : List Nat} {own its dd : Int32} {b m x : Nat} {sp : Int32} {lk : Bool}
theorem cp1_sv {f : Nat} : SameV D (cp1 D0 l own its b m x dd D f) := by
  unfold cp1
  split
  · exact aCpy_sv
  · exact SameV.rf D
theorem fold_sv : ∀ (l2 : List Nat) (E : Nat → Nat → Int32), SameV E (l2.foldl (cp1 D0 l own its b m x dd) E) := by
  intro l2
  induction l2 with
  | nil => intro E; exact SameV.rf E
  | cons a r ih => intro E; exact cp1_sv.tr (ih _)
theorem aSpr_sv : SameV D (aSpr D0 D m x dd) := by
  unfold aSpr
  split
  · exact SameV.rf D
  · split
    · exact (((sameV_dU (by omega)).tr (sameV_dU (by omega))).tr (sameV_dU (by omega))).tr (fold_sv _ _)
    · exact (sameV_dU (by omega)).tr (fold_sv _ _)
theorem aStd_sv : SameV D (aStd D m x dd) := (sameV_dU (by omega)).tr (sameV_dU (by omega))
theorem aTl_sv {v t gp ms : Int32} : SameV D (aTl D m v t gp ms dd).2 := by
  unfold aTl
  split
  · exact SameV.rf D
  · show SameV D (aSpr D (aStd (dU (dU (aAdd D (nR D) (D 7 m) v t) 12 (nR D) gp) 13 (nR D) ms) m (nR D) dd) m (nR D) dd)
    exact (((sameV_aAdd.tr (sameV_dU (by omega))).tr (sameV_dU (by omega))).tr aStd_sv).tr aSpr_sv
theorem aMnt_sv {v : Int32} : SameV D (aMnt D m v dd).2 := by
  unfold aMnt
  split
  · exact SameV.rf D
  · exact aTl_sv
theorem aBd_sv {s : Nat} {t : Int32} : SameV D (aBd D s t m dd).2 := by
  unfold aBd
  split
  · exact SameV.rf D
  · split
    · exact SameV.rf D
    · split
      · exact SameV.rf D
      · exact aTl_sv
theorem aMov_sv : SameV D (aMov D x m dd).2 := by
  unfold aMov
  split
  · exact SameV.rf D
  · split
    · exact SameV.rf D
    · show SameV D (aSpr D (aStd D m x dd) m x dd)
      exact aStd_sv.tr aSpr_sv
theorem aMak_sv {kd : Int32} : SameV D (aMak D x kd) := by
  unfold aMak
  split
  · split
    · exact ((sameV_dU (by omega)).tr (sameV_dU (by omega))).tr (sameV_dU (by omega))
    · exact sameV_dU (by omega)
  · split
    · split
      · exact ((sameV_dU (by omega)).tr (sameV_dU (by omega))).tr (sameV_dU (by omega))
      · exact (sameV_dU (by omega)).tr (sameV_dU (by omega))
    · exact ((sameV_dU (by omega)).tr (sameV_dU (by omega))).tr (sameV_dU (by omega))
theorem rmA_sv {v top nf : Int32} : SameV D (rmA dd v top D nf) := by
  unfold rmA
  split
  · exact SameV.rf D
  · exact sameV_aRem
theorem rmS_sv {v top : Int32} : ∀ (l : List Int32) (p : (Nat → Nat → Int32) × Nat), SameV p.1 (l.foldl (rmS dd v top) p).1 := by
  intro l
  induction l with
  | nil => intro p; exact SameV.rf _
  | cons a r ih => intro p; exact (rmA_sv (dd := dd) (v := v) (top := top) (nf := a)).tr (ih _)
theorem aUnm_sv : SameV D (aUnm D x).2 := by
  unfold aUnm
  split
  · exact SameV.rf D
  · split
    · exact SameV.rf D
    · split
      · exact SameV.rf D
      · exact (sameV_aRem (q := x) (n := nR D)).tr (rmS_sv _ (aRem D x (nR D), 1))
theorem drp_sv : ∀ q E, SameV E (drp q E) := by
  intro q
  induction q with
  | zero => intro E; exact SameV.rf E
  | succ q ih =>
    intro E
    unfold drp
    split
    · exact sameV_aRem.tr (ih _)
    · exact ih _
theorem aDrp_sv : SameV D (aDrp D) := (sameV_dU (by omega)).tr (drp_sv _ _)
theorem aCps_sv : SameV D (aCps D sp lk).2 := by
  unfold aCps
  split
  · exact SameV.rf D
  · split
    · exact SameV.rf D
    · show SameV D (aDup D sp lk)
      unfold aDup
      exact dupF_sv
theorem WZ.f (h : WZ D M B) : WF D M B := h.1
theorem WZ.p (h : WZ D M B) : PIN D := h.2.1
theorem WZ.d (h : WZ D M B) : VDP D := h.2.2
theorem WZ.mono (h : WZ D M B) {M' B' : Nat} (h1 : M ≤ M') (h2 : B ≤ B') (h3 : M' + 100 < 2 ^ 31) : WZ D M' B' := ⟨(h.1.mono h2).mM h1 h3, h.2⟩
theorem WZ.mnt {v : Int32} (h : WZ D M B) (hB : B + 100 < 2 ^ 30) (hm : m < nR D) (hv : ∃ z, z < nV D ∧ v = nI z) (hd : hasD D m dd = true) : WZ (aMnt D m v dd).2 M (B + 41) := ⟨h.1.mnt hB hm hv, h.2.1.mnt h.1 hB hm hv hd, h.2.2.same aMnt_sv⟩
theorem WZ.bd {t : Int32} {s : Nat} (h : WZ D M B) (hB : B + 100 < 2 ^ 30) (hm : m < nR D) (hs : s < nR D) (ht : hasD D s t = true) (hd : hasD D m dd = true) : WZ (aBd D s t m dd).2 M (B + 41) := ⟨h.1.bd hB hm hs (hasD_lt ht).2, h.2.1.bd h.1 hB hm hs ht hd, h.2.2.same aBd_sv⟩
theorem WZ.mak {kd : Int32} (h : WZ D M B) (hB : B + 100 < 2 ^ 30) (hx : x < nR D) : WZ (aMak D x kd) M (B + 41) := ⟨h.1.mak hB hx, h.2.1.mak, h.2.2.same aMak_sv⟩
theorem WZ.mov (h : WZ D M B) (hB : B + 100 < 2 ^ 30) (hx : x < nR D) (hm : m < nR D) (hd : hasD D m dd = true) : WZ (aMov D x m dd).2 M (B + 41) := ⟨h.1.mov hB hx hm, h.2.1.mov h.1 hB hx hm hd, h.2.2.same aMov_sv⟩
theorem WZ.unm (h : WZ D M B) (hx : x < nR D) (hM : M + 200 < 2 ^ 31) : WZ (aUnm D x).2 (M + 41) B := ⟨h.1.unm hx hM, h.2.1.unm h.1.n40, h.2.2.same aUnm_sv⟩
theorem WZ.cps (h : WZ D M B) (hsp : ∃ z0, sp = nI z0 ∧ ∀ s, D 0 12 = nI s → s ≤ 4 → z0 < s) : WZ (aCps D sp lk).2 M B := ⟨h.1.cps hsp, h.2.1.cps h.1, h.2.2.same aCps_sv⟩
theorem WZ.drp1 {t : Nat} (h : WZ D M B) (hs : D 0 12 = nI (t + 1)) (ht : 1 ≤ t) (ht4 : t ≤ 4) (hM : M + 200 < 2 ^ 31) : WZ (aDrp D) (M + 40) B := ⟨h.1.drp1 hs ht ht4 hM, h.2.1.drp1 h.1.cw.1, h.2.2.same aDrp_sv⟩
theorem WZ.beg {h : Nat → Nat → Nat} {v : Nat} (vk : VOK D) (dp : DPH D h) (hv : v < nV D) : WZ (aBeg D (nI v)) 0 0 := ⟨(aBeg_WF vk hv).1, (aBeg_WF vk hv).2, VDP.same ⟨h, dp⟩ aBeg_sv⟩
end WXS
