/-! COPIES ON FOLLOWERS: what stays well-formed, how many they are -/
def mk (D : Nat → Nat → Int32) : Nat := (D 0 13).toNatClampNeg
def nmr (D : Nat → Nat → Int32) (a : Nat) : Nat := (D 6 a).toNatClampNeg
/-- numbers: ascending, below the next one, which M bounds -/
def NB (D : Nat → Nat → Int32) (M : Nat) : Prop := D 0 13 = nI (mk D) ∧ mk D ≤ nR D + M ∧ M + 100 < 2 ^ 31 ∧ ∀ a, a < nR D → D 6 a = nI (nmr D a) ∧ nmr D a < mk D ∧ ∀ b, b < a → nmr D b < nmr D a
/-- rows' volumes and tops -/
def RW (D : Nat → Nat → Int32) : Prop := ∀ a, a < nR D → (∃ v, v < nV D ∧ D 8 a = nI v) ∧ ¬ D 9 a < nI 0
def CW (D : Nat → Nat → Int32) (M : Nat) : Prop := ROK D ∧ VOK D ∧ NB D M ∧ RW D
theorem NB.uq {D : Nat → Nat → Int32} {M a b : Nat} (h : NB D M) (hr : nR D ≤ 40) (ha : a < nR D) (hb : b < nR D) (e : D 6 a = D 6 b) : a = b := by
  obtain ⟨-, h2, h3, h4⟩ := h
  obtain ⟨a1, a2, a3⟩ := h4 a ha
  obtain ⟨b1, b2, b3⟩ := h4 b hb
  rw [a1, b1, nI_eq (by omega) (by omega)] at e
  by_cases h5 : a < b
  · have := b3 a h5; omega
  · by_cases h6 : b < a
    · have := a3 b h6; omega
    · omega
theorem NB.fresh {D : Nat → Nat → Int32} {M a : Nat} (h : NB D M) (hr : nR D ≤ 40) (ha : a < nR D) : ¬ D 6 a = D 0 13 := by
  obtain ⟨h1, h2, h3, h4⟩ := h
  obtain ⟨a1, a2, a3⟩ := h4 a ha
  rw [a1, h1, nI_eq (by omega) (by omega)]
  omega
theorem NB.row {D : Nat → Nat → Int32} {M a : Nat} (h : NB D M) (hr : nR D ≤ 40) (ha : a < nR D) : fst9 (nR D) (fun r => decide (D 6 r = D 6 a)) = some a :=
  fst9_eq ha (decide_eq_true rfl) (fun j hj => decide_eq_false (fun e => by have := h.uq hr (by omega) ha e; omega))
section NW
variable {D : Nat → Nat → Int32} {sp v t o p v12 v13 : Int32}
theorem aNew_old {c r : Nat} (h : r ≠ nR D) (hc : 6 ≤ c) : aNew D sp v t o p v12 v13 c r = D c r := by
  unfold aNew
  rw [dU_nk h, dU_nk h, dU_nk h, dU_nk h]
  exact aAdd_old h hc
theorem aNew_nR (h : nR D < 40) : nR (aNew D sp v t o p v12 v13) = nR D + 1 := by
  unfold aNew
  rw [nR_dU (by omega), nR_dU (by omega), nR_dU (by omega), nR_dU (by omega)]
  exact nR_aAdd h
theorem aNew_rok (h : nR D < 40) : ROK (aNew D sp v t o p v12 v13) := by
  unfold aNew
  exact rok_dU (by omega) (rok_dU (by omega) (rok_dU (by omega) (rok_dU (by omega) (rok_aAdd h))))
theorem aNew_sv : SameV D (aNew D sp v t o p v12 v13) := by
  unfold aNew
  exact (((sameV_aAdd.tr (sameV_dU (by omega))).tr (sameV_dU (by omega))).tr (sameV_dU (by omega))).tr (sameV_dU (by omega))
theorem aNew_6 : aNew D sp v t o p v12 v13 6 (nR D) = D 0 13 := by unfold aNew aAdd; simp (disch := omega) only [u3_nc, u3_ek, u3_nk, upd_e, upd_n, dU_nk, dU_nc, dU_e, nI_ltI, nI_eq, nI_clamp, nI_add, nI_mul, inb_nI, nI_neg1, nI_ne1, nI_n1e, nI_neg1e, Nat.not_lt_zero, Nat.lt_irrefl, true_and, and_true, true_implies, false_implies, not_true_eq_false, not_false_eq_true, implies_true, forall_const, forall_eq, if_true, if_false, Nat.reduceEqDiff, eq_self, Nat.one_ne_zero, Nat.zero_ne_one, Nat.zero_add, Nat.add_zero]
theorem aNew_7 : aNew D sp v t o p v12 v13 7 (nR D) = sp := by unfold aNew aAdd; simp (disch := omega) only [u3_nc, u3_ek, u3_nk, upd_e, upd_n, dU_nk, dU_nc, dU_e, nI_ltI, nI_eq, nI_clamp, nI_add, nI_mul, inb_nI, nI_neg1, nI_ne1, nI_n1e, nI_neg1e, Nat.not_lt_zero, Nat.lt_irrefl, true_and, and_true, true_implies, false_implies, not_true_eq_false, not_false_eq_true, implies_true, forall_const, forall_eq, if_true, if_false, Nat.reduceEqDiff, eq_self, Nat.one_ne_zero, Nat.zero_ne_one, Nat.zero_add, Nat.add_zero]
theorem aNew_8 : aNew D sp v t o p v12 v13 8 (nR D) = v := by unfold aNew aAdd; simp (disch := omega) only [u3_nc, u3_ek, u3_nk, upd_e, upd_n, dU_nk, dU_nc, dU_e, nI_ltI, nI_eq, nI_clamp, nI_add, nI_mul, inb_nI, nI_neg1, nI_ne1, nI_n1e, nI_neg1e, Nat.not_lt_zero, Nat.lt_irrefl, true_and, and_true, true_implies, false_implies, not_true_eq_false, not_false_eq_true, implies_true, forall_const, forall_eq, if_true, if_false, Nat.reduceEqDiff, eq_self, Nat.one_ne_zero, Nat.zero_ne_one, Nat.zero_add, Nat.add_zero]
theorem aNew_9 : aNew D sp v t o p v12 v13 9 (nR D) = t := by unfold aNew aAdd; simp (disch := omega) only [u3_nc, u3_ek, u3_nk, upd_e, upd_n, dU_nk, dU_nc, dU_e, nI_ltI, nI_eq, nI_clamp, nI_add, nI_mul, inb_nI, nI_neg1, nI_ne1, nI_n1e, nI_neg1e, Nat.not_lt_zero, Nat.lt_irrefl, true_and, and_true, true_implies, false_implies, not_true_eq_false, not_false_eq_true, implies_true, forall_const, forall_eq, if_true, if_false, Nat.reduceEqDiff, eq_self, Nat.one_ne_zero, Nat.zero_ne_one, Nat.zero_add, Nat.add_zero]
theorem aNew_10 : aNew D sp v t o p v12 v13 10 (nR D) = o := by unfold aNew aAdd; simp (disch := omega) only [u3_nc, u3_ek, u3_nk, upd_e, upd_n, dU_nk, dU_nc, dU_e, nI_ltI, nI_eq, nI_clamp, nI_add, nI_mul, inb_nI, nI_neg1, nI_ne1, nI_n1e, nI_neg1e, Nat.not_lt_zero, Nat.lt_irrefl, true_and, and_true, true_implies, false_implies, not_true_eq_false, not_false_eq_true, implies_true, forall_const, forall_eq, if_true, if_false, Nat.reduceEqDiff, eq_self, Nat.one_ne_zero, Nat.zero_ne_one, Nat.zero_add, Nat.add_zero]
theorem aNew_11 : aNew D sp v t o p v12 v13 11 (nR D) = p := by unfold aNew aAdd; simp (disch := omega) only [u3_nc, u3_ek, u3_nk, upd_e, upd_n, dU_nk, dU_nc, dU_e, nI_ltI, nI_eq, nI_clamp, nI_add, nI_mul, inb_nI, nI_neg1, nI_ne1, nI_n1e, nI_neg1e, Nat.not_lt_zero, Nat.lt_irrefl, true_and, and_true, true_implies, false_implies, not_true_eq_false, not_false_eq_true, implies_true, forall_const, forall_eq, if_true, if_false, Nat.reduceEqDiff, eq_self, Nat.one_ne_zero, Nat.zero_ne_one, Nat.zero_add, Nat.add_zero]
theorem aNew_12 : aNew D sp v t o p v12 v13 12 (nR D) = v12 := by unfold aNew aAdd; simp (disch := omega) only [u3_nc, u3_ek, u3_nk, upd_e, upd_n, dU_nk, dU_nc, dU_e, nI_ltI, nI_eq, nI_clamp, nI_add, nI_mul, inb_nI, nI_neg1, nI_ne1, nI_n1e, nI_neg1e, Nat.not_lt_zero, Nat.lt_irrefl, true_and, and_true, true_implies, false_implies, not_true_eq_false, not_false_eq_true, implies_true, forall_const, forall_eq, if_true, if_false, Nat.reduceEqDiff, eq_self, Nat.one_ne_zero, Nat.zero_ne_one, Nat.zero_add, Nat.add_zero]
theorem aNew_13 : aNew D sp v t o p v12 v13 13 (nR D) = v13 := by unfold aNew aAdd; simp (disch := omega) only [u3_nc, u3_ek, u3_nk, upd_e, upd_n, dU_nk, dU_nc, dU_e, nI_ltI, nI_eq, nI_clamp, nI_add, nI_mul, inb_nI, nI_neg1, nI_ne1, nI_n1e, nI_neg1e, Nat.not_lt_zero, Nat.lt_irrefl, true_and, and_true, true_implies, false_implies, not_true_eq_false, not_false_eq_true, implies_true, forall_const, forall_eq, if_true, if_false, Nat.reduceEqDiff, eq_self, Nat.one_ne_zero, Nat.zero_ne_one, Nat.zero_add, Nat.add_zero]
theorem aNew_14 : aNew D sp v t o p v12 v13 14 (nR D) = nI 0 := by unfold aNew aAdd; simp (disch := omega) only [u3_nc, u3_ek, u3_nk, upd_e, upd_n, dU_nk, dU_nc, dU_e, nI_ltI, nI_eq, nI_clamp, nI_add, nI_mul, inb_nI, nI_neg1, nI_ne1, nI_n1e, nI_neg1e, Nat.not_lt_zero, Nat.lt_irrefl, true_and, and_true, true_implies, false_implies, not_true_eq_false, not_false_eq_true, implies_true, forall_const, forall_eq, if_true, if_false, Nat.reduceEqDiff, eq_self, Nat.one_ne_zero, Nat.zero_ne_one, Nat.zero_add, Nat.add_zero]
theorem aNew_15 : aNew D sp v t o p v12 v13 15 (nR D) = nI 0 := by unfold aNew aAdd; simp (disch := omega) only [u3_nc, u3_ek, u3_nk, upd_e, upd_n, dU_nk, dU_nc, dU_e, nI_ltI, nI_eq, nI_clamp, nI_add, nI_mul, inb_nI, nI_neg1, nI_ne1, nI_n1e, nI_neg1e, Nat.not_lt_zero, Nat.lt_irrefl, true_and, and_true, true_implies, false_implies, not_true_eq_false, not_false_eq_true, implies_true, forall_const, forall_eq, if_true, if_false, Nat.reduceEqDiff, eq_self, Nat.one_ne_zero, Nat.zero_ne_one, Nat.zero_add, Nat.add_zero]
theorem aNew_012 : aNew D sp v t o p v12 v13 0 12 = D 0 12 := by unfold aNew aAdd; simp (disch := omega) only [u3_nc, u3_ek, u3_nk, upd_e, upd_n, dU_nk, dU_nc, dU_e, nI_ltI, nI_eq, nI_clamp, nI_add, nI_mul, inb_nI, nI_neg1, nI_ne1, nI_n1e, nI_neg1e, Nat.not_lt_zero, Nat.lt_irrefl, true_and, and_true, true_implies, false_implies, not_true_eq_false, not_false_eq_true, implies_true, forall_const, forall_eq, if_true, if_false, Nat.reduceEqDiff, eq_self, Nat.one_ne_zero, Nat.zero_ne_one, Nat.zero_add, Nat.add_zero]
theorem aNew_013 : aNew D sp v t o p v12 v13 0 13 = D 0 13 + nI 1 := by unfold aNew aAdd; simp (disch := omega) only [u3_nc, u3_ek, u3_nk, upd_e, upd_n, dU_nk, dU_nc, dU_e, nI_ltI, nI_eq, nI_clamp, nI_add, nI_mul, inb_nI, nI_neg1, nI_ne1, nI_n1e, nI_neg1e, Nat.not_lt_zero, Nat.lt_irrefl, true_and, and_true, true_implies, false_implies, not_true_eq_false, not_false_eq_true, implies_true, forall_const, forall_eq, if_true, if_false, Nat.reduceEqDiff, eq_self, Nat.one_ne_zero, Nat.zero_ne_one, Nat.zero_add, Nat.add_zero]
theorem aNew_014 : aNew D sp v t o p v12 v13 0 14 = D 0 14 := by unfold aNew aAdd; simp (disch := omega) only [u3_nc, u3_ek, u3_nk, upd_e, upd_n, dU_nk, dU_nc, dU_e, nI_ltI, nI_eq, nI_clamp, nI_add, nI_mul, inb_nI, nI_neg1, nI_ne1, nI_n1e, nI_neg1e, Nat.not_lt_zero, Nat.lt_irrefl, true_and, and_true, true_implies, false_implies, not_true_eq_false, not_false_eq_true, implies_true, forall_const, forall_eq, if_true, if_false, Nat.reduceEqDiff, eq_self, Nat.one_ne_zero, Nat.zero_ne_one, Nat.zero_add, Nat.add_zero]
theorem aNew_mk {M : Nat} (h : NB D M) (hr : nR D ≤ 40) : mk (aNew D sp v t o p v12 v13) = mk D + 1 := by
  obtain ⟨h1, h2, h3, h4⟩ := h
  unfold mk
  rw [aNew_013, h1, nI_add, nI_clamp (by omega), nI_clamp (by omega)]
theorem aNew_nm {r : Nat} (h : r ≠ nR D) : nmr (aNew D sp v t o p v12 v13) r = nmr D r := by
  unfold nmr; rw [aNew_old h (by decide)]
theorem aNew_CW {M : Nat} (h : CW D M) (h40 : nR D < 40) (hv : ∃ z, z < nV D ∧ v = nI z) (ht : ¬ t < nI 0) : CW (aNew D sp v t o p v12 v13) M := by
  obtain ⟨r, vk, nb, rw⟩ := h
  refine ⟨aNew_rok h40, vk.same aNew_sv, ⟨?_, ?_, nb.2.2.1, fun a ha => ?_⟩, fun a ha => ?_⟩
  · rw [aNew_mk nb (by omega), aNew_013, nb.1, nI_add]
  · rw [aNew_mk nb (by omega), aNew_nR h40]; have := nb.2.1; omega
  · rw [aNew_nR h40] at ha
    rw [aNew_mk nb (by omega)]
    by_cases he : a = nR D
    · subst he
      have e : nmr (aNew D sp v t o p v12 v13) (nR D) = mk D := by unfold nmr mk; rw [aNew_6]
      rw [e, aNew_6]
      refine ⟨nb.1, by omega, fun b hb => ?_⟩
      rw [aNew_nm (by omega)]
      exact (nb.2.2.2 b hb).2.1
    · obtain ⟨q1, q2, q3⟩ := nb.2.2.2 a (by omega)
      rw [aNew_old he (by decide), aNew_nm he]
      exact ⟨q1, by omega, fun b hb => by rw [aNew_nm (by omega)]; exact q3 b hb⟩
  · rw [aNew_nR h40] at ha
    rw [sameV_nV aNew_sv]
    by_cases he : a = nR D
    · subst he
      rw [aNew_8, aNew_9]; exact ⟨hv, ht⟩
    · rw [aNew_old he (by decide), aNew_old he (by decide)]; exact rw a (by omega)
end NW
section CY
variable {D : Nat → Nat → Int32} {x f : Nat} {v12 v13 : Int32}
theorem aCpy_old {c r : Nat} (h : r ≠ nR D) (hc : 6 ≤ c) : aCpy D x f v12 v13 c r = D c r := aNew_old h hc
theorem aCpy_nR (h : nR D < 40) : nR (aCpy D x f v12 v13) = nR D + 1 := aNew_nR h
theorem aCpy_sv : SameV D (aCpy D x f v12 v13) := aNew_sv
theorem aCpy_10 : aCpy D x f v12 v13 10 (nR D) = D 6 f := aNew_10
theorem aCpy_012 : aCpy D x f v12 v13 0 12 = D 0 12 := aNew_012
theorem aCpy_014 : aCpy D x f v12 v13 0 14 = D 0 14 := aNew_014
theorem aCpy_CW {M : Nat} (h : CW D M) (h40 : nR D < 40) (hx : x < nR D) : CW (aCpy D x f v12 v13) M := aNew_CW h h40 (h.2.2.2 x hx).1 (h.2.2.2 x hx).2
end CY
/-- what stands on a place -/
def onP (D : Nat → Nat → Int32) (f : Nat) (dd : Int32) : Option Nat := fst9 (nR D) fun o => decide (D 10 o = D 6 f ∧ D 11 o = dd)
/-- whether a copy comes on f -/
def cpb (D : Nat → Nat → Int32) (m : Nat) (dd : Int32) (f : Nat) : Bool := decide (f ≠ m) && (hasD D f dd && (onP D f dd).isNone)
theorem hasD_same {D E : Nat → Nat → Int32} {r : Nat} {dd : Int32} (h8 : E 8 r = D 8 r) (h9 : E 9 r = D 9 r) (h3 : E 3 = D 3) (h5 : E 5 = D 5) : hasD E r dd = hasD D r dd := by
  unfold hasD; rw [h8, h9, h3, h5]
theorem fst9_isNone {n : Nat} {p : Nat → Bool} : (fst9 n p).isNone = true ↔ ∀ o, o < n → p o = false := by
  cases h : fst9 n p with
  | none => exact ⟨fun _ => fst9_none h, fun _ => rfl⟩
  | some j =>
    obtain ⟨h1, h2, h3⟩ := fst9_some h
    exact ⟨fun q => (Bool.noConfusion q), fun q => by rw [q j h1] at h2; cases h2⟩
theorem bool_iff {a b : Bool} (h : a = true ↔ b = true) : a = b := by
  cases a <;> cases b <;> simp_all
theorem aNew_cpb {D : Nat → Nat → Int32} {f q m M : Nat} {sp v t p v12 v13 dd : Int32} (h : CW D M) (h40 : nR D < 40) (hf : f < nR D) (hq : q < nR D) (hqf : q ≠ f) : cpb (aNew D sp v t (D 6 f) p v12 v13) m dd q = cpb D m dd q := by
  unfold cpb
  rw [hasD_same (D := D) (aNew_old (by omega) (by decide)) (aNew_old (by omega) (by decide)) (aNew_sv 3 (by decide) (by decide)) (aNew_sv 5 (by decide) (by decide))]
  have e : (onP (aNew D sp v t (D 6 f) p v12 v13) q dd).isNone = (onP D q dd).isNone := by
    refine bool_iff ?_
    unfold onP
    rw [fst9_isNone, fst9_isNone, aNew_nR h40, aNew_old (by omega) (by decide)]
    refine ⟨fun g o ho => ?_, fun g o ho => ?_⟩
    · have := g o (by omega)
      rw [aNew_old (by omega) (by decide), aNew_old (by omega) (by decide)] at this
      exact this
    · by_cases he : o = nR D
      · subst he
        rw [aNew_10]
        exact decide_eq_false (fun e => hqf (h.2.2.1.uq (by omega) hq hf e.1.symm))
      · rw [aNew_old he (by decide), aNew_old he (by decide)]
        exact g o (by omega)
  rw [e]
theorem aCpy_cpb {D : Nat → Nat → Int32} {x f q m M : Nat} {v12 v13 dd : Int32} (h : CW D M) (h40 : nR D < 40) (hf : f < nR D) (hq : q < nR D) (hqf : q ≠ f) : cpb (aCpy D x f v12 v13) m dd q = cpb D m dd q := aNew_cpb h h40 hf hq hqf
/-- one follower's turn -/
def cp1 (D0 : Nat → Nat → Int32) (L : List Nat) (own its : Int32) (b m x : Nat) (dd : Int32) (D : Nat → Nat → Int32) (f : Nat) : Nat → Nat → Int32 :=
  if cpb D m dd f = true then aCpy D x f (if D0 12 f = own then D 12 x else frO D0 L own its b (D0 12 f)) (if D0 12 f = own then D 13 x else frO D0 L own its b (D0 13 f)) else D
section CI
variable {D0 Ds : Nat → Nat → Int32} {L l : List Nat} {own its dd : Int32} {b m x M : Nat}
theorem cpI (hw : CW Ds M) (hd : l.Nodup) (hl : ∀ f ∈ l, f < nR Ds) (hx : x < nR Ds) (h40 : nR Ds + (l.filter (cpb Ds m dd)).length ≤ 40) :
    ∀ q, q ≤ l.length → ∀ D, D = (l.take q).foldl (cp1 D0 L own its b m x dd) Ds → CW D M ∧ nR D = nR Ds + ((l.take q).filter (cpb Ds m dd)).length ∧ (∀ c r, 6 ≤ c → r < nR Ds → D c r = Ds c r) ∧ (∀ f, f < nR Ds → f ∉ l.take q → cpb D m dd f = cpb Ds m dd f) ∧ SameV Ds D ∧ D 0 12 = Ds 0 12 ∧ D 0 14 = Ds 0 14 := by
  intro q
  induction q with
  | zero =>
    intro _ D hD
    rw [List.take_zero, List.foldl_nil] at hD
    subst hD
    exact ⟨hw, rfl, fun _ _ _ _ => rfl, fun _ _ _ => rfl, SameV.rf _, rfl, rfl⟩
  | succ q ih =>
    intro hq D hD
    have hlt : q < l.length := by omega
    rw [List.take_succ_eq_append_getElem hlt, List.foldl_append] at hD
    obtain ⟨E, hE⟩ : ∃ E, E = (l.take q).foldl (cp1 D0 L own its b m x dd) Ds := ⟨_, rfl⟩
    rw [← hE] at hD
    obtain ⟨i1, i2, i3, i4, i5, i6, i7⟩ := ih (by omega) E hE
    obtain ⟨f, hf⟩ : ∃ f, f = l[q] := ⟨_, rfl⟩
    have hfl : f ∈ l := by rw [hf]; exact List.getElem_mem hlt
    have hfn := hl f hfl
    have hnot : f ∉ l.take q := fun hm => by
      obtain ⟨j, hj, e⟩ := List.mem_iff_getElem.mp hm
      rw [List.getElem_take] at e
      rw [List.length_take] at hj
      have := (List.getElem_inj hd).mp (e.trans hf)
      omega
    have hc := i4 f hfn hnot
    rw [List.take_succ_eq_append_getElem hlt, ← hf, List.filter_append, List.length_append]
    rw [← hf] at hD
    have hle : ((l.take q).filter (cpb Ds m dd)).length + (List.filter (cpb Ds m dd) [f]).length ≤ (l.filter (cpb Ds m dd)).length := by
      have h1 : ((l.take (q + 1)).filter (cpb Ds m dd)).length ≤ (l.filter (cpb Ds m dd)).length := (List.Sublist.filter _ (List.take_sublist _ _)).length_le
      rw [List.take_succ_eq_append_getElem hlt, ← hf, List.filter_append, List.length_append] at h1
      exact h1
    have hD2 : D = cp1 D0 L own its b m x dd E f := hD
    unfold cp1 at hD2
    by_cases hb : cpb Ds m dd f = true
    · rw [hc, if_pos hb] at hD2
      have e1 : (List.filter (cpb Ds m dd) [f]).length = 1 := by simp [hb]
      rw [e1] at hle ⊢
      have hn40 : nR E < 40 := by omega
      have hfE : f < nR E := by omega
      subst hD2
      refine ⟨aCpy_CW i1 hn40 (by omega), by rw [aCpy_nR hn40]; omega, fun c r h6 hr => ?_, fun z hz hzn => ?_, i5.tr aCpy_sv, by rw [aCpy_012]; exact i6, by rw [aCpy_014]; exact i7⟩
      · rw [aCpy_old (by omega) h6]; exact i3 c r h6 hr
      · rw [List.mem_append, List.mem_singleton] at hzn
        rw [aCpy_cpb i1 hn40 hfE (by omega) (fun e => hzn (Or.inr e))]
        exact i4 z hz (fun e => hzn (Or.inl e))
    · rw [hc, if_neg hb] at hD2
      have e1 : (List.filter (cpb Ds m dd) [f]).length = 0 := by simp [hb]
      rw [e1]
      subst hD2
      exact ⟨i1, i2, i3, fun z hz hzn => i4 z hz (fun e => hzn (List.mem_append_left _ e)), i5, i6, i7⟩
end CI
section CA
variable {sc : SC} {d i w r M : Nat} {g : Gs} {Φ : RS → Gs → Prop} {D : Nat → Nat → Int32} {dd : Int32}
theorem s41A {n : Int32} (hA : At g i D) (rk : ROK D) (k : Φ (.inl (some (vI (eo (fst9 (nR D) fun r => decide (D 6 r = n)))))) g) : Rn sc (d + 1) 41 [vR i 0, vI n] g Φ := by
  refine s41 (hA.k (by decide) rk.1) rk.2 ?_
  rw [hA 6 (by decide)]; exact k
theorem s42A (hA : At g i D) (rk : ROK D) (hr : r < nR D) (k : Φ (.inl (some (vI (eo (onP D r dd))))) g) : Rn sc (d + 1) 42 [vR i 0, vI (nI r), vI dd] g Φ := by
  refine s42 (hA.k (by decide) rk.1) rk.2 hr ?_
  rw [hA 6 (by decide), hA 10 (by decide), hA 11 (by decide)]; exact k
theorem s46A (hA : At g i D) (hw : CW D M) (hr : r < nR D) (k : Φ (.inl (some (vI (if hasD D r dd = true then nI 1 else nI 0)))) g) : Rn sc (d + 2) 46 [vR i 0, vI (nI r), vI dd] g Φ := by
  obtain ⟨rk, vk, nb, rw'⟩ := hw
  obtain ⟨⟨v, hv, h8⟩, h9⟩ := rw' r hr
  obtain ⟨q1, q2, q3, q4, q5⟩ := vk.2.2 v hv
  have v4 := vk.2.1
  have h40 := rk.2
  have e5 : g.1 i 5 = D 5 := hA 5 (by decide)
  refine s46 (sz := nS D v) (by omega) (hA.k (by decide) h8) (by omega) (hA.k (by decide) q1) q3 (fun e he => ?_) ?_
  · rw [e5]
    by_cases h0 : e = 0
    · subst h0; exact Or.inl q4
    · obtain ⟨o, ho, h⟩ := q5 e he h0
      exact Or.inr ⟨o, by omega, h⟩
  · unfold hasD at k
    rw [h8, nI_clamp (by omega), q1] at k
    rw [e5, hA 9 (by decide)]
    exact k
end CA
