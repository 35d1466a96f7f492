/-! THE REFERENCE'S ROWS: how they hold what the class's instance holds, and what the reading methods answer -/
def nR (D : Nat → Nat → Int32) : Nat := (D 0 11).toNatClampNeg
def nV (D : Nat → Nat → Int32) : Nat := (D 1 4).toNatClampNeg
def nS (D : Nat → Nat → Int32) (v : Nat) : Nat := (D 3 v).toNatClampNeg
/-- a name of letters 1 to 26: as a number, as cells -/
def cdL : List Nat → Nat := fun L => L.foldl (fun a b => a * 32 + b) 0
def NM (x : Int32) (f : Nat → Int32) : Prop := ∃ L : List Nat, L.length ≤ 6 ∧ (∀ l ∈ L, 1 ≤ l ∧ l ≤ 26) ∧ x = nI (cdL L) ∧ ∀ k, k < 6 → f k = match L[k]? with
  | some l => nI (96 + l)
  | none => nI 0
/-- volumes' words that hold by themselves -/
def VOK (D : Nat → Nat → Int32) : Prop := D 1 4 = nI (nV D) ∧ nV D ≤ 4 ∧ ∀ v, v < nV D → D 3 v = nI (nS D v) ∧ 1 ≤ nS D v ∧ nS D v ≤ 12 ∧ D 5 (v * 12) = -nI 1 ∧ ∀ e, e < nS D v → e ≠ 0 → ∃ o, o < e ∧ D 5 (v * 12 + e) = nI o
def ROK (D : Nat → Nat → Int32) : Prop := D 0 11 = nI (nR D) ∧ nR D ≤ 40
/-- the reference's volumes in the window w -/
def RMV (A : Nat → Int32) (w : Nat) (D : Nat → Nat → Int32) : Prop := A (780 * w) = D 1 4 ∧
  (∀ v, v < nV D → A (780 * w + (5 + 7 * v + 6)) = D 3 v ∧ NM (D 2 v) (fun k => A (780 * w + (5 + 7 * v + k)))) ∧
  (∀ v e, v < nV D → e < nS D v → A (780 * w + (33 + 7 * (12 * v + e) + 6)) = D 5 (v * 12 + e) ∧ NM (D 4 (v * 12 + e)) (fun k => A (780 * w + (33 + 7 * (12 * v + e) + k))))
/-- the reference's mounts in the window w -/
def RMM (A : Nat → Int32) (w : Nat) (D : Nat → Nat → Int32) : Prop := A (780 * w + 1) = D 0 12 ∧ A (780 * w + 2) = D 0 11 ∧ A (780 * w + 3) = D 0 13 ∧ A (780 * w + 4) = D 0 14 ∧
  ∀ r, r < nR D → ∀ k, k < 10 → A (780 * w + (369 + 10 * r + k)) = D (6 + k) r
section RMB
variable {A : Nat → Int32} {w : Nat} {D : Nat → Nat → Int32}
theorem RMM.f0 (h : RMM A w D) : ∀ r, r < nR D → A (780 * w + (369 + 10 * r)) = D 6 r := fun r hr => h.2.2.2.2 r hr 0 (by decide)
theorem RMM.f1 (h : RMM A w D) : ∀ r, r < nR D → A (780 * w + (369 + 10 * r + 1)) = D 7 r := fun r hr => h.2.2.2.2 r hr 1 (by decide)
theorem RMM.f2 (h : RMM A w D) : ∀ r, r < nR D → A (780 * w + (369 + 10 * r + 2)) = D 8 r := fun r hr => h.2.2.2.2 r hr 2 (by decide)
theorem RMM.f3 (h : RMM A w D) : ∀ r, r < nR D → A (780 * w + (369 + 10 * r + 3)) = D 9 r := fun r hr => h.2.2.2.2 r hr 3 (by decide)
theorem RMM.f4 (h : RMM A w D) : ∀ r, r < nR D → A (780 * w + (369 + 10 * r + 4)) = D 10 r := fun r hr => h.2.2.2.2 r hr 4 (by decide)
theorem RMM.f5 (h : RMM A w D) : ∀ r, r < nR D → A (780 * w + (369 + 10 * r + 5)) = D 11 r := fun r hr => h.2.2.2.2 r hr 5 (by decide)
theorem RMM.f6 (h : RMM A w D) : ∀ r, r < nR D → A (780 * w + (369 + 10 * r + 6)) = D 12 r := fun r hr => h.2.2.2.2 r hr 6 (by decide)
theorem RMM.f7 (h : RMM A w D) : ∀ r, r < nR D → A (780 * w + (369 + 10 * r + 7)) = D 13 r := fun r hr => h.2.2.2.2 r hr 7 (by decide)
theorem RMM.f8 (h : RMM A w D) : ∀ r, r < nR D → A (780 * w + (369 + 10 * r + 8)) = D 14 r := fun r hr => h.2.2.2.2 r hr 8 (by decide)
theorem RMM.f9 (h : RMM A w D) : ∀ r, r < nR D → A (780 * w + (369 + 10 * r + 9)) = D 15 r := fun r hr => h.2.2.2.2 r hr 9 (by decide)
theorem RMM.n (h : RMM A w D) (hr : ROK D) : A (780 * w + 2) = nI (nR D) := h.2.1.trans hr.1
theorem RMV.n (h : RMV A w D) (hv : VOK D) : A (780 * w) = nI (nV D) := h.1.trans hv.1
theorem RMV.s (h : RMV A w D) (hv : VOK D) : ∀ v, v < nV D → A (780 * w + (5 + 7 * v + 6)) = nI (nS D v) := fun v q => (h.2.1 v q).1.trans (hv.2.2 v q).1
theorem RMV.o (h : RMV A w D) : ∀ v e, v < nV D → e < nS D v → A (780 * w + (33 + 7 * (12 * v + e) + 6)) = D 5 (v * 12 + e) := fun v e q p => (h.2.2 v e q p).1
end RMB
theorem j64 (a : Int32) : a.toInt64.toInt = a.toInt := Int32.toInt_toInt64 a
theorem lgc_lt {a b : Int64} : lg_cmp a b < nI 0 ↔ a.toInt < b.toInt := by
  unfold lg_cmp
  rcases Int.lt_trichotomy a.toInt b.toInt with h | h | h
  · have h1 : ¬ a > b := fun q => by have := Int64.lt_iff_toInt_lt.mp q; omega
    have h2 : ¬ a = b := fun q => by rw [q] at h; omega
    rw [if_neg h1, if_neg h2]
    exact ⟨fun _ => h, fun _ => by decide +kernel⟩
  · have h1 : ¬ a > b := fun q => by have := Int64.lt_iff_toInt_lt.mp q; omega
    have h2 : a = b := Int64.toInt_inj.mp h
    rw [if_neg h1, if_pos h2]
    exact ⟨fun q => absurd q (by decide +kernel), fun q => by omega⟩
  · have h1 : a > b := Int64.lt_iff_toInt_lt.mpr h
    rw [if_pos h1]
    exact ⟨fun q => absurd q (by decide +kernel), fun q => by omega⟩
theorem lgc_gt {a b : Int64} : nI 0 < lg_cmp a b ↔ b.toInt < a.toInt := by
  unfold lg_cmp
  rcases Int.lt_trichotomy a.toInt b.toInt with h | h | h
  · have h1 : ¬ a > b := fun q => by have := Int64.lt_iff_toInt_lt.mp q; omega
    have h2 : ¬ a = b := fun q => by rw [q] at h; omega
    rw [if_neg h1, if_neg h2]
    exact ⟨fun q => absurd q (by decide +kernel), fun q => by omega⟩
  · have h1 : ¬ a > b := fun q => by have := Int64.lt_iff_toInt_lt.mp q; omega
    have h2 : a = b := Int64.toInt_inj.mp h
    rw [if_neg h1, if_pos h2]
    exact ⟨fun q => absurd q (by decide +kernel), fun q => by omega⟩
  · have h1 : a > b := Int64.lt_iff_toInt_lt.mpr h
    rw [if_pos h1]
    exact ⟨fun _ => h, fun _ => by decide +kernel⟩
section MR
variable {sc : SC} {d w : Nat} {g : Gs} {Φ : RS → Gs → Prop} {D : Nat → Nat → Int32}
theorem s128 {a lo hi : Int64} (k : Φ (.inl (some (vI (if lo.toInt ≤ a.toInt ∧ a.toInt ≤ hi.toInt then nI 1 else nI 0)))) g) : Rn sc (d + 1) 128 [vJ a, vJ lo, vJ hi] g Φ := by
  refine Rn.of rfl (v128_0 ?_)
  simp only [lgc_lt, lgc_gt]
  refine ⟨fun h => ?_, fun h => ⟨fun h2 => ?_, fun h2 => ?_⟩⟩
  · rw [if_neg (by omega)] at k; exact k
  · rw [if_neg (by omega)] at k; exact k
  · rw [if_pos (by omega)] at k; exact k
theorem s144 {m : Int32} (hw : g.1 0 70 2 = nI w) (w10 : w < 10) (hR : RMM (g.1 0 71) w D) (rk : ROK D) (k : Φ (.inl (some (vI (eo (fst9 (nR D) fun r => decide (D 6 r = m)))))) g) : Rn sc (d + 3) 144 [vR 0 70, vI m] g Φ := by
  have hn := hR.n rk
  have h40 := rk.2
  have f0 := hR.f0
  refine Rn.of rfl (v144_0 ?_)
  refine srch (W := fun q => Xe sc (d + 2) 144 2 [vR 0 70, vI m, vI (nI q)] [] g Φ) (n := nR D) (p := fun r => decide (D 6 r = m)) (fun q hq hp hW => ?_) (fun q hs hq hp => ?_) (fun hs => ?_)
  · refine v144_2 ?_
    simp (disch := omega) only [nI_ltI, nI_eq, nI_clamp, nI_add, nI_mul, inb_nI, nI_neg1, nI_ne1, nI_n1e, nI_neg1e, Nat.not_lt_zero, Nat.lt_irrefl, true_and, and_true, true_implies, false_implies, not_true_eq_false, not_false_eq_true, implies_true, forall_const, forall_eq, if_true, if_false, Nat.reduceEqDiff, eq_self, Nat.one_ne_zero, Nat.zero_ne_one, Nat.zero_add, Nat.add_zero, hw, hn, hq, f0]
    exact ⟨fun he => absurd he (of_decide_eq_false hp), fun _ => hW⟩
  · refine v144_2 ?_
    rw [hs] at k
    simp (disch := omega) only [nI_ltI, nI_eq, nI_clamp, nI_add, nI_mul, inb_nI, nI_neg1, nI_ne1, nI_n1e, nI_neg1e, Nat.not_lt_zero, Nat.lt_irrefl, true_and, and_true, true_implies, false_implies, not_true_eq_false, not_false_eq_true, implies_true, forall_const, forall_eq, if_true, if_false, Nat.reduceEqDiff, eq_self, Nat.one_ne_zero, Nat.zero_ne_one, Nat.zero_add, Nat.add_zero, hw, hn, hq, f0]
    exact ⟨fun _ => k, fun he => absurd (of_decide_eq_true hp) he⟩
  · refine v144_2 ?_
    rw [hs] at k
    simp (disch := omega) only [nI_ltI, nI_eq, nI_clamp, nI_add, nI_mul, inb_nI, nI_neg1, nI_ne1, nI_n1e, nI_neg1e, Nat.not_lt_zero, Nat.lt_irrefl, true_and, and_true, true_implies, false_implies, not_true_eq_false, not_false_eq_true, implies_true, forall_const, forall_eq, if_true, if_false, Nat.reduceEqDiff, eq_self, Nat.one_ne_zero, Nat.zero_ne_one, Nat.zero_add, Nat.add_zero, hw, hn]
    exact k
theorem s147 {r : Nat} {dd : Int32} (hw : g.1 0 70 2 = nI w) (w10 : w < 10) (hR : RMM (g.1 0 71) w D) (rk : ROK D) (hr : r < nR D) (k : Φ (.inl (some (vI (eo (fst9 (nR D) fun o => decide (D 10 o = D 6 r ∧ D 11 o = dd)))))) g) : Rn sc (d + 3) 147 [vR 0 70, vI (nI r), vI dd] g Φ := by
  have hn := hR.n rk
  have h40 := rk.2
  have f0 := hR.f0
  have f4 := hR.f4
  have f5 := hR.f5
  refine Rn.of rfl (v147_0 ?_)
  refine srch (W := fun q => Xe sc (d + 2) 147 2 [vR 0 70, vI (nI r), vI dd, vI (nI q)] [] g Φ) (n := nR D) (p := fun o => decide (D 10 o = D 6 r ∧ D 11 o = dd)) (fun q hq hp hW => ?_) (fun q hs hq hp => ?_) (fun hs => ?_)
  · refine v147_2 ?_
    simp (disch := omega) only [nI_ltI, nI_eq, nI_clamp, nI_add, nI_mul, inb_nI, nI_neg1, nI_ne1, nI_n1e, nI_neg1e, Nat.not_lt_zero, Nat.lt_irrefl, true_and, and_true, true_implies, false_implies, not_true_eq_false, not_false_eq_true, implies_true, forall_const, forall_eq, if_true, if_false, Nat.reduceEqDiff, eq_self, Nat.one_ne_zero, Nat.zero_ne_one, Nat.zero_add, Nat.add_zero, hw, hn, hq, f0, f4, f5]
    exact ⟨fun h1 => ⟨fun h2 => absurd ⟨h1, h2⟩ (of_decide_eq_false hp), fun _ => hW⟩, fun _ => hW⟩
  · refine v147_2 ?_
    rw [hs] at k
    obtain ⟨p1, p2⟩ := of_decide_eq_true hp
    simp (disch := omega) only [nI_ltI, nI_eq, nI_clamp, nI_add, nI_mul, inb_nI, nI_neg1, nI_ne1, nI_n1e, nI_neg1e, Nat.not_lt_zero, Nat.lt_irrefl, true_and, and_true, true_implies, false_implies, not_true_eq_false, not_false_eq_true, implies_true, forall_const, forall_eq, if_true, if_false, Nat.reduceEqDiff, eq_self, Nat.one_ne_zero, Nat.zero_ne_one, Nat.zero_add, Nat.add_zero, hw, hn, hq, f0, f4, f5]
    exact ⟨fun h1 => ⟨fun h2 => k, fun h2 => absurd p2 h2⟩, fun h1 => absurd p1 h1⟩
  · refine v147_2 ?_
    rw [hs] at k
    simp (disch := omega) only [nI_ltI, nI_eq, nI_clamp, nI_add, nI_mul, inb_nI, nI_neg1, nI_ne1, nI_n1e, nI_neg1e, Nat.not_lt_zero, Nat.lt_irrefl, true_and, and_true, true_implies, false_implies, not_true_eq_false, not_false_eq_true, implies_true, forall_const, forall_eq, if_true, if_false, Nat.reduceEqDiff, eq_self, Nat.one_ne_zero, Nat.zero_ne_one, Nat.zero_add, Nat.add_zero, hw, hn]
    exact k
theorem s148 {r : Nat} (hw : g.1 0 70 2 = nI w) (w10 : w < 10) (hR : RMM (g.1 0 71) w D) (rk : ROK D) (hr : r < nR D) (k : Φ (.inl (some (vI (if (fst9 (nR D) fun o => decide (D 10 o = D 6 r)).isSome then nI 1 else nI 0)))) g) : Rn sc (d + 3) 148 [vR 0 70, vI (nI r)] g Φ := by
  have hn := hR.n rk
  have h40 := rk.2
  have f0 := hR.f0
  have f4 := hR.f4
  refine Rn.of rfl (v148_0 ?_)
  refine srch (W := fun q => Xe sc (d + 2) 148 2 [vR 0 70, vI (nI r), vI (nI q)] [] g Φ) (n := nR D) (p := fun o => decide (D 10 o = D 6 r)) (fun q hq hp hW => ?_) (fun q hs hq hp => ?_) (fun hs => ?_)
  · refine v148_2 ?_
    simp (disch := omega) only [nI_ltI, nI_eq, nI_clamp, nI_add, nI_mul, inb_nI, nI_neg1, nI_ne1, nI_n1e, nI_neg1e, Nat.not_lt_zero, Nat.lt_irrefl, true_and, and_true, true_implies, false_implies, not_true_eq_false, not_false_eq_true, implies_true, forall_const, forall_eq, if_true, if_false, Nat.reduceEqDiff, eq_self, Nat.one_ne_zero, Nat.zero_ne_one, Nat.zero_add, Nat.add_zero, hw, hn, hq, f0, f4]
    exact ⟨fun he => absurd he (of_decide_eq_false hp), fun _ => hW⟩
  · refine v148_2 ?_
    rw [hs] at k
    simp (disch := omega) only [nI_ltI, nI_eq, nI_clamp, nI_add, nI_mul, inb_nI, nI_neg1, nI_ne1, nI_n1e, nI_neg1e, Nat.not_lt_zero, Nat.lt_irrefl, true_and, and_true, true_implies, false_implies, not_true_eq_false, not_false_eq_true, implies_true, forall_const, forall_eq, if_true, if_false, Nat.reduceEqDiff, eq_self, Nat.one_ne_zero, Nat.zero_ne_one, Nat.zero_add, Nat.add_zero, hw, hn, hq, f0, f4]
    exact ⟨fun _ => k, fun he => absurd (of_decide_eq_true hp) he⟩
  · refine v148_2 ?_
    rw [hs] at k
    simp (disch := omega) only [nI_ltI, nI_eq, nI_clamp, nI_add, nI_mul, inb_nI, nI_neg1, nI_ne1, nI_n1e, nI_neg1e, Nat.not_lt_zero, Nat.lt_irrefl, true_and, and_true, true_implies, false_implies, not_true_eq_false, not_false_eq_true, implies_true, forall_const, forall_eq, if_true, if_false, Nat.reduceEqDiff, eq_self, Nat.one_ne_zero, Nat.zero_ne_one, Nat.zero_add, Nat.add_zero, hw, hn]
    exact k
theorem s168 {x : Int32} (hw : g.1 0 70 2 = nI w) (w10 : w < 10) (hR : RMM (g.1 0 71) w D) (rk : ROK D) (k : Φ (.inl (some (vI (nI (cntF (fun r => decide (D 12 r = x)) (nR D)))))) g) : Rn sc (d + 3) 168 [vR 0 70, vI x] g Φ := by
  have hn := hR.n rk
  have h40 := rk.2
  have f6 := hR.f6
  refine Rn.of rfl (v168_0 ?_)
  refine turns (W := fun q => Xe sc (d + 2) 168 4 [vR 0 70, vI x, vI (nI (cntF (fun r => decide (D 12 r = x)) q)), vI (nI q)] [] g Φ) (n := nR D) (fun q hq hW => ?_) ?_
  · refine v168_4 ?_
    simp (disch := omega) only [nI_ltI, nI_eq, nI_clamp, nI_add, nI_mul, inb_nI, nI_neg1, nI_ne1, nI_n1e, nI_neg1e, Nat.not_lt_zero, Nat.lt_irrefl, true_and, and_true, true_implies, false_implies, not_true_eq_false, not_false_eq_true, implies_true, forall_const, forall_eq, if_true, if_false, Nat.reduceEqDiff, eq_self, Nat.one_ne_zero, Nat.zero_ne_one, Nat.zero_add, Nat.add_zero, hw, hn, hq, f6]
    refine ⟨fun h => ?_, fun h => ?_⟩
    · unfold cntF at hW
      rw [decide_eq_true h] at hW
      exact hW
    · unfold cntF at hW
      rw [decide_eq_false h] at hW
      exact hW
  · refine v168_4 ?_
    simp (disch := omega) only [nI_ltI, nI_eq, nI_clamp, nI_add, nI_mul, inb_nI, nI_neg1, nI_ne1, nI_n1e, nI_neg1e, Nat.not_lt_zero, Nat.lt_irrefl, true_and, and_true, true_implies, false_implies, not_true_eq_false, not_false_eq_true, implies_true, forall_const, forall_eq, if_true, if_false, Nat.reduceEqDiff, eq_self, Nat.one_ne_zero, Nat.zero_ne_one, Nat.zero_add, Nat.add_zero, hw, hn]
    exact k
theorem s170 {x : Int32} (hw : g.1 0 70 2 = nI w) (w10 : w < 10) (hR : RMM (g.1 0 71) w D) (rk : ROK D) (k : Φ (.inl (some (vI (nI (cntF (fun r => decide (D 7 r = x)) (nR D)))))) g) : Rn sc (d + 3) 170 [vR 0 70, vI x] g Φ := by
  have hn := hR.n rk
  have h40 := rk.2
  have f1 := hR.f1
  refine Rn.of rfl (v170_0 ?_)
  refine turns (W := fun q => Xe sc (d + 2) 170 4 [vR 0 70, vI x, vI (nI (cntF (fun r => decide (D 7 r = x)) q)), vI (nI q)] [] g Φ) (n := nR D) (fun q hq hW => ?_) ?_
  · refine v170_4 ?_
    simp (disch := omega) only [nI_ltI, nI_eq, nI_clamp, nI_add, nI_mul, inb_nI, nI_neg1, nI_ne1, nI_n1e, nI_neg1e, Nat.not_lt_zero, Nat.lt_irrefl, true_and, and_true, true_implies, false_implies, not_true_eq_false, not_false_eq_true, implies_true, forall_const, forall_eq, if_true, if_false, Nat.reduceEqDiff, eq_self, Nat.one_ne_zero, Nat.zero_ne_one, Nat.zero_add, Nat.add_zero, hw, hn, hq, f1]
    refine ⟨fun h => ?_, fun h => ?_⟩
    · unfold cntF at hW
      rw [decide_eq_true h] at hW
      exact hW
    · unfold cntF at hW
      rw [decide_eq_false h] at hW
      exact hW
  · refine v170_4 ?_
    simp (disch := omega) only [nI_ltI, nI_eq, nI_clamp, nI_add, nI_mul, inb_nI, nI_neg1, nI_ne1, nI_n1e, nI_neg1e, Nat.not_lt_zero, Nat.lt_irrefl, true_and, and_true, true_implies, false_implies, not_true_eq_false, not_false_eq_true, implies_true, forall_const, forall_eq, if_true, if_false, Nat.reduceEqDiff, eq_self, Nat.one_ne_zero, Nat.zero_ne_one, Nat.zero_add, Nat.add_zero, hw, hn]
    exact k
theorem s197 {c : Nat} (hc : c < 10) (hw : g.1 0 70 2 = nI w) (w10 : w < 10) (hR : RMM (g.1 0 71) w D) (rk : ROK D) (k : Φ (.inl (some (vI (nI (cntF (fun r => decide (nI 0 < D (6 + c) r)) (nR D)))))) g) : Rn sc (d + 3) 197 [vR 0 70, vI (nI c)] g Φ := by
  have hn := hR.n rk
  have h40 := rk.2
  have f := fun r hr => hR.2.2.2.2 r hr c hc
  refine Rn.of rfl (v197_0 ?_)
  refine turns (W := fun q => Xe sc (d + 2) 197 4 [vR 0 70, vI (nI c), vI (nI (cntF (fun r => decide (nI 0 < D (6 + c) r)) q)), vI (nI q)] [] g Φ) (n := nR D) (fun q hq hW => ?_) ?_
  · refine v197_4 ?_
    simp (disch := omega) only [nI_ltI, nI_eq, nI_clamp, nI_add, nI_mul, inb_nI, nI_neg1, nI_ne1, nI_n1e, nI_neg1e, Nat.not_lt_zero, Nat.lt_irrefl, true_and, and_true, true_implies, false_implies, not_true_eq_false, not_false_eq_true, implies_true, forall_const, forall_eq, if_true, if_false, Nat.reduceEqDiff, eq_self, Nat.one_ne_zero, Nat.zero_ne_one, Nat.zero_add, Nat.add_zero, hw, hn, hq, f]
    refine ⟨fun h => ?_, fun h => ?_⟩
    · unfold cntF at hW
      rw [decide_eq_true h] at hW
      exact hW
    · unfold cntF at hW
      rw [decide_eq_false h] at hW
      exact hW
  · refine v197_4 ?_
    simp (disch := omega) only [nI_ltI, nI_eq, nI_clamp, nI_add, nI_mul, inb_nI, nI_neg1, nI_ne1, nI_n1e, nI_neg1e, Nat.not_lt_zero, Nat.lt_irrefl, true_and, and_true, true_implies, false_implies, not_true_eq_false, not_false_eq_true, implies_true, forall_const, forall_eq, if_true, if_false, Nat.reduceEqDiff, eq_self, Nat.one_ne_zero, Nat.zero_ne_one, Nat.zero_add, Nat.add_zero, hw, hn]
    exact k
theorem blw_neg {ou : Nat → Int32} {t : Int32} (f : Nat) : blw ou t f (-nI 1) = false := by
  cases f with
  | zero => rfl
  | succ f => unfold blw; rw [if_pos nI_neg1]
/-- the loop of isBelow answers as blw does -/
theorem s145 {v e : Nat} {t : Int32} (hw : g.1 0 70 2 = nI w) (w10 : w < 10) (hR : RMV (g.1 0 71) w D) (vk : VOK D) (hv : v < nV D) (he : e < nS D v) (ht : ¬ t < nI 0) (k : Φ (.inl (some (vI (if blw (fun e => D 5 (v * 12 + e)) t 12 (nI e) = true then nI 1 else nI 0)))) g) : Rn sc (d + 3) 145 [vR 0 70, vI (nI v), vI (nI e), vI t] g Φ := by
  have ho := hR.o
  have v4 := vk.2.1
  obtain ⟨q1, q2, q3, q4, q5⟩ := vk.2.2 v hv
  have hne : ¬ (-nI 1) = t := fun q => ht (q ▸ nI_neg1)
  have loop : ∀ f x, (x = -nI 1 ∨ ∃ e, e < nS D v ∧ e < f ∧ x = nI e) → Φ (.inl (some (vI (if blw (fun e => D 5 (v * 12 + e)) t f x = true then nI 1 else nI 0)))) g → Xe sc (d + 2) 145 3 [vR 0 70, vI (nI v), vI (nI e), vI t, vI x] [] g Φ := by
    intro f
    induction f with
    | zero =>
      intro x hx k
      rcases hx with rfl | ⟨e, -, h, -⟩
      · refine v145_3 ⟨fun _ => ⟨fun h => absurd h hne, fun _ => k⟩, fun h => absurd rfl h⟩
      · omega
    | succ f ih =>
      intro x hx k
      rcases hx with rfl | ⟨e, h1, h2, rfl⟩
      · rw [blw_neg] at k
        exact v145_3 ⟨fun _ => ⟨fun h => absurd h hne, fun _ => k⟩, fun h => absurd rfl h⟩
      · unfold blw at k
        rw [if_neg (nI_nn (by omega))] at k
        refine v145_3 ?_
        simp (disch := omega) only [nI_ltI, nI_eq, nI_clamp, nI_add, nI_mul, inb_nI, nI_neg1, nI_ne1, nI_n1e, nI_neg1e, Nat.not_lt_zero, Nat.lt_irrefl, true_and, and_true, true_implies, false_implies, not_true_eq_false, not_false_eq_true, implies_true, forall_const, forall_eq, if_true, if_false, Nat.reduceEqDiff, eq_self, Nat.one_ne_zero, Nat.zero_ne_one, Nat.zero_add, Nat.add_zero, hw, ho, hv, h1]
        refine ⟨fun h => ?_, fun h => ?_⟩
        · rw [if_pos h] at k; exact k
        · rw [if_neg h, nI_clamp (by omega)] at k
          refine ih _ ?_ k
          by_cases h0 : e = 0
          · subst h0; exact Or.inl q4
          · obtain ⟨o, g1, g2⟩ := q5 e h1 h0
            exact Or.inr ⟨o, by omega, by omega, g2⟩
  exact Rn.of rfl (v145_0 (loop 12 _ (Or.inr ⟨e, he, by omega, rfl⟩) k))
/-- whether a directory is one of the mount's -/
def hasD (D : Nat → Nat → Int32) (r : Nat) (dd : Int32) : Bool := blw (fun e => D 5 ((D 8 r).toNatClampNeg * 12 + e)) (D 9 r) 12 (if dd < D 3 (D 8 r).toNatClampNeg then dd else -nI 1)
theorem s146 {r v : Nat} {dd : Int32} (hw : g.1 0 70 2 = nI w) (w10 : w < 10) (hR : RMM (g.1 0 71) w D) (rk : ROK D) (hV : RMV (g.1 0 71) w D) (vk : VOK D) (hr : r < nR D) (h8 : D 8 r = nI v) (hv : v < nV D) (h9 : ¬ D 9 r < nI 0) (k : Φ (.inl (some (vI (if hasD D r dd = true then nI 1 else nI 0)))) g) : Rn sc (d + 5) 146 [vR 0 70, vI (nI r), vI dd] g Φ := by
  have h40 := rk.2
  have f2 := hR.f2
  have f3 := hR.f3
  have hs := hV.s vk
  have v4 := vk.2.1
  obtain ⟨q1, q2, q3, q4, q5⟩ := vk.2.2 v hv
  have e1 : nI (nS D v) - nI 1 = nI (nS D v - 1) := by
    obtain ⟨z, hz⟩ : ∃ z, nS D v = z + 1 := ⟨nS D v - 1, by omega⟩
    rw [hz]
    exact nI_pred z
  have i1 : (Int64.ofNat 0).toInt = 0 := by decide +kernel
  unfold hasD at k
  rw [h8, nI_clamp (by omega), q1] at k
  refine Rn.of rfl (v146_0 ?_)
  simp (disch := omega) only [nI_ltI, nI_eq, nI_clamp, nI_add, nI_mul, inb_nI, nI_neg1, nI_ne1, nI_n1e, nI_neg1e, Nat.not_lt_zero, Nat.lt_irrefl, true_and, and_true, true_implies, false_implies, not_true_eq_false, not_false_eq_true, implies_true, forall_const, forall_eq, if_true, if_false, Nat.reduceEqDiff, eq_self, Nat.one_ne_zero, Nat.zero_ne_one, Nat.zero_add, Nat.add_zero, hw, f2, f3, h8, hr, hs, hv, e1]
  refine s128 ⟨_, rfl, ?_⟩
  rw [j64, j64, i1, nI_toInt (by omega)]
  by_cases hd : 0 ≤ dd.toInt ∧ dd.toInt ≤ (nS D v - 1 : Nat)
  · rw [if_pos hd]
    have hd0 : ¬ dd < 0 := fun q => by
      have := Int32.lt_iff_toInt_lt.mp q
      rw [show (0 : Int32).toInt = 0 from rfl] at this
      omega
    obtain ⟨e, he, rfl⟩ := nI_of hd0
    rw [nI_toInt he] at hd
    have he2 : e < nS D v := by omega
    simp (disch := omega) only [nI_ltI, nI_eq, nI_clamp, nI_add, nI_mul, inb_nI, nI_neg1, nI_ne1, nI_n1e, nI_neg1e, Nat.not_lt_zero, Nat.lt_irrefl, true_and, and_true, true_implies, false_implies, not_true_eq_false, not_false_eq_true, implies_true, forall_const, forall_eq, if_true, if_false, Nat.reduceEqDiff, eq_self, Nat.one_ne_zero, Nat.zero_ne_one, Nat.zero_add, Nat.add_zero, he2] at k
    simp (disch := omega) only [nI_ltI, nI_eq, nI_clamp, nI_add, nI_mul, inb_nI, nI_neg1, nI_ne1, nI_n1e, nI_neg1e, Nat.not_lt_zero, Nat.lt_irrefl, true_and, and_true, true_implies, false_implies, not_true_eq_false, not_false_eq_true, implies_true, forall_const, forall_eq, if_true, if_false, Nat.reduceEqDiff, eq_self, Nat.one_ne_zero, Nat.zero_ne_one, Nat.zero_add, Nat.add_zero, hw, f2, f3, h8, hr]
    refine s145 hw w10 hV vk hv he2 h9 ?_
    refine ⟨_, rfl, ?_⟩
    split at k
    · rename_i hb
      rw [if_pos hb]
      simp (disch := omega) only [nI_ltI, nI_eq, nI_clamp, nI_add, nI_mul, inb_nI, nI_neg1, nI_ne1, nI_n1e, nI_neg1e, Nat.not_lt_zero, Nat.lt_irrefl, true_and, and_true, true_implies, false_implies, not_true_eq_false, not_false_eq_true, implies_true, forall_const, forall_eq, if_true, if_false, Nat.reduceEqDiff, eq_self, Nat.one_ne_zero, Nat.zero_ne_one, Nat.zero_add, Nat.add_zero]
      exact k
    · rename_i hb
      rw [if_neg hb]
      simp (disch := omega) only [nI_ltI, nI_eq, nI_clamp, nI_add, nI_mul, inb_nI, nI_neg1, nI_ne1, nI_n1e, nI_neg1e, Nat.not_lt_zero, Nat.lt_irrefl, true_and, and_true, true_implies, false_implies, not_true_eq_false, not_false_eq_true, implies_true, forall_const, forall_eq, if_true, if_false, Nat.reduceEqDiff, eq_self, Nat.one_ne_zero, Nat.zero_ne_one, Nat.zero_add, Nat.add_zero]
      exact k
  · rw [if_neg hd]
    simp (disch := omega) only [nI_ltI, nI_eq, nI_clamp, nI_add, nI_mul, inb_nI, nI_neg1, nI_ne1, nI_n1e, nI_neg1e, Nat.not_lt_zero, Nat.lt_irrefl, true_and, and_true, true_implies, false_implies, not_true_eq_false, not_false_eq_true, implies_true, forall_const, forall_eq, if_true, if_false, Nat.reduceEqDiff, eq_self, Nat.one_ne_zero, Nat.zero_ne_one, Nat.zero_add, Nat.add_zero]
    have hb : blw (fun e => D 5 (v * 12 + e)) (D 9 r) 12 (if dd < nI (nS D v) then dd else -nI 1) = false := by
      by_cases hlt : dd < nI (nS D v)
      · rw [if_pos hlt]
        by_cases h0 : dd < nI 0
        · unfold blw
          rw [if_pos h0]
        · obtain ⟨e, he, rfl⟩ := nI_of (show ¬ dd < 0 from h0)
          rw [nI_ltI he (by omega)] at hlt
          rw [nI_toInt he] at hd
          omega
      · rw [if_neg hlt]
        exact blw_neg 12
    rw [hb] at k
    exact k
end MR
