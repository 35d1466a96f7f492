/-! UNMOUNT, by the class's changer and by the reference -/
def bsy (D : Nat → Nat → Int32) (x : Nat) : Bool := (fst9 (nR D) fun o => decide (D 10 o = D 6 x)).isSome
/-- what a follower of this number loses -/
def rmO (dd v top : Int32) (E : Nat → Nat → Int32) (nf : Int32) : Option Nat :=
  match fst9 (nR E) (fun r => decide (E 6 r = nf)) with
  | none => none
  | some f => match onP E f dd with
    | none => none
    | some y => if E 8 y = v ∧ E 9 y = top ∧ E 15 y = nI 0 ∧ bsy E y = false then some y else none
def rmA (dd v top : Int32) (E : Nat → Nat → Int32) (nf : Int32) : Nat → Nat → Int32 := match rmO dd v top E nf with
  | none => E
  | some y => aRem E y (nR E)
def rmN (dd v top : Int32) (E : Nat → Nat → Int32) (nf : Int32) : Nat := match rmO dd v top E nf with
  | none => 0
  | some _ => 1
def rmS (dd v top : Int32) (p : (Nat → Nat → Int32) × Nat) (nf : Int32) : (Nat → Nat → Int32) × Nat := (rmA dd v top p.1 nf, p.2 + rmN dd v top p.1 nf)
noncomputable def numL (D : Nat → Nat → Int32) (u : Nat) : List Int32 := ((folL D u).filter (fun f => decide (f ≠ u))).map (D 6)
noncomputable def aUnm (D : Nat → Nat → Int32) (x : Nat) : Int32 × (Nat → Nat → Int32) :=
  if ¬ D 15 x = nI 0 then (-nI 3, D) else match fst9 (nR D) (fun r => decide (D 6 r = D 10 x)) with
    | none => (-nI 4, D)
    | some u => if bsy D x = true then (-nI 5, D) else (nI ((numL D u).foldl (rmS (D 11 x) (D 8 x) (D 9 x)) (aRem D x (nR D), 1)).2, ((numL D u).foldl (rmS (D 11 x) (D 8 x) (D 9 x)) (aRem D x (nR D), 1)).1)
theorem aRem_at {E D : Nat → Nat → Int32} {q n : Nat} (h : ∀ c, c < 16 → E c = D c) : ∀ c, c < 16 → aRem E q n c = aRem D q n c := fun c hc => by
  funext k
  unfold aRem
  rw [h c hc]
theorem rmA_rok {dd v top nf : Int32} {E : Nat → Nat → Int32} (h : ROK E) : ROK (rmA dd v top E nf) := by
  unfold rmA
  split
  · exact h
  · exact rok_aRem h.2
theorem rmS_rok {dd v top : Int32} : ∀ (l : List Int32) (p : (Nat → Nat → Int32) × Nat), ROK p.1 → ROK (l.foldl (rmS dd v top) p).1 := by
  intro l
  induction l with
  | nil => intro p h; exact h
  | cons a r ih => intro p h; exact ih _ (rmA_rok (dd := dd) (v := v) (top := top) (nf := a) h)
section UM
variable {sc : SC} {d i w x M : Nat} {g : Gs} {Φ : RS → Gs → Prop} {D E : Nat → Nat → Int32} {dd v top nf : Int32}
theorem s38A {q : Nat} (hA : At g i D) (rk : ROK D) (hq : q < nR D) (k : ∀ g', At g' i (aRem D q (nR D)) → Fr (PD i) g g' → Φ (.inl none) g') : Rn sc (d + 2) 38 [vR i 0, vI (nI q)] g Φ :=
  s38 (hA.k (by decide) rk.1) rk.2 hq (fun g' hm => k g' (fun c hc => by rw [hm.1]; exact aRem_at hA c hc) hm.2)
theorem s44A {q : Nat} (hA : At g i D) (rk : ROK D) (hq : q < nR D) (k : Φ (.inl (some (vI (if bsy D q = true then nI 1 else nI 0)))) g) : Rn sc (d + 1) 44 [vR i 0, vI (nI q)] g Φ := by
  refine s44 (hA.k (by decide) rk.1) rk.2 hq ?_
  rw [hA 6 (by decide), hA 10 (by decide)]; exact k
theorem s12 (hi : fm i = i) (hA : At g i E) (rk : ROK E) (k : ∀ g', At g' i (rmA dd v top E nf) → Fr (PD i) g g' → Φ (.inl (some (vI (nI (rmN dd v top E nf))))) g') : Rn sc (d + 3) 12 [vR i 40, vI nf, vI dd, vI v, vI top] g Φ := by
  have n40 := rk.2
  have e8 : g.1 i 8 = E 8 := hA 8 (by decide)
  have e9 : g.1 i 9 = E 9 := hA 9 (by decide)
  have e15 : g.1 i 15 = E 15 := hA 15 (by decide)
  unfold rmA rmN rmO at k
  refine Rn.of rfl (v12_0 ?_)
  simp (disch := omega) only [u3_nc, u3_ek, u3_nk, upd_e, upd_n, dU_nk, dU_nc, dU_e, nI_ltI, nI_eq, nI_clamp, nI_add, nI_mul, inb_nI, nI_neg1, nI_ne1, nI_n1e, nI_neg1e, Nat.not_lt_zero, Nat.lt_irrefl, true_and, and_true, true_implies, false_implies, not_true_eq_false, not_false_eq_true, implies_true, forall_const, forall_eq, if_true, if_false, Nat.reduceEqDiff, eq_self, Nat.one_ne_zero, Nat.zero_ne_one, Nat.zero_add, Nat.add_zero, hi]
  refine s41A hA rk ⟨_, rfl, ?_⟩
  cases hf : fst9 (nR E) (fun r => decide (E 6 r = nf)) with
  | none =>
    rw [hf] at k
    exact ⟨fun _ => k g hA (Fr.rf g), fun h => absurd eo_none h⟩
  | some f =>
    rw [hf] at k
    dsimp only at k
    have hfn := (fst9_some hf).1
    refine ⟨fun h => absurd h (nI_nn (show f < 2 ^ 31 by omega)), fun _ => ?_⟩
    refine s42A hA rk hfn ⟨_, rfl, ?_⟩
    cases hy : onP E f dd with
    | none =>
      rw [hy] at k
      exact ⟨fun _ => k g hA (Fr.rf g), fun h => absurd eo_none h⟩
    | some y =>
      rw [hy] at k
      dsimp only at k
      have hyn := (fst9_some hy).1
      refine ⟨fun h => absurd h (nI_nn (show y < 2 ^ 31 by omega)), fun _ => ?_⟩
      rw [show eo (some y) = nI y from rfl]
      simp (disch := omega) only [u3_nc, u3_ek, u3_nk, upd_e, upd_n, dU_nk, dU_nc, dU_e, nI_ltI, nI_eq, nI_clamp, nI_add, nI_mul, inb_nI, nI_neg1, nI_ne1, nI_n1e, nI_neg1e, Nat.not_lt_zero, Nat.lt_irrefl, true_and, and_true, true_implies, false_implies, not_true_eq_false, not_false_eq_true, implies_true, forall_const, forall_eq, if_true, if_false, Nat.reduceEqDiff, eq_self, Nat.one_ne_zero, Nat.zero_ne_one, Nat.zero_add, Nat.add_zero, hi, e8, e9, e15]
      have no : ¬ (E 8 y = v ∧ E 9 y = top ∧ E 15 y = nI 0 ∧ bsy E y = false) → Φ (.inl (some (vI (nI 0)))) g := fun h => by
        rw [if_neg h] at k; exact k g hA (Fr.rf g)
      refine ⟨fun h1 => ⟨fun h2 => ⟨fun h3 => ?_, fun h3 => no (fun q => h3 q.2.2.1)⟩, fun h2 => no (fun q => h2 q.2.1)⟩, fun h1 => no (fun q => h1 q.1)⟩
      refine s44A hA rk hyn ⟨_, rfl, ?_⟩
      cases hb : bsy E y with
      | true =>
        exact ⟨fun h => absurd h (by decide +kernel), fun _ => no (fun q => by rw [hb] at q; cases q.2.2.2)⟩
      | false =>
        rw [if_pos ⟨h1, h2, h3, hb⟩] at k
        exact ⟨fun _ => s38A hA rk hyn (fun g' a' f' => ⟨rfl, k g' a' f'⟩), fun h => absurd rfl h⟩
theorem s11 (hi : fm i = i) (hA : At g i D) (hw : CW D M) (hx : x < nR D) (hp : D 10 x = -nI 1 ∨ ∃ u, u < nR D ∧ D 10 x = D 6 u)
    (k : ∀ g', At g' i (aUnm D x).2 → Fr (PC i) g g' → Φ (.inl (some (vI (aUnm D x).1))) g') : Rn sc (d + 5) 11 [vR i 40, vI (nI x)] g Φ := by
  have n40 := hw.1.2
  have e15 : g.1 i 15 = D 15 := hA 15 (by decide)
  have e10 : g.1 i 10 = D 10 := hA 10 (by decide)
  unfold aUnm at k
  refine Rn.of rfl (v11_0 ?_)
  simp (disch := omega) only [u3_nc, u3_ek, u3_nk, upd_e, upd_n, dU_nk, dU_nc, dU_e, nI_ltI, nI_eq, nI_clamp, nI_add, nI_mul, inb_nI, nI_neg1, nI_ne1, nI_n1e, nI_neg1e, Nat.not_lt_zero, Nat.lt_irrefl, true_and, and_true, true_implies, false_implies, not_true_eq_false, not_false_eq_true, implies_true, forall_const, forall_eq, if_true, if_false, Nat.reduceEqDiff, eq_self, Nat.one_ne_zero, Nat.zero_ne_one, Nat.zero_add, Nat.add_zero, hi, e15, e10]
  refine ⟨fun h0 => ⟨fun h1 => ?_, fun h1 => ?_⟩, fun h0 => ?_⟩
  · rw [if_neg (fun q => q h0)] at k
    rcases hp with e | ⟨u, hu, e⟩
    · rw [fst9_no (fun j hj => decide_eq_false (fun q => by rw [e, (hw.2.2.1.2.2.2 j hj).1] at q; exact nI_ne1 (by have := hw.2.2.1.2.2.2 j hj; have := hw.2.2.1.2; omega) q))] at k
      exact k g hA (Fr.rf g)
    · rw [e, (hw.2.2.1.2.2.2 u hu).1] at h1
      exact absurd h1 (nI_nn (by have := hw.2.2.1.2.2.2 u hu; have := hw.2.2.1.2; omega))
  · rw [if_neg (fun q => q h0)] at k
    rcases hp with e | ⟨u, hu, e⟩
    · rw [e] at h1; exact absurd nI_neg1 h1
    · have hrow := hw.2.2.1.row n40 hu
      rw [← e] at hrow
      rw [hrow] at k
      dsimp only at k
      refine s41A hA hw.1 ⟨_, rfl, ?_⟩
      rw [hrow]
      refine ⟨fun h => absurd h (nI_nn (show u < 2 ^ 31 by omega)), fun _ => ?_⟩
      rw [show eo (some u) = nI u from rfl]
      refine s44A hA hw.1 hx ⟨_, rfl, ?_⟩
      cases hb : bsy D x with
      | true =>
        rw [if_pos hb] at k
        exact ⟨fun h => absurd h (by decide +kernel), fun _ => k g hA (Fr.rf g)⟩
      | false =>
        rw [if_neg (by rw [hb]; exact Bool.false_ne_true)] at k
        refine ⟨fun _ => ?_, fun h => absurd rfl h⟩
        refine s19 (fun c hc => by rw [hi]; exact hA c hc) hw.1 hu (fun g1 f1 hG => ⟨rfl, ?_⟩)
        have a1 : At g1 i D := hA.fr f1 (by omega)
        have e6 : g1.1 i 6 = D 6 := a1 6 (by decide)
        have e8 : g1.1 i 8 = D 8 := a1 8 (by decide)
        have e9 : g1.1 i 9 = D 9 := a1 9 (by decide)
        have e11 : g1.1 i 11 = D 11 := a1 11 (by decide)
        simp (disch := omega) only [u3_nc, u3_ek, u3_nk, upd_e, upd_n, dU_nk, dU_nc, dU_e, nI_ltI, nI_eq, nI_clamp, nI_add, nI_mul, inb_nI, nI_neg1, nI_ne1, nI_n1e, nI_neg1e, Nat.not_lt_zero, Nat.lt_irrefl, true_and, and_true, true_implies, false_implies, not_true_eq_false, not_false_eq_true, implies_true, forall_const, forall_eq, if_true, if_false, Nat.reduceEqDiff, eq_self, Nat.one_ne_zero, Nat.zero_ne_one, Nat.zero_add, Nat.add_zero, hi, e6, e8, e9, e11]
        refine s38A a1 hw.1 hx (fun g2 a2 f2 => ⟨rfl, ?_⟩)
        obtain ⟨l, hl⟩ : ∃ l, l = folL D u := ⟨_, rfl⟩
        have hlen := folL_len (D := D) (r := u)
        have hlt : ∀ f ∈ l, f < nR D := fun f hf => folL_lt (hl ▸ hf)
        unfold numL at k
        rw [← hl] at hG hlen k
        have fin : ∀ g', At g' i ((((l.take l.length).filter (fun f => decide (f ≠ u))).map (D 6)).foldl (rmS (D 11 x) (D 8 x) (D 9 x)) (aRem D x (nR D), 1)).1 → Fr (PD i) g2 g' → Φ (.inl (some (vI (nI ((((l.take l.length).filter (fun f => decide (f ≠ u))).map (D 6)).foldl (rmS (D 11 x) (D 8 x) (D 9 x)) (aRem D x (nR D), 1)).2)))) g' := fun g' a' f' => by
          rw [List.take_length] at a' ⊢
          exact k g' a' ((f1.wk (by omega)).tr ((f2.wk (by omega)).tr (f'.wk (by omega))))
        refine turnsS (σ := Gs) (W := fun q s => Xe sc (d + 4) 11 110 [vR i 40, vI (nI x), vI (nI u), vI (D 6 u), vI (D 11 x), vI (D 8 x), vI (D 9 x), vI (nI ((((l.take q).filter (fun f => decide (f ≠ u))).map (D 6)).foldl (rmS (D 11 x) (D 8 x) (D 9 x)) (aRem D x (nR D), 1)).2), vI (nI q)] [] s Φ)
          (I := fun q s => Fr (PD i) g2 s ∧ At s i ((((l.take q).filter (fun f => decide (f ≠ u))).map (D 6)).foldl (rmS (D 11 x) (D 8 x) (D 9 x)) (aRem D x (nR D), 1)).1) (n := l.length)
          (fun q s hq ⟨i1, i2⟩ hW => ?_) (fun s ⟨i1, i2⟩ => ?_) g2 ⟨Fr.rf g2, a2⟩
        · obtain ⟨p, hp⟩ : ∃ p, p = (((l.take q).filter (fun f => decide (f ≠ u))).map (D 6)).foldl (rmS (D 11 x) (D 8 x) (D 9 x)) (aRem D x (nR D), 1) := ⟨_, rfl⟩
          have hpr : ROK p.1 := by rw [hp]; exact rmS_rok _ _ (rok_aRem n40)
          rw [← hp] at i2 ⊢
          obtain ⟨f, hf⟩ : ∃ f, f = l[q] := ⟨_, rfl⟩
          have hfl : f ∈ l := by rw [hf]; exact List.getElem_mem hq
          have hfn := hlt f hfl
          have ht : l[q]? = some f := by rw [hf]; exact List.getElem?_eq_getElem hq
          have hG2 := (hG.fr f2 (by omega)).fr i1 (by omega)
          obtain ⟨g33, -, -⟩ := hG2.2 q f ht
          have h7 := hG2.1
          rw [List.take_succ_eq_append_getElem hq, ← hf, List.filter_append, List.map_append, List.foldl_append, ← hp] at hW
          refine v11_110 ?_
          simp (disch := omega) only [u3_nc, u3_ek, u3_nk, upd_e, upd_n, dU_nk, dU_nc, dU_e, nI_ltI, nI_eq, nI_clamp, nI_add, nI_mul, inb_nI, nI_neg1, nI_ne1, nI_n1e, nI_neg1e, Nat.not_lt_zero, Nat.lt_irrefl, true_and, and_true, true_implies, false_implies, not_true_eq_false, not_false_eq_true, implies_true, forall_const, forall_eq, if_true, if_false, Nat.reduceEqDiff, eq_self, Nat.one_ne_zero, Nat.zero_ne_one, Nat.zero_add, Nat.add_zero, h7, hq, g33]
          refine ⟨fun he => ?_, fun he => ?_⟩
          · have hfu := hw.2.2.1.uq n40 hfn hu he
            rw [show List.filter (fun f => decide (f ≠ u)) [f] = [] by simp [hfu]] at hW
            exact hW s ⟨i1, i2⟩
          · have hfu : f ≠ u := fun q => he (by rw [q])
            rw [show List.filter (fun f => decide (f ≠ u)) [f] = [f] by simp [hfu]] at hW
            refine s12 hi i2 hpr (fun g' a' f' => ⟨_, rfl, ?_⟩)
            have := hW g' ⟨i1.tr f', a'⟩
            simp (disch := omega) only [u3_nc, u3_ek, u3_nk, upd_e, upd_n, dU_nk, dU_nc, dU_e, nI_ltI, nI_eq, nI_clamp, nI_add, nI_mul, inb_nI, nI_neg1, nI_ne1, nI_n1e, nI_neg1e, Nat.not_lt_zero, Nat.lt_irrefl, true_and, and_true, true_implies, false_implies, not_true_eq_false, not_false_eq_true, implies_true, forall_const, forall_eq, if_true, if_false, Nat.reduceEqDiff, eq_self, Nat.one_ne_zero, Nat.zero_ne_one, Nat.zero_add, Nat.add_zero]
            exact this
        · have h7 := ((hG.fr f2 (by omega)).fr i1 (by omega)).1
          refine v11_110 ?_
          simp (disch := omega) only [u3_nc, u3_ek, u3_nk, upd_e, upd_n, dU_nk, dU_nc, dU_e, nI_ltI, nI_eq, nI_clamp, nI_add, nI_mul, inb_nI, nI_neg1, nI_ne1, nI_n1e, nI_neg1e, Nat.not_lt_zero, Nat.lt_irrefl, true_and, and_true, true_implies, false_implies, not_true_eq_false, not_false_eq_true, implies_true, forall_const, forall_eq, if_true, if_false, Nat.reduceEqDiff, eq_self, Nat.one_ne_zero, Nat.zero_ne_one, Nat.zero_add, Nat.add_zero, h7]
          exact fin s i2 i1
  · rw [if_pos h0] at k
    exact k g hA (Fr.rf g)
end UM
