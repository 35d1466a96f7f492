/-! WHY A MOUNT MAY NOT BE MOVED -/
def up (D : Nat → Nat → Int32) (a : Nat) : Option Nat := fst9 (nR D) (fun r => decide (D 6 r = D 10 a))
/-- whether x is met on the way up, in so many steps -/
def und (D : Nat → Nat → Int32) (x : Nat) : Nat → Option Nat → Bool
  | 0, _ => false
  | _ + 1, none => false
  | f + 1, some a => if a = x then true else und D x f (up D a)
/-- what rows stand on; no ring -/
def OKP (D : Nat → Nat → Int32) : Prop := ∀ a, a < nR D → D 10 a = -nI 1 ∨ ∃ u, u < nR D ∧ D 10 a = D 6 u
def RNK (D : Nat → Nat → Int32) : Prop := ∃ rk : Nat → Nat, ∀ a u, a < nR D → u < nR D → D 10 a = D 6 u → rk u < rk a
theorem up_lt {D : Nat → Nat → Int32} {a u : Nat} (h : up D a = some u) : u < nR D := (fst9_some h).1
theorem up_eq {D : Nat → Nat → Int32} {a u : Nat} (h : up D a = some u) : D 10 a = D 6 u := (of_decide_eq_true (fst9_some h).2.1).symm
theorem num_nn {D : Nat → Nat → Int32} {M a : Nat} (hw : CW D M) (ha : a < nR D) : ¬ D 6 a < nI 0 := by
  have h1 := hw.2.2.1.2.2.2 a ha
  have h2 := hw.2.2.1.2
  have h3 := hw.1.2
  rw [h1.1]
  exact nI_nn (by omega)
theorem up_no {D : Nat → Nat → Int32} {M a : Nat} (hw : CW D M) (h : D 10 a < nI 0) : up D a = none := fst9_no (fun j hj => decide_eq_false (fun q => num_nn hw hj (by rw [q]; exact h)))
theorem up_yes {D : Nat → Nat → Int32} {M a : Nat} (hw : CW D M) (ok : OKP D) (ha : a < nR D) (h : ¬ D 10 a < nI 0) : ∃ u, u < nR D ∧ up D a = some u := by
  rcases ok a ha with e | ⟨u, hu, e⟩
  · rw [e] at h; exact absurd nI_neg1 h
  · refine ⟨u, hu, ?_⟩
    unfold up
    rw [e]
    exact hw.2.2.1.row hw.1.2 hu
def aRef (D : Nat → Nat → Int32) (x m : Nat) (dd : Int32) : Int32 :=
  if (onP D m dd).isSome = true then -nI 1 else if ¬ D 14 x = nI 0 ∧ ¬ D 12 m = nI 0 then -nI 2 else if ¬ D 15 x = nI 0 then -nI 3 else match up D x with
    | none => -nI 4
    | some u => if ¬ D 12 m = nI 0 ∧ bsy D x = true then -nI 5 else if ¬ D 12 u = nI 0 then -nI 6 else if ¬ D 7 x = D 7 m ∨ und D x 40 (some m) = true then -nI 7 else nI 0
section RF
variable {sc : SC} {d i w x m M : Nat} {g : Gs} {Φ : RS → Gs → Prop} {D : Nat → Nat → Int32} {dd : Int32}
theorem s5 (hi : fm i = i) (hA : At g i D) (hw : CW D M) (hm : m < nR D) (hx : x < nR D) (k : Φ (.inl (some (vI (if und D x 40 (some m) = true then nI 1 else nI 0)))) g) : Rn sc (d + 3) 5 [vR i 40, vI (nI m), vI (nI x)] g Φ := by
  have n40 := hw.1.2
  have e10 : g.1 i 10 = D 10 := hA 10 (by decide)
  refine Rn.of rfl (v5_0 ?_)
  have loop : ∀ f q o, q + f = 40 → (∀ a, o = some a → a < nR D) → Φ (.inl (some (vI (if und D x f o = true then nI 1 else nI 0)))) g → Xe sc (d + 2) 5 5 [vR i 40, vI (nI m), vI (nI x), vI (eo o), vI (nI q)] [] g Φ := by
    intro f
    induction f with
    | zero =>
      intro q o hq ho k
      obtain rfl : q = 40 := by omega
      refine v5_5 ?_
      simp (disch := omega) only [u3_nc, u3_ek, u3_nk, upd_e, upd_n, dU_nk, dU_nc, dU_e, nI_ltI, nI_eq, nI_clamp, nI_add, nI_mul, inb_nI, nI_neg1, nI_ne1, nI_n1e, nI_neg1e, Nat.not_lt_zero, Nat.lt_irrefl, true_and, and_true, true_implies, false_implies, not_true_eq_false, not_false_eq_true, implies_true, forall_const, forall_eq, if_true, if_false, Nat.reduceEqDiff, eq_self, Nat.one_ne_zero, Nat.zero_ne_one, Nat.zero_add, Nat.add_zero]
      exact k
    | succ f ih =>
      intro q o hq ho k
      have hq40 : q < 40 := by omega
      cases o with
      | none =>
        refine v5_5 ?_
        simp (disch := omega) only [u3_nc, u3_ek, u3_nk, upd_e, upd_n, dU_nk, dU_nc, dU_e, nI_ltI, nI_eq, nI_clamp, nI_add, nI_mul, inb_nI, nI_neg1, nI_ne1, nI_n1e, nI_neg1e, Nat.not_lt_zero, Nat.lt_irrefl, true_and, and_true, true_implies, false_implies, not_true_eq_false, not_false_eq_true, implies_true, forall_const, forall_eq, if_true, if_false, Nat.reduceEqDiff, eq_self, Nat.one_ne_zero, Nat.zero_ne_one, Nat.zero_add, Nat.add_zero, hq40]
        exact ⟨fun _ => k, fun h => absurd eo_none h⟩
      | some a =>
        have han := ho a rfl
        unfold und at k
        rw [show eo (some a) = nI a from rfl]
        refine v5_5 ?_
        simp (disch := omega) only [u3_nc, u3_ek, u3_nk, upd_e, upd_n, dU_nk, dU_nc, dU_e, nI_ltI, nI_eq, nI_clamp, nI_add, nI_mul, inb_nI, nI_neg1, nI_ne1, nI_n1e, nI_neg1e, Nat.not_lt_zero, Nat.lt_irrefl, true_and, and_true, true_implies, false_implies, not_true_eq_false, not_false_eq_true, implies_true, forall_const, forall_eq, if_true, if_false, Nat.reduceEqDiff, eq_self, Nat.one_ne_zero, Nat.zero_ne_one, Nat.zero_add, Nat.add_zero, hq40, hi, e10]
        refine ⟨fun he => ?_, fun he => ⟨fun h1 => ?_, fun h1 => ?_⟩⟩
        · rw [if_pos he] at k; exact k
        · rw [if_neg he, up_no hw h1] at k
          exact ih (q + 1) none (by omega) (fun a h => nomatch h) k
        · rw [if_neg he] at k
          refine s41A hA hw.1 ⟨_, rfl, ?_⟩
          exact ih (q + 1) (up D a) (by omega) (fun b hb => up_lt hb) k
  exact loop 40 0 (some m) rfl (fun a h => by cases h; exact hm) k
theorem s149 (h : MC g w D) (hw : CW D M) (rk : RNK D) (hm : m < nR D) (hx : x < nR D) (k : Φ (.inl (some (vI (if und D x 40 (some m) = true then nI 1 else nI 0)))) g) : Rn sc (d + 4) 149 [vR 0 70, vI (nI m), vI (nI x)] g Φ := by
  have n40 := hw.1.2
  have w0 := h.w
  have w10 := h.l
  obtain ⟨rk, hrk⟩ := rk
  refine Rn.of rfl (v149_0 ?_)
  have loop : ∀ f o (L : List Nat), L.length + f = 40 → L.Nodup → (∀ y ∈ L, y < nR D) → (∀ a, o = some a → a < nR D ∧ ∀ y ∈ L, rk a < rk y) → Φ (.inl (some (vI (if und D x f o = true then nI 1 else nI 0)))) g → Xe sc (d + 3) 149 2 [vR 0 70, vI (nI m), vI (nI x), vI (eo o)] [] g Φ := by
    intro f
    induction f with
    | zero =>
      intro o L hL hd hl ho k
      cases o with
      | none =>
        exact v149_2 ⟨fun _ => ⟨fun q => absurd q.symm (nI_ne1 (by omega)), fun _ => k⟩, fun q => absurd rfl q⟩
      | some a =>
        obtain ⟨h1, h2⟩ := ho a rfl
        have := nodup_len (nR D) (a :: L) (List.nodup_cons.mpr ⟨fun hm => Nat.lt_irrefl _ (h2 a hm), hd⟩) (fun y hy => by
          rcases List.mem_cons.mp hy with e | e
          · rw [e]; exact h1
          · exact hl y e)
        rw [List.length_cons] at this
        omega
    | succ f ih =>
      intro o L hL hd hl ho k
      cases o with
      | none =>
        exact v149_2 ⟨fun _ => ⟨fun q => absurd q.symm (nI_ne1 (by omega)), fun _ => k⟩, fun q => absurd rfl q⟩
      | some a =>
        obtain ⟨h1, h2⟩ := ho a rfl
        have q4 := h.m.f4 a h1
        unfold und at k
        rw [show eo (some a) = nI a from rfl]
        refine v149_2 ⟨fun q => absurd q (nI_ne1 (by omega)), fun _ => ?_⟩
        simp (disch := omega) only [u3_nc, u3_ek, u3_nk, upd_e, upd_n, dU_nk, dU_nc, dU_e, nI_ltI, nI_eq, nI_clamp, nI_add, nI_mul, inb_nI, nI_neg1, nI_ne1, nI_n1e, nI_neg1e, Nat.not_lt_zero, Nat.lt_irrefl, true_and, and_true, true_implies, false_implies, not_true_eq_false, not_false_eq_true, implies_true, forall_const, forall_eq, if_true, if_false, Nat.reduceEqDiff, eq_self, Nat.one_ne_zero, Nat.zero_ne_one, Nat.zero_add, Nat.add_zero, w0, q4]
        have nx : ∀ o, up D a = o → Φ (.inl (some (vI (if und D x f o = true then nI 1 else nI 0)))) g → Xe sc (d + 3) 149 2 [vR 0 70, vI (nI m), vI (nI x), vI (eo o)] [] g Φ := fun o ho2 kk => by
          refine ih o (a :: L) (by rw [List.length_cons]; omega) (List.nodup_cons.mpr ⟨fun hm => Nat.lt_irrefl _ (h2 a hm), hd⟩) (fun y hy => ?_) (fun b hb => ?_) kk
          · rcases List.mem_cons.mp hy with e | e
            · rw [e]; exact h1
            · exact hl y e
          · rw [hb] at ho2
            have hba := hrk a b h1 (up_lt ho2) (up_eq ho2)
            refine ⟨up_lt ho2, fun y hy => ?_⟩
            rcases List.mem_cons.mp hy with e | e
            · rw [e]; exact hba
            · exact Nat.lt_trans hba (h2 y e)
        refine ⟨fun he => ?_, fun he => ⟨fun h3 => ?_, fun h3 => ?_⟩⟩
        · rw [if_pos he] at k; exact k
        · have hu := up_no (a := a) hw (by rw [h3]; exact nI_neg1)
          rw [if_neg he, hu] at k
          exact nx none hu k
        · rw [if_neg he] at k
          refine s144 h.w h.l h.m h.r ⟨_, rfl, ?_⟩
          exact nx (up D a) rfl k
  exact loop 40 (some m) [] rfl List.nodup_nil (fun y hy => nomatch hy) (fun a h => by cases h; exact ⟨hm, fun y hy => nomatch hy⟩) k
theorem s4 (hi : fm i = i) (hA : At g i D) (hw : CW D M) (ok : OKP D) (hm : m < nR D) (hx : x < nR D) (k : Φ (.inl (some (vI (aRef D x m dd)))) g) : Rn sc (d + 4) 4 [vR i 40, vI (nI x), vI (nI m), vI dd] g Φ := by
  have n40 := hw.1.2
  have e7 : g.1 i 7 = D 7 := hA 7 (by decide)
  have e10 : g.1 i 10 = D 10 := hA 10 (by decide)
  have e12 : g.1 i 12 = D 12 := hA 12 (by decide)
  have e14 : g.1 i 14 = D 14 := hA 14 (by decide)
  have e15 : g.1 i 15 = D 15 := hA 15 (by decide)
  have fin : ∀ z, aRef D x m dd = z → Φ (.inl (some (vI z))) g := fun z hz => hz ▸ k
  have upn : D 10 x < nI 0 → up D x = none := up_no hw
  have upy : ¬ D 10 x < nI 0 → ∃ u, u < nR D ∧ up D x = some u := up_yes hw ok hx
  have hos := (eo_isSome (o := onP D m dd) (fun j h => (fst9_some h).1) n40).1
  refine Rn.of rfl (v4_0 ?_)
  simp (disch := omega) only [u3_nc, u3_ek, u3_nk, upd_e, upd_n, dU_nk, dU_nc, dU_e, nI_ltI, nI_eq, nI_clamp, nI_add, nI_mul, inb_nI, nI_neg1, nI_ne1, nI_n1e, nI_neg1e, Nat.not_lt_zero, Nat.lt_irrefl, true_and, and_true, true_implies, false_implies, not_true_eq_false, not_false_eq_true, implies_true, forall_const, forall_eq, if_true, if_false, Nat.reduceEqDiff, eq_self, Nat.one_ne_zero, Nat.zero_ne_one, Nat.zero_add, Nat.add_zero, hi, e12]
  refine ⟨fun h0 => ?_, fun h0 => ?_⟩
  · refine s42A hA hw.1 hm ⟨_, rfl, ?_⟩
    rw [hos]
    simp (disch := omega) only [u3_nc, u3_ek, u3_nk, upd_e, upd_n, dU_nk, dU_nc, dU_e, nI_ltI, nI_eq, nI_clamp, nI_add, nI_mul, inb_nI, nI_neg1, nI_ne1, nI_n1e, nI_neg1e, Nat.not_lt_zero, Nat.lt_irrefl, true_and, and_true, true_implies, false_implies, not_true_eq_false, not_false_eq_true, implies_true, forall_const, forall_eq, if_true, if_false, Nat.reduceEqDiff, eq_self, Nat.one_ne_zero, Nat.zero_ne_one, Nat.zero_add, Nat.add_zero, hi, e14, e15, e10]
    refine ⟨fun h1 => ⟨fun h2 => ?_, fun h2 => ?_⟩, fun h1 => ?_⟩
    · skip
      refine ⟨fun h4 => ⟨fun h5 => ?_, fun h5 => ?_⟩, fun h4 => ?_⟩
      · exact fin (-nI 4) (by unfold aRef; rw [if_neg h1, if_neg (fun q => q.2 h0)]; rw [if_neg (fun q => q h4), upn h5])
      · obtain ⟨u, hu, he⟩ := upy h5
        refine s41A hA hw.1 ⟨_, rfl, ?_⟩
        rw [show fst9 (nR D) (fun r => decide (D 6 r = D 10 x)) = some u from he, show eo (some u) = nI u from rfl]
        refine ⟨fun h => absurd h (nI_nn (by omega)), fun _ => ?_⟩
        simp (disch := omega) only [u3_nc, u3_ek, u3_nk, upd_e, upd_n, dU_nk, dU_nc, dU_e, nI_ltI, nI_eq, nI_clamp, nI_add, nI_mul, inb_nI, nI_neg1, nI_ne1, nI_n1e, nI_neg1e, Nat.not_lt_zero, Nat.lt_irrefl, true_and, and_true, true_implies, false_implies, not_true_eq_false, not_false_eq_true, implies_true, forall_const, forall_eq, if_true, if_false, Nat.reduceEqDiff, eq_self, Nat.one_ne_zero, Nat.zero_ne_one, Nat.zero_add, Nat.add_zero, hi, e7, e12]
        refine ⟨fun h6 => ⟨fun h7 => s5 hi hA hw hm hx ⟨_, rfl, ?_⟩, fun h7 => ?_⟩, fun h6 => ?_⟩
        · by_cases hd : und D x 40 (some m) = true
          · rw [if_pos hd]
            exact ⟨fun h => absurd h (by decide +kernel), fun _ => fin (-nI 7) (by unfold aRef; rw [if_neg h1, if_neg (fun q => q.2 h0)]; rw [if_neg (fun q => q h4), he]; dsimp only; rw [if_neg (fun q => q.1 h0)]; rw [if_neg (fun q => q h6), if_pos (Or.inr hd)])⟩
          · rw [if_neg hd]
            exact ⟨fun _ => fin (nI 0) (by unfold aRef; rw [if_neg h1, if_neg (fun q => q.2 h0)]; rw [if_neg (fun q => q h4), he]; dsimp only; rw [if_neg (fun q => q.1 h0)]; rw [if_neg (fun q => q h6), if_neg (fun q => q.elim (fun q => q h7) hd)]), fun h => absurd rfl h⟩
        · exact fin (-nI 7) (by unfold aRef; rw [if_neg h1, if_neg (fun q => q.2 h0)]; rw [if_neg (fun q => q h4), he]; dsimp only; rw [if_neg (fun q => q.1 h0)]; rw [if_neg (fun q => q h6), if_pos (Or.inl h7)])
        · exact fin (-nI 6) (by unfold aRef; rw [if_neg h1, if_neg (fun q => q.2 h0)]; rw [if_neg (fun q => q h4), he]; dsimp only; rw [if_neg (fun q => q.1 h0)]; rw [if_pos h6])
      · exact fin (-nI 3) (by unfold aRef; rw [if_neg h1, if_neg (fun q => q.2 h0)]; rw [if_pos h4])
    · skip
      refine ⟨fun h4 => ⟨fun h5 => ?_, fun h5 => ?_⟩, fun h4 => ?_⟩
      · exact fin (-nI 4) (by unfold aRef; rw [if_neg h1, if_neg (fun q => q.2 h0)]; rw [if_neg (fun q => q h4), upn h5])
      · obtain ⟨u, hu, he⟩ := upy h5
        refine s41A hA hw.1 ⟨_, rfl, ?_⟩
        rw [show fst9 (nR D) (fun r => decide (D 6 r = D 10 x)) = some u from he, show eo (some u) = nI u from rfl]
        refine ⟨fun h => absurd h (nI_nn (by omega)), fun _ => ?_⟩
        simp (disch := omega) only [u3_nc, u3_ek, u3_nk, upd_e, upd_n, dU_nk, dU_nc, dU_e, nI_ltI, nI_eq, nI_clamp, nI_add, nI_mul, inb_nI, nI_neg1, nI_ne1, nI_n1e, nI_neg1e, Nat.not_lt_zero, Nat.lt_irrefl, true_and, and_true, true_implies, false_implies, not_true_eq_false, not_false_eq_true, implies_true, forall_const, forall_eq, if_true, if_false, Nat.reduceEqDiff, eq_self, Nat.one_ne_zero, Nat.zero_ne_one, Nat.zero_add, Nat.add_zero, hi, e7, e12]
        refine ⟨fun h6 => ⟨fun h7 => s5 hi hA hw hm hx ⟨_, rfl, ?_⟩, fun h7 => ?_⟩, fun h6 => ?_⟩
        · by_cases hd : und D x 40 (some m) = true
          · rw [if_pos hd]
            exact ⟨fun h => absurd h (by decide +kernel), fun _ => fin (-nI 7) (by unfold aRef; rw [if_neg h1, if_neg (fun q => q.2 h0)]; rw [if_neg (fun q => q h4), he]; dsimp only; rw [if_neg (fun q => q.1 h0)]; rw [if_neg (fun q => q h6), if_pos (Or.inr hd)])⟩
          · rw [if_neg hd]
            exact ⟨fun _ => fin (nI 0) (by unfold aRef; rw [if_neg h1, if_neg (fun q => q.2 h0)]; rw [if_neg (fun q => q h4), he]; dsimp only; rw [if_neg (fun q => q.1 h0)]; rw [if_neg (fun q => q h6), if_neg (fun q => q.elim (fun q => q h7) hd)]), fun h => absurd rfl h⟩
        · exact fin (-nI 7) (by unfold aRef; rw [if_neg h1, if_neg (fun q => q.2 h0)]; rw [if_neg (fun q => q h4), he]; dsimp only; rw [if_neg (fun q => q.1 h0)]; rw [if_neg (fun q => q h6), if_pos (Or.inl h7)])
        · exact fin (-nI 6) (by unfold aRef; rw [if_neg h1, if_neg (fun q => q.2 h0)]; rw [if_neg (fun q => q h4), he]; dsimp only; rw [if_neg (fun q => q.1 h0)]; rw [if_pos h6])
      · exact fin (-nI 3) (by unfold aRef; rw [if_neg h1, if_neg (fun q => q.2 h0)]; rw [if_pos h4])
    · exact fin (-nI 1) (by unfold aRef; rw [if_pos (Decidable.not_not.mp h1)])
  · refine s42A hA hw.1 hm ⟨_, rfl, ?_⟩
    rw [hos]
    simp (disch := omega) only [u3_nc, u3_ek, u3_nk, upd_e, upd_n, dU_nk, dU_nc, dU_e, nI_ltI, nI_eq, nI_clamp, nI_add, nI_mul, inb_nI, nI_neg1, nI_ne1, nI_n1e, nI_neg1e, Nat.not_lt_zero, Nat.lt_irrefl, true_and, and_true, true_implies, false_implies, not_true_eq_false, not_false_eq_true, implies_true, forall_const, forall_eq, if_true, if_false, Nat.reduceEqDiff, eq_self, Nat.one_ne_zero, Nat.zero_ne_one, Nat.zero_add, Nat.add_zero, hi, e14, e15, e10]
    refine ⟨fun h1 => ⟨fun h2 => ?_, fun h2 => ?_⟩, fun h1 => ?_⟩
    · skip
      refine ⟨fun h4 => ⟨fun h5 => ?_, fun h5 => ?_⟩, fun h4 => ?_⟩
      · exact fin (-nI 4) (by unfold aRef; rw [if_neg h1, if_neg (fun q => q.1 h2)]; rw [if_neg (fun q => q h4), upn h5])
      · obtain ⟨u, hu, he⟩ := upy h5
        refine s41A hA hw.1 ⟨_, rfl, ?_⟩
        rw [show fst9 (nR D) (fun r => decide (D 6 r = D 10 x)) = some u from he, show eo (some u) = nI u from rfl]
        refine ⟨fun h => absurd h (nI_nn (by omega)), fun _ => ?_⟩
        refine s44A hA hw.1 hx ⟨_, rfl, ?_⟩
        cases hb : bsy D x with
        | true => exact ⟨fun h => absurd h (by decide +kernel), fun _ => fin (-nI 5) (by unfold aRef; rw [if_neg h1, if_neg (fun q => q.1 h2)]; rw [if_neg (fun q => q h4), he]; dsimp only; rw [if_pos ⟨h0, hb⟩])⟩
        | false =>
          refine ⟨fun _ => ?_, fun h => absurd rfl h⟩
          simp (disch := omega) only [u3_nc, u3_ek, u3_nk, upd_e, upd_n, dU_nk, dU_nc, dU_e, nI_ltI, nI_eq, nI_clamp, nI_add, nI_mul, inb_nI, nI_neg1, nI_ne1, nI_n1e, nI_neg1e, Nat.not_lt_zero, Nat.lt_irrefl, true_and, and_true, true_implies, false_implies, not_true_eq_false, not_false_eq_true, implies_true, forall_const, forall_eq, if_true, if_false, Nat.reduceEqDiff, eq_self, Nat.one_ne_zero, Nat.zero_ne_one, Nat.zero_add, Nat.add_zero, hi, e7, e12]
          refine ⟨fun h6 => ⟨fun h7 => s5 hi hA hw hm hx ⟨_, rfl, ?_⟩, fun h7 => ?_⟩, fun h6 => ?_⟩
          · by_cases hd : und D x 40 (some m) = true
            · rw [if_pos hd]
              exact ⟨fun h => absurd h (by decide +kernel), fun _ => fin (-nI 7) (by unfold aRef; rw [if_neg h1, if_neg (fun q => q.1 h2)]; rw [if_neg (fun q => q h4), he]; dsimp only; rw [if_neg (fun q => by rw [hb] at q; cases q.2)]; rw [if_neg (fun q => q h6), if_pos (Or.inr hd)])⟩
            · rw [if_neg hd]
              exact ⟨fun _ => fin (nI 0) (by unfold aRef; rw [if_neg h1, if_neg (fun q => q.1 h2)]; rw [if_neg (fun q => q h4), he]; dsimp only; rw [if_neg (fun q => by rw [hb] at q; cases q.2)]; rw [if_neg (fun q => q h6), if_neg (fun q => q.elim (fun q => q h7) hd)]), fun h => absurd rfl h⟩
          · exact fin (-nI 7) (by unfold aRef; rw [if_neg h1, if_neg (fun q => q.1 h2)]; rw [if_neg (fun q => q h4), he]; dsimp only; rw [if_neg (fun q => by rw [hb] at q; cases q.2)]; rw [if_neg (fun q => q h6), if_pos (Or.inl h7)])
          · exact fin (-nI 6) (by unfold aRef; rw [if_neg h1, if_neg (fun q => q.1 h2)]; rw [if_neg (fun q => q h4), he]; dsimp only; rw [if_neg (fun q => by rw [hb] at q; cases q.2)]; rw [if_pos h6])
      · exact fin (-nI 3) (by unfold aRef; rw [if_neg h1, if_neg (fun q => q.1 h2)]; rw [if_pos h4])
    · exact fin (-nI 2) (by unfold aRef; rw [if_neg h1, if_pos ⟨h2, h0⟩])
    · exact fin (-nI 1) (by unfold aRef; rw [if_pos (Decidable.not_not.mp h1)])
theorem s164 (h : MC g w D) (hw : CW D M) (gn : GNN D) (bt : BIT D) (ok : OKP D) (rk : RNK D) (hm : m < nR D) (hx : x < nR D) (k : Φ (.inl (some (vI (aRef D x m dd)))) g) : Rn sc (d + 5) 164 [vR 0 70, vI (nI x), vI (nI m), vI dd] g Φ := by
  have n40 := hw.1.2
  have w0 := h.w
  have w10 := h.l
  have q6m := h.m.f6 m hm
  have q1m := h.m.f1 m hm
  have q1x := h.m.f1 x hx
  have q4 := h.m.f4 x hx
  have q8 := h.m.f8 x hx
  have q9 := h.m.f9 x hx
  have fin : ∀ z, aRef D x m dd = z → Φ (.inl (some (vI z))) g := fun z hz => hz ▸ k
  have upn : D 10 x = -nI 1 → up D x = none := fun q => up_no hw (by rw [q]; exact nI_neg1)
  have upy : ¬ D 10 x = -nI 1 → ∃ u, u < nR D ∧ up D x = some u := fun q => by
    rcases ok x hx with e | ⟨u, hu, e⟩
    · exact absurd e q
    · refine up_yes hw ok hx ?_
      rw [e]; exact num_nn hw hu
  have hos := (eo_isSome (o := onP D m dd) (fun j h => (fst9_some h).1) n40).2
  refine Rn.of rfl (v164_0 ?_)
  simp (disch := omega) only [u3_nc, u3_ek, u3_nk, upd_e, upd_n, dU_nk, dU_nc, dU_e, nI_ltI, nI_eq, nI_clamp, nI_add, nI_mul, inb_nI, nI_neg1, nI_ne1, nI_n1e, nI_neg1e, Nat.not_lt_zero, Nat.lt_irrefl, true_and, and_true, true_implies, false_implies, not_true_eq_false, not_false_eq_true, implies_true, forall_const, forall_eq, if_true, if_false, Nat.reduceEqDiff, eq_self, Nat.one_ne_zero, Nat.zero_ne_one, Nat.zero_add, Nat.add_zero, w0, q6m, gnn_pos (gn m hm).1]
  refine ⟨fun h0 => ?_, fun h0 => ?_⟩
  · refine s147 h.w h.l h.m h.r hm ⟨_, rfl, ?_⟩
    rw [show (fst9 (nR D) fun o => decide (D 10 o = D 6 m ∧ D 11 o = dd)) = onP D m dd from rfl, hos]
    simp (disch := omega) only [u3_nc, u3_ek, u3_nk, upd_e, upd_n, dU_nk, dU_nc, dU_e, nI_ltI, nI_eq, nI_clamp, nI_add, nI_mul, inb_nI, nI_neg1, nI_ne1, nI_n1e, nI_neg1e, Nat.not_lt_zero, Nat.lt_irrefl, true_and, and_true, true_implies, false_implies, not_true_eq_false, not_false_eq_true, implies_true, forall_const, forall_eq, if_true, if_false, Nat.reduceEqDiff, eq_self, Nat.one_ne_zero, Nat.zero_ne_one, Nat.zero_add, Nat.add_zero, w0, q8, q9, q4, bit_1 (bt x hx).1, bit_1 (bt x hx).2]
    refine ⟨fun h1 => ⟨fun h2 => ?_, fun h2 => ?_⟩, fun h1 => ?_⟩
    · exact fin (-nI 2) (by unfold aRef; rw [if_neg h1, if_pos ⟨h2, h0⟩])
    · skip
      refine ⟨fun h4 => ?_, fun h4 => ⟨fun h5 => ?_, fun h5 => ?_⟩⟩
      · exact fin (-nI 3) (by unfold aRef; rw [if_neg h1, if_neg (fun q => h2 q.1)]; rw [if_pos h4])
      · exact fin (-nI 4) (by unfold aRef; rw [if_neg h1, if_neg (fun q => h2 q.1)]; rw [if_neg h4, upn h5])
      · obtain ⟨u, hu, he⟩ := upy h5
        refine s148 h.w h.l h.m h.r hx ⟨_, rfl, ?_⟩
        rw [show (fst9 (nR D) fun o => decide (D 10 o = D 6 x)).isSome = bsy D x from rfl]
        cases hb : bsy D x with
        | true => exact ⟨fun h => absurd h (by decide +kernel), fun _ => fin (-nI 5) (by unfold aRef; rw [if_neg h1, if_neg (fun q => h2 q.1)]; rw [if_neg h4, he]; dsimp only; rw [if_pos ⟨h0, hb⟩])⟩
        | false =>
          refine ⟨fun _ => ?_, fun h => absurd rfl h⟩
          simp (disch := omega) only [u3_nc, u3_ek, u3_nk, upd_e, upd_n, dU_nk, dU_nc, dU_e, nI_ltI, nI_eq, nI_clamp, nI_add, nI_mul, inb_nI, nI_neg1, nI_ne1, nI_n1e, nI_neg1e, Nat.not_lt_zero, Nat.lt_irrefl, true_and, and_true, true_implies, false_implies, not_true_eq_false, not_false_eq_true, implies_true, forall_const, forall_eq, if_true, if_false, Nat.reduceEqDiff, eq_self, Nat.one_ne_zero, Nat.zero_ne_one, Nat.zero_add, Nat.add_zero, w0, q4]
          refine s144 h.w h.l h.m h.r ⟨_, rfl, ?_⟩
          rw [show fst9 (nR D) (fun r => decide (D 6 r = D 10 x)) = some u from he, show eo (some u) = nI u from rfl]
          have q6u := h.m.f6 u hu
          simp (disch := omega) only [u3_nc, u3_ek, u3_nk, upd_e, upd_n, dU_nk, dU_nc, dU_e, nI_ltI, nI_eq, nI_clamp, nI_add, nI_mul, inb_nI, nI_neg1, nI_ne1, nI_n1e, nI_neg1e, Nat.not_lt_zero, Nat.lt_irrefl, true_and, and_true, true_implies, false_implies, not_true_eq_false, not_false_eq_true, implies_true, forall_const, forall_eq, if_true, if_false, Nat.reduceEqDiff, eq_self, Nat.one_ne_zero, Nat.zero_ne_one, Nat.zero_add, Nat.add_zero, w0, q6u, q1x, q1m, gnn_pos (gn u hu).1]
          refine ⟨fun h6 => ?_, fun h6 => ⟨fun h7 => s149 h hw rk hm hx ⟨_, rfl, ?_⟩, fun h7 => ?_⟩⟩
          · exact fin (-nI 6) (by unfold aRef; rw [if_neg h1, if_neg (fun q => h2 q.1)]; rw [if_neg h4, he]; dsimp only; rw [if_neg (fun q => by rw [hb] at q; cases q.2)]; rw [if_pos h6])
          · by_cases hd : und D x 40 (some m) = true
            · rw [if_pos hd]
              exact ⟨fun h => absurd h (by decide +kernel), fun _ => fin (-nI 7) (by unfold aRef; rw [if_neg h1, if_neg (fun q => h2 q.1)]; rw [if_neg h4, he]; dsimp only; rw [if_neg (fun q => by rw [hb] at q; cases q.2)]; rw [if_neg h6, if_pos (Or.inr hd)])⟩
            · rw [if_neg hd]
              exact ⟨fun _ => fin (nI 0) (by unfold aRef; rw [if_neg h1, if_neg (fun q => h2 q.1)]; rw [if_neg h4, he]; dsimp only; rw [if_neg (fun q => by rw [hb] at q; cases q.2)]; rw [if_neg h6, if_neg (fun q => q.elim (fun q => q h7) hd)]), fun h => absurd rfl h⟩
          · exact fin (-nI 7) (by unfold aRef; rw [if_neg h1, if_neg (fun q => h2 q.1)]; rw [if_neg h4, he]; dsimp only; rw [if_neg (fun q => by rw [hb] at q; cases q.2)]; rw [if_neg h6, if_pos (Or.inl h7)])
    · exact fin (-nI 1) (by unfold aRef; rw [if_pos (Decidable.not_not.mp h1)])
  · refine s147 h.w h.l h.m h.r hm ⟨_, rfl, ?_⟩
    rw [show (fst9 (nR D) fun o => decide (D 10 o = D 6 m ∧ D 11 o = dd)) = onP D m dd from rfl, hos]
    simp (disch := omega) only [u3_nc, u3_ek, u3_nk, upd_e, upd_n, dU_nk, dU_nc, dU_e, nI_ltI, nI_eq, nI_clamp, nI_add, nI_mul, inb_nI, nI_neg1, nI_ne1, nI_n1e, nI_neg1e, Nat.not_lt_zero, Nat.lt_irrefl, true_and, and_true, true_implies, false_implies, not_true_eq_false, not_false_eq_true, implies_true, forall_const, forall_eq, if_true, if_false, Nat.reduceEqDiff, eq_self, Nat.one_ne_zero, Nat.zero_ne_one, Nat.zero_add, Nat.add_zero, w0, q8, q9, q4, bit_1 (bt x hx).1, bit_1 (bt x hx).2]
    refine ⟨fun h1 => ?_, fun h1 => ?_⟩
    · skip
      refine ⟨fun h4 => ?_, fun h4 => ⟨fun h5 => ?_, fun h5 => ?_⟩⟩
      · exact fin (-nI 3) (by unfold aRef; rw [if_neg h1, if_neg (fun q => q.2 (Decidable.not_not.mp h0))]; rw [if_pos h4])
      · exact fin (-nI 4) (by unfold aRef; rw [if_neg h1, if_neg (fun q => q.2 (Decidable.not_not.mp h0))]; rw [if_neg h4, upn h5])
      · obtain ⟨u, hu, he⟩ := upy h5
        refine s144 h.w h.l h.m h.r ⟨_, rfl, ?_⟩
        rw [show fst9 (nR D) (fun r => decide (D 6 r = D 10 x)) = some u from he, show eo (some u) = nI u from rfl]
        have q6u := h.m.f6 u hu
        simp (disch := omega) only [u3_nc, u3_ek, u3_nk, upd_e, upd_n, dU_nk, dU_nc, dU_e, nI_ltI, nI_eq, nI_clamp, nI_add, nI_mul, inb_nI, nI_neg1, nI_ne1, nI_n1e, nI_neg1e, Nat.not_lt_zero, Nat.lt_irrefl, true_and, and_true, true_implies, false_implies, not_true_eq_false, not_false_eq_true, implies_true, forall_const, forall_eq, if_true, if_false, Nat.reduceEqDiff, eq_self, Nat.one_ne_zero, Nat.zero_ne_one, Nat.zero_add, Nat.add_zero, w0, q6u, q1x, q1m, gnn_pos (gn u hu).1]
        refine ⟨fun h6 => ?_, fun h6 => ⟨fun h7 => s149 h hw rk hm hx ⟨_, rfl, ?_⟩, fun h7 => ?_⟩⟩
        · exact fin (-nI 6) (by unfold aRef; rw [if_neg h1, if_neg (fun q => q.2 (Decidable.not_not.mp h0))]; rw [if_neg h4, he]; dsimp only; rw [if_neg (fun q => q.1 (Decidable.not_not.mp h0))]; rw [if_pos h6])
        · by_cases hd : und D x 40 (some m) = true
          · rw [if_pos hd]
            exact ⟨fun h => absurd h (by decide +kernel), fun _ => fin (-nI 7) (by unfold aRef; rw [if_neg h1, if_neg (fun q => q.2 (Decidable.not_not.mp h0))]; rw [if_neg h4, he]; dsimp only; rw [if_neg (fun q => q.1 (Decidable.not_not.mp h0))]; rw [if_neg h6, if_pos (Or.inr hd)])⟩
          · rw [if_neg hd]
            exact ⟨fun _ => fin (nI 0) (by unfold aRef; rw [if_neg h1, if_neg (fun q => q.2 (Decidable.not_not.mp h0))]; rw [if_neg h4, he]; dsimp only; rw [if_neg (fun q => q.1 (Decidable.not_not.mp h0))]; rw [if_neg h6, if_neg (fun q => q.elim (fun q => q h7) hd)]), fun h => absurd rfl h⟩
        · exact fin (-nI 7) (by unfold aRef; rw [if_neg h1, if_neg (fun q => q.2 (Decidable.not_not.mp h0))]; rw [if_neg h4, he]; dsimp only; rw [if_neg (fun q => q.1 (Decidable.not_not.mp h0))]; rw [if_neg h6, if_pos (Or.inl h7)])
    · exact fin (-nI 1) (by unfold aRef; rw [if_pos (Decidable.not_not.mp h1)])
end RF
