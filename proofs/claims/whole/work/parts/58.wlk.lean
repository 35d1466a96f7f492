/-! THE WALKER: down through what stands on a place -/
def dn (D : Nat → Nat → Int32) : Nat → Nat → Int32 → Nat × Int32
  | 0, r, dd => (r, dd)
  | f + 1, r, dd => match onP D r dd with
    | none => (r, dd)
    | some o => dn D f o (D 9 o)
/-- where one comes that goes to a place -/
def dnD (D : Nat → Nat → Int32) (r : Nat) (dd : Int32) : Nat × Int32 := dn D 40 r dd
theorem dn_lt {D : Nat → Nat → Int32} : ∀ f r dd, r < nR D → (dn D f r dd).1 < nR D := by
  intro f
  induction f with
  | zero => intro r dd h; exact h
  | succ f ih =>
    intro r dd h
    unfold dn
    cases ho : onP D r dd with
    | none => exact h
    | some o => exact ih o _ (fst9_some ho).1
theorem onP_on {D : Nat → Nat → Int32} {r o : Nat} {dd : Int32} (h : onP D r dd = some o) : o < nR D ∧ D 10 o = D 6 r ∧ D 11 o = dd := ⟨(fst9_some h).1, (of_decide_eq_true (fst9_some h).2.1).1, (of_decide_eq_true (fst9_some h).2.1).2⟩
/-- the one root of a space -/
def ROT (D : Nat → Nat → Int32) (sp : Int32) (a : Nat) : Prop := a < nR D ∧ D 7 a = sp ∧ D 10 a = -nI 1 ∧ ∀ b, b < nR D → D 7 b = sp → D 10 b = -nI 1 → b = a
abbrev P45 (i : Nat) : Nat → Nat → Prop := fun i' c => i' = i ∧ c = 45
def FD (g g' : Gs) : Prop := Fr (fun i c => i = 0 ∧ c = 70) g g' ∧ ∀ k, k ≠ 11 → k ≠ 12 → g'.1 0 70 k = g.1 0 70 k
theorem FD.rf (g : Gs) : FD g g := ⟨Fr.rf g, fun _ _ _ => rfl⟩
theorem FD.tr {a b c : Gs} (h1 : FD a b) (h2 : FD b c) : FD a c := ⟨h1.1.tr h2.1, fun k p q => (h2.2 k p q).trans (h1.2 k p q)⟩
theorem FD.p {g : Gs} {k : Nat} {v : Int32} (h : k = 11 ∨ k = 12) : FD g (u3 g.1 0 70 k v, g.2) := ⟨Fr.u3 (Fr.rf g) ⟨rfl, rfl⟩, fun j p q => by dsimp only; rw [u3_nk (by omega)]⟩
section WK
variable {sc : SC} {d i w r M : Nat} {g : Gs} {Φ : RS → Gs → Prop} {D : Nat → Nat → Int32} {dd sp : Int32}
theorem s89 (hi : fm i = i) (hA : At g i D) (rk : ROK D) (hr : r < nR D) (k : ∀ g', Fr (P45 i) g g' → g'.1 i 45 1 = nI (dnD D r dd).1 → g'.1 i 45 2 = (dnD D r dd).2 → Φ (.inl none) g') : Rn sc (d + 2) 89 [vR i 45, vI (nI r), vI dd] g Φ := by
  have n40 := rk.2
  refine Rn.of rfl (v89_0 ?_)
  have a2 : At (u3 (u3 g.1 i 45 1 (nI r)) i 45 2 dd, g.2) i D := At.ux (At.ux hA (by decide)) (by decide)
  have f2 : Fr (P45 i) g (u3 (u3 g.1 i 45 1 (nI r)) i 45 2 dd, g.2) := by repeat (first | exact Fr.rf _ | refine Fr.u3 ?_ ⟨rfl, rfl⟩)
  simp (disch := omega) only [u3_nc, u3_ek, u3_nk, upd_e, upd_n, dU_nk, dU_nc, dU_e, nI_ltI, nI_eq, nI_clamp, nI_add, nI_mul, inb_nI, nI_neg1, nI_ne1, nI_n1e, nI_neg1e, Nat.not_lt_zero, Nat.lt_irrefl, true_and, and_true, true_implies, false_implies, not_true_eq_false, not_false_eq_true, implies_true, forall_const, forall_eq, if_true, if_false, Nat.reduceEqDiff, eq_self, Nat.one_ne_zero, Nat.zero_ne_one, Nat.zero_add, Nat.add_zero, hi]
  refine s42A a2 rk hr ⟨_, rfl, ?_⟩
  have loop : ∀ f q z e s, q + f = 40 → z < nR D → At s i D → Fr (P45 i) g s → s.1 i 45 1 = nI z → s.1 i 45 2 = e → dn D f z e = dnD D r dd → Xe sc (d + 1) 89 29 [vR i 45, vI (nI r), vI dd, vI (eo (onP D z e)), vI (nI q)] [] s Φ := by
    intro f
    induction f with
    | zero =>
      intro q z e s hq hz hs hf c1 c2 hd
      obtain rfl : q = 40 := by omega
      refine v89_29 ?_
      simp (disch := omega) only [u3_nc, u3_ek, u3_nk, upd_e, upd_n, dU_nk, dU_nc, dU_e, nI_ltI, nI_eq, nI_clamp, nI_add, nI_mul, inb_nI, nI_neg1, nI_ne1, nI_n1e, nI_neg1e, Nat.not_lt_zero, Nat.lt_irrefl, true_and, and_true, true_implies, false_implies, not_true_eq_false, not_false_eq_true, implies_true, forall_const, forall_eq, if_true, if_false, Nat.reduceEqDiff, eq_self, Nat.one_ne_zero, Nat.zero_ne_one, Nat.zero_add, Nat.add_zero]
      have hd2 : (z, e) = dnD D r dd := hd
      exact k s hf (by rw [← hd2]; exact c1) (by rw [← hd2]; exact c2)
    | succ f ih =>
      intro q z e s hq hz hs hf c1 c2 hd
      have hq40 : q < 40 := by omega
      unfold dn at hd
      cases ho : onP D z e with
      | none =>
        rw [ho] at hd
        have hd2 : (z, e) = dnD D r dd := hd
        refine v89_29 ?_
        simp (disch := omega) only [u3_nc, u3_ek, u3_nk, upd_e, upd_n, dU_nk, dU_nc, dU_e, nI_ltI, nI_eq, nI_clamp, nI_add, nI_mul, inb_nI, nI_neg1, nI_ne1, nI_n1e, nI_neg1e, Nat.not_lt_zero, Nat.lt_irrefl, true_and, and_true, true_implies, false_implies, not_true_eq_false, not_false_eq_true, implies_true, forall_const, forall_eq, if_true, if_false, Nat.reduceEqDiff, eq_self, Nat.one_ne_zero, Nat.zero_ne_one, Nat.zero_add, Nat.add_zero, hq40]
        exact ⟨fun _ => k s hf (by rw [← hd2]; exact c1) (by rw [← hd2]; exact c2), fun h => absurd eo_none h⟩
      | some o =>
        rw [ho] at hd
        dsimp only at hd
        have hon := (onP_on ho).1
        have hnn : ¬ nI o < nI 0 := nI_nn (by omega)
        have e9 : s.1 i 9 = D 9 := hs 9 (by decide)
        rw [show eo (some o) = nI o from rfl]
        refine v89_29 ?_
        simp (disch := omega) only [u3_nc, u3_ek, u3_nk, upd_e, upd_n, dU_nk, dU_nc, dU_e, nI_ltI, nI_eq, nI_clamp, nI_add, nI_mul, inb_nI, nI_neg1, nI_ne1, nI_n1e, nI_neg1e, Nat.not_lt_zero, Nat.lt_irrefl, true_and, and_true, true_implies, false_implies, not_true_eq_false, not_false_eq_true, implies_true, forall_const, forall_eq, if_true, if_false, Nat.reduceEqDiff, eq_self, Nat.one_ne_zero, Nat.zero_ne_one, Nat.zero_add, Nat.add_zero, hq40, hnn, hi, e9]
        have a3 : At (u3 (u3 s.1 i 45 1 (nI o)) i 45 2 (D 9 o), s.2) i D := At.ux (At.ux hs (by decide)) (by decide)
        refine s42A a3 rk hon ⟨_, rfl, ?_⟩
        refine ih (q + 1) o (D 9 o) _ (by omega) hon a3 (hf.tr (by repeat (first | exact Fr.rf _ | refine Fr.u3 ?_ ⟨rfl, rfl⟩))) ?_ ?_ hd
        · dsimp only; rw [u3_nk (by decide), u3_ek rfl]
        · dsimp only; rw [u3_ek rfl]
  refine loop 40 0 r dd _ rfl hr a2 f2 ?_ ?_ rfl
  · dsimp only; rw [u3_nk (by decide), u3_ek rfl]
  · dsimp only; rw [u3_ek rfl]
theorem s90 {a : Nat} (hi : fm i = i) (hA : At g i D) (hw : CW D M) (ok : OKP D) (hr : ROT D sp a) (k : ∀ g', Fr (P45 i) g g' → g'.1 i 45 1 = nI (dnD D a (D 9 a)).1 → g'.1 i 45 2 = (dnD D a (D 9 a)).2 → Φ (.inl none) g') : Rn sc (d + 3) 90 [vR i 45, vI sp] g Φ := by
  obtain ⟨h1, h2, h3, h4⟩ := hr
  have n40 := hw.1.2
  have e9 : g.1 i 9 = D 9 := hA 9 (by decide)
  refine Rn.of rfl (v90_0 ?_)
  simp (disch := omega) only [u3_nc, u3_ek, u3_nk, upd_e, upd_n, dU_nk, dU_nc, dU_e, nI_ltI, nI_eq, nI_clamp, nI_add, nI_mul, inb_nI, nI_neg1, nI_ne1, nI_n1e, nI_neg1e, Nat.not_lt_zero, Nat.lt_irrefl, true_and, and_true, true_implies, false_implies, not_true_eq_false, not_false_eq_true, implies_true, forall_const, forall_eq, if_true, if_false, Nat.reduceEqDiff, eq_self, Nat.one_ne_zero, Nat.zero_ne_one, Nat.zero_add, Nat.add_zero, hi]
  refine s45 (hA.k (by decide) hw.1.1) n40 ?_
  have hf : fst9 (nR D) (fun o => decide (g.1 i 7 o = sp ∧ g.1 i 10 o < nI 0)) = some a := by
    rw [hA 7 (by decide), hA 10 (by decide)]
    refine fst9_eq h1 (decide_eq_true ⟨h2, by rw [h3]; exact nI_neg1⟩) (fun b hb => decide_eq_false (fun q => ?_))
    by_cases e : D 10 b = -nI 1
    · have := h4 b (by omega) q.1 e
      omega
    · rcases ok b (by omega) with e2 | ⟨u, hu, e2⟩
      · exact e e2
      · rw [e2] at q; exact num_nn hw hu q.2
  rw [hf]
  refine ⟨_, rfl, ?_⟩
  dsimp only [Option.getD]
  simp (disch := omega) only [u3_nc, u3_ek, u3_nk, upd_e, upd_n, dU_nk, dU_nc, dU_e, nI_ltI, nI_eq, nI_clamp, nI_add, nI_mul, inb_nI, nI_neg1, nI_ne1, nI_n1e, nI_neg1e, Nat.not_lt_zero, Nat.lt_irrefl, true_and, and_true, true_implies, false_implies, not_true_eq_false, not_false_eq_true, implies_true, forall_const, forall_eq, if_true, if_false, Nat.reduceEqDiff, eq_self, Nat.one_ne_zero, Nat.zero_ne_one, Nat.zero_add, Nat.add_zero, hi, e9]
  exact s89 hi hA hw.1 h1 (fun g' f' c1 c2 => ⟨rfl, k g' f' c1 c2⟩)
theorem s173 (h : MC g w D) (rk : RNK D) (hr : r < nR D) (h11 : g.1 0 70 11 = nI r) (h12 : g.1 0 70 12 = dd) (k : ∀ g', MC g' w D → FD g g' → g'.1 0 70 11 = nI (dnD D r dd).1 → g'.1 0 70 12 = (dnD D r dd).2 → Φ (.inl none) g') : Rn sc (d + 4) 173 [vR 0 70] g Φ := by
  have n40 := h.r.2
  have w10 := h.l
  obtain ⟨rk, hrk⟩ := rk
  refine Rn.of rfl (v173_0 ?_)
  rw [h11, h12]
  refine s147 h.w h.l h.m h.r hr ⟨_, rfl, ?_⟩
  have loop : ∀ f z e s (L : List Nat), L.length + f = 40 → L.Nodup → (∀ y ∈ L, y < nR D ∧ rk y < rk z) → z < nR D → MC s w D → FD g s → s.1 0 70 11 = nI z → s.1 0 70 12 = e → dn D f z e = dnD D r dd → Xe sc (d + 3) 173 13 [vR 0 70, vI (eo (onP D z e))] [] s Φ := by
    intro f
    induction f with
    | zero =>
      intro z e s L hL hd hl hz
      have := nodup_len (nR D) (z :: L) (List.nodup_cons.mpr ⟨fun hm => Nat.lt_irrefl _ (hl z hm).2, hd⟩) (fun y hy => by
        rcases List.mem_cons.mp hy with q | q
        · rw [q]; exact hz
        · exact (hl y q).1)
      rw [List.length_cons] at this
      omega
    | succ f ih =>
      intro z e s L hL hd hl hz m1 F1 c1 c2 hdn
      unfold dn at hdn
      cases ho : onP D z e with
      | none =>
        rw [ho] at hdn
        have hd2 : (z, e) = dnD D r dd := hdn
        exact v173_13 ⟨fun _ => k s m1 F1 (by rw [← hd2]; exact c1) (by rw [← hd2]; exact c2), fun q => absurd rfl q⟩
      | some o =>
        rw [ho] at hdn
        dsimp only at hdn
        obtain ⟨o1, o2, o3⟩ := onP_on ho
        have w1 := m1.w
        have q3 := m1.m.f3 o o1
        rw [show eo (some o) = nI o from rfl]
        refine v173_13 ⟨fun q => absurd q (nI_ne1 (by omega)), fun _ => ?_⟩
        simp (disch := omega) only [u3_nc, u3_ek, u3_nk, upd_e, upd_n, dU_nk, dU_nc, dU_e, nI_ltI, nI_eq, nI_clamp, nI_add, nI_mul, inb_nI, nI_neg1, nI_ne1, nI_n1e, nI_neg1e, Nat.not_lt_zero, Nat.lt_irrefl, true_and, and_true, true_implies, false_implies, not_true_eq_false, not_false_eq_true, implies_true, forall_const, forall_eq, if_true, if_false, Nat.reduceEqDiff, eq_self, Nat.one_ne_zero, Nat.zero_ne_one, Nat.zero_add, Nat.add_zero, w1, q3]
        have m3' := MC.c70 (c := 70) (k := 11) (v := nI o) m1 (by decide) (fun _ => by decide)
        have m3 := MC.c70 (c := 70) (k := 12) (v := D 9 o) m3' (by decide) (fun _ => by decide)
        refine s147 m3.w m3.l m3.m m3.r o1 ⟨_, rfl, ?_⟩
        refine ih o (D 9 o) _ (z :: L) (by rw [List.length_cons]; omega) (List.nodup_cons.mpr ⟨fun hm => Nat.lt_irrefl _ (hl z hm).2, hd⟩) (fun y hy => ?_) o1 m3 (F1.tr ((FD.p (k := 11) (v := nI o) (Or.inl rfl)).tr (FD.p (k := 12) (Or.inr rfl)))) ?_ ?_ hdn
        · have hzo := hrk o z o1 hz o2
          rcases List.mem_cons.mp hy with q | q
          · rw [q]; exact ⟨hz, hzo⟩
          · exact ⟨(hl y q).1, Nat.lt_trans (hl y q).2 hzo⟩
        · dsimp only; rw [u3_nk (by decide), u3_ek rfl]
        · dsimp only; rw [u3_ek rfl]
  exact loop 40 r dd g [] rfl List.nodup_nil (fun y hy => nomatch hy) hr h (FD.rf g) h11 h12 rfl
theorem s174 {a : Nat} (h : MC g w D) (rk : RNK D) (hr : ROT D sp a) (k : ∀ g', MC g' w D → FD g g' → g'.1 0 70 11 = nI (dnD D a (D 9 a)).1 → g'.1 0 70 12 = (dnD D a (D 9 a)).2 → Φ (.inl none) g') : Rn sc (d + 5) 174 [vR 0 70, vI sp] g Φ := by
  obtain ⟨h1, h2, h3, h4⟩ := hr
  have n40 := h.r.2
  have w10 := h.l
  obtain ⟨n, hn⟩ : ∃ n, n = nR D := ⟨_, rfl⟩
  refine Rn.of rfl (v174_0 ?_)
  refine turnsS (σ := Gs) (W := fun q s => Xe sc (d + 4) 174 2 [vR 0 70, vI sp, vI (nI q)] [] s Φ) (I := fun q s => MC s w D ∧ FD g s ∧ (a < q → s.1 0 70 11 = nI a)) (n := n)
    (fun q s hq ⟨i1, i2, i3⟩ hW => ?_) (fun s ⟨i1, i2, i3⟩ => ?_) g ⟨h, FD.rf g, fun q => absurd q (Nat.not_lt_zero a)⟩
  · have ws := i1.w
    have ns := i1.n
    rw [← hn] at ns
    have q1 := i1.m.f1 q (by omega)
    have q4 := i1.m.f4 q (by omega)
    refine v174_2 ?_
    simp (disch := omega) only [u3_nc, u3_ek, u3_nk, upd_e, upd_n, dU_nk, dU_nc, dU_e, nI_ltI, nI_eq, nI_clamp, nI_add, nI_mul, inb_nI, nI_neg1, nI_ne1, nI_n1e, nI_neg1e, Nat.not_lt_zero, Nat.lt_irrefl, true_and, and_true, true_implies, false_implies, not_true_eq_false, not_false_eq_true, implies_true, forall_const, forall_eq, if_true, if_false, Nat.reduceEqDiff, eq_self, Nat.one_ne_zero, Nat.zero_ne_one, Nat.zero_add, Nat.add_zero, ws, ns, hq, q1, q4]
    have skip : (q = a → False) → Xe sc (d + 4) 174 2 [vR 0 70, vI sp, vI (nI (q + 1))] [] s Φ := fun hne => hW s ⟨i1, i2, fun hlt => i3 (by by_cases e : q = a; exact absurd e hne; omega)⟩
    refine ⟨fun c1 => ⟨fun c2 => ?_, fun c2 => skip (fun e => c2 (by rw [e]; exact h3))⟩, fun c1 => skip (fun e => c1 (by rw [e]; exact h2))⟩
    have hqa := h4 q (by omega) c1 c2
    refine hW _ ⟨MC.c70 i1 (by decide) (fun _ => by decide), i2.tr (FD.p (Or.inl rfl)), fun _ => ?_⟩
    dsimp only
    rw [u3_ek rfl, hqa]
  · have ws := i1.w
    have ns := i1.n
    rw [← hn] at ns
    have c11 := i3 (by omega)
    have q3 := i1.m.f3 a h1
    refine v174_2 ?_
    simp (disch := omega) only [u3_nc, u3_ek, u3_nk, upd_e, upd_n, dU_nk, dU_nc, dU_e, nI_ltI, nI_eq, nI_clamp, nI_add, nI_mul, inb_nI, nI_neg1, nI_ne1, nI_n1e, nI_neg1e, Nat.not_lt_zero, Nat.lt_irrefl, true_and, and_true, true_implies, false_implies, not_true_eq_false, not_false_eq_true, implies_true, forall_const, forall_eq, if_true, if_false, Nat.reduceEqDiff, eq_self, Nat.one_ne_zero, Nat.zero_ne_one, Nat.zero_add, Nat.add_zero, ws, ns, c11, q3]
    refine s173 (r := a) (dd := D 9 a) (MC.c70 i1 (by decide) (fun _ => by decide)) rk h1 ?_ ?_ (fun g' m' f' e1 e2 => ⟨rfl, k g' m' (i2.tr ((FD.p (Or.inr rfl)).tr f')) e1 e2⟩)
    · dsimp only; rw [u3_nk (by decide)]; exact c11
    · dsimp only; rw [u3_ek rfl]
end WK
