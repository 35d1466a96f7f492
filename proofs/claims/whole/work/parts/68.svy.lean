/-! SIGHT: the class's survey -/
abbrev PS : Nat → Nat → Prop := fun i c => (i = 2 ∧ c = 45) ∨ (i = 0 ∧ 50 ≤ c ∧ c ≤ 52)
/-- the places found so far -/
def SGT (g : Gs) (L : List Nat) : Prop := g.1 0 50 4 = nI L.length ∧ ∀ t z, L[t]? = some z → g.1 0 51 t = nI (z / 12) ∧ g.1 0 52 t = nI (z % 12)
theorem SGT.add {g : Gs} {L : List Nat} {z : Nat} (h : SGT g L) : SGT (u3 (u3 (u3 g.1 0 51 L.length (nI (z / 12))) 0 52 L.length (nI (z % 12))) 0 50 4 (nI (L.length + 1)), g.2) (L ++ [z]) := by
  obtain ⟨h1, h2⟩ := h
  refine ⟨by dsimp only; rw [u3_ek rfl, List.length_append]; rfl, fun t y ht => ?_⟩
  have a1 : ∀ t, u3 (u3 (u3 g.1 0 51 L.length (nI (z / 12))) 0 52 L.length (nI (z % 12))) 0 50 4 (nI (L.length + 1)) 0 51 t = u3 g.1 0 51 L.length (nI (z / 12)) 0 51 t := fun t => by rw [u3_nc (by decide), u3_nc (by decide)]
  have a2 : ∀ t, u3 (u3 (u3 g.1 0 51 L.length (nI (z / 12))) 0 52 L.length (nI (z % 12))) 0 50 4 (nI (L.length + 1)) 0 52 t = u3 (u3 g.1 0 51 L.length (nI (z / 12))) 0 52 L.length (nI (z % 12)) 0 52 t := fun t => by rw [u3_nc (by decide)]
  dsimp only
  rw [a1, a2]
  by_cases e : t = L.length
  · subst e
    rw [List.getElem?_append_right (Nat.le_refl _), Nat.sub_self] at ht
    cases ht
    exact ⟨u3_ek rfl, u3_ek rfl⟩
  · rw [u3_nk e, u3_nk e, u3_nc (by decide)]
    rw [List.getElem?_append_left (by
      have := (List.getElem?_eq_some_iff.mp ht).1
      rw [List.length_append, List.length_singleton] at this
      omega)] at ht
    exact h2 t y ht
theorem SGT.fr {P : Nat → Nat → Prop} {g g' : Gs} {L : List Nat} (h : SGT g L) (hf : Fr P g g') (h0 : ¬ P 0 50) (h1 : ¬ P 0 51) (h2 : ¬ P 0 52) : SGT g' L := by
  unfold SGT
  rw [hf.1 0 50 h0, hf.1 0 51 h1, hf.1 0 52 h2]
  exact h
section SV
variable {sc : SC} {d i j w r M : Nat} {g : Gs} {Φ : RS → Gs → Prop} {D : Nat → Nat → Int32} {dd sp : Int32}
theorem s89W (hi : fm i = j) (hA : At g j D) (rk : ROK D) (hr : r < nR D) (k : ∀ g', Fr (P45 i) g g' → g'.1 i 45 1 = nI (dnD D r dd).1 → g'.1 i 45 2 = (dnD D r dd).2 → Φ (.inl none) g') : Rn sc (d + 2) 89 [vR i 45, vI (nI r), vI dd] g Φ := by
  have n40 := rk.2
  refine Rn.of rfl (v89_0 ?_)
  have a2 : At (u3 (u3 g.1 i 45 1 (nI r)) i 45 2 dd, g.2) j D := At.ux (At.ux hA (by decide)) (by decide)
  have f2 : Fr (P45 i) g (u3 (u3 g.1 i 45 1 (nI r)) i 45 2 dd, g.2) := by repeat (first | exact Fr.rf _ | refine Fr.u3 ?_ ⟨rfl, rfl⟩)
  simp (disch := omega) only [u3_nc, u3_ek, u3_nk, upd_e, upd_n, dU_nk, dU_nc, dU_e, nI_ltI, nI_eq, nI_clamp, nI_add, nI_mul, inb_nI, nI_neg1, nI_ne1, nI_n1e, nI_neg1e, Nat.not_lt_zero, Nat.lt_irrefl, true_and, and_true, true_implies, false_implies, not_true_eq_false, not_false_eq_true, implies_true, forall_const, forall_eq, if_true, if_false, Nat.reduceEqDiff, eq_self, Nat.one_ne_zero, Nat.zero_ne_one, Nat.zero_add, Nat.add_zero, hi]
  refine s42A a2 rk hr ⟨_, rfl, ?_⟩
  have loop : ∀ f q z e s, q + f = 40 → z < nR D → At s j D → Fr (P45 i) g s → s.1 i 45 1 = nI z → s.1 i 45 2 = e → dn D f z e = dnD D r dd → Xe sc (d + 1) 89 29 [vR i 45, vI (nI r), vI dd, vI (eo (onP D z e)), vI (nI q)] [] s Φ := by
    intro f
    induction f with
    | zero =>
      intro q z e s hq hz hs hf c1 c2 hd
      obtain rfl : q = 40 := by omega
      refine v89_29 ?_
      simp (disch := omega) only [u3_nc, u3_ek, u3_nk, upd_e, upd_n, dU_nk, dU_nc, dU_e, nI_ltI, nI_eq, nI_clamp, nI_add, nI_mul, inb_nI, nI_neg1, nI_ne1, nI_n1e, nI_neg1e, Nat.not_lt_zero, Nat.lt_irrefl, true_and, and_true, true_implies, false_implies, not_true_eq_false, not_false_eq_true, implies_true, forall_const, forall_eq, if_true, if_false, Nat.reduceEqDiff, eq_self, Nat.one_ne_zero, Nat.zero_ne_one, Nat.zero_add, Nat.add_zero]
      have hd2 : (z, e) = dnD D r dd := hd
      exact k s hf (by rw [← hd2]; exact c1) (by rw [← hd2]; exact c2)
    | succ f ih =>
      intro q z e s hq hz hs hf c1 c2 hd
      have hq40 : q < 40 := by omega
      unfold dn at hd
      cases ho : onP D z e with
      | none =>
        rw [ho] at hd
        have hd2 : (z, e) = dnD D r dd := hd
        refine v89_29 ?_
        simp (disch := omega) only [u3_nc, u3_ek, u3_nk, upd_e, upd_n, dU_nk, dU_nc, dU_e, nI_ltI, nI_eq, nI_clamp, nI_add, nI_mul, inb_nI, nI_neg1, nI_ne1, nI_n1e, nI_neg1e, Nat.not_lt_zero, Nat.lt_irrefl, true_and, and_true, true_implies, false_implies, not_true_eq_false, not_false_eq_true, implies_true, forall_const, forall_eq, if_true, if_false, Nat.reduceEqDiff, eq_self, Nat.one_ne_zero, Nat.zero_ne_one, Nat.zero_add, Nat.add_zero, hq40]
        exact ⟨fun _ => k s hf (by rw [← hd2]; exact c1) (by rw [← hd2]; exact c2), fun h => absurd eo_none h⟩
      | some o =>
        rw [ho] at hd
        dsimp only at hd
        have hon := (onP_on ho).1
        have hnn : ¬ nI o < nI 0 := nI_nn (by omega)
        have e9 : s.1 j 9 = D 9 := hs 9 (by decide)
        rw [show eo (some o) = nI o from rfl]
        refine v89_29 ?_
        simp (disch := omega) only [u3_nc, u3_ek, u3_nk, upd_e, upd_n, dU_nk, dU_nc, dU_e, nI_ltI, nI_eq, nI_clamp, nI_add, nI_mul, inb_nI, nI_neg1, nI_ne1, nI_n1e, nI_neg1e, Nat.not_lt_zero, Nat.lt_irrefl, true_and, and_true, true_implies, false_implies, not_true_eq_false, not_false_eq_true, implies_true, forall_const, forall_eq, if_true, if_false, Nat.reduceEqDiff, eq_self, Nat.one_ne_zero, Nat.zero_ne_one, Nat.zero_add, Nat.add_zero, hq40, hnn, hi, e9]
        have a3 : At (u3 (u3 s.1 i 45 1 (nI o)) i 45 2 (D 9 o), s.2) j D := At.ux (At.ux hs (by decide)) (by decide)
        refine s42A a3 rk hon ⟨_, rfl, ?_⟩
        refine ih (q + 1) o (D 9 o) _ (by omega) hon a3 (hf.tr (by repeat (first | exact Fr.rf _ | refine Fr.u3 ?_ ⟨rfl, rfl⟩))) ?_ ?_ hd
        · dsimp only; rw [u3_nk (by decide), u3_ek rfl]
        · dsimp only; rw [u3_ek rfl]
  refine loop 40 0 r dd _ rfl hr a2 f2 ?_ ?_ rfl
  · dsimp only; rw [u3_nk (by decide), u3_ek rfl]
  · dsimp only; rw [u3_ek rfl]
theorem s90W {a : Nat} (hi : fm i = j) (hA : At g j D) (hw : CW D M) (ok : OKP D) (hr : ROT D sp a) (k : ∀ g', Fr (P45 i) g g' → g'.1 i 45 1 = nI (dnD D a (D 9 a)).1 → g'.1 i 45 2 = (dnD D a (D 9 a)).2 → Φ (.inl none) g') : Rn sc (d + 3) 90 [vR i 45, vI sp] g Φ := by
  obtain ⟨h1, h2, h3, h4⟩ := hr
  have n40 := hw.1.2
  have e9 : g.1 j 9 = D 9 := hA 9 (by decide)
  refine Rn.of rfl (v90_0 ?_)
  simp (disch := omega) only [u3_nc, u3_ek, u3_nk, upd_e, upd_n, dU_nk, dU_nc, dU_e, nI_ltI, nI_eq, nI_clamp, nI_add, nI_mul, inb_nI, nI_neg1, nI_ne1, nI_n1e, nI_neg1e, Nat.not_lt_zero, Nat.lt_irrefl, true_and, and_true, true_implies, false_implies, not_true_eq_false, not_false_eq_true, implies_true, forall_const, forall_eq, if_true, if_false, Nat.reduceEqDiff, eq_self, Nat.one_ne_zero, Nat.zero_ne_one, Nat.zero_add, Nat.add_zero, hi]
  refine s45 (hA.k (by decide) hw.1.1) n40 ?_
  have hf : fst9 (nR D) (fun o => decide (g.1 j 7 o = sp ∧ g.1 j 10 o < nI 0)) = some a := by
    rw [hA 7 (by decide), hA 10 (by decide)]
    refine fst9_eq h1 (decide_eq_true ⟨h2, by rw [h3]; exact nI_neg1⟩) (fun b hb => decide_eq_false (fun q => ?_))
    by_cases e : D 10 b = -nI 1
    · have := h4 b (by omega) q.1 e
      omega
    · rcases ok b (by omega) with e2 | ⟨u, hu, e2⟩
      · exact e e2
      · rw [e2] at q; exact num_nn hw hu q.2
  rw [hf]
  refine ⟨_, rfl, ?_⟩
  dsimp only [Option.getD]
  simp (disch := omega) only [u3_nc, u3_ek, u3_nk, upd_e, upd_n, dU_nk, dU_nc, dU_e, nI_ltI, nI_eq, nI_clamp, nI_add, nI_mul, inb_nI, nI_neg1, nI_ne1, nI_n1e, nI_neg1e, Nat.not_lt_zero, Nat.lt_irrefl, true_and, and_true, true_implies, false_implies, not_true_eq_false, not_false_eq_true, implies_true, forall_const, forall_eq, if_true, if_false, Nat.reduceEqDiff, eq_self, Nat.one_ne_zero, Nat.zero_ne_one, Nat.zero_add, Nat.add_zero, hi, e9]
  exact s89W hi hA hw.1 h1 (fun g' f' c1 c2 => ⟨rfl, k g' f' c1 c2⟩)
theorem s76 {z : Nat} {L : List Nat} (hA : At g 0 D) (hw : CW D M) (P : PIN D) (hz : VZ D z) (hS : SGT g L) (hl : (L ++ (inn D z).map (arr D)).length ≤ 480) (k : ∀ g', Fr PS g g' → SGT g' (L ++ (inn D z).map (arr D)) → Φ (.inl none) g') : Rn sc (d + 4) 76 [vR 0 50, vI (nI (z / 12)), vI (nI (z % 12))] g Φ := by
  obtain ⟨k1, k2, k3, k4, k5, k6, k7, k8⟩ := volK hw hz.1
  have ho := volO hw hz.1
  have n40 := hw.1.2
  have z12 := (VZ.lt hw hz).2
  have hzr : z / 12 < 40 := by have := hz.1; omega
  have hi : fm 2 = 0 := rfl
  have e8 : g.1 0 8 (z / 12) = nI (vol D (z / 12)) := by rw [hA 8 (by decide)]; exact k3
  refine Rn.of rfl (v76_0 ?_)
  simp (disch := omega) only [u3_nc, u3_ek, u3_nk, upd_e, upd_n, dU_nk, dU_nc, dU_e, nI_ltI, nI_eq, nI_clamp, nI_add, nI_mul, inb_nI, nI_neg1, nI_ne1, nI_n1e, nI_neg1e, Nat.not_lt_zero, Nat.lt_irrefl, true_and, and_true, true_implies, false_implies, not_true_eq_false, not_false_eq_true, implies_true, forall_const, forall_eq, if_true, if_false, Nat.reduceEqDiff, eq_self, Nat.one_ne_zero, Nat.zero_ne_one, Nat.zero_add, Nat.add_zero, e8, hzr]
  have len : ∀ e, e ≤ nS D (vol D (z / 12)) → (L ++ (innU D z e).map (arr D)).length ≤ 480 := fun e he => by
    refine Nat.le_trans (List.Sublist.length_le ?_) hl
    refine List.Sublist.append_left (List.Sublist.map _ ?_) _
    unfold inn innU
    refine List.Sublist.map _ (List.Sublist.filter _ ?_)
    exact List.range_sublist.mpr he
  have i0 : innU D z (z % 12 + 1) = [] := List.eq_nil_iff_forall_not_mem.mpr (fun q hq => by
    obtain ⟨e, e1, e2, -⟩ := inn_mem.mp hq
    rcases ho e (by omega) with q | ⟨o, o1, o2⟩
    · rw [q] at e2; exact nI_ne1 (by omega) e2.symm
    · rw [o2, nI_eq (by omega) (by omega)] at e2; omega)
  obtain ⟨sz, hsz⟩ : ∃ sz, sz = nS D (vol D (z / 12)) := ⟨_, rfl⟩
  have loop : ∀ f e s, e + f = sz → z % 12 < e → Fr PS g s → SGT s (L ++ (innU D z e).map (arr D)) → Xe sc (d + 3) 76 15 [vR 0 50, vI (nI (z / 12)), vI (nI (z % 12)), vI (nI (vol D (z / 12))), vI (nI e)] [] s Φ := by
    intro f
    induction f with
    | zero =>
      intro e s he hlt hf hs
      have a0 : At s 0 D := hA.fr hf (by omega)
      have c3 : s.1 0 3 (vol D (z / 12)) = nI sz := by rw [a0 3 (by decide), k4, hsz]
      have hn : ¬ e < sz := by omega
      refine v76_15 ?_
      simp (disch := omega) only [u3_nc, u3_ek, u3_nk, upd_e, upd_n, dU_nk, dU_nc, dU_e, nI_ltI, nI_eq, nI_clamp, nI_add, nI_mul, inb_nI, nI_neg1, nI_ne1, nI_n1e, nI_neg1e, Nat.not_lt_zero, Nat.lt_irrefl, true_and, and_true, true_implies, false_implies, not_true_eq_false, not_false_eq_true, implies_true, forall_const, forall_eq, if_true, if_false, Nat.reduceEqDiff, eq_self, Nat.one_ne_zero, Nat.zero_ne_one, Nat.zero_add, Nat.add_zero, c3, hn]
      refine k s hf ?_
      unfold inn
      rw [← hsz, show sz = e by omega]
      exact hs
    | succ f ih =>
      intro e s he hlt hf hs
      have a0 : At s 0 D := hA.fr hf (by omega)
      have c3 : s.1 0 3 (vol D (z / 12)) = nI sz := by rw [a0 3 (by decide), k4, hsz]
      have c5 : s.1 0 5 = D 5 := a0 5 (by decide)
      have hn : e < sz := by omega
      have hl2 := len (e + 1) (by omega)
      have ih2 := ih (e + 1)
      rw [innU_s] at hl2 ih2
      refine v76_15 ?_
      simp (disch := omega) only [u3_nc, u3_ek, u3_nk, upd_e, upd_n, dU_nk, dU_nc, dU_e, nI_ltI, nI_eq, nI_clamp, nI_add, nI_mul, inb_nI, nI_neg1, nI_ne1, nI_n1e, nI_neg1e, Nat.not_lt_zero, Nat.lt_irrefl, true_and, and_true, true_implies, false_implies, not_true_eq_false, not_false_eq_true, implies_true, forall_const, forall_eq, if_true, if_false, Nat.reduceEqDiff, eq_self, Nat.one_ne_zero, Nat.zero_ne_one, Nat.zero_add, Nat.add_zero, c3, hn, c5]
      refine ⟨fun h5 => ?_, fun h5 => ?_⟩
      · rw [if_pos h5, List.map_append] at hl2 ih2
        have hq : 12 * (z / 12) + e ∈ inn D z := inn_mem.mpr ⟨e, by omega, h5, rfl⟩
        have q1 : (12 * (z / 12) + e) % 12 = e := by omega
        obtain ⟨g1, g2, g3, g4⟩ := arr_VZ hw P hz hq
        rw [q1] at g2 g3
        have hl3 : (L ++ (innU D z e).map (arr D)).length < 480 := by
          simp only [List.length_append, List.length_map, List.length_singleton] at hl2 ⊢
          omega
        refine s89W hi a0 hw.1 hz.1 (fun s2 f2 c1 c2 => ⟨rfl, ?_⟩)
        have hs2 := hs.fr f2 (by omega) (by omega) (by omega)
        rw [← g2] at c1
        rw [← g3] at c2
        have c4 := hs2.1
        simp (disch := omega) only [u3_nc, u3_ek, u3_nk, upd_e, upd_n, dU_nk, dU_nc, dU_e, nI_ltI, nI_eq, nI_clamp, nI_add, nI_mul, inb_nI, nI_neg1, nI_ne1, nI_n1e, nI_neg1e, Nat.not_lt_zero, Nat.lt_irrefl, true_and, and_true, true_implies, false_implies, not_true_eq_false, not_false_eq_true, implies_true, forall_const, forall_eq, if_true, if_false, Nat.reduceEqDiff, eq_self, Nat.one_ne_zero, Nat.zero_ne_one, Nat.zero_add, Nat.add_zero, c4, hl3, c1, c2]
        refine ih2 _ (by omega) (by omega) (hf.tr ((f2.wk (fun i c q => by omega)).tr (by repeat (first | exact Fr.rf _ | refine Fr.u3 ?_ (Or.inr ⟨rfl, by decide, by decide⟩))))) ?_
        rw [← List.append_assoc]
        exact hs2.add
      · rw [if_neg h5] at ih2
        exact ih2 _ (by omega) (by omega) hf hs
  refine loop (sz - (z % 12 + 1)) (z % 12 + 1) g (by omega) (by omega) (Fr.rf g) ?_
  rw [i0, List.map_nil, List.append_nil]
  exact hS
theorem s74 {a : Nat} (hA : At g 0 D) (hw : CW D M) (ok : OKP D) (P : PIN D) (hr : ROT D sp a) (k : ∀ g' L, Fr PS g g' → SGT g' L → (∀ z, z ∈ L ↔ visB D (rtz D a) z = true) → (∀ z ∈ L, VZ D z) → L.length = visN D (rtz D a) → L.length ≤ 480 → Φ (.inl (some (vI (nI (visN D (rtz D a)))))) g') : Rn sc (d + 6) 74 [vR 0 50, vI sp] g Φ := by
  have n40 := hw.1.2
  have hi : fm 2 = 0 := rfl
  obtain ⟨r1, r2, r3, r4⟩ := hr
  obtain ⟨p1, p2⟩ := dn_has P 40 a (D 9 a) r1 (P a r1).1
  obtain ⟨-, p3, p4, -⟩ := VZ_of hw p1 p2
  refine Rn.of rfl (v74_0 ?_)
  intro G1 e1
  subst e1
  have f1 : Fr PS g (u3 g.1 0 50 4 (nI 0), g.2) := Fr.u3 (Fr.rf g) (Or.inr ⟨rfl, by decide, by decide⟩)
  refine s90W hi (hA.fr f1 (by omega)) hw ok ⟨r1, r2, r3, r4⟩ (fun s f2 c1 c2 => ⟨rfl, ?_⟩)
  have c4 : s.1 0 50 4 = nI 0 := by
    rw [f2.1 0 50 (by omega)]; dsimp only; exact u3_ek rfl
  have c1' : s.1 2 45 1 = nI (rtz D a / 12) := by rw [c1]; exact congrArg nI p3.symm
  have c2' : s.1 2 45 2 = nI (rtz D a % 12) := by rw [c2]; exact p4.symm
  simp (disch := omega) only [u3_nc, u3_ek, u3_nk, upd_e, upd_n, dU_nk, dU_nc, dU_e, nI_ltI, nI_eq, nI_clamp, nI_add, nI_mul, inb_nI, nI_neg1, nI_ne1, nI_n1e, nI_neg1e, Nat.not_lt_zero, Nat.lt_irrefl, true_and, and_true, true_implies, false_implies, not_true_eq_false, not_false_eq_true, implies_true, forall_const, forall_eq, if_true, if_false, Nat.reduceEqDiff, eq_self, Nat.one_ne_zero, Nat.zero_ne_one, Nat.zero_add, Nat.add_zero, c4, c1', c2']
  have hs0 : SGT s [] := ⟨c4, fun t z h => by rw [List.getElem?_nil] at h; cases h⟩
  have hs1 := hs0.add (z := rtz D a)
  have loop : ∀ f q L s2, q + f = 480 → Fr PS g s2 → SGT s2 L → SVL D (rtz D a) q L → Xe sc (d + 5) 74 19 [vR 0 50, vI sp, vI (nI q)] [] s2 Φ := by
    intro f
    induction f with
    | zero =>
      intro q L s2 hq hf hs hL
      have h480 := SVL.len hw hL
      have hq2 : q = L.length := by have := hL.2.2.1; omega
      subst hq2
      obtain ⟨m1, m2⟩ := SVL.e hw hL
      have h4 := hs.1
      refine v74_19 ?_
      simp (disch := omega) only [u3_nc, u3_ek, u3_nk, upd_e, upd_n, dU_nk, dU_nc, dU_e, nI_ltI, nI_eq, nI_clamp, nI_add, nI_mul, inb_nI, nI_neg1, nI_ne1, nI_n1e, nI_neg1e, Nat.not_lt_zero, Nat.lt_irrefl, true_and, and_true, true_implies, false_implies, not_true_eq_false, not_false_eq_true, implies_true, forall_const, forall_eq, if_true, if_false, Nat.reduceEqDiff, eq_self, Nat.one_ne_zero, Nat.zero_ne_one, Nat.zero_add, Nat.add_zero, h4]
      rw [m2]
      exact k s2 L hf hs m1 (fun z hz => (hL.2.1 z hz).1) m2 h480
    | succ f ih =>
      intro q L s2 hq hf hs hL
      have h480 := SVL.len hw hL
      have h4 := hs.1
      by_cases hlt : q < L.length
      · have hq480 : q < 480 := by omega
        obtain ⟨t1, t2⟩ := hs.2 q L[q] (List.getElem?_eq_getElem hlt)
        have hL2 := SVL.s hw P r1 r3 hL hlt
        refine v74_19 ?_
        simp (disch := omega) only [u3_nc, u3_ek, u3_nk, upd_e, upd_n, dU_nk, dU_nc, dU_e, nI_ltI, nI_eq, nI_clamp, nI_add, nI_mul, inb_nI, nI_neg1, nI_ne1, nI_n1e, nI_neg1e, Nat.not_lt_zero, Nat.lt_irrefl, true_and, and_true, true_implies, false_implies, not_true_eq_false, not_false_eq_true, implies_true, forall_const, forall_eq, if_true, if_false, Nat.reduceEqDiff, eq_self, Nat.one_ne_zero, Nat.zero_ne_one, Nat.zero_add, Nat.add_zero, h4, hlt, hq480, t1, t2]
        refine s76 (hA.fr hf (by omega)) hw P (hL.2.1 _ (List.getElem_mem hlt)).1 hs (SVL.len hw hL2) (fun s3 f3 hs3 => ⟨rfl, ?_⟩)
        exact ih (q + 1) _ s3 (by omega) (hf.tr f3) hs3 hL2
      · have hq2 : q = L.length := by have := hL.2.2.1; omega
        subst hq2
        obtain ⟨m1, m2⟩ := SVL.e hw hL
        refine v74_19 ?_
        simp (disch := omega) only [u3_nc, u3_ek, u3_nk, upd_e, upd_n, dU_nk, dU_nc, dU_e, nI_ltI, nI_eq, nI_clamp, nI_add, nI_mul, inb_nI, nI_neg1, nI_ne1, nI_n1e, nI_neg1e, Nat.not_lt_zero, Nat.lt_irrefl, true_and, and_true, true_implies, false_implies, not_true_eq_false, not_false_eq_true, implies_true, forall_const, forall_eq, if_true, if_false, Nat.reduceEqDiff, eq_self, Nat.one_ne_zero, Nat.zero_ne_one, Nat.zero_add, Nat.add_zero, h4]
        rw [m2]
        exact k s2 L hf hs m1 (fun z hz => (hL.2.1 z hz).1) m2 h480
  refine ⟨fun _ => ?_, fun h => absurd (by decide) h⟩
  refine loop 480 0 [rtz D a] _ (by omega) ?_ hs1 (SVL.z hw P r1)
  refine f1.tr ((f2.wk (fun i c q => by omega)).tr (by repeat (first | exact Fr.rf _ | refine Fr.u3 ?_ (Or.inr ⟨rfl, by decide, by decide⟩)))) 
/-- whether a place is among them -/
theorem SGT.shows {L : List Nat} (hs : SGT g L) (hw : CW D M) (hL : ∀ z ∈ L, VZ D z) {r : Nat} (hr : r < nR D) (h : hasD D r dd = true) : (fst9 L.length fun t => decide (g.1 0 51 t = nI r ∧ g.1 0 52 t = dd)).isSome = decide (plc (r, dd) ∈ L) := by
  obtain ⟨v1, v2, v3, v4⟩ := VZ_of hw hr h
  have n40 := hw.1.2
  refine bool_iff ?_
  rw [decide_eq_true_iff]
  refine ⟨fun q => ?_, fun q => ?_⟩
  · cases hf : fst9 L.length (fun t => decide (g.1 0 51 t = nI r ∧ g.1 0 52 t = dd)) with
    | none => rw [hf] at q; cases q
    | some t =>
      obtain ⟨t1, t2, -⟩ := fst9_some hf
      obtain ⟨t3, t4⟩ := of_decide_eq_true t2
      obtain ⟨y1, y2⟩ := hs.2 t L[t] (List.getElem?_eq_getElem t1)
      have hm := List.getElem_mem t1
      have hv := VZ.lt hw (hL _ hm)
      have hv1 := (hL _ hm).1
      rw [t3, nI_eq (by omega) (by omega)] at y1
      rw [t4, ← v3, nI_eq (by omega) (by omega)] at y2
      rw [show plc (r, dd) = L[t] by omega]
      exact hm
  · obtain ⟨t, t1, t2⟩ := List.mem_iff_getElem.mp q
    obtain ⟨y1, y2⟩ := hs.2 t L[t] (List.getElem?_eq_getElem t1)
    rw [t2, v2] at y1
    rw [t2, v3] at y2
    cases hf : fst9 L.length (fun t => decide (g.1 0 51 t = nI r ∧ g.1 0 52 t = dd)) with
    | none => exact absurd ⟨y1, y2⟩ (of_decide_eq_false (fst9_none hf t t1))
    | some t => rfl
end SV
