/-! SIGHT: the reference's search -/
def MET (g : Gs) (S : Nat → Bool) : Prop := ∀ k, k < 480 → g.1 0 79 k = if S k = true then nI 1 else nI 0
def FV (g g' : Gs) : Prop := Fr (fun i c => i = 0 ∧ (c = 70 ∨ c = 79)) g g' ∧ ∀ k, k ≠ 11 → k ≠ 12 → g'.1 0 70 k = g.1 0 70 k
theorem FV.rf (g : Gs) : FV g g := ⟨Fr.rf g, fun _ _ _ => rfl⟩
theorem FV.tr {a b c : Gs} (h1 : FV a b) (h2 : FV b c) : FV a c := ⟨h1.1.tr h2.1, fun k p q => (h2.2 k p q).trans (h1.2 k p q)⟩
theorem FV.d {a b : Gs} (h : FD a b) : FV a b := ⟨h.1.wk (fun _ _ q => ⟨q.1, Or.inl q.2⟩), h.2⟩
theorem FV.p {g : Gs} {k : Nat} {v : Int32} : FV g (u3 g.1 0 79 k v, g.2) := ⟨Fr.u3 (Fr.rf g) ⟨rfl, Or.inr rfl⟩, fun j _ _ => by dsimp only; rw [u3_nc (by decide)]⟩
theorem MET.fd {g g' : Gs} {S : Nat → Bool} (h : MET g S) (f : FD g g') : MET g' S := fun k hk => by rw [f.1.1 0 79 (by omega)]; exact h k hk
theorem MET.add {g : Gs} {S : Nat → Bool} {z : Nat} (h : MET g S) : MET (u3 g.1 0 79 z (nI 1), g.2) (fun j => S j || decide (j = z)) := fun k hk => by
  dsimp only
  by_cases e : k = z
  · rw [u3_ek e]
    exact (if_pos (show (S k || decide (k = z)) = true by rw [decide_eq_true e, Bool.or_true])).symm
  · have e2 : (S k || decide (k = z)) = S k := by rw [decide_eq_false e, Bool.or_false]
    rw [u3_nk e, h k hk]
    by_cases hs : S k = true
    · rw [if_pos hs]; exact (if_pos (e2.trans hs)).symm
    · rw [if_neg hs]; exact (if_neg (fun q => hs (e2.symm.trans q))).symm
theorem cntF_lt {p q : Nat → Bool} : ∀ n, (∀ k, k < n → p k = true → q k = true) → (∃ k, k < n ∧ q k = true ∧ p k = false) → cntF p n < cntF q n := by
  intro n
  induction n with
  | zero => intro _ ⟨k, hk, _⟩; omega
  | succ n ih =>
    intro h1 ⟨k, k1, k2, k3⟩
    have le : cntF p n ≤ cntF q n := by
      by_cases e : ∃ j, j < n ∧ q j = true ∧ p j = false
      · exact Nat.le_of_lt (ih (fun j hj => h1 j (by omega)) e)
      · refine Nat.le_of_eq (cntF_congr (fun j hj => bool_iff ⟨h1 j (by omega), fun hq => ?_⟩))
        cases hp : p j with
        | true => rfl
        | false => exact absurd ⟨j, hj, hq, hp⟩ e
    unfold cntF
    by_cases e : k = n
    · rw [← e, k2, k3]
      simp only [cond_true, cond_false]
      rw [← e] at le
      omega
    · have := ih (fun j hj => h1 j (by omega)) ⟨k, by omega, k2, k3⟩
      have h9 := h1 n (by omega)
      cases hp : p n with
      | false => cases q n <;> simp only [cond_true, cond_false] <;> omega
      | true => rw [h9 hp]; simp only [cond_true]; omega
theorem cntF_mp {p q : Nat → Bool} {n : Nat} (h : ∀ k, k < n → p k = true → q k = true) : cntF p n ≤ cntF q n := by
  by_cases e : ∃ j, j < n ∧ q j = true ∧ p j = false
  · exact Nat.le_of_lt (cntF_lt n h e)
  · refine Nat.le_of_eq (cntF_congr (fun j hj => bool_iff ⟨h j hj, fun hq => ?_⟩))
    cases hp : p j with
    | true => rfl
    | false => exact absurd ⟨j, hj, hq, hp⟩ e
theorem nI_div12 {q : Nat} (h : q < 480) : nI q / nI 12 = nI (q / 12) := by
  have hh : ∀ q : Fin 480, nI q.1 / nI 12 = nI (q.1 / 12) := by decide +kernel
  exact hh ⟨q, h⟩
theorem nI_mod12 {q : Nat} (h : q < 480) : nI q - nI (q / 12) * nI 12 = nI (q % 12) := by
  have hh : ∀ q : Fin 480, nI q.1 - nI (q.1 / 12) * nI 12 = nI (q.1 % 12) := by decide +kernel
  exact hh ⟨q, h⟩
/-- a pass under way: q places are looked at, S stood at its begin, S1 stands, go: whether there was a new one -/
def SWP (D : Nat → Nat → Int32) (w : Nat) (g : Gs) (s0 : Nat) (S : Nat → Bool) (q : Nat) (s : Gs) (S1 : Nat → Bool) (go : Bool) : Prop :=
  MC s w D ∧ FV g s ∧ MET s S1 ∧ (∀ j, S1 j = true → VZ D j ∧ Vis D s0 j) ∧ S1 s0 = true ∧ cntF S 480 ≤ cntF S1 480 ∧ (go = true → cntF S 480 < cntF S1 480) ∧ (go = false → ∀ j, j < q → S1 j = true → ∀ p ∈ inn D j, S1 (arr D p) = true)
section SR
variable {sc : SC} {d w r M : Nat} {g : Gs} {Φ : RS → Gs → Prop} {D : Nat → Nat → Int32} {dd sp : Int32} {S : Nat → Bool}
theorem s209 (h : MC g w D) (hw : CW D M) (rk : RNK D) (P : PIN D) (hr : r < nR D) (hd : hasD D r dd = true) (hS : MET g S) (k : ∀ g', MC g' w D → FV g g' → MET g' (fun j => S j || decide (j = plc (dnD D r dd))) → Φ (.inl (some (vI (if S (plc (dnD D r dd)) = true then nI 0 else nI 1)))) g') : Rn sc (d + 5) 209 [vR 0 70, vI (nI r), vI dd] g Φ := by
  have n40 := hw.1.2
  obtain ⟨p1, p2⟩ := dn_has P 40 r dd hr hd
  obtain ⟨-, p3, p4, p5⟩ := VZ_of hw p1 p2
  obtain ⟨z, hz⟩ : ∃ z, z = plc (dnD D r dd) := ⟨_, rfl⟩
  have p3' : z / 12 = (dnD D r dd).1 := by rw [hz]; exact p3
  have p4' : nI (z % 12) = (dnD D r dd).2 := by rw [hz]; exact p4
  have p5' : z < 480 := by rw [hz]; exact p5
  rw [← hz] at k
  refine Rn.of rfl (v209_0 ?_)
  intro G1 e1 G2 e2
  subst e1; subst e2
  have m1 := MC.c70 (c := 70) (k := 11) (v := nI r) h (by decide) (fun _ => by decide)
  have m2 := MC.c70 (c := 70) (k := 12) (v := dd) m1 (by decide) (fun _ => by decide)
  have F2 : FD g (u3 (u3 g.1 0 70 11 (nI r)) 0 70 12 dd, g.2) := ((FD.p (k := 11) (v := nI r) (Or.inl rfl)).tr (FD.p (k := 12) (v := dd) (Or.inr rfl)) : _)
  refine s173 (r := r) (dd := dd) m2 rk hr ?_ ?_ (fun s ms fs c1 c2 => ⟨rfl, ?_⟩)
  · dsimp only; rw [u3_nk (by decide), u3_ek rfl]
  · dsimp only; rw [u3_ek rfl]
  · have Fs : FD g s := F2.tr fs
    have hs := hS.fd Fs
    rw [← p3'] at c1
    rw [← p4'] at c2
    have ez : 12 * (z / 12) + z % 12 = z := by omega
    have c9 := hs z p5'
    have hadd := hs.add (z := z)
    have mz := MC.c70 (c := 79) (k := z) (v := nI 1) ms (by decide) (fun q => absurd q (by decide))
    rw [c1, c2]
    simp (disch := omega) only [u3_nc, u3_ek, u3_nk, upd_e, upd_n, dU_nk, dU_nc, dU_e, nI_ltI, nI_eq, nI_clamp, nI_add, nI_mul, inb_nI, nI_neg1, nI_ne1, nI_n1e, nI_neg1e, Nat.not_lt_zero, Nat.lt_irrefl, true_and, and_true, true_implies, false_implies, not_true_eq_false, not_false_eq_true, implies_true, forall_const, forall_eq, if_true, if_false, Nat.reduceEqDiff, eq_self, Nat.one_ne_zero, Nat.zero_ne_one, Nat.zero_add, Nat.add_zero, ez, p5', narT21]
    rw [c9]
    cases hz2 : S z with
    | true =>
      rw [hz2, if_pos rfl] at k
      rw [if_pos rfl]
      refine ⟨fun q => absurd q (by decide +kernel), fun _ => ?_⟩
      exact k _ mz ((FV.d Fs).tr FV.p) hadd
    | false =>
      rw [hz2, if_neg Bool.false_ne_true] at k
      rw [if_neg Bool.false_ne_true]
      refine ⟨fun _ => ?_, fun q => absurd rfl q⟩
      exact k _ mz ((FV.d Fs).tr FV.p) hadd
theorem s210 {z : Nat} (h : MC g w D) (hw : CW D M) (rk : RNK D) (P : PIN D) (hz : VZ D z) (hS : MET g S)
    (k : ∀ g' S' any, MC g' w D → FV g g' → MET g' S' → (∀ j, S' j = true ↔ S j = true ∨ j ∈ (inn D z).map (arr D)) → (any = false → ∀ j, S' j = S j) → (any = true → ∃ j, j < 480 ∧ S' j = true ∧ S j = false) → Φ (.inl (some (vI (if any = true then nI 1 else nI 0)))) g') : Rn sc (d + 6) 210 [vR 0 70, vI (nI (z / 12)), vI (nI (z % 12))] g Φ := by
  obtain ⟨k1, k2, k3, k4, k5, k6, k7, k8⟩ := volK hw hz.1
  have n40 := hw.1.2
  have w10 := h.l
  have hz1 := hz.1
  have z12 := (VZ.lt hw hz).2
  obtain ⟨sz, hsz⟩ : ∃ sz, sz = nS D (vol D (z / 12)) := ⟨_, rfl⟩
  have n10 : ¬ nI 1 = nI 0 := by decide +kernel
  refine Rn.of rfl (v210_0 ?_)
  have loop : ∀ f e s S' any, e + f = sz → 1 ≤ e → MC s w D → FV g s → MET s S' → (∀ j, S' j = true ↔ S j = true ∨ j ∈ (innU D z e).map (arr D)) → (any = false → ∀ j, S' j = S j) → (any = true → ∃ j, j < 480 ∧ S' j = true ∧ S j = false) → Xe sc (d + 5) 210 5 [vR 0 70, vI (nI (z / 12)), vI (nI (z % 12)), vI (if any = true then nI 1 else nI 0), vI (nI e)] [] s Φ := by
    intro f
    induction f with
    | zero =>
      intro e s S' any he h1 ms fs hs j1 j2 j3
      have ws := ms.w
      have q2 := ms.m.f2 _ hz1
      rw [k3] at q2
      have qs := ms.v.s ms.vk _ k1
      rw [← hsz] at qs
      have hn : ¬ e < sz := by omega
      refine v210_5 ?_
      simp (disch := omega) only [u3_nc, u3_ek, u3_nk, upd_e, upd_n, dU_nk, dU_nc, dU_e, nI_ltI, nI_eq, nI_clamp, nI_add, nI_mul, inb_nI, nI_neg1, nI_ne1, nI_n1e, nI_neg1e, Nat.not_lt_zero, Nat.lt_irrefl, true_and, and_true, true_implies, false_implies, not_true_eq_false, not_false_eq_true, implies_true, forall_const, forall_eq, if_true, if_false, Nat.reduceEqDiff, eq_self, Nat.one_ne_zero, Nat.zero_ne_one, Nat.zero_add, Nat.add_zero, ws, q2, qs, hn]
      refine ⟨?_, ?_⟩
      · cases any
        · exact Or.inl rfl
        · exact Or.inr rfl
      · refine k s S' any ms fs hs (fun j => ?_) j2 j3
        unfold inn
        rw [← hsz, show sz = e by omega]
        exact j1 j
    | succ f ih =>
      intro e s S' any he h1 ms fs hs j1 j2 j3
      have ws := ms.w
      have q2 := ms.m.f2 _ hz1
      rw [k3] at q2
      have qs := ms.v.s ms.vk _ k1
      rw [← hsz] at qs
      have hn : e < sz := by omega
      have q5 := ms.v.o _ e k1 (by omega)
      have ih2 := ih (e + 1)
      rw [innU_s] at ih2
      refine v210_5 ?_
      simp (disch := omega) only [u3_nc, u3_ek, u3_nk, upd_e, upd_n, dU_nk, dU_nc, dU_e, nI_ltI, nI_eq, nI_clamp, nI_add, nI_mul, inb_nI, nI_neg1, nI_ne1, nI_n1e, nI_neg1e, Nat.not_lt_zero, Nat.lt_irrefl, true_and, and_true, true_implies, false_implies, not_true_eq_false, not_false_eq_true, implies_true, forall_const, forall_eq, if_true, if_false, Nat.reduceEqDiff, eq_self, Nat.one_ne_zero, Nat.zero_ne_one, Nat.zero_add, Nat.add_zero, ws, q2, qs, hn, q5]
      refine ⟨fun h5 => ?_, fun h5 => ?_⟩
      · rw [if_pos h5, List.map_append] at ih2
        have hq : 12 * (z / 12) + e ∈ inn D z := inn_mem.mpr ⟨e, by omega, h5, rfl⟩
        have q1 : (12 * (z / 12) + e) % 12 = e := by omega
        obtain ⟨-, -, -, g4⟩ := arr_VZ hw P hz hq
        obtain ⟨b1, b2, b3, b4, -, -⟩ := inn_K hw P hz hq
        rw [q1] at b4
        have ea : plc (dnD D (z / 12) (nI e)) = arr D (12 * (z / 12) + e) := by unfold arr; rw [b1, q1]
        refine s209 ms hw rk P hz1 b4 hs (fun s2 m2 f2 hs2 => ⟨_, rfl, ?_⟩)
        rw [ea] at hs2 ⊢
        have jn : ∀ j, (S' j || decide (j = arr D (12 * (z / 12) + e))) = true ↔ S j = true ∨ j ∈ (innU D z e).map (arr D) ++ [12 * (z / 12) + e].map (arr D) := fun j => by
          rw [Bool.or_eq_true, decide_eq_true_iff, j1, List.mem_append, List.map_cons, List.map_nil, List.mem_singleton, or_assoc]
        cases hx : S' (arr D (12 * (z / 12) + e)) with
        | true =>
          rw [if_pos rfl]
          refine ⟨fun _ => ?_, fun q => absurd rfl q⟩
          have j2' : any = false → ∀ j, (S' j || decide (j = arr D (12 * (z / 12) + e))) = S j := fun ha j => by
            rw [← j2 ha j]
            by_cases ej : j = arr D (12 * (z / 12) + e)
            · rw [ej, hx, Bool.true_or]
            · rw [decide_eq_false ej, Bool.or_false]
          have j3' : any = true → ∃ j, j < 480 ∧ (S' j || decide (j = arr D (12 * (z / 12) + e))) = true ∧ S j = false := fun ha => by
            obtain ⟨j, a1, a2, a3⟩ := j3 ha
            exact ⟨j, a1, by rw [a2, Bool.true_or], a3⟩
          have := ih2 s2 _ any (by omega) (by omega) m2 (fs.tr f2) hs2 jn j2' j3'
          cases any with
          | false => exact ⟨fun _ => this, fun q => absurd rfl q⟩
          | true => exact ⟨fun q => absurd q n10, fun _ => this⟩
        | false =>
          rw [if_neg Bool.false_ne_true]
          refine ⟨fun q => absurd q n10, fun _ => ?_⟩
          have hS0 : S (arr D (12 * (z / 12) + e)) = false := by
            cases hq2 : S (arr D (12 * (z / 12) + e)) with
            | false => rfl
            | true => rw [(j1 _).mpr (Or.inl hq2)] at hx; cases hx
          exact ih2 s2 _ true (by omega) (by omega) m2 (fs.tr f2) hs2 jn (fun q => by cases q) (fun _ => ⟨_, g4, by rw [decide_eq_true rfl, Bool.or_true], hS0⟩)
      · rw [if_neg h5] at ih2
        have := ih2 s S' any (by omega) (by omega) ms fs hs j1 j2 j3
        cases any with
        | false => exact ⟨fun _ => this, fun q => absurd rfl q⟩
        | true => exact ⟨fun q => absurd q n10, fun _ => this⟩
  have i1 : ∀ j, S j = true ↔ S j = true ∨ j ∈ (innU D z 1).map (arr D) := fun j => by
    have : innU D z 1 = [] := List.eq_nil_iff_forall_not_mem.mpr (fun q hq => by
      obtain ⟨e, e1, e2, -⟩ := inn_mem.mp hq
      obtain rfl : e = 0 := by omega
      rw [Nat.add_zero, k7] at e2
      exact nI_ne1 (by omega) e2.symm)
    rw [this]
    exact ⟨Or.inl, fun q => q.elim id (fun q => nomatch q)⟩
  exact loop (sz - 1) 1 g S false (by omega) (Nat.le_refl _) h (FV.rf g) hS i1 (fun _ _ => rfl) (fun q => by cases q)
theorem s211 {a : Nat} (h : MC g w D) (hw : CW D M) (rk : RNK D) (P : PIN D) (hr : ROT D sp a)
    (k : ∀ g', MC g' w D → FV g g' → MET g' (visB D (rtz D a)) → Φ (.inl (some (vI (nI (visN D (rtz D a)))))) g') : Rn sc (d + 7) 211 [vR 0 70, vI sp] g Φ := by
  have n40 := hw.1.2
  have w10 := h.l
  have r1 := hr.1
  obtain ⟨p1, p2⟩ := dn_has P 40 a (D 9 a) r1 (P a r1).1
  obtain ⟨v1, p3, p4, p5⟩ := VZ_of hw p1 p2
  have pfin := dn_stay (dn_fin rk a (D 9 a) r1 n40)
  have n10 : ¬ nI 1 = nI 0 := by decide +kernel
  obtain ⟨s0, hs0⟩ : ∃ s0, s0 = rtz D a := ⟨_, rfl⟩
  have hv0 : VZ D s0 := by rw [hs0]; exact v1
  -- the count at the end
  have count : ∀ s (x2 : Int32), MC s w D → FV g s → MET s (visB D s0) → Xe sc (d + 6) 211 103 [vR 0 70, vI sp, vI x2, vI (nI 0), vI (nI 0)] [] s Φ := fun s x2 ms fs hs => by
    refine turns (W := fun q => Xe sc (d + 6) 211 103 [vR 0 70, vI sp, vI x2, vI (nI (cntF (visB D s0) q)), vI (nI q)] [] s Φ) (n := 480) (fun q hq hW => ?_) ?_
    · have c9 := hs q hq
      refine v211_103 ?_
      simp (disch := omega) only [u3_nc, u3_ek, u3_nk, upd_e, upd_n, dU_nk, dU_nc, dU_e, nI_ltI, nI_eq, nI_clamp, nI_add, nI_mul, inb_nI, nI_neg1, nI_ne1, nI_n1e, nI_neg1e, Nat.not_lt_zero, Nat.lt_irrefl, true_and, and_true, true_implies, false_implies, not_true_eq_false, not_false_eq_true, implies_true, forall_const, forall_eq, if_true, if_false, Nat.reduceEqDiff, eq_self, Nat.one_ne_zero, Nat.zero_ne_one, Nat.zero_add, Nat.add_zero, hq, c9]
      unfold cntF at hW
      cases hb : visB D s0 q with
      | true =>
        rw [hb, cond_true] at hW
        rw [if_pos rfl]
        exact ⟨fun z => absurd z n10, fun _ => hW⟩
      | false =>
        rw [hb, cond_false] at hW
        rw [if_neg Bool.false_ne_true]
        exact ⟨fun _ => hW, fun z => absurd rfl z⟩
    · refine v211_103 ?_
      simp (disch := omega) only [u3_nc, u3_ek, u3_nk, upd_e, upd_n, dU_nk, dU_nc, dU_e, nI_ltI, nI_eq, nI_clamp, nI_add, nI_mul, inb_nI, nI_neg1, nI_ne1, nI_n1e, nI_neg1e, Nat.not_lt_zero, Nat.lt_irrefl, true_and, and_true, true_implies, false_implies, not_true_eq_false, not_false_eq_true, implies_true, forall_const, forall_eq, if_true, if_false, Nat.reduceEqDiff, eq_self, Nat.one_ne_zero, Nat.zero_ne_one, Nat.zero_add, Nat.add_zero]
      rw [← hs0] at k
      exact k s ms fs hs
  -- one pass
  have pass1 : ∀ S s, SWP D w g s0 S 0 s S false → (∀ s1 S1 go, SWP D w g s0 S 480 s1 S1 go → Xe sc (d + 6) 211 40 [vR 0 70, vI sp, vI (if go = true then nI 1 else nI 0), vI (nI 480), vU] [] s1 Φ) → Xe sc (d + 6) 211 48 [vR 0 70, vI sp, vI (nI 0), vI (nI 0), vU] [] s Φ := fun S s h0 K => by
    refine turnsS (σ := Gs × (Nat → Bool) × Bool) (W := fun q t => Xe sc (d + 6) 211 48 [vR 0 70, vI sp, vI (if t.2.2 = true then nI 1 else nI 0), vI (nI q), vU] [] t.1 Φ) (I := fun q t => SWP D w g s0 S q t.1 t.2.1 t.2.2) (n := 480) ?_ ?_ (s, S, false) h0
    · intro q t hq hi hW0
      obtain ⟨s1, S1, go⟩ := t
      have hW : ∀ s1 S1 go, SWP D w g s0 S (q + 1) s1 S1 go → Xe sc (d + 6) 211 48 [vR 0 70, vI sp, vI (if go = true then nI 1 else nI 0), vI (nI (q + 1)), vU] [] s1 Φ := fun s1 S1 go h => hW0 (s1, S1, go) h
      have hi2 : SWP D w g s0 S q s1 S1 go := hi
      obtain ⟨i1, i2, i3, i4, i5, i6, i7, i8⟩ := hi2
      dsimp only
      have c9 := i3 q hq
      refine v211_48 ?_
      simp (disch := omega) only [u3_nc, u3_ek, u3_nk, upd_e, upd_n, dU_nk, dU_nc, dU_e, nI_ltI, nI_eq, nI_clamp, nI_add, nI_mul, inb_nI, nI_neg1, nI_ne1, nI_n1e, nI_neg1e, Nat.not_lt_zero, Nat.lt_irrefl, true_and, and_true, true_implies, false_implies, not_true_eq_false, not_false_eq_true, implies_true, forall_const, forall_eq, if_true, if_false, Nat.reduceEqDiff, eq_self, Nat.one_ne_zero, Nat.zero_ne_one, Nat.zero_add, Nat.add_zero, hq, c9]
      cases hb : S1 q with
      | false =>
        rw [if_neg Bool.false_ne_true]
        refine ⟨fun _ => ?_, fun z => absurd rfl z⟩
        have := hW s1 S1 go ⟨i1, i2, i3, i4, i5, i6, i7, fun hg j hj hj2 => i8 hg j (by
          by_cases e : j = q
          · rw [e, hb] at hj2; cases hj2
          · omega) hj2⟩
        cases go with
        | false => exact ⟨fun _ => this, fun z => absurd rfl z⟩
        | true => exact ⟨fun z => absurd z n10, fun _ => this⟩
      | true =>
        rw [if_pos rfl]
        refine ⟨fun z => absurd z n10, fun _ => ?_⟩
        obtain ⟨v1, v2⟩ := i4 q hb
        rw [show nI q / nI 12 = nI (q / 12) from nI_div12 hq, show nI q - nI (q / 12) * nI 12 = nI (q % 12) from nI_mod12 hq]
        refine s210 i1 hw rk P v1 i3 (fun s2 S2 any m2 f2 h2 j1 j2 j3 => ⟨_, rfl, ?_⟩)
        have iv : ∀ j, S2 j = true → VZ D j ∧ Vis D s0 j := fun j hj => by
          rcases (j1 j).mp hj with z | z
          · exact i4 j z
          · obtain ⟨p, q1, q2⟩ := List.mem_map.mp z
            rw [← q2]
            exact ⟨(arr_VZ hw P v1 q1).1, v2.st v1 q1⟩
        have ile : ∀ k, k < 480 → S1 k = true → S2 k = true := fun k _ hk => (j1 k).mpr (Or.inl hk)
        have icl := cntF_mp (n := 480) ile
        cases any with
        | true =>
          rw [if_pos rfl]
          have := hW s2 S2 true ⟨m2, i2.tr f2, h2, iv, (j1 _).mpr (Or.inl i5), by omega, fun _ => by have := cntF_lt 480 ile (j3 rfl); omega, fun z => by cases z⟩
          rw [if_pos rfl] at this
          exact ⟨fun z => absurd z n10, fun _ => this⟩
        | false =>
          rw [if_neg Bool.false_ne_true]
          have e2 := j2 rfl
          refine ⟨fun _ => ?_, fun z => absurd rfl z⟩
          have := hW s2 S2 go ⟨m2, i2.tr f2, h2, iv, (j1 _).mpr (Or.inl i5), by omega, fun hg => by have := i7 hg; omega, fun hg j hj hj2 p hp => by
            by_cases e : j = q
            · subst e
              exact (j1 _).mpr (Or.inr (List.mem_map.mpr ⟨p, hp, rfl⟩))
            · rw [e2] at hj2 ⊢
              exact i8 hg j (by omega) hj2 p hp⟩
          cases go with
          | false => exact ⟨fun _ => this, fun z => absurd rfl z⟩
          | true => exact ⟨fun z => absurd z n10, fun _ => this⟩
    · intro t ht
      refine v211_48 ?_
      simp (disch := omega) only [u3_nc, u3_ek, u3_nk, upd_e, upd_n, dU_nk, dU_nc, dU_e, nI_ltI, nI_eq, nI_clamp, nI_add, nI_mul, inb_nI, nI_neg1, nI_ne1, nI_n1e, nI_neg1e, Nat.not_lt_zero, Nat.lt_irrefl, true_and, and_true, true_implies, false_implies, not_true_eq_false, not_false_eq_true, implies_true, forall_const, forall_eq, if_true, if_false, Nat.reduceEqDiff, eq_self, Nat.one_ne_zero, Nat.zero_ne_one, Nat.zero_add, Nat.add_zero]
      exact K t.1 t.2.1 t.2.2 ht
  have pass : ∀ F S s, 480 - cntF S 480 ≤ F → SWP D w g s0 S 0 s S false → Xe sc (d + 6) 211 48 [vR 0 70, vI sp, vI (nI 0), vI (nI 0), vU] [] s Φ := by
    have fin : ∀ S s1 S1, SWP D w g s0 S 480 s1 S1 false → Xe sc (d + 6) 211 40 [vR 0 70, vI sp, vI (nI 0), vI (nI 480), vU] [] s1 Φ := fun S s1 S1 ht => by
      obtain ⟨i1, i2, i3, i4, i5, i6, i7, i8⟩ := ht
      have he : ∀ j, S1 j = visB D s0 j := fun j => bool_iff (by
        rw [visB_iff]
        refine ⟨fun hj => (i4 j hj).2, fun hj => hj (fun y => S1 y = true) i5 (fun y hy hy2 p hp => i8 rfl y (VZ.lt hw hy).1 hy2 p hp)⟩)
      refine v211_40 ⟨fun _ => ?_, fun z => absurd rfl z⟩
      exact count s1 (nI 0) i1 i2 (fun j hj => by rw [← he]; exact i3 j hj)
    intro F
    induction F with
    | zero =>
      intro S s hF h0
      refine pass1 S s h0 (fun s1 S1 go ht => ?_)
      cases go with
      | false => exact fin S s1 S1 ht
      | true =>
        obtain ⟨i1, i2, i3, i4, i5, i6, i7, i8⟩ := ht
        have := i7 rfl
        have := cntF_le S1 480
        omega
    | succ F ih =>
      intro S s hF h0
      refine pass1 S s h0 (fun s1 S1 go ht => ?_)
      cases go with
      | false => exact fin S s1 S1 ht
      | true =>
        obtain ⟨i1, i2, i3, i4, i5, i6, i7, i8⟩ := ht
        have := i7 rfl
        rw [if_pos rfl]
        refine v211_40 ⟨fun z => absurd z n10, fun _ => ?_⟩
        exact ih S1 s1 (by omega) ⟨i1, i2, i3, i4, i5, Nat.le_refl _, fun q => absurd q Bool.false_ne_true, fun _ j hj => absurd hj (Nat.not_lt_zero j)⟩
  refine Rn.of rfl (v211_0 ?_)
  refine turnsS (σ := Gs) (W := fun q s => Xe sc (d + 6) 211 2 [vR 0 70, vI sp, vI (nI q), vU, vU] [] s Φ) (I := fun q s => MC s w D ∧ FV g s ∧ ∀ j, j < q → s.1 0 79 j = nI 0) (n := 480)
    (fun q s hq ⟨i1, i2, i3⟩ hW => ?_) (fun s ⟨i1, i2, i3⟩ => ?_) g ⟨h, FV.rf g, fun j hj => absurd hj (Nat.not_lt_zero j)⟩
  · refine v211_2 ?_
    simp (disch := omega) only [u3_nc, u3_ek, u3_nk, upd_e, upd_n, dU_nk, dU_nc, dU_e, nI_ltI, nI_eq, nI_clamp, nI_add, nI_mul, inb_nI, nI_neg1, nI_ne1, nI_n1e, nI_neg1e, Nat.not_lt_zero, Nat.lt_irrefl, true_and, and_true, true_implies, false_implies, not_true_eq_false, not_false_eq_true, implies_true, forall_const, forall_eq, if_true, if_false, Nat.reduceEqDiff, eq_self, Nat.one_ne_zero, Nat.zero_ne_one, Nat.zero_add, Nat.add_zero, hq, narT20]
    refine hW _ ⟨MC.c70 i1 (by decide) (fun z => absurd z (by decide)), i2.tr FV.p, fun j hj => ?_⟩
    dsimp only
    by_cases e : j = q
    · rw [u3_ek e]
    · rw [u3_nk e]; exact i3 j (by omega)
  · refine v211_2 ?_
    simp (disch := omega) only [u3_nc, u3_ek, u3_nk, upd_e, upd_n, dU_nk, dU_nc, dU_e, nI_ltI, nI_eq, nI_clamp, nI_add, nI_mul, inb_nI, nI_neg1, nI_ne1, nI_n1e, nI_neg1e, Nat.not_lt_zero, Nat.lt_irrefl, true_and, and_true, true_implies, false_implies, not_true_eq_false, not_false_eq_true, implies_true, forall_const, forall_eq, if_true, if_false, Nat.reduceEqDiff, eq_self, Nat.one_ne_zero, Nat.zero_ne_one, Nat.zero_add, Nat.add_zero]
    refine s174 (a := a) i1 rk hr (fun s1 m1 f1 c1 c2 => ⟨rfl, ?_⟩)
    rw [c1, c2]
    have h1 : MET s1 (fun _ => false) := MET.fd (fun j hj => by rw [if_neg Bool.false_ne_true]; exact i3 j hj) f1
    refine s209 m1 hw rk P p1 p2 h1 (fun s2 m2 f2 h2 => ⟨_, rfl, ?_⟩)
    rw [if_neg Bool.false_ne_true]
    refine v211_40 ⟨fun z => absurd z n10, fun _ => ?_⟩
    have hd : dnD D (dnD D a (D 9 a)).1 (dnD D a (D 9 a)).2 = dnD D a (D 9 a) := pfin
    rw [hd, show plc (dnD D a (D 9 a)) = s0 from hs0.symm] at h2
    refine pass 480 (fun j => false || decide (j = s0)) s2 (by omega) ?_
    exact ⟨m2, i2.tr ((FV.d f1).tr f2), h2, fun j hj => by
      have hj2 : (false || decide (j = s0)) = true := hj
      rw [Bool.false_or] at hj2
      rw [of_decide_eq_true hj2]
      exact ⟨hv0, fun S h1 _ => h1⟩, by show (false || decide (s0 = s0)) = true; rw [decide_eq_true rfl]; rfl, Nat.le_refl _, fun q => absurd q Bool.false_ne_true, fun _ j hj => absurd hj (Nat.not_lt_zero j)⟩
end SR
