/-! THE PATH'S TEXT: the reference's -/
theorem dgl_key {c d0 d1 d2 d3 d4 d5 : Nat} (h0 : d0 < 32) (h1 : d1 < 32) (h2 : d2 < 32) (h3 : d3 < 32) (h4 : d4 < 32) (h5 : d5 < 32) (hc : c = ((((d0 * 32 + d1) * 32 + d2) * 32 + d3) * 32 + d4) * 32 + d5) : dgl c = [d0, d1, d2, d3, d4, d5].filter (fun x => decide (x ≠ 0)) := by
  have e0 : dg c 0 = d0 := by show c / 33554432 % 32 = d0; omega
  have e1 : dg c 1 = d1 := by show c / 1048576 % 32 = d1; omega
  have e2 : dg c 2 = d2 := by show c / 32768 % 32 = d2; omega
  have e3 : dg c 3 = d3 := by show c / 1024 % 32 = d3; omega
  have e4 : dg c 4 = d4 := by show c / 32 % 32 = d4; omega
  have e5 : dg c 5 = d5 := by show c / 1 % 32 = d5; omega
  have hr : (List.range 6).map (dg c) = [dg c 0, dg c 1, dg c 2, dg c 3, dg c 4, dg c 5] := rfl
  unfold dgl dgU
  rw [hr, e0, e1, e2, e3, e4, e5]
theorem dgl_cd {L : List Nat} (h6 : L.length ≤ 6) (h : ∀ l ∈ L, 1 ≤ l ∧ l ≤ 26) : dgl (cdL L) = L := by
  match L, h6, h with
  | [], _, _ => exact dgl_key (d0 := 0) (d1 := 0) (d2 := 0) (d3 := 0) (d4 := 0) (d5 := 0) (by decide) (by decide) (by decide) (by decide) (by decide) (by decide) rfl
  | [a], _, h =>
    have ha := h a (by simp)
    rw [dgl_key (c := cdL [a]) (d0 := 0) (d1 := 0) (d2 := 0) (d3 := 0) (d4 := 0) (d5 := a) (by decide) (by decide) (by decide) (by decide) (by decide) (by omega) (by simp [cdL])]
    simp; omega
  | [a, b], _, h =>
    have ha := h a (by simp)
    have hb := h b (by simp)
    rw [dgl_key (c := cdL [a, b]) (d0 := 0) (d1 := 0) (d2 := 0) (d3 := 0) (d4 := a) (d5 := b) (by decide) (by decide) (by decide) (by decide) (by omega) (by omega) (by simp [cdL])]
    have a0 : a ≠ 0 := by omega
    have b0 : b ≠ 0 := by omega
    simp [a0, b0]
  | [a, b, c], _, h =>
    have ha := h a (by simp)
    have hb := h b (by simp)
    have hc := h c (by simp)
    rw [dgl_key (c := cdL [a, b, c]) (d0 := 0) (d1 := 0) (d2 := 0) (d3 := a) (d4 := b) (d5 := c) (by decide) (by decide) (by decide) (by omega) (by omega) (by omega) (by simp [cdL])]
    have a0 : a ≠ 0 := by omega
    have b0 : b ≠ 0 := by omega
    have c0 : c ≠ 0 := by omega
    simp [a0, b0, c0]
  | [a, b, c, e], _, h =>
    have ha := h a (by simp)
    have hb := h b (by simp)
    have hc := h c (by simp)
    have he := h e (by simp)
    rw [dgl_key (c := cdL [a, b, c, e]) (d0 := 0) (d1 := 0) (d2 := a) (d3 := b) (d4 := c) (d5 := e) (by decide) (by decide) (by omega) (by omega) (by omega) (by omega) (by simp [cdL])]
    have a0 : a ≠ 0 := by omega
    have b0 : b ≠ 0 := by omega
    have c0 : c ≠ 0 := by omega
    have e0 : e ≠ 0 := by omega
    simp [a0, b0, c0, e0]
  | [a, b, c, e, f], _, h =>
    have ha := h a (by simp)
    have hb := h b (by simp)
    have hc := h c (by simp)
    have he := h e (by simp)
    have hf := h f (by simp)
    rw [dgl_key (c := cdL [a, b, c, e, f]) (d0 := 0) (d1 := a) (d2 := b) (d3 := c) (d4 := e) (d5 := f) (by decide) (by omega) (by omega) (by omega) (by omega) (by omega) (by simp [cdL])]
    have a0 : a ≠ 0 := by omega
    have b0 : b ≠ 0 := by omega
    have c0 : c ≠ 0 := by omega
    have e0 : e ≠ 0 := by omega
    have f0 : f ≠ 0 := by omega
    simp [a0, b0, c0, e0, f0]
  | [a, b, c, e, f, i], _, h =>
    have ha := h a (by simp)
    have hb := h b (by simp)
    have hc := h c (by simp)
    have he := h e (by simp)
    have hf := h f (by simp)
    have hi := h i (by simp)
    rw [dgl_key (c := cdL [a, b, c, e, f, i]) (d0 := a) (d1 := b) (d2 := c) (d3 := e) (d4 := f) (d5 := i) (by omega) (by omega) (by omega) (by omega) (by omega) (by omega) (by simp [cdL])]
    have a0 : a ≠ 0 := by omega
    have b0 : b ≠ 0 := by omega
    have c0 : c ≠ 0 := by omega
    have e0 : e ≠ 0 := by omega
    have f0 : f ≠ 0 := by omega
    have i0 : i ≠ 0 := by omega
    simp [a0, b0, c0, e0, f0, i0]
  | a :: b :: c :: e :: f :: i :: j :: r, h6, _ => simp only [List.length_cons] at h6; omega
theorem VNK.of {A : Nat → Int32} {w : Nat} {D : Nat → Nat → Int32} (h : RMV A w D) : VNK D := fun v e hv he => by
  obtain ⟨L, h1, h2, h3, -⟩ := (h.2.2 v e hv he).2
  exact ⟨L, h1, h2, h3⟩
def FT (p : Nat → Prop) (g g' : Gs) : Prop := Fr (fun i c => i = 0 ∧ (c = 70 ∨ c = 80 ∨ p c)) g g' ∧ ∀ k, k ≠ 27 → g'.1 0 70 k = g.1 0 70 k
abbrev n0 : Nat → Prop := fun _ => False
abbrev n82 : Nat → Prop := fun c => c = 82
abbrev n81 : Nat → Prop := fun c => c = 81 ∨ c = 82
theorem FT.rf {p : Nat → Prop} (g : Gs) : FT p g g := ⟨Fr.rf g, fun _ _ => rfl⟩
theorem FT.tr {p : Nat → Prop} {a b c : Gs} (h1 : FT p a b) (h2 : FT p b c) : FT p a c := ⟨h1.1.tr h2.1, fun k p => (h2.2 k p).trans (h1.2 k p)⟩
theorem FT.wk {p q : Nat → Prop} {a b : Gs} (h : FT p a b) (h2 : ∀ c, p c → q c) : FT q a b := ⟨h.1.wk (fun i c z => ⟨z.1, z.2.elim Or.inl (fun y => y.elim (fun x => Or.inr (Or.inl x)) (fun x => Or.inr (Or.inr (h2 c x))))⟩), h.2⟩
theorem FT.p {p : Nat → Prop} {g : Gs} {c k : Nat} {v : Int32} (h : p c) (h7 : c ≠ 70) : FT p g (u3 g.1 0 c k v, g.2) := ⟨Fr.u3 (Fr.rf g) ⟨rfl, Or.inr (Or.inr h)⟩, fun j _ => by dsimp only; rw [u3_nc (fun q => h7 q.symm)]⟩
theorem FT.q {p : Nat → Prop} {g : Gs} {v : Int32} : FT p g (u3 g.1 0 70 27 v, g.2) := ⟨Fr.u3 (Fr.rf g) ⟨rfl, Or.inl rfl⟩, fun j h => by dsimp only; rw [u3_nk h]⟩
theorem FT.z {p : Nat → Prop} {g : Gs} {k : Nat} {v : Int32} : FT p g (u3 g.1 0 80 k v, g.2) := ⟨Fr.u3 (Fr.rf g) ⟨rfl, Or.inr (Or.inl rfl)⟩, fun j _ => by dsimp only; rw [u3_nc (by decide)]⟩
theorem MC.ft {p : Nat → Prop} {g g' : Gs} {w : Nat} {D : Nat → Nat → Int32} (h : MC g w D) (f : FT p g g') (h7 : ¬ p 71) : MC g' w D := by
  have e71 := f.1.1 0 71 (fun q => q.2.elim (by decide) (fun y => y.elim (by decide) h7))
  refine ⟨?_, h.2.1, ?_, h.2.2.2.1, ?_, h.2.2.2.2.2⟩
  · rw [f.2 2 (by decide)]; exact h.1
  · rw [e71]; exact h.2.2.1
  · rw [e71]; exact h.2.2.2.2.1
def TXR (g : Gs) (T : List Nat) : Prop := g.1 0 70 27 = nI T.length ∧ ∀ t b, T[t]? = some b → g.1 0 80 t = nI b
theorem TXR.fr {g g' : Gs} {T : List Nat} (h : TXR g T) (h1 : g'.1 0 70 27 = g.1 0 70 27) (h2 : g'.1 0 80 = g.1 0 80) : TXR g' T := by
  unfold TXR
  rw [h1, h2]
  exact h
theorem TXR.add {g : Gs} {T : List Nat} {b : Nat} (h : TXR g T) : TXR (u3 (u3 g.1 0 80 T.length (nI b)) 0 70 27 (nI (T.length + 1)), g.2) (T ++ [b]) := by
  obtain ⟨h1, h2⟩ := h
  refine ⟨?_, fun t y ht => ?_⟩
  · dsimp only; rw [u3_ek rfl, List.length_append]; rfl
  · dsimp only
    rw [u3_nc (by decide)]
    by_cases e : t = T.length
    · subst e
      rw [List.getElem?_append_right (Nat.le_refl _), Nat.sub_self] at ht
      cases ht
      exact u3_ek rfl
    · rw [u3_nk e]
      rw [List.getElem?_append_left (by
        have := (List.getElem?_eq_some_iff.mp ht).1
        rw [List.length_append, List.length_singleton] at this
        omega)] at ht
      exact h2 t y ht
theorem FT.a {p : Nat → Prop} {g : Gs} {T : Nat} {b v : Int32} : FT p g (u3 (u3 g.1 0 80 T b) 0 70 27 v, g.2) := (FT.z (k := T) (v := b)).tr FT.q
section PRF
variable {sc : SC} {d w r M : Nat} {g : Gs} {Φ : RS → Gs → Prop} {D : Nat → Nat → Int32} {dd : Int32} {T : List Nat}
theorem s216 {v e : Nat} (hm : MC g w D) (hv : v < nV D) (he : e < nS D v) (h : TXR g T) (hl : T.length + 10 < 2000) (k : ∀ g', FT n0 g g' → TXR g' (T ++ 47 :: nmT D v e) → Φ (.inl none) g') : Rn sc (d + 2) 216 [vR 0 70, vI (nI v), vI (nI e)] g Φ := by
  have v4 := hm.vk.2.1
  have s12 := (hm.vk.2.2 v hv).2.2.1
  have w10 := hm.l
  obtain ⟨L, L6, Ll, L4, Lf⟩ := (hm.v.2.2 v e hv he).2
  have h27 := h.1
  have hn : nmT D v e = L.map (fun x => 96 + x) := by
    unfold nmT
    rw [L4, nI_clamp (by have := cdL_30 L6 Ll; omega), dgl_cd L6 Ll]
  rw [hn] at k
  refine Rn.of rfl (v216_0 ?_)
  have hT2 : T.length < 2000 := by omega
  simp (disch := omega) only [u3_nc, u3_ek, u3_nk, upd_e, upd_n, dU_nk, dU_nc, dU_e, nI_ltI, nI_eq, nI_clamp, nI_add, nI_mul, inb_nI, nI_neg1, nI_ne1, nI_n1e, nI_neg1e, Nat.not_lt_zero, Nat.lt_irrefl, true_and, and_true, true_implies, false_implies, not_true_eq_false, not_false_eq_true, implies_true, forall_const, forall_eq, if_true, if_false, Nat.reduceEqDiff, eq_self, Nat.one_ne_zero, Nat.zero_ne_one, Nat.zero_add, Nat.add_zero, h27, hT2]
  have loop : ∀ f j s, j + f = 6 → j ≤ L.length → FT n0 g s → TXR s (T ++ 47 :: (L.take j).map (fun x => 96 + x)) → Xe sc (d + 1) 216 23 [vR 0 70, vI (nI v), vI (nI e), vI (nI j)] [] s Φ := by
    intro f
    induction f with
    | zero =>
      intro j s hj hjl hf hs
      obtain rfl : j = 6 := by omega
      rw [List.take_of_length_le L6] at hs
      refine v216_23 ?_
      simp (disch := omega) only [u3_nc, u3_ek, u3_nk, upd_e, upd_n, dU_nk, dU_nc, dU_e, nI_ltI, nI_eq, nI_clamp, nI_add, nI_mul, inb_nI, nI_neg1, nI_ne1, nI_n1e, nI_neg1e, Nat.not_lt_zero, Nat.lt_irrefl, true_and, and_true, true_implies, false_implies, not_true_eq_false, not_false_eq_true, implies_true, forall_const, forall_eq, if_true, if_false, Nat.reduceEqDiff, eq_self, Nat.one_ne_zero, Nat.zero_ne_one, Nat.zero_add, Nat.add_zero]
      exact k s hf hs
    | succ f ih =>
      intro j s hj hjl hf hs
      have hj6 : j < 6 := by omega
      have ms := hm.ft hf id
      have ws := ms.w
      have q := Lf j hj6
      dsimp only at q
      rw [← hf.1.1 0 71 (fun z => z.2.elim (by decide) (fun y => y.elim (by decide) id))] at q
      have h27s := hs.1
      by_cases hlt : j < L.length
      · rw [List.getElem?_eq_getElem hlt] at q
        dsimp only at q
        have hl9 := Ll _ (List.getElem_mem hlt)
        have hp : nI 0 < nI (96 + L[j]) := (nI_ltI (by decide) (by omega)).mpr (by omega)
        have hTl : (T ++ 47 :: (L.take j).map (fun x => 96 + x)).length < 2000 := by
          rw [List.length_append, List.length_cons, List.length_map, List.length_take]; omega
        have hadd := hs.add (b := 96 + L[j])
        refine v216_23 ?_
        simp (disch := omega) only [u3_nc, u3_ek, u3_nk, upd_e, upd_n, dU_nk, dU_nc, dU_e, nI_ltI, nI_eq, nI_clamp, nI_add, nI_mul, inb_nI, nI_neg1, nI_ne1, nI_n1e, nI_neg1e, Nat.not_lt_zero, Nat.lt_irrefl, true_and, and_true, true_implies, false_implies, not_true_eq_false, not_false_eq_true, implies_true, forall_const, forall_eq, if_true, if_false, Nat.reduceEqDiff, eq_self, Nat.one_ne_zero, Nat.zero_ne_one, Nat.zero_add, Nat.add_zero, ws, hj6, q, hp, h27s, hTl]
        refine ih (j + 1) _ (by omega) (by omega) (hf.tr FT.a) ?_
        rw [List.take_succ_eq_append_getElem hlt, List.map_append, ← List.cons_append, ← List.append_assoc]
        exact hadd
      · have hjL : j = L.length := by omega
        rw [List.getElem?_eq_none (by omega)] at q
        dsimp only at q
        rw [hjL, List.take_length] at hs
        refine v216_23 ?_
        simp (disch := omega) only [u3_nc, u3_ek, u3_nk, upd_e, upd_n, dU_nk, dU_nc, dU_e, nI_ltI, nI_eq, nI_clamp, nI_add, nI_mul, inb_nI, nI_neg1, nI_ne1, nI_n1e, nI_neg1e, Nat.not_lt_zero, Nat.lt_irrefl, true_and, and_true, true_implies, false_implies, not_true_eq_false, not_false_eq_true, implies_true, forall_const, forall_eq, if_true, if_false, Nat.reduceEqDiff, eq_self, Nat.one_ne_zero, Nat.zero_ne_one, Nat.zero_add, Nat.add_zero, ws, hj6, q]
        exact k s hf hs
  refine loop 6 0 _ rfl (Nat.zero_le _) FT.a ?_
  exact h.add (b := 47)
theorem s217 {u : Nat} (h : MC g w D) (hw : CW D M) (P : PIN D) (vd : VDP D) (hu : u < nR D) (hd : hasD D u dd = true) (ht : TXR g T) (hl : T.length + 40 < 2000) (k : ∀ g', FT n82 g g' → TXR g' (T ++ segm D u dd) → Φ (.inl none) g') : Rn sc (d + 5) 217 [vR 0 70, vI (nI u), vI dd] g Φ := by
  have n40 := hw.1.2
  have w10 := h.l
  obtain ⟨k1, k2, k3, k4, k5, k6, k7, k8⟩ := volK hw hu
  have ho := volO hw hu
  obtain ⟨e0, he0, h11⟩ := hasD_nat hw hu hd
  obtain ⟨t, t1, t2⟩ := topK hw P hu
  have hb := hd
  rw [h11, hasD_eq, k4, if_pos ((nI_ltI (by omega) (by omega)).mpr he0), t2] at hb
  unfold segm at k
  rw [h11, nI_clamp (by omega), t2] at k
  have hw0 := h.w
  have q2 := h.m.f2 u hu
  rw [k3] at q2
  obtain ⟨v, hv⟩ : ∃ v, v = vol D u := ⟨_, rfl⟩
  obtain ⟨sz, hsz⟩ : ∃ sz, sz = nS D (vol D u) := ⟨_, rfl⟩
  obtain ⟨hh, hh1, hh2⟩ := upsL_len vd hw (t := t) hu
  have hlen0 := hh2 12 e0 (by omega) hb
  have hle0 := hh1 e0 (by omega)
  rw [← hsz] at he0 t1 k6 ho
  rw [← hv] at hb ho k2 k1 hlen0 k q2 hsz
  rw [h11]
  refine Rn.of rfl (v217_0 ?_)
  simp (disch := omega) only [u3_nc, u3_ek, u3_nk, upd_e, upd_n, dU_nk, dU_nc, dU_e, nI_ltI, nI_eq, nI_clamp, nI_add, nI_mul, inb_nI, nI_neg1, nI_ne1, nI_n1e, nI_neg1e, Nat.not_lt_zero, Nat.lt_irrefl, true_and, and_true, true_implies, false_implies, not_true_eq_false, not_false_eq_true, implies_true, forall_const, forall_eq, if_true, if_false, Nat.reduceEqDiff, eq_self, Nat.one_ne_zero, Nat.zero_ne_one, Nat.zero_add, Nat.add_zero, hw0, q2]
  obtain ⟨U, hU⟩ : ∃ U, U = upsL D v (nI t) 12 e0 := ⟨_, rfl⟩
  rw [← hU] at hlen0 k
  have n71 : ¬ n82 71 := by decide
  have wr : ∀ q s x4, q ≤ U.length → FT n82 g s → (∀ j y, U[j]? = some y → y < sz ∧ s.1 0 82 j = nI y) → TXR s (T ++ segL D v (U.drop q).reverse) → Xe sc (d + 4) 217 54 [vR 0 70, vI (nI u), vI (nI e0), vI (nI v), vI x4, vI (nI q - nI 1)] [] s Φ := by
    intro q
    induction q with
    | zero =>
      intro s x4 _ hf _ hs
      rw [List.drop_zero] at hs
      exact v217_54 ⟨fun _ => k s hf hs, fun q => absurd (by decide +kernel) q⟩
    | succ q ih =>
      intro s x4 hq hf hc hs
      have hq2 : q < U.length := by omega
      obtain ⟨c1, c3⟩ := hc q U[q] (List.getElem?_eq_getElem hq2)
      have hdr : U.drop q = U[q] :: U.drop (q + 1) := List.drop_eq_getElem_cons hq2
      have sl := segL_len (D := D) (v := v) (U.drop (q + 1)).reverse
      rw [List.length_reverse, List.length_drop] at sl
      have hq12 : q < 12 := by omega
      rw [nI_prd]
      refine v217_54 ⟨fun z => absurd z (nI_nn (by omega)), fun _ => ?_⟩
      simp (disch := omega) only [u3_nc, u3_ek, u3_nk, upd_e, upd_n, dU_nk, dU_nc, dU_e, nI_ltI, nI_eq, nI_clamp, nI_add, nI_mul, inb_nI, nI_neg1, nI_ne1, nI_n1e, nI_neg1e, Nat.not_lt_zero, Nat.lt_irrefl, true_and, and_true, true_implies, false_implies, not_true_eq_false, not_false_eq_true, implies_true, forall_const, forall_eq, if_true, if_false, Nat.reduceEqDiff, eq_self, Nat.one_ne_zero, Nat.zero_ne_one, Nat.zero_add, Nat.add_zero, c3, hq12]
      refine s216 (h.ft hf n71) k1 (by omega) hs (by rw [List.length_append]; omega) (fun s2 f2 h2 => ⟨rfl, ?_⟩)
      rw [show nI q + -nI 1 = nI q - nI 1 from (Int32.sub_eq_add_neg _ _).symm]
      refine ih s2 x4 (by omega) (hf.tr (f2.wk (fun _ z => z.elim))) (fun j y hj => ?_) ?_
      · obtain ⟨a1, a3⟩ := hc j y hj
        exact ⟨a1, by rw [f2.1.1 0 82 (by simp)]; exact a3⟩
      · rw [hdr, List.reverse_cons]
        unfold segL at h2 ⊢
        rw [List.flatMap_append, List.flatMap_cons, List.flatMap_nil, List.append_nil, ← List.append_assoc]
        exact h2
  have st : ∀ f q e s, q + f = 12 → e < f → e < sz → blw (fun e => D 5 (v * 12 + e)) (nI t) 12 (nI e) = true → FT n82 g s → TXR s T → (∀ S, S.length = q → U = S ++ upsL D v (nI t) f e → (∀ j y, S[j]? = some y → y < sz ∧ s.1 0 82 j = nI y) → Xe sc (d + 4) 217 13 [vR 0 70, vI (nI u), vI (nI e0), vI (nI v), vI (nI q), vI (nI e)] [] s Φ) := by
    intro f
    induction f with
    | zero => intro q e s _ h; omega
    | succ f ih =>
      intro q e s hq hef hes hbe hf hs S hS hUS hc
      have ms := h.ft hf n71
      have ws := ms.w
      have c9 := ms.m.f3 u hu
      rw [t2] at c9
      have c5 := ms.v.o v e k1 (by omega)
      unfold upsL at hUS
      refine v217_13 ?_
      simp (disch := omega) only [u3_nc, u3_ek, u3_nk, upd_e, upd_n, dU_nk, dU_nc, dU_e, nI_ltI, nI_eq, nI_clamp, nI_add, nI_mul, inb_nI, nI_neg1, nI_ne1, nI_n1e, nI_neg1e, Nat.not_lt_zero, Nat.lt_irrefl, true_and, and_true, true_implies, false_implies, not_true_eq_false, not_false_eq_true, implies_true, forall_const, forall_eq, if_true, if_false, Nat.reduceEqDiff, eq_self, Nat.one_ne_zero, Nat.zero_ne_one, Nat.zero_add, Nat.add_zero, ws, c9]
      refine ⟨fun heq => ?_, fun hne => ?_⟩
      · have heq' : nI e = nI t := by rw [heq]
        rw [if_pos heq', List.append_nil] at hUS
        rw [← hS, ← hUS]
        refine wr U.length s _ (Nat.le_refl _) hf (by rw [hUS]; exact hc) ?_
        rw [List.drop_length]
        unfold segL
        rw [List.reverse_nil, List.flatMap_nil, List.append_nil]
        exact hs
      · have hne' : ¬ nI e = nI t := by rw [nI_eq (by omega) (by omega)]; exact hne
        rw [if_neg hne'] at hUS
        obtain ⟨o, o1, o2, o3⟩ := blw_st ho k6 hes hbe hne'
        have o2' : D 5 (v * 12 + e) = nI o := o2
        rw [o2', nI_clamp (by omega)] at hUS
        rw [o2'] at c5
        have hq12 : q < 12 := by omega
        simp (disch := omega) only [u3_nc, u3_ek, u3_nk, upd_e, upd_n, dU_nk, dU_nc, dU_e, nI_ltI, nI_eq, nI_clamp, nI_add, nI_mul, inb_nI, nI_neg1, nI_ne1, nI_n1e, nI_neg1e, Nat.not_lt_zero, Nat.lt_irrefl, true_and, and_true, true_implies, false_implies, not_true_eq_false, not_false_eq_true, implies_true, forall_const, forall_eq, if_true, if_false, Nat.reduceEqDiff, eq_self, Nat.one_ne_zero, Nat.zero_ne_one, Nat.zero_add, Nat.add_zero, ws, hq12, c5]
        refine ih (q + 1) o _ (by omega) (by omega) (by omega) o3 (hf.tr (FT.p rfl (by decide))) (hs.fr (by dsimp only; rw [u3_nc (by decide)]) (by dsimp only; rw [u3_rowc (by decide)])) (S ++ [e]) (by rw [List.length_append, hS]; rfl) (by rw [hUS, List.append_assoc]; rfl) (fun j y hj => ?_)
        by_cases ej : j = q
        · subst ej
          rw [List.getElem?_append_right (by omega), hS, Nat.sub_self] at hj
          cases hj
          exact ⟨hes, u3_ek rfl⟩
        · rw [List.getElem?_append_left (by
            have := (List.getElem?_eq_some_iff.mp hj).1
            rw [List.length_append, List.length_singleton] at this
            omega)] at hj
          obtain ⟨a1, a3⟩ := hc j y hj
          exact ⟨a1, by dsimp only; rw [u3_nk ej]; exact a3⟩
  exact st 12 0 e0 g rfl (by omega) he0 hb (FT.rf g) ht [] rfl hU (fun j y hj => by rw [List.getElem?_nil] at hj; cases hj)
theorem s218L {x : Nat} (h : MC g w D) (hw : CW D M) (rk : RNK D) (P : PIN D) (vd : VDP D) (ok : OKP D) (hx : x < nR D) (h27 : g.1 0 70 27 = nI 0) {x1 : Int32} (k : ∀ g', FT n81 g g' → TXR g' (txD D x) → Φ (.inl (some (vI (nI (txD D x).length)))) g') : Xe sc (d + 5) 218 30 [vR 0 70, vI x1, vI (nI x), vI (nI 0), vI (nI x)] [] g Φ := by
  have n40 := hw.1.2
  have w10 := h.l
  have n71 : ¬ n81 71 := by decide
  obtain ⟨rr, hrr⟩ := rk
  obtain ⟨C, hC⟩ : ∃ C, C = chn D 40 (some x) := ⟨_, rfl⟩
  have hCl : C.length ≤ 40 := by rw [hC]; exact chn_len _ _
  have hCn : ∀ y ∈ C, y < nR D := fun y hy => chn_lt 40 (some x) (fun a e => by cases e; exact hx) y (by rw [← hC]; exact hy)
  have t1 : TXR g [] := ⟨h27, fun t b ht => by rw [List.getElem?_nil] at ht; cases ht⟩
  -- links of the chain
  have lnk : ∀ f o j a b, (chn D f o)[j]? = some a → (chn D f o)[j + 1]? = some b → up D a = some b := by
    intro f
    induction f with
    | zero => intro o j a b h1; cases h1
    | succ f ih =>
      intro o j a b h1 h2
      cases o with
      | none => cases h1
      | some z =>
        unfold chn at h1 h2
        rw [List.getElem?_cons_succ] at h2
        cases j with
        | zero =>
          rw [List.getElem?_cons_zero] at h1
          cases h1
          cases f with
          | zero => cases h2
          | succ f =>
            cases hu : up D a with
            | none => rw [hu] at h2; cases h2
            | some u =>
              rw [hu] at h2
              unfold chn at h2
              rw [List.getElem?_cons_zero] at h2
              exact h2
        | succ j =>
          rw [List.getElem?_cons_succ] at h1
          exact ih _ j a b h1 h2
  have wr : ∀ q s x3, q < C.length → FT n81 g s → (∀ j y, C[j]? = some y → s.1 0 81 j = nI y) → TXR s ((C.drop q).reverse.flatMap (sgo D)) → Xe sc (d + 5) 218 83 [vR 0 70, vI x1, vI (nI x), vI x3, vI (nI q)] [] s Φ := by
    intro q
    induction q with
    | zero =>
      intro s x3 _ hf hc hs
      rw [List.drop_zero, hC] at hs
      have hs2 : TXR s (ptx D x) := hs
      have hpl : (ptx D x).length ≤ 1400 := part_len vd hw P hx (fun a ha => List.mem_reverse.mp ha) (by rw [List.length_reverse]; exact chn_len _ _)
      have h4 := hs2.1
      unfold txD at k
      refine v218_83 ⟨fun q => absurd q (Int32.lt_irrefl), fun _ => ?_⟩
      rw [h4]
      by_cases h0 : ptx D x = []
      · rw [if_pos h0] at k
        rw [h0] at hs2 ⊢
        refine ⟨fun _ => ?_, fun q => absurd rfl q⟩
        have hadd := hs2.add (b := 47)
        intro G7 e7 G8 e8
        subst e7; subst e8
        rw [u3_ek rfl]
        exact k _ (hf.tr FT.a) hadd
      · rw [if_neg h0] at k
        have hl0 : (ptx D x).length ≠ 0 := fun q => h0 (List.eq_nil_of_length_eq_zero q)
        refine ⟨fun q => ?_, fun _ => k s hf hs2⟩
        rw [nI_eq (by omega) (by omega)] at q
        exact absurd q hl0
    | succ q ih =>
      intro s x3 hq hf hc hs
      have hq2 : q < C.length := by omega
      have hq40 : q < 42 := by omega
      have hq41 : q + 1 < 42 := by omega
      have c0 := hc q C[q] (List.getElem?_eq_getElem hq2)
      have c1 := hc (q + 1) C[q + 1] (List.getElem?_eq_getElem hq)
      have hup : up D C[q] = some C[q + 1] := lnk 40 (some x) q _ _ (by rw [← hC]; exact List.getElem?_eq_getElem hq2) (by rw [← hC]; exact List.getElem?_eq_getElem hq)
      have hdr : C.drop q = C[q] :: C.drop (q + 1) := List.drop_eq_getElem_cons hq2
      have an := hCn _ (List.getElem_mem hq2)
      have un := up_lt hup
      have ms := h.ft hf n71
      have ws := ms.w
      have q5 := ms.m.f5 _ an
      have hp0 : nI 0 < nI (q + 1) := (nI_ltI (by decide) (by omega)).mpr (by omega)
      have hpl : ((C.drop (q + 1)).reverse.flatMap (sgo D)).length ≤ 1400 := part_len vd hw P hx (fun a ha => by rw [← hC]; exact List.mem_of_mem_drop (List.mem_reverse.mp ha)) (by rw [List.length_reverse, List.length_drop]; omega)
      refine v218_83 ?_
      rw [nI_prd]
      simp (disch := omega) only [u3_nc, u3_ek, u3_nk, upd_e, upd_n, dU_nk, dU_nc, dU_e, nI_ltI, nI_eq, nI_clamp, nI_add, nI_mul, inb_nI, nI_neg1, nI_ne1, nI_n1e, nI_neg1e, Nat.not_lt_zero, Nat.lt_irrefl, true_and, and_true, true_implies, false_implies, not_true_eq_false, not_false_eq_true, implies_true, forall_const, forall_eq, if_true, if_false, Nat.reduceEqDiff, eq_self, Nat.one_ne_zero, Nat.zero_ne_one, Nat.zero_add, Nat.add_zero, hp0, hq40, hq41, c0, c1, ws, q5]
      refine s217 ms hw P vd un ((P _ an).2 _ un (up_eq hup)) hs (by omega) (fun s2 f2 h2 => ⟨rfl, ?_⟩)
      rw [show nI (q + 1) + -nI 1 = nI q from by rw [← Int32.sub_eq_add_neg]; exact nI_prd q]
      refine ih s2 x3 (by omega) (hf.tr (f2.wk (fun _ z => Or.inr z))) (fun j y hj => by rw [f2.1.1 0 81 (by simp)]; exact hc j y hj) ?_
      rw [hdr, List.reverse_cons, List.flatMap_append, List.flatMap_cons, List.flatMap_nil, List.append_nil]
      rw [show sgo D C[q] = segm D C[q + 1] (D 11 C[q]) from by unfold sgo; rw [hup]]
      exact h2
  have ch : ∀ f q o s, q + f = 40 → FT n81 g s → TXR s [] → (∀ S, S.length = q → C = S ++ chn D f o → S.Nodup → (∀ a, o = some a → a < nR D ∧ ∀ y ∈ S, y < nR D ∧ rr a < rr y) → (q = 0 → o ≠ none) → (∀ n z, q = n + 1 → S[n]? = some z → up D z = o) → (∀ j y, S[j]? = some y → s.1 0 81 j = nI y) → Xe sc (d + 5) 218 30 [vR 0 70, vI x1, vI (nI x), vI (nI q), vI (eo o)] [] s Φ) := by
    intro f
    induction f with
    | zero =>
      intro q o s hq hf hs S hS hCS nd hn hz hl hc
      cases o with
      | some a =>
        exfalso
        obtain ⟨an, hy⟩ := hn a rfl
        have := nodup_len (nR D) (a :: S) (List.nodup_cons.mpr ⟨fun hm => Nat.lt_irrefl _ (hy a hm).2, nd⟩) (fun y hy2 => by
          rcases List.mem_cons.mp hy2 with q | q
          · rw [q]; exact an
          · exact (hy y q).1)
        rw [List.length_cons] at this
        omega
      | none =>
        have hCS' : C = S := by rw [hCS]; exact List.append_nil S
        obtain ⟨n, hn2⟩ : ∃ n, q = n + 1 := ⟨q - 1, by omega⟩
        subst hn2
        refine v218_30 ⟨fun _ => ?_, fun z => absurd rfl z⟩
        rw [nI_prd]
        have hnl : n < C.length := by rw [hCS']; omega
        refine wr n s _ hnl hf (by rw [hCS']; exact hc) ?_
        have hdr : C.drop n = [C[n]] := by
          rw [List.drop_eq_getElem_cons hnl, List.drop_eq_nil_of_le (by rw [hCS']; omega)]
        have hup := hl n C[n] rfl (by rw [← hCS']; exact List.getElem?_eq_getElem hnl)
        rw [hdr, List.reverse_singleton, List.flatMap_cons, List.flatMap_nil, List.append_nil, show sgo D C[n] = [] from by unfold sgo; rw [hup]]
        exact hs
    | succ f ih =>
      intro q o s hq hf hs S hS hCS nd hn hz hl hc
      cases o with
      | none =>
        have hCS' : C = S := by rw [hCS]; exact List.append_nil S
        obtain ⟨n, hn2⟩ : ∃ n, q = n + 1 := ⟨q - 1, by
          have : q ≠ 0 := fun e => hz e rfl
          omega⟩
        subst hn2
        refine v218_30 ⟨fun _ => ?_, fun z => absurd rfl z⟩
        rw [nI_prd]
        have hnl : n < C.length := by rw [hCS']; omega
        refine wr n s _ hnl hf (by rw [hCS']; exact hc) ?_
        have hdr : C.drop n = [C[n]] := by
          rw [List.drop_eq_getElem_cons hnl, List.drop_eq_nil_of_le (by rw [hCS']; omega)]
        have hup := hl n C[n] rfl (by rw [← hCS']; exact List.getElem?_eq_getElem hnl)
        rw [hdr, List.reverse_singleton, List.flatMap_cons, List.flatMap_nil, List.append_nil, show sgo D C[n] = [] from by unfold sgo; rw [hup]]
        exact hs
      | some a =>
        obtain ⟨an, hy⟩ := hn a rfl
        have hq42 : q < 42 := by omega
        have ms := h.ft hf n71
        have ws := ms.w
        have q4 := ms.m.f4 a an
        rw [show eo (some a) = nI a from rfl]
        refine v218_30 ⟨fun z => absurd z (nI_ne1 (by omega)), fun _ => ?_⟩
        simp (disch := omega) only [u3_nc, u3_ek, u3_nk, upd_e, upd_n, dU_nk, dU_nc, dU_e, nI_ltI, nI_eq, nI_clamp, nI_add, nI_mul, inb_nI, nI_neg1, nI_ne1, nI_n1e, nI_neg1e, Nat.not_lt_zero, Nat.lt_irrefl, true_and, and_true, true_implies, false_implies, not_true_eq_false, not_false_eq_true, implies_true, forall_const, forall_eq, if_true, if_false, Nat.reduceEqDiff, eq_self, Nat.one_ne_zero, Nat.zero_ne_one, Nat.zero_add, Nat.add_zero, hq42, ws, q4]
        have fs : FT n81 s (u3 s.1 0 81 q (nI a), s.2) := FT.p (Or.inl rfl) (by decide)
        have ts : TXR (u3 s.1 0 81 q (nI a), s.2) [] := hs.fr (by dsimp only; rw [u3_nc (by decide)]) (by dsimp only; rw [u3_rowc (by decide)])
        have cs : ∀ j y, (S ++ [a])[j]? = some y → u3 s.1 0 81 q (nI a) 0 81 j = nI y := fun j y hj => by
          by_cases ej : j = q
          · subst ej
            rw [List.getElem?_append_right (by omega), hS, Nat.sub_self] at hj
            cases hj
            exact u3_ek rfl
          · rw [List.getElem?_append_left (by
              have := (List.getElem?_eq_some_iff.mp hj).1
              rw [List.length_append, List.length_singleton] at this
              omega)] at hj
            rw [u3_nk ej]; exact hc j y hj
        have hCS2 : C = (S ++ [a]) ++ chn D f (up D a) := by rw [hCS, List.append_assoc]; rfl
        have nd2 : (S ++ [a]).Nodup := List.nodup_append.mpr ⟨nd, List.nodup_cons.mpr ⟨fun h => (nomatch h), List.nodup_nil⟩, fun y hy1 b hb e => by
          rw [List.mem_singleton.mp hb] at e
          subst e
          exact Nat.lt_irrefl _ (hy y hy1).2⟩
        have hn2 : ∀ u, up D a = some u → u < nR D ∧ ∀ y ∈ S ++ [a], y < nR D ∧ rr u < rr y := fun u hu => by
          have hlt := hrr a u an (up_lt hu) (up_eq hu)
          refine ⟨up_lt hu, fun y hy2 => ?_⟩
          rcases List.mem_append.mp hy2 with z | z
          · exact ⟨(hy y z).1, Nat.lt_trans hlt (hy y z).2⟩
          · rw [List.mem_singleton.mp z]; exact ⟨an, hlt⟩
        have hl2 : ∀ n z, q + 1 = n + 1 → (S ++ [a])[n]? = some z → up D z = up D a := fun n z e hz9 => by
          have : n = q := by omega
          subst this
          rw [List.getElem?_append_right (by omega), hS, Nat.sub_self] at hz9
          cases hz9
          rfl
        have go : ∀ v, v = eo (up D a) → Xe sc (d + 5) 218 30 [vR 0 70, vI x1, vI (nI x), vI (nI (q + 1)), vI v] [] (u3 s.1 0 81 q (nI a), s.2) Φ := fun v hv => by
          rw [hv]
          exact ih (q + 1) (up D a) _ (by omega) (hf.tr fs) ts (S ++ [a]) (by rw [List.length_append, hS]; rfl) hCS2 nd2 hn2 (fun e => absurd e (Nat.succ_ne_zero q)) hl2 cs
        refine ⟨fun h0 => ?_, fun h0 => ?_⟩
        · exact go _ (by rw [up_no hw (by rw [h0]; exact nI_neg1)]; rfl)
        · have ms2 := ms.ft fs n71
          refine s144 ms2.w ms2.l ms2.m ms2.r ⟨_, rfl, ?_⟩
          exact go _ rfl
  exact ch 40 0 (some x) g rfl (FT.rf g) t1 [] rfl hC List.nodup_nil (fun a e => by cases e; exact ⟨hx, fun y hy => nomatch hy⟩) (fun _ q => by cases q) (fun n z e => by omega) (fun j y hj => by rw [List.getElem?_nil] at hj; cases hj)
end PRF
