/-! FOLLOWERS: the least closed set; the class gathers it -/
theorem nodup_len : ∀ (n : Nat) (l : List Nat), l.Nodup → (∀ x ∈ l, x < n) → l.length ≤ n := by
  intro n
  induction n with
  | zero =>
    intro l _ h
    cases l with
    | nil => exact Nat.le_refl _
    | cons a r => exact absurd (h a List.mem_cons_self) (Nat.not_lt_zero a)
  | succ n ih =>
    intro l hd h
    by_cases hm : n ∈ l
    · have h1 := ih (l.erase n) (hd.erase n) (fun x hx => by
        have h2 := (hd.mem_erase_iff).mp hx
        have h3 := h x h2.2
        have h4 : x ≠ n := h2.1
        omega)
      rw [List.length_erase_of_mem hm] at h1
      omega
    · exact Nat.le_succ_of_le (ih l hd (fun x hx => by
        have h3 := h x hx
        have h4 : x ≠ n := fun e => hm (e ▸ hx)
        omega))
theorem nodup_all {n : Nat} {l : List Nat} (hd : l.Nodup) (h : ∀ x ∈ l, x < n) (hl : n ≤ l.length) : ∀ x, x < n → x ∈ l := by
  intro x hx
  by_cases hm : x ∈ l
  · exact hm
  · have h1 := nodup_len n (x :: l) (List.nodup_cons.mpr ⟨hm, hd⟩) (fun z hz => by
      rcases List.mem_cons.mp hz with e | e
      · rw [e]; exact hx
      · exact h z e)
    rw [List.length_cons] at h1
    omega
theorem filter_len (p : Nat → Bool) (n : Nat) : ((List.range n).filter p).length = cntF p n := by
  induction n with
  | zero => rfl
  | succ n ih =>
    rw [List.range_succ, List.filter_append, List.length_append, ih, show cntF p (n + 1) = cntF p n + (bif p n then 1 else 0) from rfl]
    cases hp : p n <;> simp [hp]
def clo (D : Nat → Nat → Int32) (n : Nat) (S : Nat → Prop) : Prop := ∀ x y, x < n → y < n → S x → ¬ D 12 x = nI 0 → (D 12 y = D 12 x ∨ D 13 y = D 12 x) → S y
def Fol (D : Nat → Nat → Int32) (n r y : Nat) : Prop := ∀ S : Nat → Prop, S r → clo D n S → S y
noncomputable def folB (D : Nat → Nat → Int32) (r y : Nat) : Bool := @decide (Fol D (nR D) r y) (Classical.propDecidable _)
theorem folB_iff {D : Nat → Nat → Int32} {r y : Nat} : folB D r y = true ↔ Fol D (nR D) r y := by
  unfold folB
  exact @decide_eq_true_iff _ (Classical.propDecidable _)
noncomputable def folL (D : Nat → Nat → Int32) (r : Nat) : List Nat := if D 12 r = nI 0 then [] else (List.range (nR D)).filter (folB D r)
theorem Fol.step {D : Nat → Nat → Int32} {n r x y : Nat} (h : Fol D n r x) (hx : x < n) (hy : y < n) (h0 : ¬ D 12 x = nI 0) (h1 : D 12 y = D 12 x ∨ D 13 y = D 12 x) : Fol D n r y := fun S hr hc => hc x y hx hy (h S hr hc) h0 h1
theorem narT20 : narT 2 (nI 0) = nI 0 := by decide +kernel
theorem narT21 : narT 2 (nI 1) = nI 1 := by decide +kernel
/-- what stands in the followers' cells while they are reached -/
def RSt (g : Gs) (i n : Nat) (l : List Nat) : Prop := l.Nodup ∧ (∀ x ∈ l, x < n) ∧ g.1 i 30 3 = nI l.length ∧ (∀ (t x : Nat), l[t]? = some x → g.1 i 32 t = nI x) ∧ ∀ x, x < n → g.1 i 31 x = if x ∈ l then nI 1 else nI 0
theorem RSt.add {g : Gs} {i n q : Nat} {l : List Nat} (h : RSt g i n l) (hq : q < n) (hm : q ∉ l) : RSt (u3 (u3 (u3 g.1 i 31 q (nI 1)) i 32 l.length (nI q)) i 30 3 (nI (l.length + 1)), g.2) i n (l ++ [q]) := by
  obtain ⟨h1, h2, h3, h4, h5⟩ := h
  refine ⟨?_, ?_, ?_, ?_, ?_⟩
  · rw [List.nodup_append]
    refine ⟨h1, by simp, fun a ha b hb => ?_⟩
    rw [List.mem_singleton.mp hb]
    exact fun e => hm (e ▸ ha)
  · intro x hx
    rcases List.mem_append.mp hx with e | e
    · exact h2 x e
    · rw [List.mem_singleton.mp e]; exact hq
  · rw [List.length_append]
    exact u3_ek rfl
  · intro t x ht
    show u3 (u3 (u3 g.1 i 31 q (nI 1)) i 32 l.length (nI q)) i 30 3 (nI (l.length + 1)) i 32 t = _
    rw [u3_nc (by decide)]
    by_cases he : t = l.length
    · rw [u3_ek he]
      rw [he, List.getElem?_append_right (Nat.le_refl _), Nat.sub_self] at ht
      cases ht
      rfl
    · rw [u3_nk he, u3_nc (by decide)]
      have hlt : t < (l ++ [q]).length := (List.getElem?_eq_some_iff.mp ht).1
      rw [List.length_append] at hlt
      rw [List.getElem?_append_left (by simp at hlt; omega)] at ht
      exact h4 t x ht
  · intro x hx
    show u3 (u3 (u3 g.1 i 31 q (nI 1)) i 32 l.length (nI q)) i 30 3 (nI (l.length + 1)) i 31 x = _
    rw [u3_nc (by decide), u3_nc (by decide)]
    by_cases he : x = q
    · rw [u3_ek he, if_pos (by rw [he]; simp)]
    · rw [u3_nk he, h5 x hx]
      by_cases hxl : x ∈ l
      · rw [if_pos hxl, if_pos (List.mem_append_left _ hxl)]
      · rw [if_neg hxl, if_neg (by simp [hxl, he])]
abbrev PF (i : Nat) : Nat → Nat → Prop := fun i' c => i' = i ∧ 30 ≤ c ∧ c ≤ 35
theorem Fr.D {i m : Nat} {g g' : Gs} (h : Fr (PF i) g g') {c : Nat} (hc : c < 30) : g'.1 m c = g.1 m c := h.1 m c (fun q => by omega)
section GA
variable {sc : SC} {d i n : Nat} {g : Gs} {Φ : RS → Gs → Prop}
theorem s20 {grp : Int32} {l : List Nat} (hn : g.1 (fm i) 0 11 = nI n) (h40 : n ≤ 40) (h0 : ¬ grp = nI 0) (hR : RSt g i n l)
    (k : ∀ g' ext, Fr (PF i) g g' → g'.1 i 30 7 = g.1 i 30 7 → RSt g' i n (l ++ ext) → (∀ x ∈ ext, g.1 (fm i) 12 x = grp ∨ g.1 (fm i) 13 x = grp) → (∀ x, x < n → (g.1 (fm i) 12 x = grp ∨ g.1 (fm i) 13 x = grp) → x ∈ l ++ ext) → Φ (.inl none) g') :
    Rn sc (d + 1) 20 [vR i 30, vI grp] g Φ := by
  refine Rn.of rfl (v20_0 ⟨fun h => absurd h h0, fun _ => ?_⟩)
  suffices H : ∀ w3, Xe sc d 20 7 [vR i 30, vI grp, vI (nI 0), w3] [] g Φ from H vU
  refine turnsS (σ := Gs × List Nat) (W := fun q s => ∀ w3, Xe sc d 20 7 [vR i 30, vI grp, vI (nI q), w3] [] s.1 Φ)
    (I := fun q s => Fr (PF i) g s.1 ∧ s.1.1 i 30 7 = g.1 i 30 7 ∧ RSt s.1 i n (l ++ s.2) ∧ (∀ x ∈ s.2, g.1 (fm i) 12 x = grp ∨ g.1 (fm i) 13 x = grp) ∧ ∀ x, x < q → (g.1 (fm i) 12 x = grp ∨ g.1 (fm i) 13 x = grp) → x ∈ l ++ s.2) (n := n)
    (fun q s hq ⟨i1, i2, i3, i4, i5⟩ hW => ?_) (fun s ⟨i1, i2, i3, i4, i5⟩ => ?_) (g, []) ⟨Fr.rf g, rfl, by rw [List.append_nil]; exact hR, (fun x hx => nomatch hx), (fun x hx => absurd hx (Nat.not_lt_zero x))⟩
  · obtain ⟨g1, ext⟩ := s
    dsimp only at i1 i2 i3 i4 i5 ⊢
    intro w3
    have hn1 : g1.1 (fm i) 0 11 = nI n := by rw [i1.D (by decide)]; exact hn
    have e12 : g1.1 (fm i) 12 = g.1 (fm i) 12 := i1.D (by decide)
    have e13 : g1.1 (fm i) 13 = g.1 (fm i) 13 := i1.D (by decide)
    have hlen := nodup_len n _ i3.1 i3.2.1
    have hsz := i3.2.2.1
    have hbit := i3.2.2.2.2 q hq
    obtain ⟨len, hle⟩ : ∃ len, len = (l ++ ext).length := ⟨_, rfl⟩
    rw [← hle] at hsz hlen
    have skip : (g.1 (fm i) 12 q = grp ∨ g.1 (fm i) 13 q = grp → q ∈ l ++ ext) → ∀ w3, Xe sc d 20 7 [vR i 30, vI grp, vI (nI (q + 1)), w3] [] g1 Φ := fun hin => hW (g1, ext) ⟨i1, i2, i3, i4, fun x hx hc => by
      by_cases he : x = q
      · subst he; exact hin hc
      · exact i5 x (by omega) hc⟩
    have addq : (g.1 (fm i) 12 q = grp ∨ g.1 (fm i) 13 q = grp) → q ∉ l ++ ext → ∀ w3, Xe sc d 20 7 [vR i 30, vI grp, vI (nI (q + 1)), w3] [] (u3 (u3 (u3 g1.1 i 31 q (nI 1)) i 32 len (nI q)) i 30 3 (nI (len + 1)), g1.2) Φ := fun hc hnin => by
      refine hW (_, ext ++ [q]) ⟨?_, ?_, ?_, ?_, fun x hx hc2 => ?_⟩
      · exact i1.tr (Fr.u3 (Fr.u3 (Fr.u3 (P := PF i) (Fr.rf g1) ⟨rfl, by decide, by decide⟩) ⟨rfl, by decide, by decide⟩) ⟨rfl, by decide, by decide⟩)
      · show u3 (u3 (u3 g1.1 i 31 q (nI 1)) i 32 len (nI q)) i 30 3 (nI (len + 1)) i 30 7 = _
        rw [u3_nk (by decide), u3_nc (by decide), u3_nc (by decide)]; exact i2
      · rw [← List.append_assoc, hle]; exact i3.add hq hnin
      · intro x hx
        rcases List.mem_append.mp hx with e | e
        · exact i4 x e
        · rw [List.mem_singleton.mp e]; exact hc
      · rw [← List.append_assoc]
        by_cases he : x = q
        · exact List.mem_append_right _ (by rw [he]; exact List.mem_singleton.mpr rfl)
        · exact List.mem_append_left _ (i5 x (by omega) hc2)
    refine v20_7 ?_
    simp (disch := omega) only [u3_nc, u3_ek, u3_nk, upd_e, upd_n, dU_nk, dU_nc, dU_e, nI_ltI, nI_eq, nI_clamp, nI_add, nI_mul, inb_nI, nI_neg1, nI_ne1, nI_n1e, nI_neg1e, Nat.not_lt_zero, Nat.lt_irrefl, true_and, and_true, true_implies, false_implies, not_true_eq_false, not_false_eq_true, implies_true, forall_const, forall_eq, if_true, if_false, Nat.reduceEqDiff, eq_self, Nat.one_ne_zero, Nat.zero_ne_one, Nat.zero_add, Nat.add_zero, hn1, hq, hsz, e12, e13]
    refine ⟨fun hlt => ⟨fun hc => ⟨fun hb => ?_, fun hb => ?_⟩, fun hc => ⟨fun hc2 => ⟨fun hb => ?_, fun hb => ?_⟩, fun hc2 => ?_⟩⟩, fun hge => ?_⟩
    · simp (disch := omega) only [u3_nc, u3_ek, u3_nk, upd_e, upd_n, dU_nk, dU_nc, dU_e, nI_ltI, nI_eq, nI_clamp, nI_add, nI_mul, inb_nI, nI_neg1, nI_ne1, nI_n1e, nI_neg1e, Nat.not_lt_zero, Nat.lt_irrefl, true_and, and_true, true_implies, false_implies, not_true_eq_false, not_false_eq_true, implies_true, forall_const, forall_eq, if_true, if_false, Nat.reduceEqDiff, eq_self, Nat.one_ne_zero, Nat.zero_ne_one, Nat.zero_add, Nat.add_zero, narT21]
      have hnin : q ∉ l ++ ext := fun hin => by
        rw [if_pos hin] at hbit
        rw [hbit] at hb
        exact absurd hb (by decide +kernel)
      exact addq (Or.inl hc) hnin _
    · refine skip (fun _ => ?_) _
      by_cases hin : q ∈ l ++ ext
      · exact hin
      · rw [if_neg hin] at hbit; exact absurd hbit hb
    · simp (disch := omega) only [u3_nc, u3_ek, u3_nk, upd_e, upd_n, dU_nk, dU_nc, dU_e, nI_ltI, nI_eq, nI_clamp, nI_add, nI_mul, inb_nI, nI_neg1, nI_ne1, nI_n1e, nI_neg1e, Nat.not_lt_zero, Nat.lt_irrefl, true_and, and_true, true_implies, false_implies, not_true_eq_false, not_false_eq_true, implies_true, forall_const, forall_eq, if_true, if_false, Nat.reduceEqDiff, eq_self, Nat.one_ne_zero, Nat.zero_ne_one, Nat.zero_add, Nat.add_zero, narT21]
      have hnin : q ∉ l ++ ext := fun hin => by
        rw [if_pos hin] at hbit
        rw [hbit] at hb
        exact absurd hb (by decide +kernel)
      exact addq (Or.inr hc2) hnin _
    · refine skip (fun _ => ?_) _
      by_cases hin : q ∈ l ++ ext
      · exact hin
      · rw [if_neg hin] at hbit; exact absurd hbit hb
    · exact skip (fun h => h.elim (fun h => absurd h hc) (fun h => absurd h hc2)) _
    · exact k g1 ext i1 i2 i3 i4 (fun x hx _ => nodup_all i3.1 i3.2.1 (by omega) x hx)
  · obtain ⟨g1, ext⟩ := s
    dsimp only at i1 i2 i3 i4 i5 ⊢
    intro w3
    have hn1 : g1.1 (fm i) 0 11 = nI n := by rw [i1.D (by decide)]; exact hn
    refine v20_7 ?_
    simp (disch := omega) only [u3_nc, u3_ek, u3_nk, upd_e, upd_n, dU_nk, dU_nc, dU_e, nI_ltI, nI_eq, nI_clamp, nI_add, nI_mul, inb_nI, nI_neg1, nI_ne1, nI_n1e, nI_neg1e, Nat.not_lt_zero, Nat.lt_irrefl, true_and, and_true, true_implies, false_implies, not_true_eq_false, not_false_eq_true, implies_true, forall_const, forall_eq, if_true, if_false, Nat.reduceEqDiff, eq_self, Nat.one_ne_zero, Nat.zero_ne_one, Nat.zero_add, Nat.add_zero, hn1]
    exact k g1 ext i1 i2 i3 i4 i5
end GA
