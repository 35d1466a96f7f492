/-! THE FOLLOWERS' GROUPS, ascending, and the copies' groups named for them -/
def nxS (a b v : Int32) : Int32 := if a < v ∧ (b = nI 0 ∨ v < b) then v else b
def nxt (D : Nat → Nat → Int32) (l : List Nat) (a : Int32) : Int32 := l.foldl (fun b x => nxS a b (D 12 x)) (nI 0)
theorem nxt_snoc {D : Nat → Nat → Int32} {l : List Nat} {x : Nat} {a : Int32} : nxt D (l ++ [x]) a = nxS a (nxt D l a) (D 12 x) := by
  unfold nxt
  rw [List.foldl_append]
  rfl
theorem nxt_mem {D : Nat → Nat → Int32} {a : Int32} : ∀ (l : List Nat), nxt D l a = nI 0 ∨ ∃ x ∈ l, nxt D l a = D 12 x ∧ a < D 12 x := by
  intro l
  have key : ∀ (m : List Nat) (b : Int32), (b = nI 0 ∨ ∃ x ∈ l, b = D 12 x ∧ a < D 12 x) → (∀ x ∈ m, x ∈ l) → m.foldl (fun b x => nxS a b (D 12 x)) b = nI 0 ∨ ∃ x ∈ l, m.foldl (fun b x => nxS a b (D 12 x)) b = D 12 x ∧ a < D 12 x := by
    intro m
    induction m with
    | nil => intro b hb _; exact hb
    | cons y r ih =>
      intro b hb hm
      refine ih _ ?_ (fun x hx => hm x (List.mem_cons_of_mem _ hx))
      show nxS a b (D 12 y) = nI 0 ∨ ∃ x ∈ l, nxS a b (D 12 y) = D 12 x ∧ a < D 12 x
      unfold nxS
      by_cases hc : a < D 12 y ∧ (b = nI 0 ∨ D 12 y < b)
      · rw [if_pos hc]; exact Or.inr ⟨y, hm y List.mem_cons_self, rfl, hc.1⟩
      · rw [if_neg hc]; exact hb
  exact key l _ (Or.inl rfl) (fun x hx => hx)
def gch (D : Nat → Nat → Int32) (l : List Nat) : Nat → Int32
  | 0 => nxt D l (nI 0)
  | k + 1 => nxt D l (gch D l k)
theorem gch_pos {D : Nat → Nat → Int32} {l : List Nat} : ∀ k, (∀ j, j ≤ k → ¬ gch D l j = nI 0) → nI 0 < gch D l k ∧ (∃ x ∈ l, gch D l k = D 12 x) ∧ ∀ j, j < k → gch D l j < gch D l k := by
  intro k
  induction k with
  | zero =>
    intro h
    rcases nxt_mem (D := D) (a := nI 0) l with e | ⟨x, hx, e, hlt⟩
    · exact absurd e (h 0 (Nat.le_refl _))
    · exact ⟨(show gch D l 0 = D 12 x from e) ▸ hlt, ⟨x, hx, e⟩, fun j hj => absurd hj (Nat.not_lt_zero j)⟩
  | succ k ih =>
    intro h
    obtain ⟨i1, i2, i3⟩ := ih (fun j hj => h j (by omega))
    rcases nxt_mem (D := D) (a := gch D l k) l with e | ⟨x, hx, e, hlt⟩
    · exact absurd e (h (k + 1) (Nat.le_refl _))
    · have e2 : gch D l (k + 1) = D 12 x := e
      have h2 : gch D l k < gch D l (k + 1) := e2 ▸ hlt
      refine ⟨Int32.lt_trans i1 h2, ⟨x, hx, e⟩, fun j hj => ?_⟩
      by_cases hjk : j = k
      · rw [hjk]; exact h2
      · exact Int32.lt_trans (i3 j (by omega)) h2
theorem gch_many {D : Nat → Nat → Int32} {l : List Nat} : ∀ m, (∀ j, j < m → ¬ gch D l j = nI 0) → ∃ L : List Nat, L.Nodup ∧ L.length = m ∧ ∀ x ∈ L, x ∈ l ∧ ∃ j, j < m ∧ D 12 x = gch D l j := by
  intro m
  induction m with
  | zero => intro _; exact ⟨[], List.nodup_nil, rfl, fun x hx => nomatch hx⟩
  | succ m ih =>
    intro h
    obtain ⟨L, h1, h2, h3⟩ := ih (fun j hj => h j (by omega))
    obtain ⟨-, ⟨x, hx, he⟩, h6⟩ := gch_pos m (fun j hj => h j (by omega))
    refine ⟨x :: L, List.nodup_cons.mpr ⟨fun hm => ?_, h1⟩, by rw [List.length_cons, h2], fun y hy => ?_⟩
    · obtain ⟨-, j, hj, hje⟩ := h3 x hm
      have h7 := h6 j hj
      rw [he, hje] at h7
      exact Int32.lt_irrefl h7
    · rcases List.mem_cons.mp hy with e | e
      · rw [e]; exact ⟨hx, m, by omega, he.symm⟩
      · obtain ⟨q1, j, q2, q3⟩ := h3 y e
        exact ⟨q1, j, by omega, q3⟩
/-- how many groups they are -/
def gK (D : Nat → Nat → Int32) (l : List Nat) : Nat := (fst9 41 fun k => decide (gch D l k = nI 0)).getD 0
theorem gK_spec {D : Nat → Nat → Int32} {l : List Nat} {n : Nat} (hl : ∀ x ∈ l, x < n) (h40 : n ≤ 40) : gch D l (gK D l) = nI 0 ∧ gK D l ≤ 40 ∧ ∀ j, j < gK D l → ¬ gch D l j = nI 0 := by
  unfold gK
  cases h : fst9 41 (fun k => decide (gch D l k = nI 0)) with
  | none =>
    obtain ⟨L, h1, h2, h3⟩ := gch_many (D := D) (l := l) 41 (fun j hj => of_decide_eq_false (fst9_none h j hj))
    have := nodup_len n L h1 (fun x hx => hl x (h3 x hx).1)
    omega
  | some k =>
    obtain ⟨h1, h2, h3⟩ := fst9_some h
    exact ⟨of_decide_eq_true h2, by show k ≤ 40; omega, fun j hj => of_decide_eq_false (h3 j hj)⟩
def nwg (D : Nat → Nat → Int32) (l : List Nat) (own : Int32) (k : Nat) : Nat := cntF (fun j => decide (¬ gch D l j = own)) k
def frs (D : Nat → Nat → Int32) (l : List Nat) (own its : Int32) (b k : Nat) : Int32 := if gch D l k = own then its else nI (b + nwg D l own (k + 1))
theorem nwg_s {D : Nat → Nat → Int32} {l : List Nat} {own : Int32} {k : Nat} : nwg D l own (k + 1) = nwg D l own k + (if gch D l k = own then 0 else 1) := by
  show cntF _ k + _ = cntF _ k + _
  by_cases h : gch D l k = own <;> simp [h]
/-- the names laid for the first k groups: counter's cell and two arrays -/
def OLD (G : Gm) (i cn kn co cf : Nat) (D : Nat → Nat → Int32) (l : List Nat) (own its : Int32) (b k : Nat) : Prop := G i cn kn = nI k ∧ ∀ t, t < k → G i co t = gch D l t ∧ G i cf t = frs D l own its b t
/-- the copies' group of a group -/
def frO (D : Nat → Nat → Int32) (l : List Nat) (own its : Int32) (b : Nat) (old : Int32) : Int32 := match fst9 (gK D l) (fun t => decide (gch D l t = old)) with
  | some t => frs D l own its b t
  | none => nI 0
theorem folL_rng {D : Nat → Nat → Int32} {r : Nat} : (List.range (nR D)).filter (fun x => decide (x ∈ folL D r)) = folL D r := by
  by_cases h : D 12 r = nI 0
  · rw [show folL D r = [] from if_pos h]; simp
  · rw [folL_of h]
    refine List.filter_congr (fun x hx => ?_)
    cases hb : folB D r x
    · exact decide_eq_false (fun q => by rw [List.mem_filter, hb] at q; cases q.2)
    · exact decide_eq_true (List.mem_filter.mpr ⟨hx, hb⟩)
def At (g : Gs) (i : Nat) (D : Nat → Nat → Int32) : Prop := ∀ c, c < 16 → g.1 i c = D c
theorem At.fr {P : Nat → Nat → Prop} {g g' : Gs} {i : Nat} {D : Nat → Nat → Int32} (h : At g i D) (hf : Fr P g g') (hp : ∀ c, c < 16 → ¬ P i c) : At g' i D := fun c hc => (hf.1 i c (hp c hc)).trans (h c hc)
theorem At.uc {g : Gs} {i c k : Nat} {v : Int32} {D : Nat → Nat → Int32} (h : At g i D) : At (u3 g.1 i c k v, g.2) i (dU D c k v) := fun c' hc => by
  show u3 g.1 i c k v i c' = _
  rw [u3_i]
  funext k'
  unfold dU
  by_cases hk : c' = c ∧ k' = k
  · rw [if_pos hk, if_pos hk]
  · rw [if_neg hk, if_neg hk, h c' hc]
theorem At.ux {g : Gs} {i i' c k : Nat} {v : Int32} {D : Nat → Nat → Int32} (h : At g i D) (hc : 16 ≤ c) : At (u3 g.1 i' c k v, g.2) i D := fun c' hc' => (u3_rowc (by omega)).trans (h c' hc')
theorem MC.c70 {g : Gs} {w c k : Nat} {v : Int32} {D : Nat → Nat → Int32} (h : MC g w D) (hc : c ≠ 71) (hk : c = 70 → k ≠ 2) : MC (u3 g.1 0 c k v, g.2) w D := by
  obtain ⟨a, b, x, e, f, z⟩ := h
  refine ⟨?_, b, ?_, e, ?_, z⟩
  · show u3 g.1 0 c k v 0 70 2 = _
    by_cases h : c = 70
    · subst h; rw [u3_nk (fun q => hk rfl q.symm)]; exact a
    · rw [u3_nc (fun q => h q.symm)]; exact a
  · show RMM (u3 g.1 0 c k v 0 71) w D
    rw [u3_rowc (fun q => hc q.symm)]; exact x
  · show RMV (u3 g.1 0 c k v 0 71) w D
    rw [u3_rowc (fun q => hc q.symm)]; exact f
section GN
variable {sc : SC} {d i w : Nat} {g : Gs} {Φ : RS → Gs → Prop} {D D0 : Nat → Nat → Int32} {l : List Nat}
theorem s22 {a : Int32} (h : GD g.1 i D l) (hl : l.length ≤ 40) (k : Φ (.inl (some (vI (nxt D l a)))) g) : Rn sc (d + 1) 22 [vR i 30, vI a] g Φ := by
  refine Rn.of rfl (v22_0 ?_)
  have h7 := h.1
  refine turns (W := fun q => Xe sc d 22 4 [vR i 30, vI a, vI (nxt D (l.take q) a), vI (nI q)] [] g Φ) (n := l.length) (fun q hq hW => ?_) ?_
  · have hx := List.getElem?_eq_getElem hq
    have hv := (h.2 q _ hx).2.1
    have e : nxt D (l.take (q + 1)) a = nxS a (nxt D (l.take q) a) (D 12 l[q]) := by
      rw [List.take_succ_eq_append_getElem hq]; exact nxt_snoc
    rw [e] at hW
    unfold nxS at hW
    refine v22_4 ?_
    simp (disch := omega) only [u3_nc, u3_ek, u3_nk, upd_e, upd_n, dU_nk, dU_nc, dU_e, nI_ltI, nI_eq, nI_clamp, nI_add, nI_mul, inb_nI, nI_neg1, nI_ne1, nI_n1e, nI_neg1e, Nat.not_lt_zero, Nat.lt_irrefl, true_and, and_true, true_implies, false_implies, not_true_eq_false, not_false_eq_true, implies_true, forall_const, forall_eq, if_true, if_false, Nat.reduceEqDiff, eq_self, Nat.one_ne_zero, Nat.zero_ne_one, Nat.zero_add, Nat.add_zero, h7, hq, hv]
    refine ⟨fun h1 => ⟨fun h2 => ?_, fun h2 => ⟨fun h3 => ?_, fun h3 => ?_⟩⟩, fun h1 => ?_⟩
    · rw [if_pos ⟨h1, Or.inl h2⟩] at hW; exact hW
    · rw [if_pos ⟨h1, Or.inr h3⟩] at hW; exact hW
    · rw [if_neg (fun q => q.2.elim h2 h3)] at hW; exact hW
    · rw [if_neg (fun q => h1 q.1)] at hW; exact hW
  · refine v22_4 ?_
    simp (disch := omega) only [u3_nc, u3_ek, u3_nk, upd_e, upd_n, dU_nk, dU_nc, dU_e, nI_ltI, nI_eq, nI_clamp, nI_add, nI_mul, inb_nI, nI_neg1, nI_ne1, nI_n1e, nI_neg1e, Nat.not_lt_zero, Nat.lt_irrefl, true_and, and_true, true_implies, false_implies, not_true_eq_false, not_false_eq_true, implies_true, forall_const, forall_eq, if_true, if_false, Nat.reduceEqDiff, eq_self, Nat.one_ne_zero, Nat.zero_ne_one, Nat.zero_add, Nat.add_zero, h7]
    rw [List.take_length]
    exact k
theorem s156 {a : Int32} {r : Nat} (h : Mrk g.1 D (folL D r)) (h40 : nR D ≤ 40) (k : Φ (.inl (some (vI (nxt D (folL D r) a)))) g) : Rn sc (d + 1) 156 [vR 0 70, vI a] g Φ := by
  refine Rn.of rfl (v156_0 ?_)
  obtain ⟨n, hn⟩ : ∃ n, n = nR D := ⟨_, rfl⟩
  have hr : (List.range n).filter (fun x => decide (x ∈ folL D r)) = folL D r := by rw [hn]; exact folL_rng
  rw [← hn] at h40
  refine turns (W := fun q => Xe sc d 156 4 [vR 0 70, vI a, vI (nxt D ((List.range (min q n)).filter (fun x => decide (x ∈ folL D r))) a), vI (nI q)] [] g Φ) (n := 40) (fun q hq hW => ?_) ?_
  · have h72 := h.1 q hq
    have h73 := h.2 q hq
    rw [← hn] at h73
    refine v156_4 ?_
    simp (disch := omega) only [u3_nc, u3_ek, u3_nk, upd_e, upd_n, dU_nk, dU_nc, dU_e, nI_ltI, nI_eq, nI_clamp, nI_add, nI_mul, inb_nI, nI_neg1, nI_ne1, nI_n1e, nI_neg1e, Nat.not_lt_zero, Nat.lt_irrefl, true_and, and_true, true_implies, false_implies, not_true_eq_false, not_false_eq_true, implies_true, forall_const, forall_eq, if_true, if_false, Nat.reduceEqDiff, eq_self, Nat.one_ne_zero, Nat.zero_ne_one, Nat.zero_add, Nat.add_zero, hq, h72, h73]
    by_cases hm : q ∈ folL D r
    · have hqn : q < n := by rw [hn]; exact folL_lt hm
      rw [Nat.min_eq_left (by omega : q + 1 ≤ n), List.range_succ, List.filter_append, show List.filter (fun x => decide (x ∈ folL D r)) [q] = [q] by simp [hm], nxt_snoc] at hW
      rw [Nat.min_eq_left (by omega : q ≤ n), if_pos hm, if_pos hqn]
      unfold nxS at hW
      simp (disch := omega) only [u3_nc, u3_ek, u3_nk, upd_e, upd_n, dU_nk, dU_nc, dU_e, nI_ltI, nI_eq, nI_clamp, nI_add, nI_mul, inb_nI, nI_neg1, nI_ne1, nI_n1e, nI_neg1e, Nat.not_lt_zero, Nat.lt_irrefl, true_and, and_true, true_implies, false_implies, not_true_eq_false, not_false_eq_true, implies_true, forall_const, forall_eq, if_true, if_false, Nat.reduceEqDiff, eq_self, Nat.one_ne_zero, Nat.zero_ne_one, Nat.zero_add, Nat.add_zero]
      refine ⟨fun h1 => ⟨fun h2 => ?_, fun h2 => ⟨fun h3 => ?_, fun h3 => ?_⟩⟩, fun h1 => ?_⟩
      · rw [if_pos ⟨h1, Or.inl h2⟩] at hW; exact hW
      · rw [if_pos ⟨h1, Or.inr h3⟩] at hW; exact hW
      · rw [if_neg (fun q => q.2.elim h2 h3)] at hW; exact hW
      · rw [if_neg (fun q => h1 q.1)] at hW; exact hW
    · rw [if_neg hm]
      simp (disch := omega) only [u3_nc, u3_ek, u3_nk, upd_e, upd_n, dU_nk, dU_nc, dU_e, nI_ltI, nI_eq, nI_clamp, nI_add, nI_mul, inb_nI, nI_neg1, nI_ne1, nI_n1e, nI_neg1e, Nat.not_lt_zero, Nat.lt_irrefl, true_and, and_true, true_implies, false_implies, not_true_eq_false, not_false_eq_true, implies_true, forall_const, forall_eq, if_true, if_false, Nat.reduceEqDiff, eq_self, Nat.one_ne_zero, Nat.zero_ne_one, Nat.zero_add, Nat.add_zero]
      have e : (List.range (min (q + 1) n)).filter (fun x => decide (x ∈ folL D r)) = (List.range (min q n)).filter (fun x => decide (x ∈ folL D r)) := by
        by_cases hqn : q < n
        · rw [Nat.min_eq_left (by omega : q + 1 ≤ n), Nat.min_eq_left (by omega : q ≤ n), List.range_succ, List.filter_append, show List.filter (fun x => decide (x ∈ folL D r)) [q] = [] by simp [hm], List.append_nil]
        · rw [Nat.min_eq_right (by omega), Nat.min_eq_right (by omega)]
      rw [e] at hW
      exact hW
  · refine v156_4 ?_
    simp (disch := omega) only [u3_nc, u3_ek, u3_nk, upd_e, upd_n, dU_nk, dU_nc, dU_e, nI_ltI, nI_eq, nI_clamp, nI_add, nI_mul, inb_nI, nI_neg1, nI_ne1, nI_n1e, nI_neg1e, Nat.not_lt_zero, Nat.lt_irrefl, true_and, and_true, true_implies, false_implies, not_true_eq_false, not_false_eq_true, implies_true, forall_const, forall_eq, if_true, if_false, Nat.reduceEqDiff, eq_self, Nat.one_ne_zero, Nat.zero_ne_one, Nat.zero_add, Nat.add_zero]
    rw [Nat.min_eq_right h40, hr]
    exact k
theorem s9 {own its old : Int32} {b : Nat} (h : OLD g.1 i 40 4 41 42 D l own its b (gK D l)) (hK : gK D l ≤ 40) (k : Φ (.inl (some (vI (frO D l own its b old)))) g) : Rn sc (d + 1) 9 [vR i 40, vI old] g Φ := by
  refine Rn.of rfl (v9_0 ?_)
  have h4 := h.1
  unfold frO at k
  refine srch (W := fun q => Xe sc d 9 2 [vR i 40, vI old, vI (nI q)] [] g Φ) (n := gK D l) (p := fun t => decide (gch D l t = old)) (fun q hq hp hW => ?_) (fun q hs hq hp => ?_) (fun hs => ?_)
  · have e1 := (h.2 q hq).1
    have hp2 := of_decide_eq_false hp
    refine v9_2 ?_
    simp (disch := omega) only [u3_nc, u3_ek, u3_nk, upd_e, upd_n, dU_nk, dU_nc, dU_e, nI_ltI, nI_eq, nI_clamp, nI_add, nI_mul, inb_nI, nI_neg1, nI_ne1, nI_n1e, nI_neg1e, Nat.not_lt_zero, Nat.lt_irrefl, true_and, and_true, true_implies, false_implies, not_true_eq_false, not_false_eq_true, implies_true, forall_const, forall_eq, if_true, if_false, Nat.reduceEqDiff, eq_self, Nat.one_ne_zero, Nat.zero_ne_one, Nat.zero_add, Nat.add_zero, h4, hq, e1, hp2]
    exact hW
  · obtain ⟨e1, e2⟩ := h.2 q hq
    have hp2 := of_decide_eq_true hp
    rw [hs] at k
    refine v9_2 ?_
    simp (disch := omega) only [u3_nc, u3_ek, u3_nk, upd_e, upd_n, dU_nk, dU_nc, dU_e, nI_ltI, nI_eq, nI_clamp, nI_add, nI_mul, inb_nI, nI_neg1, nI_ne1, nI_n1e, nI_neg1e, Nat.not_lt_zero, Nat.lt_irrefl, true_and, and_true, true_implies, false_implies, not_true_eq_false, not_false_eq_true, implies_true, forall_const, forall_eq, if_true, if_false, Nat.reduceEqDiff, eq_self, Nat.one_ne_zero, Nat.zero_ne_one, Nat.zero_add, Nat.add_zero, h4, hq, e1, e2, hp2]
    exact k
  · rw [hs] at k
    refine v9_2 ?_
    simp (disch := omega) only [u3_nc, u3_ek, u3_nk, upd_e, upd_n, dU_nk, dU_nc, dU_e, nI_ltI, nI_eq, nI_clamp, nI_add, nI_mul, inb_nI, nI_neg1, nI_ne1, nI_n1e, nI_neg1e, Nat.not_lt_zero, Nat.lt_irrefl, true_and, and_true, true_implies, false_implies, not_true_eq_false, not_false_eq_true, implies_true, forall_const, forall_eq, if_true, if_false, Nat.reduceEqDiff, eq_self, Nat.one_ne_zero, Nat.zero_ne_one, Nat.zero_add, Nat.add_zero, h4]
    exact k
theorem s158 {own its old : Int32} {b : Nat} (h : OLD g.1 0 70 8 74 75 D l own its b (gK D l)) (hK : gK D l ≤ 40) (k : Φ (.inl (some (vI (frO D l own its b old)))) g) : Rn sc (d + 1) 158 [vR 0 70, vI old] g Φ := by
  refine Rn.of rfl (v158_0 ?_)
  have h4 := h.1
  unfold frO at k
  refine srch (W := fun q => Xe sc d 158 2 [vR 0 70, vI old, vI (nI q)] [] g Φ) (n := gK D l) (p := fun t => decide (gch D l t = old)) (fun q hq hp hW => ?_) (fun q hs hq hp => ?_) (fun hs => ?_)
  · have e1 := (h.2 q hq).1
    have hp2 := of_decide_eq_false hp
    refine v158_2 ?_
    simp (disch := omega) only [u3_nc, u3_ek, u3_nk, upd_e, upd_n, dU_nk, dU_nc, dU_e, nI_ltI, nI_eq, nI_clamp, nI_add, nI_mul, inb_nI, nI_neg1, nI_ne1, nI_n1e, nI_neg1e, Nat.not_lt_zero, Nat.lt_irrefl, true_and, and_true, true_implies, false_implies, not_true_eq_false, not_false_eq_true, implies_true, forall_const, forall_eq, if_true, if_false, Nat.reduceEqDiff, eq_self, Nat.one_ne_zero, Nat.zero_ne_one, Nat.zero_add, Nat.add_zero, h4, hq, e1, hp2]
    exact hW
  · obtain ⟨e1, e2⟩ := h.2 q hq
    have hp2 := of_decide_eq_true hp
    rw [hs] at k
    refine v158_2 ?_
    simp (disch := omega) only [u3_nc, u3_ek, u3_nk, upd_e, upd_n, dU_nk, dU_nc, dU_e, nI_ltI, nI_eq, nI_clamp, nI_add, nI_mul, inb_nI, nI_neg1, nI_ne1, nI_n1e, nI_neg1e, Nat.not_lt_zero, Nat.lt_irrefl, true_and, and_true, true_implies, false_implies, not_true_eq_false, not_false_eq_true, implies_true, forall_const, forall_eq, if_true, if_false, Nat.reduceEqDiff, eq_self, Nat.one_ne_zero, Nat.zero_ne_one, Nat.zero_add, Nat.add_zero, h4, hq, e1, e2, hp2]
    exact k
  · rw [hs] at k
    refine v158_2 ?_
    simp (disch := omega) only [u3_nc, u3_ek, u3_nk, upd_e, upd_n, dU_nk, dU_nc, dU_e, nI_ltI, nI_eq, nI_clamp, nI_add, nI_mul, inb_nI, nI_neg1, nI_ne1, nI_n1e, nI_neg1e, Nat.not_lt_zero, Nat.lt_irrefl, true_and, and_true, true_implies, false_implies, not_true_eq_false, not_false_eq_true, implies_true, forall_const, forall_eq, if_true, if_false, Nat.reduceEqDiff, eq_self, Nat.one_ne_zero, Nat.zero_ne_one, Nat.zero_add, Nat.add_zero, h4]
    exact k
end GN
