/-! VOLUMES AND DIRECTORIES ADDED, in the class and in the reference -/
/-- a directory more -/
def aDr (D : Nat → Nat → Int32) (v : Nat) (o c : Int32) : Nat → Nat → Int32 := dU (dU (dU D 4 (v * 12 + nS D v) c) 5 (v * 12 + nS D v) o) 3 v (nI (nS D v + 1))
/-- a volume more -/
def aVl (D : Nat → Nat → Int32) (c : Int32) : Nat → Nat → Int32 := dU (dU (dU (dU (dU (dU D 2 (nV D) c) 3 (nV D) (nI 0)) 1 4 (nI (nV D + 1))) 4 (nV D * 12) (nI 0)) 5 (nV D * 12) (-nI 1)) 3 (nV D) (nI 1)
section AV
variable {D : Nat → Nat → Int32} {v : Nat} {o c : Int32}
theorem aDr_nV : nV (aDr D v o c) = nV D := by
  unfold nV aDr
  rw [dU_nc (by decide), dU_nc (by decide), dU_nc (by decide)]
theorem aDr_3 {x : Nat} : aDr D v o c 3 x = if x = v then nI (nS D v + 1) else D 3 x := by
  unfold aDr
  by_cases h : x = v
  · rw [if_pos h, dU_e rfl h]
  · rw [if_neg h, dU_nk h, dU_nc (by decide), dU_nc (by decide)]
theorem aDr_nS {x : Nat} (h12 : nS D v < 12) : nS (aDr D v o c) x = if x = v then nS D v + 1 else nS D x := by
  unfold nS
  rw [aDr_3]
  by_cases h : x = v
  · rw [if_pos h, if_pos h, nI_clamp (by omega)]; rfl
  · rw [if_neg h, if_neg h]
theorem aDr_5 {x : Nat} : aDr D v o c 5 x = if x = v * 12 + nS D v then o else D 5 x := by
  unfold aDr
  rw [dU_nc (by decide)]
  by_cases h : x = v * 12 + nS D v
  · rw [if_pos h, dU_e rfl h]
  · rw [if_neg h, dU_nk h, dU_nc (by decide)]
theorem aDr_4 {x : Nat} : aDr D v o c 4 x = if x = v * 12 + nS D v then c else D 4 x := by
  unfold aDr
  rw [dU_nc (by decide), dU_nc (by decide)]
  by_cases h : x = v * 12 + nS D v
  · rw [if_pos h, dU_e rfl h]
  · rw [if_neg h, dU_nk h]
theorem aDr_2 {x : Nat} : aDr D v o c 2 x = D 2 x := by
  unfold aDr
  rw [dU_nc (by decide), dU_nc (by decide), dU_nc (by decide)]
theorem aDr_1 {x : Nat} : aDr D v o c 1 x = D 1 x := by
  unfold aDr
  rw [dU_nc (by decide), dU_nc (by decide), dU_nc (by decide)]
theorem aDr_VOK (vk : VOK D) (hv : v < nV D) (h12 : nS D v < 12) (ho : ∃ a, a < nS D v ∧ o = nI a) : VOK (aDr D v o c) := by
  obtain ⟨k1, k2, k3⟩ := vk
  refine ⟨by rw [aDr_1, aDr_nV]; exact k1, by rw [aDr_nV]; exact k2, fun x hx => ?_⟩
  rw [aDr_nV] at hx
  obtain ⟨q1, q2, q3, q4, q5⟩ := k3 x hx
  obtain ⟨p1, p2, p3, p4, p5⟩ := k3 v hv
  rw [aDr_nS h12, aDr_3]
  by_cases h : x = v
  · subst h
    rw [if_pos rfl, if_pos rfl]
    refine ⟨rfl, by omega, by omega, by rw [aDr_5, if_neg (by omega)]; exact q4, fun e he h0 => ?_⟩
    rw [aDr_5]
    by_cases he2 : e = nS D x
    · rw [if_pos (by omega)]
      obtain ⟨a, a1, a2⟩ := ho
      exact ⟨a, by omega, a2⟩
    · rw [if_neg (by omega)]; exact q5 e (by omega) h0
  · rw [if_neg h, if_neg h]
    refine ⟨q1, q2, q3, by rw [aDr_5, if_neg (by omega)]; exact q4, fun e he h0 => ?_⟩
    rw [aDr_5, if_neg (by omega)]; exact q5 e he h0
theorem aVl_nV (h : nV D < 4) : nV (aVl D c) = nV D + 1 := by
  have e : aVl D c 1 4 = nI (nV D + 1) := by
    unfold aVl
    rw [dU_nc (by decide), dU_nc (by decide), dU_nc (by decide), dU_e rfl rfl]
  show (aVl D c 1 4).toNatClampNeg = _
  rw [e, nI_clamp (by omega)]
theorem aVl_1 : aVl D c 1 4 = nI (nV D + 1) := by
  unfold aVl
  rw [dU_nc (by decide), dU_nc (by decide), dU_nc (by decide), dU_e rfl rfl]
theorem aVl_3 {x : Nat} : aVl D c 3 x = if x = nV D then nI 1 else D 3 x := by
  unfold aVl
  by_cases h : x = nV D
  · rw [if_pos h, dU_e rfl h]
  · rw [if_neg h, dU_nk h, dU_nc (by decide), dU_nc (by decide), dU_nc (by decide), dU_nk h, dU_nc (by decide)]
theorem aVl_nS {x : Nat} : nS (aVl D c) x = if x = nV D then 1 else nS D x := by
  unfold nS
  rw [aVl_3]
  by_cases h : x = nV D
  · rw [if_pos h, if_pos h, nI_clamp (by omega)]
  · rw [if_neg h, if_neg h]
theorem aVl_2 {x : Nat} : aVl D c 2 x = if x = nV D then c else D 2 x := by
  unfold aVl
  rw [dU_nc (by decide), dU_nc (by decide), dU_nc (by decide), dU_nc (by decide), dU_nc (by decide)]
  by_cases h : x = nV D
  · rw [if_pos h, dU_e rfl h]
  · rw [if_neg h, dU_nk h]
theorem aVl_4 {x : Nat} : aVl D c 4 x = if x = nV D * 12 then nI 0 else D 4 x := by
  unfold aVl
  rw [dU_nc (by decide), dU_nc (by decide)]
  by_cases h : x = nV D * 12
  · rw [if_pos h, dU_e rfl h]
  · rw [if_neg h, dU_nk h, dU_nc (by decide), dU_nc (by decide), dU_nc (by decide)]
theorem aVl_5 {x : Nat} : aVl D c 5 x = if x = nV D * 12 then -nI 1 else D 5 x := by
  unfold aVl
  rw [dU_nc (by decide)]
  by_cases h : x = nV D * 12
  · rw [if_pos h, dU_e rfl h]
  · rw [if_neg h, dU_nk h, dU_nc (by decide), dU_nc (by decide), dU_nc (by decide), dU_nc (by decide)]
theorem aVl_VOK (vk : VOK D) (h : nV D < 4) : VOK (aVl D c) := by
  obtain ⟨k1, k2, k3⟩ := vk
  refine ⟨by rw [aVl_1, aVl_nV h], by rw [aVl_nV h]; omega, fun x hx => ?_⟩
  rw [aVl_nV h] at hx
  rw [aVl_3, aVl_nS]
  by_cases e : x = nV D
  · subst e
    rw [if_pos rfl, if_pos rfl]
    exact ⟨rfl, by decide, by decide, by rw [aVl_5, if_pos rfl], fun e he h0 => by omega⟩
  · obtain ⟨q1, q2, q3, q4, q5⟩ := k3 x (by omega)
    rw [if_neg e, if_neg e]
    refine ⟨q1, q2, q3, by rw [aVl_5, if_neg (by omega)]; exact q4, fun e2 he h0 => ?_⟩
    rw [aVl_5, if_neg (by omega)]; exact q5 e2 he h0
/-- depths, by a function -/
def DPH (D : Nat → Nat → Int32) (h : Nat → Nat → Nat) : Prop := ∀ v e, v < nV D → e < nS D v → h v e ≤ 5 ∧ ∀ o, o < e → D 5 (v * 12 + e) = nI o → h v o < h v e
theorem aDr_DPH {h : Nat → Nat → Nat} {a dep : Nat} (vk : VOK D) (hd : DPH D h) (hv : v < nV D) (h12 : nS D v < 12) (ha : a < nS D v) (hdep : h v a < dep) (h5 : dep ≤ 5) : DPH (aDr D v (nI a) c) (fun x e => if x = v ∧ e = nS D v then dep else h x e) := by
  intro x e hx he
  rw [aDr_nV] at hx
  rw [aDr_nS h12] at he
  have s12 := (vk.2.2 x hx).2.2.1
  dsimp only
  by_cases hxe : x = v ∧ e = nS D v
  · rw [if_pos hxe]
    refine ⟨h5, fun o ho e5 => ?_⟩
    rw [hxe.1, hxe.2, aDr_5, if_pos rfl, nI_eq (by omega) (by omega)] at e5
    rw [if_neg (by omega), hxe.1, ← e5]
    exact hdep
  · rw [if_neg hxe]
    have he2 : e < nS D x := by
      by_cases h2 : x = v
      · rw [if_pos h2] at he; rw [h2]; have := fun q => hxe ⟨h2, q⟩; omega
      · rw [if_neg h2] at he; exact he
    obtain ⟨a1, a2⟩ := hd x e hx he2
    refine ⟨a1, fun o ho e5 => ?_⟩
    rw [aDr_5, if_neg (by omega)] at e5
    rw [if_neg (fun q => by obtain ⟨q1, q2⟩ := q; subst q1; omega)]
    exact a2 o ho e5
theorem aVl_DPH {h : Nat → Nat → Nat} (hd : DPH D h) (h4 : nV D < 4) (vk : VOK D) : DPH (aVl D c) (fun x e => if x = nV D then 0 else h x e) := by
  intro x e hx he
  rw [aVl_nV h4] at hx
  rw [aVl_nS] at he
  dsimp only
  by_cases hxe : x = nV D
  · rw [if_pos hxe] at he ⊢
    exact ⟨by decide, fun o ho _ => by omega⟩
  · rw [if_neg hxe] at he ⊢
    obtain ⟨a1, a2⟩ := hd x e (by omega) he
    have s12 := (vk.2.2 x (by omega)).2.2.1
    refine ⟨a1, fun o ho e5 => ?_⟩
    rw [aVl_5, if_neg (by omega)] at e5
    rw [if_neg hxe]
    exact a2 o ho e5
theorem RMV.dir {A A' : Nat → Int32} {w : Nat} {L : List Nat} (h : RMV A w D) (vk : VOK D) (hv : v < nV D) (h12 : nS D v < 12) (L6 : L.length ≤ 6) (Ll : ∀ l ∈ L, 1 ≤ l ∧ l ≤ 26) (hc : c = nI (cdL L))
    (hn : ∀ k, k < 6 → A' (780 * w + (33 + 7 * (12 * v + nS D v) + k)) = cellv L k) (ho : A' (780 * w + (33 + 7 * (12 * v + nS D v) + 6)) = o) (hs : A' (780 * w + (5 + 7 * v + 6)) = nI (nS D v + 1))
    (same : ∀ j, ¬ (780 * w + (33 + 7 * (12 * v + nS D v)) ≤ j ∧ j ≤ 780 * w + (33 + 7 * (12 * v + nS D v) + 6)) → j ≠ 780 * w + (5 + 7 * v + 6) → A' j = A j) : RMV A' w (aDr D v o c) := by
  obtain ⟨h1, h2, h3⟩ := h
  have v4 := vk.2.1
  refine ⟨by rw [same _ (by omega) (by omega), aDr_1]; exact h1, fun x hx => ?_, fun x e hx he => ?_⟩
  · rw [aDr_nV] at hx
    obtain ⟨a, M, b1, b2, b3, b4⟩ := h2 x hx
    refine ⟨?_, M, b1, b2, by rw [aDr_2]; exact b3, fun k hk => ?_⟩
    · rw [aDr_3]
      by_cases e : x = v
      · rw [if_pos e, e]; exact hs
      · rw [if_neg e, same _ (by omega) (by omega)]; exact a
    · rw [← b4 k hk]
      exact same _ (by omega) (by omega)
  · rw [aDr_nV] at hx
    rw [aDr_nS h12] at he
    have s12 := (vk.2.2 x hx).2.2.1
    by_cases hxe : x = v ∧ e = nS D v
    · obtain ⟨rfl, rfl⟩ := hxe
      refine ⟨by rw [aDr_5, if_pos rfl]; exact ho, L, L6, Ll, by rw [aDr_4, if_pos rfl]; exact hc, hn⟩
    · have he2 : e < nS D x := by
        by_cases h2 : x = v
        · rw [if_pos h2] at he; rw [h2]; have := fun q => hxe ⟨h2, q⟩; omega
        · rw [if_neg h2] at he; exact he
      obtain ⟨a, M, b1, b2, b3, b4⟩ := h3 x e hx he2
      refine ⟨?_, M, b1, b2, by rw [aDr_4, if_neg (by omega)]; exact b3, fun k hk => ?_⟩
      · rw [aDr_5, if_neg (by omega), same _ (by omega) (by omega)]; exact a
      · rw [← b4 k hk]
        exact same _ (by omega) (by omega)
theorem RMV.vol {A A' : Nat → Int32} {w : Nat} {L : List Nat} (h : RMV A w D) (vk : VOK D) (h4 : nV D < 4) (L6 : L.length ≤ 6) (Ll : ∀ l ∈ L, 1 ≤ l ∧ l ≤ 26) (hc : c = nI (cdL L))
    (hn : ∀ k, k < 6 → A' (780 * w + (5 + 7 * nV D + k)) = cellv L k) (hs : A' (780 * w + (5 + 7 * nV D + 6)) = nI 1) (ho : A' (780 * w + (33 + 7 * (12 * nV D) + 6)) = -nI 1) (h0 : A' (780 * w) = nI (nV D + 1))
    (hz : ∀ k, k < 6 → A' (780 * w + (33 + 7 * (12 * nV D) + k)) = nI 0)
    (same : ∀ j, ¬ (780 * w + (5 + 7 * nV D) ≤ j ∧ j ≤ 780 * w + (5 + 7 * nV D + 6)) → j ≠ 780 * w → j ≠ 780 * w + (33 + 7 * (12 * nV D) + 6) → A' j = A j) : RMV A' w (aVl D c) := by
  obtain ⟨h1, h2, h3⟩ := h
  refine ⟨by rw [aVl_1]; exact h0, fun x hx => ?_, fun x e hx he => ?_⟩
  · rw [aVl_nV h4] at hx
    by_cases e : x = nV D
    · subst e
      exact ⟨by rw [aVl_3, if_pos rfl]; exact hs, L, L6, Ll, by rw [aVl_2, if_pos rfl]; exact hc, hn⟩
    · obtain ⟨a, M, b1, b2, b3, b4⟩ := h2 x (by omega)
      refine ⟨by rw [aVl_3, if_neg e, same _ (by omega) (by omega) (by omega)]; exact a, M, b1, b2, by rw [aVl_2, if_neg e]; exact b3, fun k hk => ?_⟩
      rw [← b4 k hk]
      exact same _ (by omega) (by omega) (by omega)
  · rw [aVl_nV h4] at hx
    rw [aVl_nS] at he
    by_cases ex : x = nV D
    · subst ex
      rw [if_pos rfl] at he
      obtain rfl : e = 0 := by omega
      refine ⟨by rw [aVl_5, if_pos (Nat.add_zero _)]; exact ho, [], by decide, fun l hl => (nomatch hl), by rw [aVl_4, if_pos (Nat.add_zero _)]; rfl, fun k hk => hz k hk⟩
    · rw [if_neg ex] at he
      have s12 := (vk.2.2 x (by omega)).2.2.1
      obtain ⟨a, M, b1, b2, b3, b4⟩ := h3 x e (by omega) he
      refine ⟨by rw [aVl_5, if_neg (by omega), same _ (by omega) (by omega) (by omega)]; exact a, M, b1, b2, by rw [aVl_4, if_neg (by omega)]; exact b3, fun k hk => ?_⟩
      rw [← b4 k hk]
      exact same _ (by omega) (by omega) (by omega)
end AV
section AC
variable {sc : SC} {d i v : Nat} {g : Gs} {Φ : RS → Gs → Prop} {D : Nat → Nat → Int32} {o c : Int32}
theorem s81 (hA : At g i D) (v4 : v < 4) (h3 : D 3 v = nI (nS D v)) (h12 : nS D v ≤ 12) (k1 : nS D v < 12 → ∀ g', Fr (PD i) g g' → At g' i (aDr D v o c) → Φ (.inl (some (vI (nI (nS D v))))) g') (k0 : ¬ nS D v < 12 → Φ (.inl (some (vI (-nI 1)))) g) : Rn sc (d + 1) 81 [vR i 1, vI (nI v), vI o, vI c] g Φ := by
  have e3 : g.1 i 3 v = nI (nS D v) := by rw [hA 3 (by decide)]; exact h3
  obtain ⟨e, he⟩ : ∃ e, e = nS D v := ⟨_, rfl⟩
  unfold aDr at k1
  rw [← he] at e3 h12 k1 k0
  refine Rn.of rfl (v81_0 ?_)
  simp (disch := omega) only [u3_nc, u3_ek, u3_nk, upd_e, upd_n, dU_nk, dU_nc, dU_e, nI_ltI, nI_eq, nI_clamp, nI_add, nI_mul, inb_nI, nI_neg1, nI_ne1, nI_n1e, nI_neg1e, Nat.not_lt_zero, Nat.lt_irrefl, true_and, and_true, true_implies, false_implies, not_true_eq_false, not_false_eq_true, implies_true, forall_const, forall_eq, if_true, if_false, Nat.reduceEqDiff, eq_self, Nat.one_ne_zero, Nat.zero_ne_one, Nat.zero_add, Nat.add_zero, e3]
  by_cases h : e < 12
  · simp (disch := omega) only [u3_nc, u3_ek, u3_nk, upd_e, upd_n, dU_nk, dU_nc, dU_e, nI_ltI, nI_eq, nI_clamp, nI_add, nI_mul, inb_nI, nI_neg1, nI_ne1, nI_n1e, nI_neg1e, Nat.not_lt_zero, Nat.lt_irrefl, true_and, and_true, true_implies, false_implies, not_true_eq_false, not_false_eq_true, implies_true, forall_const, forall_eq, if_true, if_false, Nat.reduceEqDiff, eq_self, Nat.one_ne_zero, Nat.zero_ne_one, Nat.zero_add, Nat.add_zero, h]
    have a1 := At.uc (c := 3) (k := v) (v := nI (e + 1)) (At.uc (c := 5) (k := v * 12 + e) (v := o) (At.uc (c := 4) (k := v * 12 + e) (v := c) hA))
    exact k1 h _ (by repeat (first | exact Fr.rf _ | refine Fr.u3 ?_ ⟨rfl, by decide⟩)) a1
  · simp (disch := omega) only [u3_nc, u3_ek, u3_nk, upd_e, upd_n, dU_nk, dU_nc, dU_e, nI_ltI, nI_eq, nI_clamp, nI_add, nI_mul, inb_nI, nI_neg1, nI_ne1, nI_n1e, nI_neg1e, Nat.not_lt_zero, Nat.lt_irrefl, true_and, and_true, true_implies, false_implies, not_true_eq_false, not_false_eq_true, implies_true, forall_const, forall_eq, if_true, if_false, Nat.reduceEqDiff, eq_self, Nat.one_ne_zero, Nat.zero_ne_one, Nat.zero_add, Nat.add_zero, h]
    exact k0 h
theorem s80 (hA : At g i D) (h1 : D 1 4 = nI (nV D)) (h4 : nV D < 4) (k : ∀ g', Fr (PD i) g g' → At g' i (aVl D c) → Φ (.inl none) g') : Rn sc (d + 2) 80 [vR i 1, vI c] g Φ := by
  have e1 : g.1 i 1 4 = nI (nV D) := by rw [hA 1 (by decide)]; exact h1
  obtain ⟨v, hv⟩ : ∃ v, v = nV D := ⟨_, rfl⟩
  unfold aVl at k
  rw [← hv] at e1 h4 k
  refine Rn.of rfl (v80_0 ?_)
  simp (disch := omega) only [u3_nc, u3_ek, u3_nk, upd_e, upd_n, dU_nk, dU_nc, dU_e, nI_ltI, nI_eq, nI_clamp, nI_add, nI_mul, inb_nI, nI_neg1, nI_ne1, nI_n1e, nI_neg1e, Nat.not_lt_zero, Nat.lt_irrefl, true_and, and_true, true_implies, false_implies, not_true_eq_false, not_false_eq_true, implies_true, forall_const, forall_eq, if_true, if_false, Nat.reduceEqDiff, eq_self, Nat.one_ne_zero, Nat.zero_ne_one, Nat.zero_add, Nat.add_zero, e1, h4]
  have a3 := At.uc (c := 1) (k := 4) (v := nI (v + 1)) (At.uc (c := 3) (k := v) (v := nI 0) (At.uc (c := 2) (k := v) (v := c) hA))
  rw [nI_prd]
  have n0 : nS (dU (dU (dU D 2 v c) 3 v (nI 0)) 1 4 (nI (v + 1))) v = 0 := by
    unfold nS
    rw [dU_nc (by decide), dU_e rfl rfl, nI_clamp (by decide)]
  refine s81 a3 h4 (by rw [n0, dU_nc (by decide), dU_e rfl rfl]) (by rw [n0]; decide) (fun _ g' f' a' => ⟨_, rfl, ?_⟩) (fun q => absurd (by rw [n0]; decide) q)
  unfold aDr at a'
  rw [n0] at a'
  exact k g' (Fr.tr (by repeat (first | exact Fr.rf _ | refine Fr.u3 ?_ ⟨rfl, by decide⟩)) f') a'
end AC
