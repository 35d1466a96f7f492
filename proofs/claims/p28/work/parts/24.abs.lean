/-! WHAT THE FAST MACHINE'S STATE SAYS of the small machine's -/
def dV (v : Nat) : AV := if v < 4294967296 then vI (nI v) else if v = 4294967296 then vU else if v < 17179869184 then vR (v - 8589934592) 900 else if v < 1099511627776 then vR 0 901 else vR (v / 1099511627776 - 1) 0
noncomputable def lfF (T : ZFT) (i : Nat) : FZ0 := fg8 T.2.2 (i + 1)
def rfD (x : Nat) : Option (Nat × Nat) := if x = 0 then none else some (x - 1, 0)
noncomputable def absH (T : ZFT) : AH := ((T.1, T.1, T.2.1), (fun i c k => if c = 0 then rfD (pg (lfF T i).2.2.2 k) else none), (fun i => ((lfF T i).1, (lfF T i).2.1)), (fun i c k => if c = 0 then nI (pg (lfF T i).2.2.1 k) else 0))
def WFT (T : ZFT) : Prop := T.1 ≤ 253 ∧ (fg8 T.2.2 0).1 = 99 ∧ (fg8 T.2.2 255).1 = 99 ∧ ∀ q, (fg8 T.2.2 q).2.1 ≤ 8000
theorem dV_i {v : Nat} (h : v ≤ 4294967295) : dV v = vI (nI v) := if_pos (by omega)
theorem dV_r {v q : Nat} (h : v / 1099511627776 = q + 1) : dV v = vR q 0 := by
  unfold dV
  rw [if_neg (by omega), if_neg (by omega), if_neg (by omega), if_neg (by omega), h, Nat.add_sub_cancel]
theorem dV_u : dV 4294967296 = vU := rfl
theorem dV_ref {v : Nat} (h : 4294967297 ≤ v) : ∃ p, dV v = .inr (.inr (.inl p)) := by
  unfold dV
  rw [if_neg (by omega), if_neg (by omega)]
  split
  · exact ⟨_, rfl⟩
  · split <;> exact ⟨_, rfl⟩
theorem dV_s {v : Nat} (h1 : 8589934592 ≤ v) (h2 : v < 17179869184) : dV v = vR (v - 8589934592) 900 := by
  unfold dV
  rw [if_neg (by omega), if_neg (by omega), if_pos h2]
theorem dV_nu {v : Nat} (h : v ≠ 4294967296) : (∃ x, dV v = vI x) ∨ ∃ p, dV v = .inr (.inr (.inl p)) := by
  rcases Nat.lt_or_ge v 4294967296 with z | z
  · exact Or.inl ⟨_, dV_i (by omega)⟩
  · exact Or.inr (dV_ref (by omega))
theorem dV_cat (v : Nat) : cat1 (dV v) = 1 := by
  unfold dV
  split
  · rfl
  · split
    · rfl
    · split
      · rfl
      · split <;> rfl
theorem cats_dV (st : List Nat) : cats (st.map dV) = st.length := by
  induction st with
  | nil => rfl
  | cons x xs ih => rw [List.map_cons, cats, ih, dV_cat, List.length_cons, Nat.add_comm]
theorem cats8 {st : List Nat} (h : st.length ≤ 8) : Nat.ble (cats (st.map dV)) 8 = true := by
  rw [cats_dV]
  exact Nat.ble_eq_true_of_le h
theorem nlo_dV (lo : List Nat) (k : Nat) : nlo (lo.map dV) k = true := by
  unfold nlo
  split
  · rfl
  · rename_i j
    rw [List.getElem?_map]
    cases h : lo[j]? with
    | none => rfl
    | some v =>
      have hc := dV_cat v
      show (match some (dV v) with | some (.inr (.inl _)) => false | _ => true) = true
      generalize dV v = a at hc ⊢
      match a, hc with
      | .inl _, _ => rfl
      | .inr (.inr (.inl _)), _ => rfl
      | .inr (.inr (.inr _)), _ => rfl
theorem elo_dV (as : List Nat) : elo (as.map dV) = as.map dV := by
  induction as with
  | nil => rfl
  | cons x xs ih =>
    rw [List.map_cons]
    have hc := dV_cat x
    generalize dV x = a at hc ⊢
    match a, hc with
    | .inl _, _ => show _ :: elo _ = _; rw [ih]
    | .inr (.inr (.inl _)), _ => show _ :: elo _ = _; rw [ih]
    | .inr (.inr (.inr _)), _ => show _ :: elo _ = _; rw [ih]
section ABS
variable {T : ZFT} {r k q : Nat}
theorem shr40 (r : Nat) : Nat.shiftRight r 40 = r / 1099511627776 := by
  show r >>> 40 = _
  rw [Nat.shiftRight_eq_div_pow]
/-- a reference to a cell of a kind -/
theorem cel_k (hW : WFT T) (h : (cel T r).1 = k) (hk : k ≠ 99) : ∃ q, q ≤ 253 ∧ r / 1099511627776 = q + 1 ∧ dV r = vR q 0 ∧ cel T r = lfF T q ∧ hK (absH T) q 0 = (k, (lfF T q).2.1) ∧ Nat.shiftRight r 40 = q + 1 := by
  obtain ⟨h1, h2, h3, h4⟩ := hW
  have hs := shr40 r
  have hc : cel T r = fg8 T.2.2 (r / 1099511627776) := by
    show fg8 T.2.2 (Nat.shiftRight r 40) = _
    rw [hs]
  cases hq : r / 1099511627776 with
  | zero => rw [hc, hq, h2] at h; exact absurd h.symm hk
  | succ q =>
    by_cases hb : q ≤ 253
    · refine ⟨q, hb, rfl, dV_r hq, by rw [hc, hq]; rfl, ?_, by rw [hs, hq]⟩
      have e : lfF T q = cel T r := by rw [hc, hq]; rfl
      show ((lfF T q).1, (lfF T q).2.1) = _
      rw [e, h]
    · rw [hc, hq, cl8 (show 255 ≤ q + 1 by omega), h3] at h
      exact absurd h.symm hk
theorem lf_st {c : FZ0} {a b i : Nat} (hq : q ≤ 253) : lfF (a, b, st8 T.2.2 (q + 1) c) i = if i = q then c else lfF T i := by
  unfold lfF
  dsimp only
  rw [g8 (by omega)]
  by_cases e : i = q
  · rw [if_pos e, if_pos (by omega)]
  · rw [if_neg e, if_neg (by omega)]
theorem WFT.st {c : FZ0} {a b : Nat} (hW : WFT T) (hq : q ≤ 253) (ha : a ≤ 253) (hc : c.2.1 ≤ 8000) : WFT (a, b, st8 T.2.2 (q + 1) c) := by
  obtain ⟨h1, h2, h3, h4⟩ := hW
  refine ⟨ha, ?_, ?_, fun j => ?_⟩
  · show (fg8 (st8 T.2.2 (q + 1) c) 0).1 = 99
    rw [g8 (by omega), if_neg (by omega)]; exact h2
  · show (fg8 (st8 T.2.2 (q + 1) c) 255).1 = 99
    rw [g8 (by omega), if_neg (by omega)]; exact h3
  · show (fg8 (st8 T.2.2 (q + 1) c) j).2.1 ≤ 8000
    rw [g8 (by omega)]
    split
    · exact hc
    · exact h4 j
theorem u3_0 {α : Type} {f : Nat → Nat → Nat → α} {i c k i' c' k' : Nat} {v : α} : u3 f i c k v i' c' k' = if i' = i ∧ c' = c ∧ k' = k then v else f i' c' k' := rfl
theorem u2_0 {α : Type} {f : Nat → Nat → Nat → α} {i c i' c' k' : Nat} {w : Nat → α} : u2 f i c w i' c' k' = if i' = i ∧ c' = c then w k' else f i' c' k' := rfl
/-- a number is written -/
theorem abs_sG {f v : Nat} (hq : q ≤ 253) (hv : v < 4294967296) : absH (T.1, T.2.1, st8 T.2.2 (q + 1) ((lfF T q).1, (lfF T q).2.1, ps (lfF T q).2.2.1 f v, (lfF T q).2.2.2)) = sG (absH T) q 0 f (nI v) := by
  refine Prod.ext rfl (Prod.ext ?_ (Prod.ext ?_ ?_))
  · funext i c j
    show (if c = 0 then rfD (pg (lfF _ i).2.2.2 j) else none) = if c = 0 then rfD (pg (lfF T i).2.2.2 j) else none
    rw [lf_st hq]
    by_cases e : i = q
    · rw [if_pos e, e]
    · rw [if_neg e]
  · funext i
    show ((lfF _ i).1, (lfF _ i).2.1) = ((lfF T i).1, (lfF T i).2.1)
    rw [lf_st hq]
    by_cases e : i = q
    · rw [if_pos e, e]
    · rw [if_neg e]
  · funext i c j
    show (if c = 0 then nI (pg (lfF _ i).2.2.1 j) else 0) = u3 (absH T).2.2.2 q 0 f (nI v) i c j
    rw [lf_st hq, u3_0]
    by_cases e : i = q
    · rw [if_pos e]
      dsimp only
      rw [pg_ps hv]
      by_cases hc : c = 0
      · rw [if_pos hc]
        by_cases hj : j = f
        · rw [if_pos hj, if_pos ⟨e, hc, hj⟩]
        · rw [if_neg hj, if_neg (fun z => hj z.2.2), e]
          show _ = if c = 0 then nI (pg (lfF T q).2.2.1 j) else 0
          rw [if_pos hc]
      · rw [if_neg hc, if_neg (fun z => hc z.2.1)]
        show _ = if c = 0 then nI (pg (lfF T i).2.2.1 j) else 0
        rw [if_neg hc]
    · rw [if_neg e, if_neg (show ¬ (i = q ∧ c = 0 ∧ j = f) from fun z => e z.1)]
      rfl
/-- a reference is written -/
theorem abs_sR {f x : Nat} (hq : q ≤ 253) (h1 : 1 ≤ x) (hv : x < 4294967296) : absH (T.1, T.2.1, st8 T.2.2 (q + 1) ((lfF T q).1, (lfF T q).2.1, (lfF T q).2.2.1, ps (lfF T q).2.2.2 f x)) = sR (absH T) q 0 f (x - 1, 0) := by
  refine Prod.ext rfl (Prod.ext ?_ (Prod.ext ?_ ?_))
  · funext i c j
    show (if c = 0 then rfD (pg (lfF _ i).2.2.2 j) else none) = u3 (absH T).2.1 q 0 f (some (x - 1, 0)) i c j
    rw [lf_st hq, u3_0]
    by_cases e : i = q
    · rw [if_pos e]
      dsimp only
      rw [pg_ps hv]
      by_cases hc : c = 0
      · rw [if_pos hc]
        by_cases hj : j = f
        · rw [if_pos hj, if_pos ⟨e, hc, hj⟩]
          unfold rfD
          rw [if_neg (by omega)]
        · rw [if_neg hj, if_neg (fun z => hj z.2.2), e]
          show _ = if c = 0 then rfD (pg (lfF T q).2.2.2 j) else none
          rw [if_pos hc]
      · rw [if_neg hc, if_neg (fun z => hc z.2.1)]
        show _ = if c = 0 then rfD (pg (lfF T i).2.2.2 j) else none
        rw [if_neg hc]
    · rw [if_neg e, if_neg (show ¬ (i = q ∧ c = 0 ∧ j = f) from fun z => e z.1)]
      rfl
  · funext i
    show ((lfF _ i).1, (lfF _ i).2.1) = ((lfF T i).1, (lfF T i).2.1)
    rw [lf_st hq]
    by_cases e : i = q
    · rw [if_pos e, e]
    · rw [if_neg e]
  · funext i c j
    show (if c = 0 then nI (pg (lfF _ i).2.2.1 j) else 0) = if c = 0 then nI (pg (lfF T i).2.2.1 j) else 0
    rw [lf_st hq]
    by_cases e : i = q
    · rw [if_pos e, e]
    · rw [if_neg e]
/-- an array's numbers are written -/
theorem abs_sW {C : Nat} {w : Nat → Int32} (hq : q ≤ 253) (hw : ∀ j, nI (pg C j) = w j) : absH (T.1, T.2.1, st8 T.2.2 (q + 1) ((lfF T q).1, (lfF T q).2.1, C, (lfF T q).2.2.2)) = sW (absH T) q 0 w := by
  refine Prod.ext rfl (Prod.ext ?_ (Prod.ext ?_ ?_))
  · funext i c j
    show (if c = 0 then rfD (pg (lfF _ i).2.2.2 j) else none) = if c = 0 then rfD (pg (lfF T i).2.2.2 j) else none
    rw [lf_st hq]
    by_cases e : i = q
    · rw [if_pos e, e]
    · rw [if_neg e]
  · funext i
    show ((lfF _ i).1, (lfF _ i).2.1) = ((lfF T i).1, (lfF T i).2.1)
    rw [lf_st hq]
    by_cases e : i = q
    · rw [if_pos e, e]
    · rw [if_neg e]
  · funext i c j
    show (if c = 0 then nI (pg (lfF _ i).2.2.1 j) else 0) = u2 (absH T).2.2.2 q 0 w i c j
    rw [lf_st hq, u2_0]
    by_cases e : i = q
    · rw [if_pos e]
      dsimp only
      rw [hw]
      by_cases hc : c = 0
      · rw [if_pos hc, if_pos ⟨e, hc⟩]
      · rw [if_neg hc, if_neg (fun z => hc z.2)]
        show _ = if c = 0 then nI (pg (lfF T i).2.2.1 j) else 0
        rw [if_neg hc]
    · rw [if_neg e, if_neg (show ¬ (i = q ∧ c = 0) from fun z => e z.1)]
      rfl
/-- a new cell -/
theorem abs_al {kd n m : Nat} (h : T.1 ≤ 252) : absH (T.1 + 1, T.2.1 + m, st8 T.2.2 (T.1 + 1) (kd, n, 0, 0)) = alc (absH T) (kd, n) m := by
  have hq : T.1 ≤ 253 := by omega
  refine Prod.ext rfl (Prod.ext ?_ (Prod.ext ?_ ?_))
  · funext i c j
    show (if c = 0 then rfD (pg (lfF _ i).2.2.2 j) else none) = u2 (absH T).2.1 T.1 0 (fun _ => none) i c j
    rw [lf_st hq, u2_0]
    by_cases e : i = T.1
    · rw [if_pos e]
      dsimp only
      rw [pg_z]
      by_cases hc : c = 0
      · rw [if_pos hc, if_pos ⟨e, hc⟩]; rfl
      · rw [if_neg hc, if_neg (fun z => hc z.2)]
        show _ = if c = 0 then rfD (pg (lfF T i).2.2.2 j) else none
        rw [if_neg hc]
    · rw [if_neg e, if_neg (show ¬ (i = T.1 ∧ c = 0) from fun z => e z.1)]
      rfl
  · funext i
    show ((lfF _ i).1, (lfF _ i).2.1) = if i = T.1 then (kd, n) else ((lfF T i).1, (lfF T i).2.1)
    rw [lf_st hq]
    by_cases e : i = T.1
    · rw [if_pos e, if_pos e]
    · rw [if_neg e, if_neg e]
  · funext i c j
    show (if c = 0 then nI (pg (lfF _ i).2.2.1 j) else 0) = u2 (absH T).2.2.2 T.1 0 (fun _ => 0) i c j
    rw [lf_st hq, u2_0]
    by_cases e : i = T.1
    · rw [if_pos e]
      dsimp only
      rw [pg_z]
      by_cases hc : c = 0
      · rw [if_pos hc, if_pos ⟨e, hc⟩]; rfl
      · rw [if_neg hc, if_neg (fun z => hc z.2)]
        show _ = if c = 0 then nI (pg (lfF T i).2.2.1 j) else 0
        rw [if_neg hc]
    · rw [if_neg e, if_neg (show ¬ (i = T.1 ∧ c = 0) from fun z => e z.1)]
      rfl
theorem hG_abs (j : Nat) : hG (absH T) q 0 j = nI (pg (lfF T q).2.2.1 j) := by
  show (if (0 : Nat) = 0 then nI (pg (lfF T q).2.2.1 j) else 0) = _
  exact if_pos rfl
theorem hR_abs (j : Nat) : hR (absH T) q 0 j = rfD (pg (lfF T q).2.2.2 j) := by
  show (if (0 : Nat) = 0 then rfD (pg (lfF T q).2.2.2 j) else none) = _
  exact if_pos rfl
theorem isO_k {c : Nat × Nat} {ci : Nat} (h : c.1 = ci) (hc : ci < 50) : isO c ci = true := by
  unfold isO
  have : KD c = .inl ci := by
    obtain ⟨a, b⟩ := c
    cases h
    exact KD_cls hc
  rw [this]
  exact Nat.beq_refl ci
theorem isA_k {n t : Nat} (ht : t < 10) : isA (50 + t, n) = some (t, n) := by
  unfold isA
  rw [KD_arr ht]
/-- what the reference in a fresh or read slot says -/
theorem dV_shl {x : Nat} (h : 1 ≤ x) : dV (Nat.shiftLeft x 40) = vR (x - 1) 0 := by
  refine dV_r ?_
  show (x <<< 40) / 1099511627776 = _
  rw [Nat.shiftLeft_eq]
  omega
end ABS
