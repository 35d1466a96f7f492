/-! THE PICTURE: what the small machine's heap says of the machine's -/
def ilen : Instr → Nat
  | .bipush _ | .iload _ | .lload _ | .aload _ | .istore _ | .lstore _ | .astore _ | .newarray _ | .ldc _ => 2
  | .sipush _ | .iinc _ _ | .ldc_w _ | .ldc2_w _ | .ifCond _ _ | .if_icmp _ _ | .goto _ | .ifnull _ | .ifnonnull _ | .getstatic _ | .checkcast _ | .getfield _ | .putfield _ | .new _ | .anewarray _ | .invokevirtual _ | .invokespecial _ | .invokestatic _ => 3
  | _ => 1
def isTsw : Instr → Bool
  | .tableswitch _ _ _ _ => true
  | _ => false
theorem len_all : (List.range 131).all (fun y => (code9 y).all (fun e => isTsw e.2.1 || Nat.beq e.2.2 (e.1 + ilen e.2.1))) = true := by decide +kernel
theorem fnd_mem {α : Type} {K : List (Nat × α)} {n : Nat} {v : α} (h : fnd K n = some v) : (n, v) ∈ K := by
  induction K with
  | nil => cases h
  | cons e r ih =>
    obtain ⟨k, w⟩ := e
    simp only [fnd] at h
    cases hk : Nat.beq k n with
    | true =>
      rw [hk] at h
      simp only [cond_true, Option.some.injEq] at h
      rw [Nat.eq_of_beq_eq_true hk, h]
      exact List.mem_cons_self
    | false =>
      rw [hk] at h
      exact List.mem_cons_of_mem _ (ih h)
/-- an entry of a method's code, by its bytes -/
theorem code_at {y pc : Nat} {i : Instr} {np : Nat} (hy : y < 131) (h : fnd (code9 y) pc = some (i, np)) : ∃ i0 len, decode (mByt y) pc = .ok (i0, len) ∧ absI pc i0 = i ∧ np = pc + len ∧ (isTsw i = false → len = ilen i) := by
  have hm := fnd_mem h
  have h1 := List.all_eq_true.mp (kc_all y hy) _ hm
  have h2 := List.all_eq_true.mp (List.all_eq_true.mp len_all y (List.mem_range.mpr hy)) _ hm
  unfold kChk1 at h1
  dsimp only at h1 h2
  split at h1
  · rename_i i0 len hd
    simp only [Bool.and_eq_true, decide_eq_true_eq] at h1
    have e1 := Nat.eq_of_beq_eq_true h1.2
    refine ⟨i0, len, hd, h1.1, e1, fun ht => ?_⟩
    rw [ht] at h2
    have e2 := Nat.eq_of_beq_eq_true h2
    omega
  · cases h1
def tys9 (tc : Nat → ClassId) : List (ClassId × FieldType) := [(tc 0, .int), (tc 1, .byte), (tc 2, .boolean), (tc 3, .object "MountSpaces$Mounts")]
abbrev AD : Type := Nat → Nat → Nat
def avV (L : AD) : AV → Value
  | .inl x => .int x
  | .inr (.inl x) => .long x
  | .inr (.inr (.inl p)) => .ref (L p.1 p.2)
  | .inr (.inr (.inr _)) => .null
def fV (L : AD) (h : AH) (i c ci k : Nat) : Value := match ftc ci k with
  | 2 => va_rf ((hR h i c k).map fun p => L p.1 p.2)
  | _ => .int (hG h i c k)
def arV (L : AD) (h : AH) (i c q n : Nat) : vp_A := (n, match q with
  | 3 => .inr (.inr (.inr (.inr (fun j => (hR h i c j).map fun p => L p.1 p.2))))
  | _ => .inl (hG h i c))
def celE (tc : Nat → ClassId) (L : AD) (h : AH) (i c : Nat) : va_E := match KD (hK h i c) with
  | .inl ci => .inr (ci, (List.range (fcn ci)).map (fV L h i c ci))
  | .inr (q, n) => .inl (tc q, arV L h i c q n)
def wsE (tc : Nat → ClassId) (L : AD) (h : AH) : va_W := (List.range h.1.1).map fun n => (L (nm n).1 (nm n).2, celE tc L h (nm n).1 (nm n).2)
def okP (n : Nat) (p : Nat × Nat) : Prop := ∃ j, j < n ∧ nm j = p
def okA (n : Nat) (p : Nat × Nat) : Prop := okP n p ∨ (p.2 = 900 ∧ p.1 < strN) ∨ p = (0, 901)
def okV (n : Nat) : AV → Prop
  | .inr (.inr (.inl p)) => okA n p
  | _ => True
theorem okP.mono {n k : Nat} {p : Nat × Nat} (h : okP n p) (hk : n ≤ k) : okP k p := by
  obtain ⟨j, h1, h2⟩ := h
  exact ⟨j, Nat.lt_of_lt_of_le h1 hk, h2⟩
theorem okA.mono {n k : Nat} {p : Nat × Nat} (h : okA n p) (hk : n ≤ k) : okA k p := h.elim (fun h => Or.inl (h.mono hk)) Or.inr
theorem okV.mono {n k : Nat} {v : AV} (h : okV n v) (hk : n ≤ k) : okV k v := by
  match v, h with
  | .inl _, _ => trivial
  | .inr (.inl _), _ => trivial
  | .inr (.inr (.inl p)), h => exact okA.mono h hk
  | .inr (.inr (.inr _)), _ => trivial
theorem nm_inj {a b : Nat} (h : nm a = nm b) : a = b := (Prod.mk.inj h).1
theorem nm_lt {a : Nat} : (nm a).2 < 91 := by show 0 < 91; decide
theorem hK_0 {h : AH} {i c : Nat} (e : ¬ c = 0) : hK h i c = (99, 0) := by
  unfold hK
  rw [show Nat.beq c 0 = false from by cases hb : Nat.beq c 0 with
    | false => rfl
    | true => exact absurd (Nat.eq_of_beq_eq_true hb) e]
  rfl
theorem KD_lt {h : AH} {i c ci : Nat} (q : isO (hK h i c) ci = true) (hci : ci < 99) : c < 91 := by
  by_cases e : c = 0
  · omega
  · rw [hK_0 e] at q
    have := Nat.eq_of_beq_eq_true (show Nat.beq 99 ci = true from q)
    omega
theorem KDA_lt {h : AH} {i c : Nat} {x : Nat × Nat} (q : isA (hK h i c) = some x) : c < 91 := by
  by_cases e : c = 0
  · omega
  · rw [hK_0 e] at q
    cases q
theorem okA.P {n : Nat} {p : Nat × Nat} (h : okA n p) (hc : p.2 < 91) : okP n p := by
  rcases h with h | ⟨h, -⟩ | h
  · exact h
  · omega
  · rw [h] at hc
    exact absurd hc (by decide)
theorem okP.lt {n : Nat} {p : Nat × Nat} (h : okP n p) : p.2 < 91 := by
  obtain ⟨j, h1, h2⟩ := h
  rw [← h2]
  exact nm_lt
theorem isO_KD {c : Nat × Nat} {ci : Nat} (h : isO c ci = true) : KD c = .inl ci := by
  unfold isO at h
  split at h
  · rename_i x hx
    rw [hx, Nat.eq_of_beq_eq_true h]
  · cases h
theorem isA_KD {c q : Nat × Nat} (h : isA c = some q) : KD c = .inr q := by
  unfold isA at h
  split at h
  · cases h
  · rename_i x hx
    rw [hx, Option.some.inj h]
theorem ws_at {tc : Nat → ClassId} {L : AD} {h : AH} {j : Nat} (hj : j < h.1.1) : (wsE tc L h)[j]? = some (L (nm j).1 (nm j).2, celE tc L h (nm j).1 (nm j).2) := by
  simp [wsE, hj]
theorem ws_len {tc : Nat → ClassId} {L : AD} {h : AH} : (wsE tc L h).length = h.1.1 := by simp [wsE]
/-- one cell changes -/
theorem ws_set {tc : Nat → ClassId} {L : AD} {h h' : AH} {j : Nat} {e : va_E} (hj : j < h.1.1) (h1 : h'.1.1 = h.1.1) (he : celE tc L h' (nm j).1 (nm j).2 = e)
    (ho : ∀ i c, (i, c) ≠ nm j → celE tc L h' i c = celE tc L h i c) : (wsE tc L h).set j (L (nm j).1 (nm j).2, e) = wsE tc L h' := by
  apply List.ext_getElem?
  intro k
  rw [List.getElem?_set, ws_len]
  by_cases hk : j = k
  · subst hk
    rw [if_pos rfl, if_pos hj, ws_at (by rw [h1]; exact hj), he]
  · rw [if_neg hk]
    by_cases hkn : k < h.1.1
    · rw [ws_at hkn, ws_at (by rw [h1]; exact hkn), ho]
      intro q
      exact hk (nm_inj q.symm)
    · rw [List.getElem?_eq_none (by rw [ws_len]; omega), List.getElem?_eq_none (by rw [ws_len]; omega)]
/-- a new cell -/
theorem ws_push {tc : Nat → ClassId} {L : AD} {h h' : AH} {L' : AD} {e : va_E} {a : Nat} (h1 : h'.1.1 = h.1.1 + 1) (ha : L' (nm h.1.1).1 (nm h.1.1).2 = a) (he : celE tc L' h' (nm h.1.1).1 (nm h.1.1).2 = e)
    (hl : ∀ n, n < h.1.1 → L' (nm n).1 (nm n).2 = L (nm n).1 (nm n).2) (ho : ∀ n, n < h.1.1 → celE tc L' h' (nm n).1 (nm n).2 = celE tc L h (nm n).1 (nm n).2) : wsE tc L h ++ [(a, e)] = wsE tc L' h' := by
  apply List.ext_getElem?
  intro k
  rcases Nat.lt_trichotomy k h.1.1 with hk | hk | hk
  · rw [List.getElem?_append_left (by rw [ws_len]; exact hk), ws_at hk, ws_at (by omega), hl k hk, ho k hk]
  · subst hk
    rw [List.getElem?_append_right (by rw [ws_len]; exact Nat.le_refl _), ws_at (by omega), ha, he, ws_len]
    simp
  · rw [List.getElem?_eq_none (by rw [List.length_append, ws_len]; simp; omega), List.getElem?_eq_none (by rw [ws_len]; omega)]
def RL (base : Nat) (D : va_G) (tc : Nat → ClassId) (adK : Nat → Nat) (b0 : Nat) (L : AD) (h : AH) (H : Heap) : Prop :=
  va_P D cls9 (wsE tc L h) H ∧ va_D (fun q => base ≤ q) (wsE tc L h) ∧ h.1.1 ≤ 256 ∧ (∀ j, j < h.1.1 → ∀ k p, hR h (nm j).1 (nm j).2 k = some p → okP h.1.1 p) ∧ (∀ i, i < strN → L i 900 = adK i) ∧ L 0 901 = b0
/-- the locals that are known -/
def rlo (L : AD) : Nat → List AV → List (Nat × Value)
  | _, [] => []
  | n, .inr (.inr (.inr _)) :: r => rlo L (n + 1) r
  | n, v :: r => (n, avV L v) :: rlo L (n + 1) r
theorem rlo_mem {L : AD} {lo : List AV} {n k : Nat} {w : Value} : (k, w) ∈ rlo L n lo ↔ ∃ (j : Nat) (v : AV), k = n + j ∧ lo[j]? = some v ∧ v ≠ vU ∧ w = avV L v := by
  induction lo generalizing n with
  | nil => simp [rlo]
  | cons x r ih =>
    have tail : (k, w) ∈ rlo L (n + 1) r ↔ ∃ (j : Nat) (v : AV), k = n + (j + 1) ∧ (x :: r)[j + 1]? = some v ∧ v ≠ vU ∧ w = avV L v := by
      rw [ih]
      constructor
      · rintro ⟨j, v, h1, h2, h3, h4⟩
        exact ⟨j, v, by omega, by simpa using h2, h3, h4⟩
      · rintro ⟨j, v, h1, h2, h3, h4⟩
        exact ⟨j, v, by omega, by simpa using h2, h3, h4⟩
    have key : (x = vU ∧ rlo L n (x :: r) = rlo L (n + 1) r) ∨ (x ≠ vU ∧ rlo L n (x :: r) = (n, avV L x) :: rlo L (n + 1) r) := by
      match x with
      | .inl a => exact Or.inr ⟨(by intro q; cases q), rfl⟩
      | .inr (.inl a) => exact Or.inr ⟨(by intro q; cases q), rfl⟩
      | .inr (.inr (.inl a)) => exact Or.inr ⟨(by intro q; cases q), rfl⟩
      | .inr (.inr (.inr ())) => exact Or.inl ⟨rfl, rfl⟩
    rcases key with ⟨hx, e⟩ | ⟨hx, e⟩
    · rw [e, tail]
      constructor
      · rintro ⟨j, v, h1, h2, h3, h4⟩
        exact ⟨j + 1, v, h1, h2, h3, h4⟩
      · rintro ⟨j, v, h1, h2, h3, h4⟩
        cases j with
        | zero => simp at h2; exact absurd (h2 ▸ hx) h3
        | succ j => exact ⟨j, v, h1, h2, h3, h4⟩
    · rw [e, List.mem_cons, tail]
      constructor
      · rintro (h | ⟨j, v, h1, h2, h3, h4⟩)
        · obtain ⟨h1, h2⟩ := Prod.mk.inj h
          exact ⟨0, x, by omega, by simp, hx, h2⟩
        · exact ⟨j + 1, v, h1, h2, h3, h4⟩
      · rintro ⟨j, v, h1, h2, h3, h4⟩
        cases j with
        | zero =>
          simp at h2
          subst h2
          exact Or.inl (by rw [h1, h4]; rfl)
        | succ j => exact Or.inr ⟨j, v, h1, h2, h3, h4⟩
theorem lv_mono {ls : Array Slot} {nL : Nat} {l l' : List (Nat × Value)} (h : lv_has ls nL l) (hm : ∀ q ∈ l', q ∈ l) : lv_has ls nL l' := ⟨h.1, h.2.1, fun q hq => h.2.2 q (hm q hq)⟩
theorem avV_congr {L L' : AD} {n : Nat} {v : AV} (h : ∀ p, okA n p → L' p.1 p.2 = L p.1 p.2) (hv : okV n v) : avV L' v = avV L v := by
  match v, hv with
  | .inl _, _ => rfl
  | .inr (.inl _), _ => rfl
  | .inr (.inr (.inl p)), hv => exact congrArg Value.ref (h p hv)
  | .inr (.inr (.inr _)), _ => rfl
theorem map_congr9 {L L' : AD} {n : Nat} {st : List AV} (h : ∀ p, okA n p → L' p.1 p.2 = L p.1 p.2) (hv : ∀ v ∈ st, okV n v) : st.map (avV L') = st.map (avV L) := List.map_congr_left fun v hm => avV_congr h (hv v hm)
theorem rlo_congr {L L' : AD} {n : Nat} {lo : List AV} (h : ∀ p, okA n p → L' p.1 p.2 = L p.1 p.2) (hv : ∀ v ∈ lo, okV n v) : ∀ q ∈ rlo L' 0 lo, q ∈ rlo L 0 lo := by
  intro q hq
  obtain ⟨k, w⟩ := q
  obtain ⟨j, v, h1, h2, h3, h4⟩ := rlo_mem.mp hq
  exact rlo_mem.mpr ⟨j, v, h1, h2, h3, by rw [h4, avV_congr h (hv v (List.mem_of_getElem? h2))]⟩
theorem cats_map (L : AD) (st : List AV) (h : ∀ v ∈ st, v ≠ vU ∨ True) : ((st.map (avV L)).map fun v => v.category).sum = cats st := by
  induction st with
  | nil => rfl
  | cons v r ih =>
    have := ih (fun _ _ => Or.inr trivial)
    simp only [List.map_cons, List.sum_cons, cats, this]
    congr 1
    match v with
    | .inl _ => rfl
    | .inr (.inl _) => rfl
    | .inr (.inr (.inl _)) => rfl
    | .inr (.inr (.inr _)) => rfl
