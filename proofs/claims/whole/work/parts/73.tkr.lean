/-! TOKENS: the reference's reading of them -/
def BYR (g : Gs) (tx : Nat → Nat) (N : Nat) : Prop := g.1 0 70 16 = nI N ∧ N ≤ 600 ∧ ∀ t, t < N → tx t < 256 ∧ g.1 0 78 t = nI (tx t)
def RIN (g : Gs) (tx : Nat → Nat) (N s : Nat) : Prop := BYR g tx N ∧ TOK tx N s ∧ g.1 0 70 18 = nI 0 ∧ ∃ n, g.1 0 70 17 = nI n ∧ n ≤ s ∧ ∀ t, n ≤ t → t < s → tx t = 32
/-- an error is noted -/
def RER (g : Gs) (tx : Nat → Nat) (N : Nat) (code : Int32) (off : Nat) : Prop := BYR g tx N ∧ g.1 0 70 18 = code ∧ ¬ code = nI 0 ∧ g.1 0 70 19 = nI off ∧ ∃ n, g.1 0 70 17 = nI n ∧ n ≤ N
def seeV (tx : Nat → Nat) (N s : Nat) : Int32 := if s < N then nI (tx s) else -nI 1
/-- only a token's numbers have changed -/
def FQ (g g' : Gs) : Prop := Fr (fun i c => i = 0 ∧ c = 70) g g' ∧ ∀ k, ¬ ((17 ≤ k ∧ k ≤ 19) ∨ k = 21 ∨ k = 22) → g'.1 0 70 k = g.1 0 70 k
theorem FQ.rf (g : Gs) : FQ g g := ⟨Fr.rf g, fun _ _ => rfl⟩
theorem FQ.tr {a b c : Gs} (h1 : FQ a b) (h2 : FQ b c) : FQ a c := ⟨h1.1.tr h2.1, fun k p => (h2.2 k p).trans (h1.2 k p)⟩
theorem FQ.p {g : Gs} {k : Nat} {v : Int32} (h : (17 ≤ k ∧ k ≤ 19) ∨ k = 21 ∨ k = 22) : FQ g (u3 g.1 0 70 k v, g.2) := ⟨Fr.u3 (Fr.rf g) ⟨rfl, rfl⟩, fun j hj => by dsimp only; rw [u3_nk (show j ≠ k from fun e => hj (by rw [e]; exact h))]⟩
theorem BYR.fq {g g' : Gs} {tx : Nat → Nat} {N : Nat} (h : BYR g tx N) (f : FQ g g') : BYR g' tx N := by
  refine ⟨by rw [f.2 16 (by decide)]; exact h.1, h.2.1, fun t ht => ?_⟩
  rw [f.1.1 0 78 (by simp)]
  exact h.2.2 t ht
theorem MC.fq {g g' : Gs} {w : Nat} {D : Nat → Nat → Int32} (h : MC g w D) (f : FQ g g') : MC g' w D := by
  have e71 := f.1.1 0 71 (by simp)
  refine ⟨?_, h.2.1, ?_, h.2.2.2.1, ?_, h.2.2.2.2.2⟩
  · rw [f.2 2 (by decide)]; exact h.1
  · rw [e71]; exact h.2.2.1
  · rw [e71]; exact h.2.2.2.2.1
/-- a name's cells -/
def cellv (L : List Nat) (k : Nat) : Int32 := match L[k]? with
  | some l => nI (96 + l)
  | none => nI 0
theorem cell_inj {L M : List Nat} (h1 : L.length ≤ 6) (h2 : M.length ≤ 6) (l1 : ∀ l ∈ L, 1 ≤ l ∧ l ≤ 26) (l2 : ∀ l ∈ M, 1 ≤ l ∧ l ≤ 26) (h : ∀ k, k < 6 → cellv L k = cellv M k) : L = M := by
  refine List.ext_getElem? (fun k => ?_)
  by_cases hk : k < 6
  · have := h k hk
    unfold cellv at this
    cases ha : L[k]? with
    | none =>
      cases hb : M[k]? with
      | none => rfl
      | some b =>
        rw [ha, hb] at this
        have hm := l2 b (List.mem_of_getElem? hb)
        dsimp only at this
        rw [nI_eq (by omega) (by omega)] at this
        omega
    | some a =>
      have hma := l1 a (List.mem_of_getElem? ha)
      cases hb : M[k]? with
      | none =>
        rw [ha, hb] at this
        dsimp only at this
        rw [nI_eq (by omega) (by omega)] at this
        omega
      | some b =>
        have hmb := l2 b (List.mem_of_getElem? hb)
        rw [ha, hb] at this
        dsimp only at this
        rw [nI_eq (by omega) (by omega)] at this
        rw [show a = b by omega]
  · rw [List.getElem?_eq_none (by omega), List.getElem?_eq_none (by omega)]
theorem cdL_inj {L M : List Nat} (h1 : L.length ≤ 6) (h2 : M.length ≤ 6) (l1 : ∀ l ∈ L, 1 ≤ l ∧ l ≤ 26) (l2 : ∀ l ∈ M, 1 ≤ l ∧ l ≤ 26) (h : cdL L = cdL M) : L = M := by
  rw [← dgl_cd h1 l1, ← dgl_cd h2 l2, h]
theorem NM.c {x : Int32} {f : Nat → Int32} (h : NM x f) : ∃ L : List Nat, L.length ≤ 6 ∧ (∀ l ∈ L, 1 ≤ l ∧ l ≤ 26) ∧ x = nI (cdL L) ∧ ∀ k, k < 6 → f k = cellv L k := h
/-- the name that was passed -/
def NAM (g : Gs) (tx : Nat → Nat) (N s : Nat) : Prop := isN tx N s = true ∧ g.1 0 70 21 = nI s ∧ g.1 0 70 22 = nI (wnd tx N s)
section TR
variable {sc : SC} {d N s n w M : Nat} {g : Gs} {Φ : RS → Gs → Prop} {tx : Nat → Nat} {D : Nat → Nat → Int32}
theorem s177 (hB : BYR g tx N) (h17 : g.1 0 70 17 = nI n) (hn : n ≤ N) (k : ∀ g', Fr (fun i c => i = 0 ∧ c = 70) g g' → (∀ k, k ≠ 17 → g'.1 0 70 k = g.1 0 70 k) → g'.1 0 70 17 = nI (skp tx N n) → Φ (.inl (some (vI (seeV tx N (skp tx N n))))) g') : Rn sc (d + 1) 177 [vR 0 70] g Φ := by
  have n600 := hB.2.1
  obtain ⟨k1, k2, k3, k4⟩ := skp_K (tx := tx) hn
  refine Rn.of rfl ?_
  refine scnW (W := fun t => ∀ s, Fr (fun i c => i = 0 ∧ c = 70) g s → (∀ k, k ≠ 17 → s.1 0 70 k = g.1 0 70 k) → s.1 0 70 17 = nI t → Xe sc d 177 0 [vR 0 70] [] s Φ) (N := N) (p := fun t => decide (¬ tx t = 32)) hn (fun t a b c hW => ?_) ?_ g (Fr.rf g) (fun _ _ => rfl) h17
  · intro s fs ks e17
    have c32 : tx t = 32 := Decidable.not_not.mp (of_decide_eq_false c)
    have htN : t < N := by
      have : t < skp tx N n := b
      omega
    have e16 : s.1 0 70 16 = nI N := by rw [ks 16 (by decide)]; exact hB.1
    have e78 : s.1 0 78 t = nI 32 := by rw [fs.1 0 78 (by simp), (hB.2.2 t htN).2, c32]
    have ht600 : t < 600 := by omega
    refine v177_0 ?_
    simp (disch := omega) only [u3_nc, u3_ek, u3_nk, upd_e, upd_n, dU_nk, dU_nc, dU_e, nI_ltI, nI_eq, nI_clamp, nI_add, nI_mul, inb_nI, nI_neg1, nI_ne1, nI_n1e, nI_neg1e, Nat.not_lt_zero, Nat.lt_irrefl, true_and, and_true, true_implies, false_implies, not_true_eq_false, not_false_eq_true, implies_true, forall_const, forall_eq, if_true, if_false, Nat.reduceEqDiff, eq_self, Nat.one_ne_zero, Nat.zero_ne_one, Nat.zero_add, Nat.add_zero, e17, e16, htN, ht600, e78]
    exact hW _ (fs.tr (Fr.u3 (Fr.rf _) ⟨rfl, rfl⟩)) (fun k hk => by dsimp only; rw [u3_nk hk]; exact ks k hk) (by dsimp only; rw [u3_ek rfl])
  · intro s fs ks e17'
    obtain ⟨z, hz⟩ : ∃ z, z = skp tx N n := ⟨_, rfl⟩
    have e17 : s.1 0 70 17 = nI z := by rw [hz]; exact e17'
    rw [← hz] at k k4 k2
    have e16 : s.1 0 70 16 = nI N := by rw [ks 16 (by decide)]; exact hB.1
    unfold seeV at k
    by_cases hlt : z < N
    · obtain ⟨l1, l2⟩ := hB.2.2 z hlt
      have e78 : s.1 0 78 z = nI (tx z) := by rw [fs.1 0 78 (by simp)]; exact l2
      have n32 := k4.2 hlt
      have hz600 : z < 600 := by omega
      rw [if_pos hlt] at k
      refine v177_0 ?_
      simp (disch := omega) only [u3_nc, u3_ek, u3_nk, upd_e, upd_n, dU_nk, dU_nc, dU_e, nI_ltI, nI_eq, nI_clamp, nI_add, nI_mul, inb_nI, nI_neg1, nI_ne1, nI_n1e, nI_neg1e, Nat.not_lt_zero, Nat.lt_irrefl, true_and, and_true, true_implies, false_implies, not_true_eq_false, not_false_eq_true, implies_true, forall_const, forall_eq, if_true, if_false, Nat.reduceEqDiff, eq_self, Nat.one_ne_zero, Nat.zero_ne_one, Nat.zero_add, Nat.add_zero, e17, e16, hlt, hz600, e78, n32]
      exact k s fs ks e17
    · rw [if_neg hlt] at k
      refine v177_0 ?_
      simp (disch := omega) only [u3_nc, u3_ek, u3_nk, upd_e, upd_n, dU_nk, dU_nc, dU_e, nI_ltI, nI_eq, nI_clamp, nI_add, nI_mul, inb_nI, nI_neg1, nI_ne1, nI_n1e, nI_neg1e, Nat.not_lt_zero, Nat.lt_irrefl, true_and, and_true, true_implies, false_implies, not_true_eq_false, not_false_eq_true, implies_true, forall_const, forall_eq, if_true, if_false, Nat.reduceEqDiff, eq_self, Nat.one_ne_zero, Nat.zero_ne_one, Nat.zero_add, Nat.add_zero, e17, e16, hlt]
      exact k s fs ks e17
theorem RIN.sk (h : RIN g tx N s) : ∃ n, g.1 0 70 17 = nI n ∧ n ≤ N ∧ skp tx N n = s := by
  obtain ⟨hB, hT, -, n, h1, h2, h3⟩ := h
  exact ⟨n, h1, by have := hT.1; omega, skp_of h2 hT h3⟩
theorem RIN.fr {g' : Gs} (h : RIN g tx N s) (hf : Fr (fun i c => i = 0 ∧ c = 70) g g') (hk : ∀ k, k ≠ 17 → g'.1 0 70 k = g.1 0 70 k) (e : g'.1 0 70 17 = nI s) : RIN g' tx N s ∧ FQ g g' := by
  have fq : FQ g g' := ⟨hf, fun k hk2 => hk k (by omega)⟩
  exact ⟨⟨h.1.fq fq, h.2.1, by rw [hk 18 (by decide)]; exact h.2.2.1, s, e, Nat.le_refl _, fun t a b => by omega⟩, fq⟩
theorem s177A (h : RIN g tx N s) (k : ∀ g', RIN g' tx N s → FQ g g' → g'.1 0 70 17 = nI s → Φ (.inl (some (vI (seeV tx N s)))) g') : Rn sc (d + 1) 177 [vR 0 70] g Φ := by
  obtain ⟨n, h1, h2, h3⟩ := h.sk
  refine s177 h.1 h1 h2 (fun g' f' k' e' => ?_)
  rw [h3] at e' ⊢
  obtain ⟨a, b⟩ := h.fr f' k' e'
  exact k g' a b e'
theorem see_lt (hB : BYR g tx N) {b : Nat} (hb : b < 256) : seeV tx N s = nI b ↔ s < N ∧ tx s = b := by
  unfold seeV
  by_cases h : s < N
  · have := (hB.2.2 s h).1
    rw [if_pos h, nI_eq (by omega) (by omega)]
    exact ⟨fun q => ⟨h, q⟩, fun q => q.2⟩
  · rw [if_neg h]
    exact ⟨fun q => absurd q.symm (nI_ne1 (by omega)), fun q => absurd q.1 h⟩
theorem see_end (hB : BYR g tx N) (hT : TOK tx N s) : seeV tx N s = -nI 1 ↔ s = N := by
  unfold seeV
  have := hT.1
  by_cases h : s < N
  · have := (hB.2.2 s h).1
    rw [if_pos h]
    exact ⟨fun q => absurd q (nI_ne1 (by omega)), fun q => by omega⟩
  · rw [if_neg h]
    exact ⟨fun _ => by omega, fun _ => rfl⟩
/-- behind a token that ends at e -/
theorem RIN.next {e : Nat} (h : RIN g tx N s) (he : e = nxp tx N s) : RIN (u3 g.1 0 70 17 (nI e), g.2) tx N (nxt9 tx N s) ∧ FQ g (u3 g.1 0 70 17 (nI e), g.2) := by
  have fq : FQ g (u3 g.1 0 70 17 (nI e), g.2) := FQ.p (by decide)
  obtain ⟨a1, a2, a3⟩ := nxp_K (tx := tx) h.2.1.1
  obtain ⟨k1, k2, k3, k4⟩ := skp_K (tx := tx) a2
  refine ⟨⟨h.1.fq fq, k4, by dsimp only; rw [u3_nk (by decide)]; exact h.2.2.1, e, by dsimp only; rw [u3_ek rfl], ?_, ?_⟩, fq⟩
  · rw [he]; exact k1
  · rw [he]; exact k3
theorem RIN.er {code : Int32} (h : RIN g tx N s) (hc : ¬ code = nI 0) : RER (u3 (u3 g.1 0 70 18 code) 0 70 19 (nI s), g.2) tx N code s ∧ FQ g (u3 (u3 g.1 0 70 18 code) 0 70 19 (nI s), g.2) := by
  have fq : FQ g (u3 (u3 g.1 0 70 18 code) 0 70 19 (nI s), g.2) := (FQ.p (k := 18) (v := code) (by decide)).tr (FQ.p (k := 19) (v := nI s) (by decide))
  obtain ⟨n, h1, h2, h3⟩ := h.sk
  refine ⟨⟨h.1.fq fq, by dsimp only; rw [u3_nk (by decide), u3_ek rfl], hc, by dsimp only; rw [u3_ek rfl], n, ?_, h2⟩, fq⟩
  dsimp only; rw [u3_nk (by decide), u3_nk (by decide)]; exact h1
theorem s180 (h : RIN g tx N s) {b : Nat} (hb : b < 256) (hl : isL b = false) (k1 : s < N ∧ tx s = b → ∀ g', FQ g g' → RIN g' tx N (nxt9 tx N s) → Φ (.inl none) g') (k0 : ¬ (s < N ∧ tx s = b) → ∀ g', FQ g g' → RER g' tx N (-nI 12) s → Φ (.inl none) g') : Rn sc (d + 2) 180 [vR 0 70, vI (nI b)] g Φ := by
  have e18 := h.2.2.1
  refine Rn.of rfl (v180_0 ?_)
  rw [e18]
  refine ⟨fun _ => ?_, fun q => absurd rfl q⟩
  refine s177A h (fun s1 r1 f1 e17 => ⟨_, rfl, ?_⟩)
  rw [see_lt h.1 hb, e17, r1.2.2.1]
  refine ⟨fun hp => ?_, fun hn => ⟨fun _ => ?_, fun q => absurd rfl q⟩⟩
  · intro G5 e5
    subst e5
    rw [nI_add]
    have hx : s + 1 = nxp tx N s := by unfold nxp; rw [if_pos hp.1, hp.2, hl, if_neg Bool.false_ne_true]
    obtain ⟨a, b⟩ := r1.next hx
    exact k1 hp _ (f1.tr b) a
  · intro G7 e7 G8 e8
    subst e7; subst e8
    obtain ⟨a, b⟩ := r1.er (code := -nI 12) (by decide +kernel)
    exact k0 hn _ (f1.tr b) a
theorem s180E {b : Int32} {code : Int32} {off : Nat} (h : RER g tx N code off) (k : Φ (.inl none) g) : Rn sc (d + 2) 180 [vR 0 70, vI b] g Φ := by
  have e18 := h.2.1
  refine Rn.of rfl (v180_0 ?_)
  rw [e18]
  exact ⟨fun q => absurd q h.2.2.1, fun _ => k⟩
theorem letters_b (hB : BYR g tx N) (hT : TOK tx N s) {i : Nat} (h : i < wnd tx N s - s) : s + i < N ∧ isL (tx (s + i)) = true ∧ 97 ≤ tx (s + i) ∧ tx (s + i) ≤ 122 := by
  obtain ⟨w1, w2, w3, w4⟩ := wnd_K (tx := tx) hT.1
  have hl := w3 (s + i) (by omega) (by omega)
  have h2 := of_decide_eq_true hl
  exact ⟨by omega, hl, h2.1, h2.2⟩
/-- a byte of no letter, as the reference tests it -/
theorem lo_b {b : Nat} (h : b < 256) : (nI b < nI 97 ∨ nI 122 < nI b) ↔ isL b = false := by
  have hh : ∀ b : Fin 256, (nI b.1 < nI 97 ∨ nI 122 < nI b.1) ↔ isL b.1 = false := by decide +kernel
  exact hh ⟨b, h⟩
theorem s179 {w : Nat} (hw : w < 20) (h : RIN g tx N s) (k1 : isW tx N s w = true → ∀ g', FQ g g' → RIN g' tx N (nxt9 tx N s) → Φ (.inl (some (vI (nI 1)))) g') (k0 : isW tx N s w = false → ∀ g', FQ g g' → RIN g' tx N s → g'.1 0 70 17 = nI s → Φ (.inl (some (vI (nI 0)))) g') : Rn sc (d + 2) 179 [vR 0 70, vR w 900] g Φ := by
  have e18 := h.2.2.1
  have n600 := h.1.2.1
  obtain ⟨t1, t2⟩ := txt_len hw
  have hwb : Nat.blt w strN = true := Nat.blt_eq.mpr hw
  obtain ⟨L, hL⟩ : ∃ L, L = (txt w).length := ⟨_, rfl⟩
  refine Rn.of rfl (v179_0 ?_)
  rw [e18]
  refine ⟨fun _ => ?_, fun q => absurd rfl q⟩
  refine s177A h (fun s1 r1 f1 e17 => ⟨_, rfl, ?_⟩)
  rw [e17]
  have hT := h.2.1
  obtain ⟨w1, w2, w3, w4⟩ := wnd_K (tx := tx) hT.1
  have e16 := r1.1.1
  have no : isW tx N s w = false → Φ (.inl (some (vI (nI 0)))) s1 := fun hf => k0 hf s1 f1 r1 e17
  -- behind the letters
  have beh : (wnd tx N s - s = L → Xe sc (d + 1) 179 67 [vR 0 70, vR w 900, vI (nI (wnd tx N s)), vI (nI 1), vI (nI 0)] [] s1 Φ) ∧ (¬ wnd tx N s - s = L → Xe sc (d + 1) 179 67 [vR 0 70, vR w 900, vI (nI (wnd tx N s)), vI (nI 0), vI (nI 0)] [] s1 Φ) := by
    refine ⟨fun he => ?_, fun he => ?_⟩
    · have hpos : s < N ∧ isL (tx s) = true := by
        have := w3 s (Nat.le_refl _) (by omega)
        exact ⟨by omega, this⟩
      refine srch (W := fun q => Xe sc (d + 1) 179 67 [vR 0 70, vR w 900, vI (nI (wnd tx N s)), vI (nI 1), vI (nI q)] [] s1 Φ) (n := L) (p := fun i => decide (¬ nI (tx (s + i)) = (txt w).getD i 0)) (fun q hq hp hW => ?_) (fun q hs hq hp => ?_) (fun hs => ?_)
      · obtain ⟨b1, b2, b3, b4⟩ := letters_b h.1 hT (i := q) (by omega)
        have b78 := (r1.1.2.2 _ b1).2
        have hp2 := Decidable.not_not.mp (of_decide_eq_false hp)
        have h600 : s + q < 600 := by omega
        have n10 : ¬ nI 1 = nI 0 := by decide +kernel
        refine v179_67 ?_
        rw [← hL]
        simp (disch := omega) only [u3_nc, u3_ek, u3_nk, upd_e, upd_n, dU_nk, dU_nc, dU_e, nI_ltI, nI_eq, nI_clamp, nI_add, nI_mul, inb_nI, nI_neg1, nI_ne1, nI_n1e, nI_neg1e, Nat.not_lt_zero, Nat.lt_irrefl, true_and, and_true, true_implies, false_implies, not_true_eq_false, not_false_eq_true, implies_true, forall_const, forall_eq, if_true, if_false, Nat.reduceEqDiff, eq_self, Nat.one_ne_zero, Nat.zero_ne_one, Nat.zero_add, Nat.add_zero, n10, hq, e17, h600, b78, hp2]
        exact ⟨hwb, hwb, hW⟩
      · obtain ⟨b1, b2, b3, b4⟩ := letters_b h.1 hT (i := q) (by omega)
        have b78 := (r1.1.2.2 _ b1).2
        have hp2 := of_decide_eq_true hp
        have h600 : s + q < 600 := by omega
        have n10 : ¬ nI 1 = nI 0 := by decide +kernel
        refine v179_67 ?_
        rw [← hL]
        simp (disch := omega) only [u3_nc, u3_ek, u3_nk, upd_e, upd_n, dU_nk, dU_nc, dU_e, nI_ltI, nI_eq, nI_clamp, nI_add, nI_mul, inb_nI, nI_neg1, nI_ne1, nI_n1e, nI_neg1e, Nat.not_lt_zero, Nat.lt_irrefl, true_and, and_true, true_implies, false_implies, not_true_eq_false, not_false_eq_true, implies_true, forall_const, forall_eq, if_true, if_false, Nat.reduceEqDiff, eq_self, Nat.one_ne_zero, Nat.zero_ne_one, Nat.zero_add, Nat.add_zero, n10, hq, e17, h600, b78, hp2]
        refine ⟨hwb, hwb, v179_67 ⟨fun _ => ⟨Or.inl rfl, no ?_⟩, fun q => absurd rfl q⟩⟩
        unfold isW
        exact decide_eq_false (fun z => hp2 (z.2.2.2 q (by rw [← hL]; exact hq)))
      · have yes : isW tx N s w = true := by
          unfold isW
          refine decide_eq_true ⟨hpos.1, hpos.2, by rw [he, hL], fun i hi => ?_⟩
          rw [← hL] at hi
          exact Decidable.not_not.mp (of_decide_eq_false (fst9_none hs i hi))
        have n10 : ¬ nI 1 = nI 0 := by decide +kernel
        refine v179_67 ?_
        rw [← hL]
        simp (disch := omega) only [u3_nc, u3_ek, u3_nk, upd_e, upd_n, dU_nk, dU_nc, dU_e, nI_ltI, nI_eq, nI_clamp, nI_add, nI_mul, inb_nI, nI_neg1, nI_ne1, nI_n1e, nI_neg1e, Nat.not_lt_zero, Nat.lt_irrefl, true_and, and_true, true_implies, false_implies, not_true_eq_false, not_false_eq_true, implies_true, forall_const, forall_eq, if_true, if_false, Nat.reduceEqDiff, eq_self, Nat.one_ne_zero, Nat.zero_ne_one, Nat.zero_add, Nat.add_zero, n10]
        have hx : wnd tx N s = nxp tx N s := by unfold nxp; rw [if_pos hpos.1, if_pos hpos.2]
        obtain ⟨a, b⟩ := r1.next hx
        exact ⟨hwb, Or.inr trivial, k1 yes _ (f1.tr b) a⟩
    · refine v179_67 ⟨fun _ => ⟨Or.inl rfl, no ?_⟩, fun q => absurd rfl q⟩
      unfold isW
      exact decide_eq_false (fun z => he (by rw [hL]; exact z.2.2.1))
  refine scnW (W := fun t => Xe sc (d + 1) 179 19 [vR 0 70, vR w 900, vI (nI t), vU, vU] [] s1 Φ) (N := N) (p := fun t => !isL (tx t)) hT.1 (fun t a b c hW => ?_) ?_
  · have htN : t < N := by
      have : t < wnd tx N s := b
      omega
    obtain ⟨l1, l2⟩ := r1.1.2.2 t htN
    have hLt := w3 t a b
    have nlo : ¬ (nI (tx t) < nI 97 ∨ nI 122 < nI (tx t)) := fun q => by rw [(lo_b l1).mp q] at hLt; cases hLt
    have nl1 : ¬ nI (tx t) < nI 97 := fun q => nlo (Or.inl q)
    have nl2 : ¬ nI 122 < nI (tx t) := fun q => nlo (Or.inr q)
    have h600 : t < 600 := by omega
    refine v179_19 ?_
    rw [l2.symm] at nl1 nl2
    simp (disch := omega) only [u3_nc, u3_ek, u3_nk, upd_e, upd_n, dU_nk, dU_nc, dU_e, nI_ltI, nI_eq, nI_clamp, nI_add, nI_mul, inb_nI, nI_neg1, nI_ne1, nI_n1e, nI_neg1e, Nat.not_lt_zero, Nat.lt_irrefl, true_and, and_true, true_implies, false_implies, not_true_eq_false, not_false_eq_true, implies_true, forall_const, forall_eq, if_true, if_false, Nat.reduceEqDiff, eq_self, Nat.one_ne_zero, Nat.zero_ne_one, Nat.zero_add, Nat.add_zero, e16, htN, h600]
    rw [l2] at nl1 nl2 ⊢
    exact ⟨fun q => absurd q nl1, fun _ => ⟨fun q => absurd q nl2, fun _ => hW⟩⟩
  · obtain ⟨e, he⟩ : ∃ e, e = wnd tx N s := ⟨_, rfl⟩
    show Xe sc (d + 1) 179 19 [vR 0 70, vR w 900, vI (nI (wnd tx N s)), vU, vU] [] s1 Φ
    rw [← he] at beh w4 w1 w2 ⊢
    have hs9 : nI e - nI s = nI (e - s) := nI_sub w1
    have L9 : L < 2 ^ 31 := by omega
    have both : (Nat.blt w strN = true) ∧ (((nI e - nI s = nI (txt w).length) → Xe sc (d + 1) 179 67 [vR 0 70, vR w 900, vI (nI e), vI (nI 1), vI (nI 0)] [] s1 Φ) ∧ (¬ (nI e - nI s = nI (txt w).length) → Xe sc (d + 1) 179 67 [vR 0 70, vR w 900, vI (nI e), vI (nI 0), vI (nI 0)] [] s1 Φ)) := by
      rw [hs9, ← hL, nI_eq (by omega) (by omega)]
      exact ⟨hwb, beh⟩
    refine v179_19 ?_
    rw [e16, e17]
    by_cases hlt : e < N
    · obtain ⟨l1, l2⟩ := r1.1.2.2 e hlt
      have hlo := (lo_b l1).mpr (w4 hlt)
      have h600 : e < 600 := by omega
      rw [nI_clamp (by omega), l2]
      refine ⟨fun _ => ⟨inb_nI h600 (by decide), fun _ => both, fun h1 => ⟨fun _ => both, fun h2 => ?_⟩⟩, fun q => absurd ((nI_ltI (by omega) (by omega)).mpr hlt) q⟩
      exact absurd hlo (fun q => q.elim h1 h2)
    · exact ⟨fun q => absurd ((nI_ltI (by omega) (by omega)).mp q) hlt, fun _ => both⟩
theorem s179E {w : Nat} {code : Int32} {off : Nat} (h : RER g tx N code off) (k : Φ (.inl (some (vI (nI 0)))) g) : Rn sc (d + 2) 179 [vR 0 70, vR w 900] g Φ := by
  have e18 := h.2.1
  refine Rn.of rfl (v179_0 ?_)
  rw [e18]
  exact ⟨fun q => absurd q h.2.2.1, fun _ => k⟩
end TR
