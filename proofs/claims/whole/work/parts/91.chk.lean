/-! THE SHARED CHECKS of the methods that are called, and what their answers are like -/
/-- an argument is one of the numbers below n -/
abbrev INR (a : Int32) (n : Nat) : Prop := ¬ a < nI 0 ∧ a < nI n
theorem INR.of {a : Int32} {n : Nat} (h : INR a n) (hn : n < 2 ^ 31) : ∃ z, z < n ∧ a = nI z := by
  obtain ⟨z, hz, rfl⟩ := nI_of h.1
  exact ⟨z, (nI_ltI hz hn).mp h.2, rfl⟩
theorem INR.nat {z n : Nat} (h : z < n) (hn : n < 2 ^ 31) : INR (nI z) n := ⟨nI_nn (by omega), (nI_ltI (by omega) hn).mpr h⟩
theorem INR.i {a : Int32} {n : Nat} (hn : n < 2 ^ 31) : ((0 : Int) ≤ a.toInt ∧ a.toInt ≤ (n : Int) - 1) ↔ INR a n := by
  have e0 : a < nI 0 ↔ a.toInt < 0 := Int32.lt_iff_toInt_lt
  have e1 : a < nI n ↔ a.toInt < n := by rw [Int32.lt_iff_toInt_lt, nI_toInt hn]
  unfold INR
  rw [e0, e1]
  omega
theorem INR.le {a : Int32} {n : Nat} (hn : n + 1 < 2 ^ 31) : (¬ a < nI 0 ∧ ¬ nI n < a) ↔ INR a (n + 1) := by
  have e1 : a < nI (n + 1) ↔ a.toInt < (n + 1 : Nat) := by rw [Int32.lt_iff_toInt_lt, nI_toInt hn]
  have e2 : nI n < a ↔ (n : Int) < a.toInt := by rw [Int32.lt_iff_toInt_lt, nI_toInt (by omega)]
  unfold INR
  rw [e1, e2]
  constructor <;> rintro ⟨p, q⟩ <;> exact ⟨p, by omega⟩
/-- an answer: a number, or an exception with the law's number for it -/
abbrev AN := Int32 ⊕ (Nat × Nat)
def anR : AN → RS
  | .inl v => .inl (some (vI v))
  | .inr (e, _) => .inr e
def anK : AN → Nat
  | .inl _ => 0
  | .inr (_, k) => k
/-- the class leaves the reference's cells -/
def FCW (g g' : Gs) : Prop := (∀ i c, (i = 0 ∧ 70 ≤ c) → g'.1 i c = g.1 i c) ∧ g'.2.2 = g.2.2
/-- the same, where one exception may be thrown -/
def FCX (g g' : Gs) : Prop := (∀ i c, (i = 0 ∧ 70 ≤ c) → g'.1 i c = g.1 i c) ∧ g'.2.2 ≤ g.2.2 + 1
theorem FCW.x {g g' : Gs} (h : FCW g g') : FCX g g' := ⟨h.1, by rw [h.2]; exact Nat.le_succ _⟩
theorem FCX.t (g : Gs) : FCX g (g.1, g.2.1, g.2.2 + 1) := ⟨fun _ _ _ => rfl, Nat.le_refl _⟩
theorem FCW.rf (g : Gs) : FCW g g := ⟨fun _ _ _ => rfl, rfl⟩
theorem FCW.tr {a b c : Gs} (h1 : FCW a b) (h2 : FCW b c) : FCW a c := ⟨fun i c hc => (h2.1 i c hc).trans (h1.1 i c hc), h2.2.trans h1.2⟩
theorem FCW.of {P : Nat → Nat → Prop} {g g' : Gs} (h : Fr P g g') (hp : ∀ i c, P i c → c < 70 ∨ ¬ i = 0) : FCW g g' := ⟨fun i c hc => h.1 i c (fun q => by have := hp i c q; omega), by rw [h.2]⟩
theorem FCL.w {g g' : Gs} (h : FCL 0 g g') : FCW g g' := ⟨h.1, h.2.2⟩
/-- the reference's number of the exception is written, nothing else -/
def TH (g g' : Gs) : Prop := Fr (fun i c => i = 0 ∧ c = 70) g g' ∧ ∀ k, k ≠ 0 → g'.1 0 70 k = g.1 0 70 k
theorem TH.rf (g : Gs) : TH g g := ⟨Fr.rf g, fun _ _ => rfl⟩
theorem TH.tr {a b c : Gs} (h1 : TH a b) (h2 : TH b c) : TH a c := ⟨h1.1.tr h2.1, fun k p => (h2.2 k p).trans (h1.2 k p)⟩
theorem TH.u (g : Gs) (v : Int32) : TH g (u3 g.1 0 70 0 v, g.2) := ⟨Fr.u3 (Fr.rf _) ⟨rfl, rfl⟩, fun k p => u3_nk p⟩
theorem TH.frf {g g' : Gs} (h : TH g g') : FRF g g' := FRF.of h.1 (fun i c q => by omega)
theorem TH.mc {g g' : Gs} {w : Nat} {D : Nat → Nat → Int32} (f : TH g g') (h : MC g w D) : MC g' w D := by
  have e := f.1.1 0 71 (by simp)
  exact ⟨(f.2 2 (by decide)).trans h.1, h.2.1, by rw [e]; exact h.m, h.r, by rw [e]; exact h.v, h.vk⟩
section RT
variable {g g' : Gs} {D : Nat → Nat → Int32} {T : List Nat} {n o k w : Nat} {ea : Int32} {tx : Nat → Nat} {H : Nat → Nat → Nat → Int32}
theorem REF.mc (h : REF g D T n k w ea tx H) : MC g w D := h.1
theorem REF.cw (h : REF g D T n k w ea tx H) (f : FCX g g') : REF g' D T n k w ea tx H := h.fcl (g' := (g'.1, g.2.1, g.2.2 + 0)) ⟨f.1, rfl, rfl⟩
/-- the reference's cells that only work -/
theorem REF.wk (h : REF g D T n k w ea tx H) (e70 : ∀ z, (z = 2 ∨ z = 3 ∨ z = 14 ∨ z = 15 ∨ z = 27) → g'.1 0 70 z = g.1 0 70 z) (e71 : g'.1 0 71 = g.1 0 71) (e78 : g'.1 0 78 = g.1 0 78) (e80 : g'.1 0 80 = g.1 0 80) : REF g' D T n k w ea tx H := by
  obtain ⟨h1, h2, h3, h4, h5, h6, h7, h8, h9⟩ := h
  refine ⟨⟨by rw [e70 2 (by omega)]; exact h1.1, h1.2.1, by rw [e71]; exact h1.m, h1.r, by rw [e71]; exact h1.v, h1.vk⟩, h2, by rw [e70 15 (by omega)]; exact h3, by rw [e70 14 (by omega)]; exact h4, ⟨h5.1, fun t ht => by rw [e78]; exact h5.2 t ht⟩, h6.fr (e70 27 (by omega)) e80, by rw [e70 3 (by omega)]; exact h7, h8, fun j hj => by rw [e71]; exact h9 j hj⟩
theorem REF.th (h : REF g D T n k w ea tx H) (f : TH g g') : REF g' D T n k w ea tx H := h.wk (fun z hz => f.2 z (by omega)) (f.1.1 0 71 (by simp)) (f.1.1 0 78 (by simp)) (f.1.1 0 80 (by simp))
theorem CLS.cw (h : CLS g D T n o k ea tx H) (e : ∀ i c, c < 70 → g'.1 i c = g.1 i c) : CLS g' D T n o k ea tx H := h.frf (g' := (g'.1, g.2.1, g.2.2)) ⟨e, fun _ _ _ => rfl, rfl⟩
theorem CLS.at (h : CLS g D T n o k ea tx H) : At g 0 D := h.1
end RT
/-- the row of a mount, and of a mount with a place in it -/
def rw9 (D : Nat → Nat → Int32) (a : Int32) : Option Nat := fst9 (nR D) fun r => decide (D 6 r = a)
def pl9 (D : Nat → Nat → Int32) (a dd : Int32) : Option Nat := (rw9 D a).bind fun r => if hasD D r dd = true then some r else none
theorem rw9_some {D : Nat → Nat → Int32} {a : Int32} {r : Nat} (h : rw9 D a = some r) : r < nR D ∧ D 6 r = a := by
  obtain ⟨h1, h2, _⟩ := fst9_some h
  exact ⟨h1, of_decide_eq_true h2⟩
theorem pl9_some {D : Nat → Nat → Int32} {a dd : Int32} {r : Nat} (h : pl9 D a dd = some r) : r < nR D ∧ hasD D r dd = true := by
  unfold pl9 at h
  cases e : rw9 D a with
  | none => rw [e] at h; cases h
  | some q =>
    rw [e] at h
    change (if hasD D q dd = true then some q else none) = some r at h
    split at h
    · rename_i hq
      injection h with h
      subst h
      exact ⟨(rw9_some e).1, hq⟩
    · cases h
section CH
variable {sc : SC} {d n w M : Nat} {g : Gs} {Φ : RS → Gs → Prop} {D : Nat → Nat → Int32} {a dd : Int32}
theorem s96 (hn : g.1 0 21 1 = nI n) (n6 : n ≤ 600) (kv : INR a (n + 1) → Φ (.inl none) g) (kx : ¬ INR a (n + 1) → Φ (.inr 0) (g.1, g.2.1, g.2.2 + 1)) : Rn sc (d + 1) 96 [vR 0 20, vI a] g Φ := by
  have e := INR.le (a := a) (n := n) (by omega)
  refine Rn.of rfl (y96_0 ⟨fun h => kx (fun q => absurd h (e.mpr q).1), fun h0 => ?_⟩)
  rw [hn]
  exact ⟨fun h => kx (fun q => absurd h (e.mpr q).2), fun h => kv (e.mp ⟨h0, h⟩)⟩
theorem s101 (hA : At g 0 D) (vk : VOK D) (kv : INR a (nV D) → Φ (.inl none) g) (kx : ¬ INR a (nV D) → Φ (.inr 2) (g.1, g.2.1, g.2.2 + 1)) : Rn sc (d + 1) 101 [vR 0 20, vI a] g Φ := by
  have e : g.1 0 1 4 = nI (nV D) := hA.k (by decide) vk.1
  refine Rn.of rfl (y101_0 ⟨fun h => kx (fun q => q.1 h), fun h0 => ?_⟩)
  rw [e]
  exact ⟨fun h => kv ⟨h0, h⟩, fun h => kx (fun q => h q.2)⟩
theorem s108 (hA : At g 0 D) (hs : D 0 12 = nI n) (kv : INR a n → Φ (.inl none) g) (kx : ¬ INR a n → Φ (.inr 2) (g.1, g.2.1, g.2.2 + 1)) : Rn sc (d + 1) 108 [vR 0 20, vI a] g Φ := by
  have e : g.1 0 0 12 = nI n := hA.k (by decide) hs
  refine Rn.of rfl (y108_0 ⟨fun h => kx (fun q => q.1 h), fun h0 => ?_⟩)
  rw [e]
  exact ⟨fun h => kv ⟨h0, h⟩, fun h => kx (fun q => h q.2)⟩
theorem s103 (hA : At g 0 D) (rk : ROK D) (kv : ∀ r, rw9 D a = some r → Φ (.inl (some (vI (nI r)))) g) (kx : rw9 D a = none → Φ (.inr 3) (g.1, g.2.1, g.2.2 + 1)) : Rn sc (d + 2) 103 [vR 0 20, vI a] g Φ := by
  refine Rn.of rfl (y103_0 (s41A hA rk ⟨_, rfl, ?_⟩))
  change (eo (rw9 D a) < nI 0 → _) ∧ (¬ eo (rw9 D a) < nI 0 → Φ (.inl (some (vI (eo (rw9 D a))))) g)
  cases e : rw9 D a with
  | none => exact ⟨fun _ => kx e, fun h => absurd eo_none h⟩
  | some r =>
    have := (rw9_some e).1
    have := rk.2
    exact ⟨fun h => absurd h (nI_nn (by omega)), fun _ => kv r e⟩
theorem s104 (hA : At g 0 D) (hw : CW D M) (kv : ∀ r, pl9 D a dd = some r → Φ (.inl (some (vI (nI r)))) g) (kx : pl9 D a dd = none → Φ (.inr 3) (g.1, g.2.1, g.2.2 + 1)) : Rn sc (d + 4) 104 [vR 0 20, vI a, vI dd] g Φ := by
  refine Rn.of rfl (y104_0 (s103 hA hw.1 (fun r e => Or.inl ⟨_, rfl, ?_⟩) (fun e => Or.inr ⟨_, rfl, kx (by unfold pl9; rw [e]; rfl)⟩)))
  have hr := (rw9_some e).1
  refine s46A hA hw hr ⟨_, rfl, ?_⟩
  by_cases hd : hasD D r dd = true
  · rw [if_pos hd]
    exact ⟨fun q => absurd q (by decide +kernel), fun _ => kv r (by unfold pl9; rw [e]; exact if_pos hd)⟩
  · rw [if_neg hd]
    exact ⟨fun _ => kx (by unfold pl9; rw [e]; exact if_neg hd), fun q => absurd rfl q⟩
/-- the reference's -/
theorem s134 {code : Nat} {P : Prop} [Decidable P] (h0 : g.1 0 70 0 = nI 0) (hc : code = 1 ∨ code = 2) (kv : P → Φ (.inl (some (vI (nI 1)))) g) (kx : ¬ P → ∀ g', TH g g' → g'.1 0 70 0 = nI code → Φ (.inl (some (vI (nI 0)))) g') : Rn sc (d + 1) 134 [vR 0 70, vI (if P then nI 1 else nI 0), vI (nI code)] g Φ := by
  refine Rn.of rfl (y134_0 ?_)
  rw [h0]
  refine ⟨fun _ => ?_, fun q => absurd rfl q⟩
  by_cases hP : P
  · rw [if_pos hP]
    exact ⟨fun q => absurd q (by decide +kernel), fun _ => kv hP⟩
  · rw [if_neg hP]
    refine ⟨fun _ => ?_, fun q => absurd rfl q⟩
    intro G1 e1
    subst e1
    have e : u3 g.1 0 70 0 (nI code) 0 70 0 = nI code := u3_ek rfl
    rw [e]
    refine ⟨fun q => ?_, fun _ => kx hP _ (TH.u g _) e⟩
    rcases hc with rfl | rfl
    · exact absurd q (by decide +kernel)
    · exact absurd q (by decide +kernel)
theorem s134x {x y : Int32} (h0 : ¬ g.1 0 70 0 = nI 0) (k : Φ (.inl (some (vI (nI 0)))) g) : Rn sc (d + 1) 134 [vR 0 70, vI x, vI y] g Φ := Rn.of rfl (y134_0 ⟨fun q => absurd q h0, fun _ => k⟩)
/-- a range is tested: below n -/
theorem s128r {hi : Int32} (hn : n < 2 ^ 31) (e : hi.toInt = (n : Int) - 1) (k : Φ (.inl (some (vI (if INR a n then nI 1 else nI 0)))) g) : Rn sc (d + 1) 128 [vJ a.toInt64, vJ (Int64.ofNat 0), vJ hi.toInt64] g Φ := by
  have i1 : (Int64.ofNat 0).toInt = 0 := by decide +kernel
  refine s128 ?_
  rw [j64, j64, i1, e]
  have ee := INR.i (a := a) hn
  by_cases hi : INR a n
  · rw [if_pos (ee.mpr hi)]; rw [if_pos hi] at k; exact k
  · rw [if_neg (fun q => hi (ee.mp q))]; rw [if_neg hi] at k; exact k
theorem pre1 {n : Nat} (hn : n < 2 ^ 31) : (nI n - nI 1).toInt = (n : Int) - 1 := by
  cases n with
  | zero => decide +kernel
  | succ z => rw [nI_prd, nI_toInt (by omega)]; omega
theorem pre0 {n : Nat} (hn : n < 2 ^ 31) : (nI n).toInt = ((n + 1 : Nat) : Int) - 1 := by rw [nI_toInt hn]; omega
theorem s128r8 (k : Φ (.inl (some (vI (if INR a 9 then nI 1 else nI 0)))) g) : Rn sc (d + 1) 128 [vJ a.toInt64, vJ (Int64.ofNat 0), vJ (8 : Int64)] g Φ := by
  have e : (8 : Int64) = (nI 8).toInt64 := by decide +kernel
  rw [e]
  exact s128r (n := 9) (by decide) (pre0 (n := 8) (by decide)) k
theorem s128r3 (k : Φ (.inl (some (vI (if INR a 4 then nI 1 else nI 0)))) g) : Rn sc (d + 1) 128 [vJ a.toInt64, vJ (Int64.ofNat 0), vJ (3 : Int64)] g Φ := by
  have e : (3 : Int64) = (nI 3).toInt64 := by decide +kernel
  rw [e]
  exact s128r (n := 4) (by decide) (pre0 (n := 3) (by decide)) k
theorem s200 {code : Nat} (h : MC g w D) (h0 : g.1 0 70 0 = nI 0) (hc : code = 1 ∨ code = 2) (kv : INR a (nV D) → Φ (.inl (some (vI (nI 0)))) g) (kx : ¬ INR a (nV D) → ∀ g', TH g g' → g'.1 0 70 0 = nI code → Φ (.inl (some (vI (nI 1)))) g') : Rn sc (d + 3) 200 [vR 0 70, vI a, vI (nI code)] g Φ := by
  have v4 := h.vk.2.1
  have w10 := h.l
  have hv : g.1 0 71 (780 * w) = nI (nV D) := by rw [h.v.1]; exact h.vk.1
  refine Rn.of rfl (y200_0 ?_)
  simp (disch := omega) only [u3_nc, u3_ek, u3_nk, upd_e, upd_n, dU_nk, dU_nc, dU_e, nI_ltI, nI_eq, nI_clamp, nI_add, nI_mul, inb_nI, nI_neg1, nI_ne1, nI_n1e, nI_neg1e, Nat.not_lt_zero, Nat.lt_irrefl, true_and, and_true, true_implies, false_implies, not_true_eq_false, not_false_eq_true, implies_true, forall_const, forall_eq, if_true, if_false, Nat.reduceEqDiff, eq_self, Nat.one_ne_zero, Nat.zero_ne_one, Nat.zero_add, Nat.add_zero, h.w, hv]
  refine s128r (by omega) (pre1 (by omega)) ⟨_, rfl, ?_⟩
  refine s134 h0 hc (fun hP => ⟨_, rfl, fun q => absurd q (by decide +kernel), fun _ => kv hP⟩) (fun hP g' f e => ⟨_, rfl, fun _ => kx hP g' f e, fun q => absurd rfl q⟩)
theorem s203 (h : MC g w D) (h0 : g.1 0 70 0 = nI 0) (kv : ∀ r, rw9 D a = some r → Φ (.inl (some (vI (nI r)))) g) (kx : rw9 D a = none → ∀ g', TH g g' → g'.1 0 70 0 = nI 1 → Φ (.inl (some (vI (-nI 1)))) g') : Rn sc (d + 4) 203 [vR 0 70, vI a] g Φ := by
  refine Rn.of rfl (y203_0 (s144 h.w h.l h.m h.r ⟨_, rfl, ?_⟩))
  change (eo (rw9 D a) = _ → Rn _ _ _ _ _ (fun r g5 => ∃ r8 : Int32, _ ∧ Φ (.inl (some (vI (eo (rw9 D a))))) g5)) ∧ (¬ eo (rw9 D a) = _ → Rn _ _ _ _ _ (fun r g5 => ∃ r8 : Int32, _ ∧ Φ (.inl (some (vI (eo (rw9 D a))))) g5))
  cases e : rw9 D a with
  | none =>
    refine ⟨fun _ => ?_, fun q => absurd rfl q⟩
    exact s134 (P := False) (code := 1) h0 (Or.inl rfl) (fun q => q.elim) (fun _ g' f t => ⟨_, rfl, kx e g' f t⟩)
  | some r =>
    have := (rw9_some e).1
    have := h.r.2
    refine ⟨fun q => absurd q (nI_ne1 (by omega)), fun _ => ?_⟩
    exact s134 (P := True) (code := 1) h0 (Or.inl rfl) (fun _ => ⟨_, rfl, kv r e⟩) (fun q => absurd trivial q)
/-- a mount and a place in it -/
theorem s203p {C : Int32 → Int32 → Gs → Prop} (h : MC g w D) (hw : CW D M) (h0 : g.1 0 70 0 = nI 0) (kv : ∀ r, pl9 D a dd = some r → C (nI r) (nI 0) g) (kx : pl9 D a dd = none → ∀ q g', TH g g' → g'.1 0 70 0 = nI 1 → C q (nI 1) g') : Rn sc (d + 7) 203 [vR 0 70, vI a] g (fun r g2 => ∃ r5 : Int32, r = .inl (some (vI r5)) ∧ Rn sc (d + 7) 204 [vR 0 70, vI r5, vI dd] g2 (fun r g6 => ∃ r9 : Int32, r = .inl (some (vI r9)) ∧ C r5 r9 g6)) := by
  refine s203 h h0 (fun r e => ⟨_, rfl, ?_⟩) (fun e g' f t => ⟨_, rfl, ?_⟩)
  · have hr := (rw9_some e).1
    obtain ⟨⟨v, hv, h8⟩, h9⟩ := hw.2.2.2 r hr
    refine Rn.of rfl (y204_0 ⟨fun _ => ?_, fun q => absurd h0 q⟩)
    refine s146 h.w h.l h.m h.r h.v h.vk hr h8 hv h9 ⟨_, rfl, ?_⟩
    refine s134 (P := hasD D r dd = true) (code := 1) h0 (Or.inl rfl) (fun hP => ⟨_, rfl, fun q => absurd q (by decide +kernel), fun _ => ⟨_, rfl, kv r ?_⟩⟩) (fun hP g' f t => ⟨_, rfl, fun _ => ⟨_, rfl, kx ?_ _ g' f t⟩, fun q => absurd rfl q⟩)
    · unfold pl9; rw [e]; exact if_pos hP
    · unfold pl9; rw [e]; exact if_neg hP
  · refine Rn.of rfl (y204_0 ⟨fun q => ?_, fun _ => ⟨_, rfl, kx (by unfold pl9; rw [e]; rfl) _ g' f t⟩⟩)
    rw [t] at q
    exact absurd q (by decide +kernel)
end CH
