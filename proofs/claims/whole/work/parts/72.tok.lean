/-! TOKENS: what they are, and the class's reading of them -/
/-- the first place from q on with p, or N -/
def scn (N : Nat) (p : Nat → Bool) (q : Nat) : Nat := q + (fst9 (N - q) (fun t => p (q + t))).getD (N - q)
theorem scn_K {N q : Nat} {p : Nat → Bool} (h : q ≤ N) : q ≤ scn N p q ∧ scn N p q ≤ N ∧ (∀ t, q ≤ t → t < scn N p q → p t = false) ∧ (scn N p q < N → p (scn N p q) = true) := by
  unfold scn
  cases hf : fst9 (N - q) (fun t => p (q + t)) with
  | none =>
    dsimp only [Option.getD]
    refine ⟨by omega, by omega, fun t h1 h2 => ?_, fun h1 => by omega⟩
    have := fst9_none hf (t - q) (by omega)
    rw [show q + (t - q) = t by omega] at this
    exact this
  | some j =>
    obtain ⟨g1, g2, g3⟩ := fst9_some hf
    dsimp only [Option.getD]
    refine ⟨by omega, by omega, fun t h1 h2 => ?_, fun _ => g2⟩
    have := g3 (t - q) (by omega)
    rw [show q + (t - q) = t by omega] at this
    exact this
theorem scn_eq {N q s : Nat} {p : Nat → Bool} (h1 : q ≤ s) (h2 : s ≤ N) (h3 : ∀ t, q ≤ t → t < s → p t = false) (h4 : s < N → p s = true) : scn N p q = s := by
  obtain ⟨g1, g2, g3, g4⟩ := scn_K (p := p) (show q ≤ N by omega)
  rcases Nat.lt_trichotomy (scn N p q) s with z | z | z
  · have a1 := h3 _ g1 z
    rw [g4 (by omega)] at a1; cases a1
  · exact z
  · have a1 := g3 _ h1 z
    rw [h4 (by omega)] at a1; cases a1
theorem scnW {W : Nat → Prop} {N q : Nat} {p : Nat → Bool} (hq : q ≤ N) (hs : ∀ t, q ≤ t → t < scn N p q → p t = false → W (t + 1) → W t) (he : W (scn N p q)) : W q := by
  obtain ⟨g1, g2, g3, g4⟩ := scn_K (p := p) hq
  have key : ∀ f t, t + f = scn N p q → q ≤ t → W t := by
    intro f
    induction f with
    | zero => intro t ht _; rw [show t = scn N p q by omega]; exact he
    | succ f ih => intro t ht h1; exact hs t h1 (by omega) (g3 t h1 (by omega)) (ih (t + 1) (by omega) (by omega))
  exact key (scn N p q - q) q (by omega) (Nat.le_refl _)
def isL (b : Nat) : Bool := decide (97 ≤ b ∧ b ≤ 122)
def skp (tx : Nat → Nat) (N q : Nat) : Nat := scn N (fun t => decide (¬ tx t = 32)) q
def wnd (tx : Nat → Nat) (N q : Nat) : Nat := scn N (fun t => !isL (tx t)) q
/-- behind the token at s -/
def nxp (tx : Nat → Nat) (N s : Nat) : Nat := if s < N then (if isL (tx s) = true then wnd tx N s else s + 1) else s
def knd (tx : Nat → Nat) (N s : Nat) : Int32 := if s < N then (if isL (tx s) = true then -nI 2 else nI (tx s)) else -nI 1
/-- a byte as the class holds it -/
def sbI (b : Nat) : Int32 := if b < 128 then nI b else -nI (256 - b)
/-- the text in the class; a token at s is read -/
def BYT (g : Gs) (tx : Nat → Nat) (N : Nat) : Prop := g.1 0 21 5 = nI N ∧ N ≤ 600 ∧ ∀ t, t < N → tx t < 256 ∧ g.1 0 22 t = sbI (tx t)
def TOK (tx : Nat → Nat) (N s : Nat) : Prop := s ≤ N ∧ (s < N → ¬ tx s = 32)
def CIN (g : Gs) (tx : Nat → Nat) (N s : Nat) : Prop := BYT g tx N ∧ TOK tx N s ∧ g.1 0 21 3 = nI s ∧ g.1 0 21 2 = knd tx N s ∧ g.1 0 21 4 = nI (nxp tx N s) ∧ g.1 0 21 7 = -nI 1
/-- an error in the class -/
def CE (g : Gs) (code : Int32) (off : Nat) : Prop := g.1 0 21 6 = code ∧ g.1 0 21 7 = nI off
theorem sb_sp {b : Nat} (h : b < 256) : sbI b = nI 32 ↔ b = 32 := by
  have hh : ∀ b : Fin 256, sbI b.1 = nI 32 ↔ b.1 = 32 := by decide +kernel
  exact hh ⟨b, h⟩
theorem sb_lo {b : Nat} (h : b < 256) : (sbI b < nI 97 ∨ nI 122 < sbI b) ↔ isL b = false := by
  have hh : ∀ b : Fin 256, (sbI b.1 < nI 97 ∨ nI 122 < sbI b.1) ↔ isL b.1 = false := by decide +kernel
  exact hh ⟨b, h⟩
theorem sb_L {b : Nat} (h : isL b = true) : sbI b = nI b ∧ 97 ≤ b ∧ b ≤ 122 := by
  have h2 := of_decide_eq_true h
  refine ⟨?_, h2.1, h2.2⟩
  unfold sbI
  rw [if_pos (by omega)]
theorem sb_255 {b : Nat} (h : b < 256) : sbI b &&& nI 255 = nI b := by
  have hh : ∀ b : Fin 256, sbI b.1 &&& nI 255 = nI b.1 := by decide +kernel
  exact hh ⟨b, h⟩
section TK
variable {tx : Nat → Nat} {N q s : Nat}
theorem skp_K (h : q ≤ N) : q ≤ skp tx N q ∧ skp tx N q ≤ N ∧ (∀ t, q ≤ t → t < skp tx N q → tx t = 32) ∧ TOK tx N (skp tx N q) := by
  obtain ⟨g1, g2, g3, g4⟩ := scn_K (p := fun t => decide (¬ tx t = 32)) h
  exact ⟨g1, g2, fun t a b => Decidable.not_not.mp (of_decide_eq_false (g3 t a b)), g2, fun a => of_decide_eq_true (g4 a)⟩
theorem skp_of (h1 : q ≤ s) (hT : TOK tx N s) (h3 : ∀ t, q ≤ t → t < s → tx t = 32) : skp tx N q = s :=
  scn_eq h1 hT.1 (fun t a b => decide_eq_false (not_not_intro (h3 t a b))) (fun a => decide_eq_true (hT.2 a))
theorem wnd_K (h : q ≤ N) : q ≤ wnd tx N q ∧ wnd tx N q ≤ N ∧ (∀ t, q ≤ t → t < wnd tx N q → isL (tx t) = true) ∧ (wnd tx N q < N → isL (tx (wnd tx N q)) = false) := by
  obtain ⟨g1, g2, g3, g4⟩ := scn_K (p := fun t => !isL (tx t)) h
  refine ⟨g1, g2, fun t a b => ?_, fun a => ?_⟩
  · have := g3 t a b
    cases hb : isL (tx t) with
    | true => rfl
    | false => rw [hb] at this; cases this
  · have := g4 a
    cases hb : isL (tx (wnd tx N q)) with
    | false => rfl
    | true =>
      have h9 : (!isL (tx (wnd tx N q))) = true := this
      rw [hb] at h9; cases h9
theorem wnd_lt (h : s < N) (hL : isL (tx s) = true) : s < wnd tx N s := by
  obtain ⟨g1, g2, g3, g4⟩ := wnd_K (tx := tx) (show s ≤ N by omega)
  by_cases e : wnd tx N s = s
  · have := g4 (by omega)
    rw [e, hL] at this; cases this
  · omega
theorem wnd_self (hL : s < N → isL (tx s) = false) (h : s ≤ N) : wnd tx N s = s := by
  refine scn_eq (Nat.le_refl _) h (fun t a b => by omega) (fun a => ?_)
  show (!isL (tx s)) = true
  rw [hL a]; rfl
theorem nxp_K (h : s ≤ N) : s ≤ nxp tx N s ∧ nxp tx N s ≤ N ∧ (s < N → s < nxp tx N s) := by
  unfold nxp
  by_cases h1 : s < N
  · rw [if_pos h1]
    by_cases h2 : isL (tx s) = true
    · rw [if_pos h2]
      have := wnd_lt h1 h2
      have := (wnd_K (tx := tx) h).2.1
      omega
    · rw [if_neg h2]; omega
  · rw [if_neg h1]; omega
/-- the next token -/
def nxt9 (tx : Nat → Nat) (N s : Nat) : Nat := skp tx N (nxp tx N s)
theorem nxt9_K (h : s ≤ N) : TOK tx N (nxt9 tx N s) ∧ s ≤ nxt9 tx N s ∧ (s < N → s < nxt9 tx N s) := by
  obtain ⟨g1, g2, g3⟩ := nxp_K (tx := tx) h
  obtain ⟨k1, k2, k3, k4⟩ := skp_K (tx := tx) g2
  unfold nxt9
  exact ⟨k4, by omega, fun a => by have := g3 a; omega⟩
end TK
abbrev P21 : Nat → Nat → Prop := fun i c => i = 0 ∧ c = 21
/-- only the token's numbers have changed -/
def FC (g g' : Gs) : Prop := Fr P21 g g' ∧ g'.1 0 21 1 = g.1 0 21 1 ∧ g'.1 0 21 5 = g.1 0 21 5
theorem FC.rf (g : Gs) : FC g g := ⟨Fr.rf g, rfl, rfl⟩
theorem FC.tr {a b c : Gs} (h1 : FC a b) (h2 : FC b c) : FC a c := ⟨h1.1.tr h2.1, h2.2.1.trans h1.2.1, h2.2.2.trans h1.2.2⟩
theorem FC.p {g : Gs} {k : Nat} {v : Int32} (h : k ≠ 1 ∧ k ≠ 5) : FC g (u3 g.1 0 21 k v, g.2) := ⟨Fr.u3 (Fr.rf g) ⟨rfl, rfl⟩, by dsimp only; rw [u3_nk (fun e => h.1 e.symm)], by dsimp only; rw [u3_nk (fun e => h.2 e.symm)]⟩
theorem BYT.fc {g g' : Gs} {tx : Nat → Nat} {N : Nat} (h : BYT g tx N) (f : FC g g') : BYT g' tx N := by
  refine ⟨by rw [f.2.2]; exact h.1, h.2.1, fun t ht => ?_⟩
  rw [f.1.1 0 22 (by simp)]
  exact h.2.2 t ht
/-- no error is noted either -/
def FCN (g g' : Gs) : Prop := FC g g' ∧ g'.1 0 21 7 = g.1 0 21 7
theorem FCN.rf (g : Gs) : FCN g g := ⟨FC.rf g, rfl⟩
theorem FCN.tr {a b c : Gs} (h1 : FCN a b) (h2 : FCN b c) : FCN a c := ⟨h1.1.tr h2.1, h2.2.trans h1.2⟩
theorem FCN.p {g : Gs} {k : Nat} {v : Int32} (h : k ≠ 1 ∧ k ≠ 5 ∧ k ≠ 7) : FCN g (u3 g.1 0 21 k v, g.2) := ⟨FC.p ⟨h.1, h.2.1⟩, by dsimp only; rw [u3_nk (fun e => h.2.2 e.symm)]⟩
section TC
variable {sc : SC} {d N s p : Nat} {g : Gs} {Φ : RS → Gs → Prop} {tx : Nat → Nat}
theorem s27 (hB : BYT g tx N) (h4 : g.1 0 21 4 = nI p) (hp : p ≤ N) (h7 : g.1 0 21 7 = -nI 1) (k : ∀ g', FC g g' → CIN g' tx N (skp tx N p) → Φ (.inl none) g') : Rn sc (d + 2) 27 [vR 0 21] g Φ := by
  have n600 := hB.2.1
  obtain ⟨k1, k2, k3, k4⟩ := skp_K (tx := tx) hp
  refine Rn.of rfl ?_
  refine scnW (W := fun t => ∀ s, FCN g s → s.1 0 21 4 = nI t → Xe sc (d + 1) 27 0 [vR 0 21] [] s Φ) (N := N) (p := fun t => decide (¬ tx t = 32)) hp (fun t a b c hW => ?_) ?_ g (FCN.rf g) h4
  · intro s fs e4
    have b1 := hB.fc fs.1
    have e5 := b1.1
    have c32 : tx t = 32 := Decidable.not_not.mp (of_decide_eq_false c)
    have htN : t < N := by
      have : t < skp tx N p := b
      omega
    obtain ⟨l1, l2⟩ := b1.2.2 t htN
    have e32 : s.1 0 22 t = nI 32 := by rw [l2, c32]; rfl
    have ht600 : t < 600 := by omega
    refine v27_0 ?_
    simp (disch := omega) only [u3_nc, u3_ek, u3_nk, upd_e, upd_n, dU_nk, dU_nc, dU_e, nI_ltI, nI_eq, nI_clamp, nI_add, nI_mul, inb_nI, nI_neg1, nI_ne1, nI_n1e, nI_neg1e, Nat.not_lt_zero, Nat.lt_irrefl, true_and, and_true, true_implies, false_implies, not_true_eq_false, not_false_eq_true, implies_true, forall_const, forall_eq, if_true, if_false, Nat.reduceEqDiff, eq_self, Nat.one_ne_zero, Nat.zero_ne_one, Nat.zero_add, Nat.add_zero, e4, e5, htN, ht600, e32]
    exact hW _ (fs.tr (FCN.p (by decide))) (by dsimp only; rw [u3_ek rfl])
  · intro s fs e4
    have e4' : s.1 0 21 4 = nI (skp tx N p) := e4
    have b1 := hB.fc fs.1
    have e5 := b1.1
    obtain ⟨z, hz⟩ : ∃ z, z = skp tx N p := ⟨_, rfl⟩
    rw [← hz] at e4' k k4 k2
    by_cases hlt : z < N
    · obtain ⟨l1, l2⟩ := b1.2.2 z hlt
      have n32 : ¬ sbI (tx z) = nI 32 := fun q => k4.2 hlt ((sb_sp l1).mp q)
      have hz600 : z < 600 := by omega
      refine v27_0 ?_
      cases hL : isL (tx z) with
      | false =>
        have hlo := (sb_lo l1).mpr hL
        have fin : CIN (u3 (u3 (u3 s.1 0 21 3 (nI z)) 0 21 2 (nI (tx z))) 0 21 4 (nI (z + 1)), s.2) tx N z := by
          refine ⟨b1.fc (FCN.tr (FCN.p (k := 3) (v := nI z) (by decide)) ((FCN.p (k := 2) (v := nI (tx z)) (by decide)).tr (FCN.p (k := 4) (v := nI (z + 1)) (by decide)))).1, k4, ?_, ?_, ?_, ?_⟩
          · dsimp only; rw [u3_nk (by decide), u3_nk (by decide), u3_ek rfl]
          · dsimp only; rw [u3_nk (by decide), u3_ek rfl]; unfold knd; rw [if_pos hlt, hL, if_neg Bool.false_ne_true]
          · dsimp only; rw [u3_ek rfl]; unfold nxp; rw [if_pos hlt, hL, if_neg Bool.false_ne_true]
          · dsimp only; rw [u3_nk (by decide), u3_nk (by decide), u3_nk (by decide)]; exact fs.2.trans h7
        have ffin : FCN g (u3 (u3 (u3 s.1 0 21 3 (nI z)) 0 21 2 (nI (tx z))) 0 21 4 (nI (z + 1)), s.2) := fs.tr ((FCN.p (k := 3) (v := nI z) (by decide)).tr ((FCN.p (k := 2) (v := nI (tx z)) (by decide)).tr (FCN.p (k := 4) (v := nI (z + 1)) (by decide))))
        have s255 := sb_255 l1
        simp (disch := omega) only [u3_nc, u3_ek, u3_nk, upd_e, upd_n, dU_nk, dU_nc, dU_e, nI_ltI, nI_eq, nI_clamp, nI_add, nI_mul, inb_nI, nI_neg1, nI_ne1, nI_n1e, nI_neg1e, Nat.not_lt_zero, Nat.lt_irrefl, true_and, and_true, true_implies, false_implies, not_true_eq_false, not_false_eq_true, implies_true, forall_const, forall_eq, if_true, if_false, Nat.reduceEqDiff, eq_self, Nat.one_ne_zero, Nat.zero_ne_one, Nat.zero_add, Nat.add_zero, e4', e5, hlt, hz600, l2, n32, s255]
        refine ⟨fun _ => k _ ffin.1 fin, fun h1 => ⟨fun _ => k _ ffin.1 fin, fun h2 => ?_⟩⟩
        exact absurd hlo (fun q => q.elim h1 h2)
      | true =>
        obtain ⟨m1, m2, m3⟩ := sb_L hL
        have nlo' : ¬ (sbI (tx z) < nI 97 ∨ nI 122 < sbI (tx z)) := fun q => by rw [(sb_lo l1).mp q] at hL; cases hL
        have nl1 : ¬ sbI (tx z) < nI 97 := fun q => nlo' (Or.inl q)
        have nl2 : ¬ nI 122 < sbI (tx z) := fun q => nlo' (Or.inr q)
        simp (disch := omega) only [u3_nc, u3_ek, u3_nk, upd_e, upd_n, dU_nk, dU_nc, dU_e, nI_ltI, nI_eq, nI_clamp, nI_add, nI_mul, inb_nI, nI_neg1, nI_ne1, nI_n1e, nI_neg1e, Nat.not_lt_zero, Nat.lt_irrefl, true_and, and_true, true_implies, false_implies, not_true_eq_false, not_false_eq_true, implies_true, forall_const, forall_eq, if_true, if_false, Nat.reduceEqDiff, eq_self, Nat.one_ne_zero, Nat.zero_ne_one, Nat.zero_add, Nat.add_zero, e4', e5, hlt, hz600, l2, n32, nl1, nl2]
        have f2 : FCN s (u3 (u3 s.1 0 21 3 (nI z)) 0 21 2 (-nI 2), s.2) := (FCN.p (k := 3) (v := nI z) (by decide)).tr (FCN.p (k := 2) (v := -nI 2) (by decide))
        obtain ⟨w1, w2, w3, w4⟩ := wnd_K (tx := tx) (show z ≤ N by omega)
        refine scnW (W := fun t => ∀ s2, FCN s s2 → s2.1 0 21 3 = nI z → s2.1 0 21 2 = -nI 2 → s2.1 0 21 4 = nI t → Xe sc (d + 1) 27 87 [vR 0 21] [] s2 Φ) (N := N) (p := fun t => !isL (tx t)) (show z ≤ N by omega) (fun t a b c hW => ?_) ?_ _ f2 (by dsimp only; rw [u3_nk (by decide), u3_ek rfl]) (by dsimp only; rw [u3_ek rfl]) (by dsimp only; rw [u3_nk (by decide), u3_nk (by decide)]; exact e4')
        · intro s2 fs2 e23 e22 e24
          have b2 := b1.fc fs2.1
          have e25 := b2.1
          have htN : t < N := by
            have : t < wnd tx N z := b
            omega
          obtain ⟨l3, l4⟩ := b2.2.2 t htN
          have hLt : isL (tx t) = true := w3 t a b
          have nlo2 : ¬ (sbI (tx t) < nI 97 ∨ nI 122 < sbI (tx t)) := fun q => by rw [(sb_lo l3).mp q] at hLt; cases hLt
          have nl3 : ¬ sbI (tx t) < nI 97 := fun q => nlo2 (Or.inl q)
          have nl4 : ¬ nI 122 < sbI (tx t) := fun q => nlo2 (Or.inr q)
          have ht600 : t < 600 := by omega
          refine v27_87 ?_
          simp (disch := omega) only [u3_nc, u3_ek, u3_nk, upd_e, upd_n, dU_nk, dU_nc, dU_e, nI_ltI, nI_eq, nI_clamp, nI_add, nI_mul, inb_nI, nI_neg1, nI_ne1, nI_n1e, nI_neg1e, Nat.not_lt_zero, Nat.lt_irrefl, true_and, and_true, true_implies, false_implies, not_true_eq_false, not_false_eq_true, implies_true, forall_const, forall_eq, if_true, if_false, Nat.reduceEqDiff, eq_self, Nat.one_ne_zero, Nat.zero_ne_one, Nat.zero_add, Nat.add_zero, e24, e25, htN, ht600, l4, nl3, nl4]
          exact hW _ (fs2.tr (FCN.p (by decide))) (by dsimp only; rw [u3_nk (by decide)]; exact e23) (by dsimp only; rw [u3_nk (by decide)]; exact e22) (by dsimp only; rw [u3_ek rfl])
        · intro s2 fs2 e23 e22 e24
          have b2 := b1.fc fs2.1
          have e25 := b2.1
          have e24' : s2.1 0 21 4 = nI (wnd tx N z) := e24
          have fin : CIN s2 tx N z := by
            refine ⟨b2, k4, e23, ?_, ?_, (fs.tr fs2).2.trans h7⟩
            · rw [e22]; unfold knd; rw [if_pos hlt, if_pos hL]
            · rw [e24']; unfold nxp; rw [if_pos hlt, if_pos hL]
          have ffin : FCN g s2 := fs.tr fs2
          refine v27_87 ?_
          by_cases hw : wnd tx N z < N
          · obtain ⟨l3, l4⟩ := b2.2.2 _ hw
            have hlo := (sb_lo l3).mpr (w4 hw)
            have hw600 : wnd tx N z < 600 := by omega
            simp (disch := omega) only [u3_nc, u3_ek, u3_nk, upd_e, upd_n, dU_nk, dU_nc, dU_e, nI_ltI, nI_eq, nI_clamp, nI_add, nI_mul, inb_nI, nI_neg1, nI_ne1, nI_n1e, nI_neg1e, Nat.not_lt_zero, Nat.lt_irrefl, true_and, and_true, true_implies, false_implies, not_true_eq_false, not_false_eq_true, implies_true, forall_const, forall_eq, if_true, if_false, Nat.reduceEqDiff, eq_self, Nat.one_ne_zero, Nat.zero_ne_one, Nat.zero_add, Nat.add_zero, e24', e25, hw, hw600, l4]
            refine ⟨fun _ => k _ ffin.1 fin, fun h1 => ⟨fun _ => k _ ffin.1 fin, fun h2 => ?_⟩⟩
            exact absurd hlo (fun q => q.elim h1 h2)
          · simp (disch := omega) only [u3_nc, u3_ek, u3_nk, upd_e, upd_n, dU_nk, dU_nc, dU_e, nI_ltI, nI_eq, nI_clamp, nI_add, nI_mul, inb_nI, nI_neg1, nI_ne1, nI_n1e, nI_neg1e, Nat.not_lt_zero, Nat.lt_irrefl, true_and, and_true, true_implies, false_implies, not_true_eq_false, not_false_eq_true, implies_true, forall_const, forall_eq, if_true, if_false, Nat.reduceEqDiff, eq_self, Nat.one_ne_zero, Nat.zero_ne_one, Nat.zero_add, Nat.add_zero, e24', e25, hw]
            exact k _ ffin.1 fin
    · refine v27_0 ?_
      simp (disch := omega) only [u3_nc, u3_ek, u3_nk, upd_e, upd_n, dU_nk, dU_nc, dU_e, nI_ltI, nI_eq, nI_clamp, nI_add, nI_mul, inb_nI, nI_neg1, nI_ne1, nI_n1e, nI_neg1e, Nat.not_lt_zero, Nat.lt_irrefl, true_and, and_true, true_implies, false_implies, not_true_eq_false, not_false_eq_true, implies_true, forall_const, forall_eq, if_true, if_false, Nat.reduceEqDiff, eq_self, Nat.one_ne_zero, Nat.zero_ne_one, Nat.zero_add, Nat.add_zero, e4', e5, hlt]
      refine k _ (fs.tr ((FCN.p (k := 3) (v := nI z) (by decide)).tr (FCN.p (k := 2) (v := -nI 1) (by decide)))).1 ⟨b1.fc (FCN.tr (FCN.p (k := 3) (v := nI z) (by decide)) (FCN.p (k := 2) (v := -nI 1) (by decide))).1, k4, ?_, ?_, ?_, ?_⟩
      · dsimp only; rw [u3_nk (by decide), u3_ek rfl]
      · dsimp only; rw [u3_ek rfl]; unfold knd; rw [if_neg hlt]
      · dsimp only; rw [u3_nk (by decide), u3_nk (by decide), e4']; unfold nxp; rw [if_neg hlt]
      · dsimp only; rw [u3_nk (by decide), u3_nk (by decide)]; exact fs.2.trans h7
theorem s27A (h : CIN g tx N s) (k : ∀ g', FC g g' → CIN g' tx N (nxt9 tx N s) → Φ (.inl none) g') : Rn sc (d + 2) 27 [vR 0 21] g Φ :=
  s27 h.1 h.2.2.2.2.1 (nxp_K h.2.1.1).2.1 h.2.2.2.2.2 k
/-- an error noted at the token -/
theorem CIN.er (h : CIN g tx N s) {code : Int32} : CE (u3 (u3 g.1 0 21 6 code) 0 21 7 (nI s), g.2) code s ∧ FC g (u3 (u3 g.1 0 21 6 code) 0 21 7 (nI s), g.2) :=
  ⟨⟨by dsimp only; rw [u3_nk (by decide), u3_ek rfl], by dsimp only; rw [u3_ek rfl]⟩, (FC.p (k := 6) (v := code) (by decide)).tr (FC.p (k := 7) (v := nI s) (by decide))⟩
theorem nI_ne2 {b : Nat} (h : b < 256) : ¬ nI b = -nI 2 := by
  have hh : ∀ b : Fin 256, ¬ nI b.1 = -nI 2 := by decide +kernel
  exact hh ⟨b, h⟩
theorem BYT.lt (hB : BYT g tx N) {t : Nat} (h : t < N) : tx t < 256 := (hB.2.2 t h).1
theorem knd_end (hB : BYT g tx N) (hT : TOK tx N s) : knd tx N s = -nI 1 ↔ s = N := by
  unfold knd
  by_cases h : s < N
  · have := hB.lt h
    rw [if_pos h]
    split
    · exact ⟨fun q => absurd q (by decide +kernel), fun q => by omega⟩
    · exact ⟨fun q => absurd q (nI_ne1 (by omega)), fun q => by omega⟩
  · rw [if_neg h]; exact ⟨fun _ => by have := hT.1; omega, fun _ => rfl⟩
theorem knd_word (hB : BYT g tx N) (hT : TOK tx N s) : knd tx N s = -nI 2 ↔ s < N ∧ isL (tx s) = true := by
  unfold knd
  by_cases h : s < N
  · have := hB.lt h
    rw [if_pos h]
    split
    · rename_i hl
      exact ⟨fun _ => ⟨h, hl⟩, fun _ => rfl⟩
    · rename_i hl
      exact ⟨fun q => absurd q (nI_ne2 this), fun q => absurd q.2 hl⟩
  · rw [if_neg h]; exact ⟨fun q => absurd q (by decide +kernel), fun q => absurd q.1 h⟩
theorem knd_sign (hB : BYT g tx N) (hT : TOK tx N s) {b : Nat} (hb : b < 256) (hl : isL b = false) : knd tx N s = nI b ↔ s < N ∧ tx s = b := by
  unfold knd
  by_cases h : s < N
  · have := hB.lt h
    rw [if_pos h]
    split
    · rename_i hl2
      refine ⟨fun q => absurd q.symm (nI_ne2 hb), fun q => ?_⟩
      rw [q.2, hl] at hl2; cases hl2
    · rw [nI_eq (by omega) (by omega)]
      exact ⟨fun q => ⟨h, q⟩, fun q => q.2⟩
  · rw [if_neg h]
    refine ⟨fun q => absurd q.symm (nI_ne1 (by omega)), fun q => absurd q.1 h⟩
theorem s30 (h : CIN g tx N s) (k1 : s = N → Φ (.inl (some (vI (nI 1)))) g) (k0 : ¬ s = N → ∀ g', FC g g' → CE g' (-nI 12) s → Φ (.inl (some (vI (nI 0)))) g') : Rn sc (d + 2) 30 [vR 0 21] g Φ := by
  have ke := knd_end h.1 h.2.1
  obtain ⟨b, t, e3, e2, e4⟩ := h
  refine Rn.of rfl (v30_0 ?_)
  rw [e2, ke]
  refine ⟨k1, fun hn => ?_⟩
  intro G2 h2 G3 h3
  subst h2; subst h3
  rw [u3_nk (by decide), e3]
  obtain ⟨x1, x2⟩ := CIN.er ⟨b, t, e3, e2, e4⟩ (code := -nI 12)
  exact k0 hn _ x2 x1
theorem s31 (h : CIN g tx N s) {b : Nat} (hb : b < 256) (hl : isL b = false) (k1 : s < N ∧ tx s = b → ∀ g', FC g g' → CIN g' tx N (nxt9 tx N s) → Φ (.inl (some (vI (nI 1)))) g') (k0 : ¬ (s < N ∧ tx s = b) → ∀ g', FC g g' → CE g' (-nI 12) s → Φ (.inl (some (vI (nI 0)))) g') : Rn sc (d + 3) 31 [vR 0 21, vI (nI b)] g Φ := by
  have ke := knd_sign h.1 h.2.1 hb hl
  obtain ⟨x1, x2⟩ := h.er (code := -nI 12)
  have e3 := h.2.2.1
  have e2 := h.2.2.2.1
  refine Rn.of rfl (v31_0 ?_)
  rw [e2, ke]
  refine ⟨fun hp => s27A h (fun g' f' c' => ⟨rfl, k1 hp g' f' c'⟩), fun hn => ?_⟩
  intro G2 h2 G3 h3
  subst h2; subst h3
  rw [u3_nk (by decide), e3]
  exact k0 hn _ x2 x1
/-- whether the token at s is this word -/
def isW (tx : Nat → Nat) (N s w : Nat) : Bool := decide (s < N ∧ isL (tx s) = true ∧ wnd tx N s - s = (txt w).length ∧ ∀ i, i < (txt w).length → nI (tx (s + i)) = (txt w).getD i 0)
theorem isW_c {w w2 : Nat} (e : txt w = txt w2) : isW tx N s w = isW tx N s w2 := by
  unfold isW
  rw [e]
theorem txt_len {w : Nat} (h : w < 20) : 1 ≤ (txt w).length ∧ (txt w).length ≤ 7 := by
  have hh : ∀ w : Fin 20, 1 ≤ (txt w.1).length ∧ (txt w.1).length ≤ 7 := by decide +kernel
  exact hh ⟨w, h⟩
theorem nI_sub {a b : Nat} (h : b ≤ a) : nI a - nI b = nI (a - b) := by
  obtain ⟨c, rfl⟩ : ∃ c, a = b + c := ⟨a - b, by omega⟩
  rw [← nI_add, Int32.sub_eq_add_neg, Int32.add_comm (nI b), Int32.add_assoc, Int32.add_right_neg, Int32.add_zero, Nat.add_sub_cancel_left]
theorem wnd_b (hB : BYT g tx N) (hT : TOK tx N s) {i : Nat} (h : i < wnd tx N s - s) : s + i < N ∧ isL (tx (s + i)) = true ∧ g.1 0 22 (s + i) = nI (tx (s + i)) ∧ 97 ≤ tx (s + i) ∧ tx (s + i) ≤ 122 := by
  obtain ⟨w1, w2, w3, w4⟩ := wnd_K (tx := tx) hT.1
  have hl := w3 (s + i) (by omega) (by omega)
  obtain ⟨m1, m2, m3⟩ := sb_L hl
  exact ⟨by omega, hl, by rw [(hB.2.2 _ (by omega)).2]; exact m1, m2, m3⟩
theorem s33 {w : Nat} (hw : w < 20) (h : CIN g tx N s) (k : Φ (.inl (some (vI (if isW tx N s w = true then nI 1 else nI 0)))) g) : Rn sc (d + 1) 33 [vR 0 21, vR w 900] g Φ := by
  obtain ⟨hB, hT, e3, e2, e4, e7⟩ := h
  have n600 := hB.2.1
  have kw := knd_word hB hT
  obtain ⟨t1, t2⟩ := txt_len hw
  have hwb : Nat.blt w strN = true := Nat.blt_eq.mpr hw
  obtain ⟨L, hL⟩ : ∃ L, L = (txt w).length := ⟨_, rfl⟩
  refine Rn.of rfl (v33_0 ?_)
  rw [e2, kw]
  have no : ¬ (s < N ∧ isL (tx s) = true ∧ wnd tx N s - s = (txt w).length ∧ ∀ i, i < (txt w).length → nI (tx (s + i)) = (txt w).getD i 0) → Φ (.inl (some (vI (nI 0)))) g := fun hn => by
    unfold isW at k
    rw [decide_eq_false hn, if_neg Bool.false_ne_true] at k
    exact k
  refine ⟨fun ⟨h1, h2⟩ => ?_, fun hn => no (fun q => hn ⟨q.1, q.2.1⟩)⟩
  have hle := (wnd_K (tx := tx) hT.1).1
  have hle2 := (wnd_K (tx := tx) hT.1).2.1
  have ex : nxp tx N s = wnd tx N s := by unfold nxp; rw [if_pos h1, if_pos h2]
  rw [e4, e3, ex, nI_sub hle, nI_eq (by omega) (by omega)]
  refine ⟨hwb, fun h3 => ?_, fun hn => no (fun q => hn q.2.2.1)⟩
  rw [← hL] at h3 no t1 t2
  refine srch (W := fun q => Xe sc d 33 29 [vR 0 21, vR w 900, vI (nI q)] [] g Φ) (n := L) (p := fun i => decide (¬ nI (tx (s + i)) = (txt w).getD i 0)) (fun q hq hp hW => ?_) (fun q hs hq hp => ?_) (fun hs => ?_)
  · obtain ⟨b1, b2, b3, b4, b5⟩ := wnd_b hB hT (i := q) (by omega)
    have hp2 := Decidable.not_not.mp (of_decide_eq_false hp)
    have h600 : s + q < 600 := by omega
    refine v33_29 ?_
    rw [← hL]
    simp (disch := omega) only [u3_nc, u3_ek, u3_nk, upd_e, upd_n, dU_nk, dU_nc, dU_e, nI_ltI, nI_eq, nI_clamp, nI_add, nI_mul, inb_nI, nI_neg1, nI_ne1, nI_n1e, nI_neg1e, Nat.not_lt_zero, Nat.lt_irrefl, true_and, and_true, true_implies, false_implies, not_true_eq_false, not_false_eq_true, implies_true, forall_const, forall_eq, if_true, if_false, Nat.reduceEqDiff, eq_self, Nat.one_ne_zero, Nat.zero_ne_one, Nat.zero_add, Nat.add_zero, e3, hq, h600, b3, hp2]
    exact ⟨hwb, hwb, hW⟩
  · obtain ⟨b1, b2, b3, b4, b5⟩ := wnd_b hB hT (i := q) (by omega)
    have hp2 := of_decide_eq_true hp
    have h600 : s + q < 600 := by omega
    refine v33_29 ?_
    rw [← hL]
    simp (disch := omega) only [u3_nc, u3_ek, u3_nk, upd_e, upd_n, dU_nk, dU_nc, dU_e, nI_ltI, nI_eq, nI_clamp, nI_add, nI_mul, inb_nI, nI_neg1, nI_ne1, nI_n1e, nI_neg1e, Nat.not_lt_zero, Nat.lt_irrefl, true_and, and_true, true_implies, false_implies, not_true_eq_false, not_false_eq_true, implies_true, forall_const, forall_eq, if_true, if_false, Nat.reduceEqDiff, eq_self, Nat.one_ne_zero, Nat.zero_ne_one, Nat.zero_add, Nat.add_zero, e3, hq, h600, b3, hp2]
    exact ⟨hwb, hwb, no (fun z => hp2 (z.2.2.2 q hq))⟩
  · have yes : isW tx N s w = true := by
      unfold isW
      refine decide_eq_true ⟨h1, h2, by rw [h3, hL], fun i hi => ?_⟩
      rw [← hL] at hi
      exact Decidable.not_not.mp (of_decide_eq_false (fst9_none hs i hi))
    rw [yes, if_pos rfl] at k
    refine v33_29 ?_
    rw [← hL]
    simp (disch := omega) only [u3_nc, u3_ek, u3_nk, upd_e, upd_n, dU_nk, dU_nc, dU_e, nI_ltI, nI_eq, nI_clamp, nI_add, nI_mul, inb_nI, nI_neg1, nI_ne1, nI_n1e, nI_neg1e, Nat.not_lt_zero, Nat.lt_irrefl, true_and, and_true, true_implies, false_implies, not_true_eq_false, not_false_eq_true, implies_true, forall_const, forall_eq, if_true, if_false, Nat.reduceEqDiff, eq_self, Nat.one_ne_zero, Nat.zero_ne_one, Nat.zero_add, Nat.add_zero]
    exact ⟨hwb, k⟩
theorem s32 {w : Nat} (hw : w < 20) (h : CIN g tx N s) (k1 : isW tx N s w = true → ∀ g', FC g g' → CIN g' tx N (nxt9 tx N s) → Φ (.inl (some (vI (nI 1)))) g') (k0 : isW tx N s w = false → ∀ g', FC g g' → CE g' (-nI 12) s → Φ (.inl (some (vI (nI 0)))) g') : Rn sc (d + 3) 32 [vR 0 21, vR w 900] g Φ := by
  obtain ⟨x1, x2⟩ := h.er (code := -nI 12)
  have e3 := h.2.2.1
  refine Rn.of rfl (v32_0 ?_)
  refine s33 hw h ⟨_, rfl, ?_⟩
  cases hW : isW tx N s w with
  | true =>
    rw [if_pos rfl]
    refine ⟨fun q => absurd q (by decide +kernel), fun _ => s27A h (fun g' f' c' => ⟨rfl, k1 hW g' f' c'⟩)⟩
  | false =>
    rw [if_neg Bool.false_ne_true]
    refine ⟨fun _ => ?_, fun q => absurd rfl q⟩
    intro G2 h2 G3 h3
    subst h2; subst h3
    rw [u3_nk (by decide), e3]
    exact k0 hW _ x2 x1
/-- names -/
def lts (tx : Nat → Nat) (s j : Nat) : List Nat := (List.range j).map (fun i => tx (s + i) - 96)
def isN (tx : Nat → Nat) (N s : Nat) : Bool := decide (s < N ∧ isL (tx s) = true ∧ wnd tx N s - s ≤ 6)
def nam (tx : Nat → Nat) (N s : Nat) : List Nat := lts tx s (wnd tx N s - s)
def nmc (tx : Nat → Nat) (N s : Nat) : Nat := if isN tx N s = true then cdL (nam tx N s) else 0
theorem lts_s {j : Nat} : lts tx s (j + 1) = lts tx s j ++ [tx (s + j) - 96] := by
  unfold lts
  rw [List.range_succ, List.map_append]; rfl
theorem lts_len {j : Nat} : (lts tx s j).length = j := by unfold lts; rw [List.length_map, List.length_range]
theorem lts_mem {j : Nat} (h : ∀ i, i < j → isL (tx (s + i)) = true) : ∀ l ∈ lts tx s j, 1 ≤ l ∧ l ≤ 26 := fun l hl => by
  unfold lts at hl
  obtain ⟨i, h1, h2⟩ := List.mem_map.mp hl
  have := of_decide_eq_true (h i (List.mem_range.mp h1))
  omega
theorem cdL_s {L : List Nat} {l : Nat} : cdL (L ++ [l]) = cdL L * 32 + l := by
  unfold cdL
  rw [List.foldl_append]; rfl
theorem cdL_pos {L : List Nat} (h0 : L ≠ []) (h : ∀ l ∈ L, 1 ≤ l ∧ l ≤ 26) : 1 ≤ cdL L := by
  rw [← List.dropLast_concat_getLast h0, cdL_s]
  have := h _ (List.getLast_mem h0)
  omega
theorem isN_K (h : isN tx N s = true) (hT : TOK tx N s) : s < N ∧ isL (tx s) = true ∧ nam tx N s ≠ [] ∧ (nam tx N s).length ≤ 6 ∧ (∀ l ∈ nam tx N s, 1 ≤ l ∧ l ≤ 26) ∧ nxp tx N s = wnd tx N s := by
  obtain ⟨h1, h2, h3⟩ := of_decide_eq_true h
  have hlt := wnd_lt h1 h2
  obtain ⟨w1, w2, w3, w4⟩ := wnd_K (tx := tx) hT.1
  refine ⟨h1, h2, fun q => ?_, by unfold nam; rw [lts_len]; exact h3, lts_mem (fun i hi => w3 _ (by omega) (by omega)), by unfold nxp; rw [if_pos h1, if_pos h2]⟩
  have := congrArg List.length q
  unfold nam at this
  rw [lts_len] at this
  simp only [List.length_nil] at this
  omega
theorem nmc_K (h : isN tx N s = true) (hT : TOK tx N s) : nmc tx N s = cdL (nam tx N s) ∧ 1 ≤ nmc tx N s ∧ nmc tx N s < 2 ^ 30 := by
  obtain ⟨h1, h2, h3, h4, h5, h6⟩ := isN_K h hT
  have e : nmc tx N s = cdL (nam tx N s) := if_pos h
  rw [e]
  exact ⟨rfl, cdL_pos h3 h5, cdL_30 h4 h5⟩
theorem nmc_0 (hT : TOK tx N s) : nI (nmc tx N s) = nI 0 ↔ isN tx N s = false := by
  cases h : isN tx N s with
  | true =>
    obtain ⟨-, h1, h2⟩ := nmc_K h hT
    rw [nI_eq (by omega) (by omega)]
    exact ⟨fun q => by omega, fun q => by cases q⟩
  | false =>
    unfold nmc
    rw [h, if_neg Bool.false_ne_true]
    exact ⟨fun _ => rfl, fun _ => rfl⟩
theorem nI_shl5 {c l : Nat} (hc : c < 2 ^ 25) (hl : l < 32) : (nI c <<< (nI 5 &&& 31)) ||| nI l = nI (c * 32 + l) := by
  have e5 : nI 5 &&& 31 = nI 5 := by decide +kernel
  rw [e5]
  refine Int32.toBitVec_inj.mp ?_
  rw [Int32.toBitVec_or, Int32.toBitVec_shiftLeft, nI_bv, nI_bv, nI_bv, nI_bv]
  have h1 : (BitVec.smod (BitVec.ofNat 32 5) 32).toNat = 5 := by decide +kernel
  show BitVec.ofNat 32 c <<< (BitVec.smod (BitVec.ofNat 32 5) 32).toNat ||| BitVec.ofNat 32 l = _
  rw [h1]
  refine BitVec.eq_of_toNat_eq ?_
  rw [BitVec.toNat_or, BitVec.toNat_shiftLeft, BitVec.toNat_ofNat, BitVec.toNat_ofNat, BitVec.toNat_ofNat, Nat.shiftLeft_eq, Nat.mod_eq_of_lt (show c < 2 ^ 32 by omega), Nat.mod_eq_of_lt (show c * 2 ^ 5 < 2 ^ 32 by omega), Nat.mod_eq_of_lt (show l < 2 ^ 32 by omega), Nat.mod_eq_of_lt (show c * 32 + l < 2 ^ 32 by omega), Nat.mul_comm c (2 ^ 5), ← Nat.two_pow_add_eq_or_of_lt (show l < 2 ^ 5 by omega) c, Nat.mul_comm (2 ^ 5) c]
theorem let_b {b : Nat} (h : isL b = true) : nI b - nI 97 + nI 1 = nI (b - 96) := by
  have h2 := of_decide_eq_true h
  rw [nI_sub h2.1, nI_add, show b - 97 + 1 = b - 96 by omega]
theorem s34 (h : CIN g tx N s) (k : Φ (.inl (some (vI (nI (nmc tx N s))))) g) : Rn sc (d + 1) 34 [vR 0 21] g Φ := by
  obtain ⟨hB, hT, e3, e2, e4, e7⟩ := h
  have n600 := hB.2.1
  have kw := knd_word hB hT
  refine Rn.of rfl (v34_0 ?_)
  rw [e2, kw]
  have no : ¬ (s < N ∧ isL (tx s) = true ∧ wnd tx N s - s ≤ 6) → Φ (.inl (some (vI (nI 0)))) g := fun hn => by
    unfold nmc isN at k
    rw [decide_eq_false hn, if_neg Bool.false_ne_true] at k
    exact k
  refine ⟨fun ⟨h1, h2⟩ => ?_, fun hn => no (fun q => hn ⟨q.1, q.2.1⟩)⟩
  have hle := (wnd_K (tx := tx) hT.1).1
  have hle2 := (wnd_K (tx := tx) hT.1).2.1
  have ex : nxp tx N s = wnd tx N s := by unfold nxp; rw [if_pos h1, if_pos h2]
  rw [e4, e3, ex, nI_sub hle, nI_ltI (by decide) (by omega)]
  refine ⟨fun h3 => no (fun q => by omega), fun h3 => ?_⟩
  have yes : isN tx N s = true := decide_eq_true ⟨h1, h2, by omega⟩
  obtain ⟨-, -, -, -, -, hx⟩ := isN_K yes hT
  unfold nmc at k
  rw [if_pos yes] at k
  obtain ⟨n, hn⟩ : ∃ n, n = wnd tx N s - s := ⟨_, rfl⟩
  have e4' : g.1 0 21 4 = nI (s + n) := by rw [e4, ex, hn, show s + (wnd tx N s - s) = wnd tx N s by omega]
  unfold nam at k
  rw [← hn] at k
  refine turns (W := fun j => Xe sc d 34 32 [vR 0 21, vI (nI (cdL (lts tx s j))), vI (nI (s + j))] [] g Φ) (n := n) (fun j hj hW => ?_) ?_
  · obtain ⟨b1, b2, b3, b4, b5⟩ := wnd_b hB hT (i := j) (by omega)
    have h600 : s + j < 600 := by omega
    have hlt : s + j < s + n := by omega
    have hcl := cdL_lt (lts tx s j) (lts_mem (fun i hi => (wnd_b hB hT (i := i) (by omega)).2.1)) 0
    have hp : 32 ^ (lts tx s j).length ≤ 32 ^ 5 := Nat.pow_le_pow_right (by decide) (by rw [lts_len]; omega)
    have hp2 : (32 : Nat) ^ 5 = 2 ^ 25 := by decide
    have hc25 : cdL (lts tx s j) < 2 ^ 25 := by unfold cdL; omega
    rw [lts_s, cdL_s] at hW
    refine v34_32 ?_
    simp (disch := omega) only [u3_nc, u3_ek, u3_nk, upd_e, upd_n, dU_nk, dU_nc, dU_e, nI_ltI, nI_eq, nI_clamp, nI_add, nI_mul, inb_nI, nI_neg1, nI_ne1, nI_n1e, nI_neg1e, Nat.not_lt_zero, Nat.lt_irrefl, true_and, and_true, true_implies, false_implies, not_true_eq_false, not_false_eq_true, implies_true, forall_const, forall_eq, if_true, if_false, Nat.reduceEqDiff, eq_self, Nat.one_ne_zero, Nat.zero_ne_one, Nat.zero_add, Nat.add_zero, e4', hlt, h600, b3]
    rw [let_b b2, nI_shl5 hc25 (by omega)]
    exact hW
  · refine v34_32 ?_
    simp (disch := omega) only [u3_nc, u3_ek, u3_nk, upd_e, upd_n, dU_nk, dU_nc, dU_e, nI_ltI, nI_eq, nI_clamp, nI_add, nI_mul, inb_nI, nI_neg1, nI_ne1, nI_n1e, nI_neg1e, Nat.not_lt_zero, Nat.lt_irrefl, true_and, and_true, true_implies, false_implies, not_true_eq_false, not_false_eq_true, implies_true, forall_const, forall_eq, if_true, if_false, Nat.reduceEqDiff, eq_self, Nat.one_ne_zero, Nat.zero_ne_one, Nat.zero_add, Nat.add_zero, e4']
    exact k
end TC
