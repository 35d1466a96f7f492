/-! BASE: small numbers, searches, frames -/
theorem nI_mul (a b : Nat) : nI a * nI b = nI (a * b) := by
  unfold nI
  exact (Int32.ofNat_mul a b).symm
theorem nI_neg1 : (-nI 1) < nI 0 := by decide +kernel
theorem nI_nn {k : Nat} (h : k < 2 ^ 31) : ¬ nI k < nI 0 := nI_nlt (Nat.zero_le k) h
theorem nI_ne1 {k : Nat} (h : k < 2 ^ 31) : ¬ nI k = -nI 1 := fun e => nI_nn h (e ▸ nI_neg1)
theorem inb_nI {k n : Nat} (h : k < n) (hn : n < 2 ^ 31) : inb (nI k) n = true := by
  unfold inb
  rw [nI_clamp (by omega)]
  have h0 : ¬ nI k < 0 := nI_pos (by omega)
  rw [decide_eq_false h0]
  simp only [Bool.not_false, Bool.true_and]
  exact Nat.ble_eq_true_of_le h
theorem inb_of {x : Int32} {n : Nat} (h : inb x n = true) (hn : n < 2 ^ 31) : ∃ k, k < n ∧ x = nI k := by
  have := inb_in h
  obtain ⟨j, h1, h2⟩ := vp_in_of this hn
  exact ⟨j, h1, h2⟩
/-- -1 for none -/
def eo : Option Nat → Int32
  | some k => nI k
  | none => -nI 1
theorem eo_neg {o : Option Nat} (h : ∀ k, o = some k → k < 2 ^ 31) : eo o < nI 0 ↔ o = none := by
  cases o with
  | none => exact ⟨fun _ => rfl, fun _ => nI_neg1⟩
  | some k => exact ⟨fun q => absurd q (nI_nn (h k rfl)), fun q => by cases q⟩
/-- the first from k on -/
def fstF (p : Nat → Bool) : Nat → Nat → Option Nat
  | 0, _ => none
  | f + 1, k => bif p k then some k else fstF p f (k + 1)
def fst9 (n : Nat) (p : Nat → Bool) : Option Nat := fstF p n 0
theorem fstF_some {p : Nat → Bool} : ∀ {f k j : Nat}, fstF p f k = some j → k ≤ j ∧ j < k + f ∧ p j = true ∧ ∀ i, k ≤ i → i < j → p i = false := by
  intro f
  induction f with
  | zero => intro k j h; cases h
  | succ f ih =>
    intro k j h
    unfold fstF at h
    cases hp : p k with
    | true =>
      rw [hp] at h
      cases h
      exact ⟨Nat.le_refl _, by omega, hp, fun i h1 h2 => by omega⟩
    | false =>
      rw [hp] at h
      obtain ⟨h1, h2, h3, h4⟩ := ih h
      refine ⟨by omega, by omega, h3, fun i g1 g2 => ?_⟩
      by_cases he : i = k
      · rw [he]; exact hp
      · exact h4 i (by omega) g2
theorem fstF_none {p : Nat → Bool} : ∀ {f k : Nat}, fstF p f k = none → ∀ i, k ≤ i → i < k + f → p i = false := by
  intro f
  induction f with
  | zero => intro k h i h1 h2; omega
  | succ f ih =>
    intro k h i h1 h2
    unfold fstF at h
    cases hp : p k with
    | true => rw [hp] at h; cases h
    | false =>
      rw [hp] at h
      by_cases he : i = k
      · rw [he]; exact hp
      · exact ih h i (by omega) (by omega)
theorem fst9_some {n : Nat} {p : Nat → Bool} {j : Nat} (h : fst9 n p = some j) : j < n ∧ p j = true ∧ ∀ i, i < j → p i = false := by
  obtain ⟨-, h2, h3, h4⟩ := fstF_some h
  exact ⟨by omega, h3, fun i hi => h4 i (Nat.zero_le _) hi⟩
theorem fst9_none {n : Nat} {p : Nat → Bool} (h : fst9 n p = none) : ∀ i, i < n → p i = false := fun i hi => fstF_none h i (Nat.zero_le _) (by omega)
theorem fst9_eq {n : Nat} {p : Nat → Bool} {j : Nat} (h1 : j < n) (h2 : p j = true) (h3 : ∀ i, i < j → p i = false) : fst9 n p = some j := by
  cases h : fst9 n p with
  | none => rw [fst9_none h j h1] at h2; cases h2
  | some q =>
    obtain ⟨g1, g2, g3⟩ := fst9_some h
    rcases Nat.lt_trichotomy q j with z | z | z
    · rw [h3 q z] at g2; cases g2
    · rw [z]
    · rw [g3 j z] at h2; cases h2
theorem fst9_no {n : Nat} {p : Nat → Bool} (h : ∀ i, i < n → p i = false) : fst9 n p = none := by
  cases hq : fst9 n p with
  | none => rfl
  | some q =>
    obtain ⟨g1, g2, -⟩ := fst9_some hq
    rw [h q g1] at g2; cases g2
theorem fst9_congr {n : Nat} {p q : Nat → Bool} (h : ∀ i, i < n → p i = q i) : fst9 n p = fst9 n q := by
  cases hp : fst9 n p with
  | none => exact (fst9_no (fun i hi => by rw [← h i hi]; exact fst9_none hp i hi)).symm
  | some j =>
    obtain ⟨g1, g2, g3⟩ := fst9_some hp
    exact (fst9_eq g1 (by rw [← h j g1]; exact g2) (fun i hi => by rw [← h i (by omega)]; exact g3 i hi)).symm
/-- a search: k steps on where p fails, ends where it holds -/
theorem srch {W : Nat → Prop} {n : Nat} {p : Nat → Bool} (hs : ∀ k, k < n → p k = false → W (k + 1) → W k) (hf : ∀ k, fst9 n p = some k → k < n → p k = true → W k) (he : fst9 n p = none → W n) : W 0 := by
  cases h : fst9 n p with
  | none =>
    have key : ∀ f k, k + f = n → W k := by
      intro f
      induction f with
      | zero => intro k hk; rw [show k = n by omega]; exact he h
      | succ f ih => intro k hk; exact hs k (by omega) (fst9_none h k (by omega)) (ih (k + 1) (by omega))
    exact key n 0 (by omega)
  | some j =>
    obtain ⟨g1, g2, g3⟩ := fst9_some h
    have key : ∀ f k, k + f = j → W k := by
      intro f
      induction f with
      | zero => intro k hk; rw [show k = j by omega]; exact hf j h g1 g2
      | succ f ih => intro k hk; exact hs k (by omega) (g3 k (by omega)) (ih (k + 1) (by omega))
    exact key j 0 (by omega)
/-- a loop of n turns -/
theorem turns {W : Nat → Prop} {n : Nat} (hs : ∀ k, k < n → W (k + 1) → W k) (he : W n) : W 0 := by
  have key : ∀ f k, k + f = n → W k := by
    intro f
    induction f with
    | zero => intro k hk; rw [show k = n by omega]; exact he
    | succ f ih => intro k hk; exact hs k (by omega) (ih (k + 1) (by omega))
  exact key n 0 (by omega)
/-- a loop of n turns with a state -/
theorem turnsS {σ : Type} {W : Nat → σ → Prop} {I : Nat → σ → Prop} {n : Nat} (hs : ∀ k s, k < n → I k s → (∀ s', I (k + 1) s' → W (k + 1) s') → W k s) (he : ∀ s, I n s → W n s) (s : σ) (h0 : I 0 s) : W 0 s := by
  have key : ∀ f k, k + f = n → ∀ s, I k s → W k s := by
    intro f
    induction f with
    | zero => intro k hk s hi; obtain rfl : k = n := by omega
              exact he s hi
    | succ f ih => intro k hk s hi; exact hs k s (by omega) hi (fun s' h' => ih (k + 1) (by omega) s' h')
  exact key n 0 (by omega) s h0
abbrev Gm : Type := Nat → Nat → Nat → Int32
/-- nothing but what P names has changed -/
def Fr (P : Nat → Nat → Prop) (g g' : Gs) : Prop := (∀ i c, ¬ P i c → g'.1 i c = g.1 i c) ∧ g'.2 = g.2
theorem Fr.rf {P : Nat → Nat → Prop} (g : Gs) : Fr P g g := ⟨fun _ _ _ => rfl, rfl⟩
theorem Fr.tr {P : Nat → Nat → Prop} {a b c : Gs} (h1 : Fr P a b) (h2 : Fr P b c) : Fr P a c := ⟨fun i k hp => (h2.1 i k hp).trans (h1.1 i k hp), h2.2.trans h1.2⟩
theorem Fr.wk {P Q : Nat → Nat → Prop} {a b : Gs} (h : Fr P a b) (hq : ∀ i c, P i c → Q i c) : Fr Q a b := ⟨fun i c hc => h.1 i c (fun q => hc (hq i c q)), h.2⟩
theorem Fr.u3 {P : Nat → Nat → Prop} {g : Gs} {G : Gm} {i c k : Nat} {v : Int32} (h : Fr P g (G, g.2)) (hp : P i c) : Fr P g (u3 G i c k v, g.2) := by
  refine ⟨fun i' c' hn => ?_, rfl⟩
  rw [← h.1 i' c' hn]
  funext k'
  exact u3_ne (fun e => hn (by cases e; exact hp)) k'
theorem Fr.u2 {P : Nat → Nat → Prop} {g : Gs} {G : Gm} {i c : Nat} {w : Nat → Int32} (h : Fr P g (G, g.2)) (hp : P i c) : Fr P g (u2 G i c w, g.2) := by
  refine ⟨fun i' c' hn => ?_, rfl⟩
  rw [← h.1 i' c' hn]
  funext k'
  exact u2_ne (fun e => hn (by cases e; exact hp)) k'
theorem nI_n1e {k : Nat} (h : k < 2 ^ 31) : (-nI 1 = nI k) = False := eq_false fun e => nI_ne1 h e.symm
theorem nI_neg1e {k : Nat} (h : k < 2 ^ 31) : (nI k < -nI 1) = False := eq_false fun e => nI_nn h (Int32.lt_trans e nI_neg1)
/-- how many below n -/
def cntF (p : Nat → Bool) : Nat → Nat
  | 0 => 0
  | n + 1 => cntF p n + (bif p n then 1 else 0)
theorem cntF_le (p : Nat → Bool) (n : Nat) : cntF p n ≤ n := by
  induction n with
  | zero => exact Nat.le_refl _
  | succ n ih =>
    unfold cntF
    cases p n <;> simp only [cond_true, cond_false] <;> omega
theorem cntF_congr {p q : Nat → Bool} {n : Nat} (h : ∀ k, k < n → p k = q k) : cntF p n = cntF q n := by
  induction n with
  | zero => rfl
  | succ n ih =>
    unfold cntF
    rw [ih (fun k hk => h k (by omega)), h n (by omega)]
/-- rows of an instance, one number changed; one row of numbers changed -/
def dU (D : Nat → Nat → Int32) (c k : Nat) (v : Int32) : Nat → Nat → Int32 := fun c' k' => if c' = c ∧ k' = k then v else D c' k'
def dW (D : Nat → Nat → Int32) (c : Nat) (w : Nat → Int32) : Nat → Nat → Int32 := fun c' k' => if c' = c then w k' else D c' k'
theorem u3_i {G : Gm} {i c k : Nat} {v : Int32} : u3 G i c k v i = dU (G i) c k v := by
  funext c' k'
  simp only [u3, dU, true_and]
theorem u2_i {G : Gm} {i c : Nat} {w : Nat → Int32} : u2 G i c w i = dW (G i) c w := by
  funext c' k'
  simp only [u2, dW, true_and]
theorem u3_o {G : Gm} {i i' c k : Nat} {v : Int32} (h : i' ≠ i) : u3 G i c k v i' = G i' := by
  funext c' k'
  simp only [u3, h, false_and, if_false]
def Md (g g' : Gs) (i : Nat) (D : Nat → Nat → Int32) : Prop := g'.1 i = D ∧ Fr (fun i' c => i' = i ∧ c < 16) g g'
theorem Md.tr {a b c : Gs} {i : Nat} {D D' : Nat → Nat → Int32} (h1 : Md a b i D) (h2 : Md b c i D') : Md a c i D' := ⟨h2.1, h1.2.tr h2.2⟩
/-- whether x is t or below it, by f steps -/
def blw (ou : Nat → Int32) (t : Int32) : Nat → Int32 → Bool
  | 0, _ => false
  | f + 1, x => if x < nI 0 then false else if x = t then true else blw ou t f (ou x.toNatClampNeg)
