/-! THE CLASS'S ROWS OF MOUNTS AND ITS VOLUMES: what its changing methods do -/
def aAdd (D : Nat → Nat → Int32) (n : Nat) (sp v t : Int32) : Nat → Nat → Int32 :=
  dU (dU (dU (dU (dU (dU (dU (dU (dU (dU (dU (dU D 6 n (D 0 13)) 7 n sp) 8 n v) 9 n t) 10 n (-nI 1)) 11 n (-nI 1)) 12 n (nI 0)) 13 n (nI 0)) 14 n (nI 0)) 15 n (nI 0)) 0 11 (nI (n + 1))) 0 13 (D 0 13 + nI 1)
def aCp (D : Nat → Nat → Int32) (a b : Nat) : Nat → Nat → Int32 := fun c k => if 6 ≤ c ∧ c < 16 ∧ k = b then D c a else D c k
def aRem (D : Nat → Nat → Int32) (q n : Nat) : Nat → Nat → Int32 := fun c k => if 6 ≤ c ∧ c < 16 ∧ q ≤ k ∧ k + 1 < n then D c (k + 1) else if c = 0 ∧ k = 11 then nI (n - 1) else D c k
section SU
variable {sc : SC} {d i n : Nat} {g : Gs} {Φ : RS → Gs → Prop}
theorem s37 {sp v t : Int32} (hn : g.1 i 0 11 = nI n) (h40 : n < 40) (k : ∀ g', Md g g' i (aAdd (g.1 i) n sp v t) → Φ (.inl (some (vI (nI n)))) g') : Rn sc (d + 1) 37 [vR i 0, vI sp, vI v, vI t] g Φ := by
  refine Rn.of rfl (v37_0 ?_)
  simp (disch := omega) only [nI_ltI, nI_eq, nI_clamp, nI_add, nI_mul, inb_nI, nI_neg1, nI_ne1, nI_n1e, nI_neg1e, Nat.not_lt_zero, Nat.lt_irrefl, true_and, and_true, true_implies, false_implies, not_true_eq_false, not_false_eq_true, implies_true, forall_const, if_true, if_false, Nat.zero_add, Nat.add_zero, hn, h40]
  intro G1 e1 G2 e2 G3 e3 G4 e4 G5 e5 G6 e6 G7 e7 G8 e8 G9 e9 G10 e10 G11 e11 G12 e12
  have r1 : G10 i 0 11 = nI n := by
    rw [e10, e9, e8, e7, e6, e5, e4, e3, e2, e1]
    simp [u3, hn]
  have r2 : G11 i 0 13 = g.1 i 0 13 := by
    rw [e11, e10, e9, e8, e7, e6, e5, e4, e3, e2, e1]
    simp [u3]
  rw [r1, nI_add] at e11
  rw [r2] at e12
  refine k _ ⟨?_, ?_⟩
  · show G12 i = _
    rw [e12, u3_i, e11, u3_i, e10, u3_i, e9, u3_i, e8, u3_i, e7, u3_i, e6, u3_i, e5, u3_i, e4, u3_i, e3, u3_i, e2, u3_i, e1, u3_i]
    rfl
  · subst e1; subst e2; subst e3; subst e4; subst e5; subst e6; subst e7; subst e8; subst e9; subst e10; subst e11; subst e12
    repeat (first | exact Fr.rf _ | refine Fr.u3 ?_ ⟨rfl, by decide⟩)
theorem c16 {c : Nat} (h : 6 ≤ c ∧ c < 16) : c = 6 ∨ c = 7 ∨ c = 8 ∨ c = 9 ∨ c = 10 ∨ c = 11 ∨ c = 12 ∨ c = 13 ∨ c = 14 ∨ c = 15 := by omega
theorem s39 {a b : Nat} (ha : a < 40) (hb : b < 40) (hab : a ≠ b) (k : ∀ g', Md g g' i (aCp (g.1 i) a b) → Φ (.inl none) g') : Rn sc (d + 1) 39 [vR i 0, vI (nI a), vI (nI b)] g Φ := by
  refine Rn.of rfl (v39_0 ?_)
  simp (disch := omega) only [nI_ltI, nI_eq, nI_clamp, nI_add, nI_mul, inb_nI, nI_neg1, nI_ne1, nI_n1e, nI_neg1e, Nat.not_lt_zero, Nat.lt_irrefl, true_and, and_true, true_implies, false_implies, not_true_eq_false, not_false_eq_true, implies_true, forall_const, if_true, if_false, Nat.zero_add, Nat.add_zero]
  intro G1 e1 G2 e2 G3 e3 G4 e4 G5 e5 G6 e6 G7 e7 G8 e8 G9 e9 G10 e10
  subst e1; subst e2; subst e3; subst e4; subst e5; subst e6; subst e7; subst e8; subst e9; subst e10
  refine k _ ⟨?_, ?_⟩
  · funext c j
    unfold aCp
    by_cases hc : 6 ≤ c ∧ c < 16
    · by_cases hj : j = b
      · rw [if_pos ⟨hc.1, hc.2, hj⟩]
        rcases c16 hc with h | h | h | h | h | h | h | h | h | h <;> subst h <;> subst hj <;> simp [u3, hab]
      · rw [if_neg (fun q => hj q.2.2)]
        simp [u3, hj]
    · rw [if_neg (fun q => hc ⟨q.1, q.2.1⟩)]
      have h6 : c ≠ 6 ∧ c ≠ 7 ∧ c ≠ 8 ∧ c ≠ 9 ∧ c ≠ 10 ∧ c ≠ 11 ∧ c ≠ 12 ∧ c ≠ 13 ∧ c ≠ 14 ∧ c ≠ 15 := by omega
      simp [u3, h6]
  · repeat (first | exact Fr.rf _ | refine Fr.u3 ?_ ⟨rfl, by decide⟩)
theorem s38 {q : Nat} (hn : g.1 i 0 11 = nI n) (h40 : n ≤ 40) (hq : q < n) (k : ∀ g', Md g g' i (aRem (g.1 i) q n) → Φ (.inl none) g') : Rn sc (d + 2) 38 [vR i 0, vI (nI q)] g Φ := by
  refine Rn.of rfl (v38_0 ?_)
  have e1 : nI n - nI 1 = nI (n - 1) := by
    obtain ⟨z, rfl⟩ : ∃ z, n = z + 1 := ⟨n - 1, by omega⟩
    exact nI_pred z
  rw [hn, e1]
  intro G1 hG
  have loop : ∀ (f j : Nat) (g1 : Gs), j + f = n - 1 → q ≤ j → (∀ c k, g1.1 i c k = if 6 ≤ c ∧ c < 16 ∧ q ≤ k ∧ k < j then g.1 i c (k + 1) else if c = 0 ∧ k = 11 then nI (n - 1) else g.1 i c k) → Fr (fun i' c => i' = i ∧ c < 16) g g1 → Xe sc (d + 1) 38 12 [vR i 0, vI (nI q), vI (nI j)] [] g1 Φ := by
    intro f
    induction f with
    | zero =>
      intro j g1 hj hqj hD hF
      refine v38_12 ?_
      have h11 : g1.1 i 0 11 = nI (n - 1) := by rw [hD]; simp
      obtain rfl : j = n - 1 := by omega
      simp (disch := omega) only [nI_ltI, nI_eq, nI_clamp, nI_add, nI_mul, inb_nI, nI_neg1, nI_ne1, nI_n1e, nI_neg1e, Nat.not_lt_zero, Nat.lt_irrefl, true_and, and_true, true_implies, false_implies, not_true_eq_false, not_false_eq_true, implies_true, forall_const, forall_eq, if_true, if_false, Nat.zero_add, Nat.add_zero, h11]
      refine k g1 ⟨?_, hF⟩
      funext c x
      rw [hD]
      unfold aRem
      by_cases hx : x + 1 < n
      · simp [hx, show x < n - 1 by omega]
      · simp [hx, show ¬ x < n - 1 by omega]
    | succ f ih =>
      intro j g1 hj hqj hD hF
      refine v38_12 ?_
      have h11 : g1.1 i 0 11 = nI (n - 1) := by rw [hD]; simp
      have hj2 : j < n - 1 := by omega
      simp (disch := omega) only [nI_ltI, nI_eq, nI_clamp, nI_add, nI_mul, inb_nI, nI_neg1, nI_ne1, nI_n1e, nI_neg1e, Nat.not_lt_zero, Nat.lt_irrefl, true_and, and_true, true_implies, false_implies, not_true_eq_false, not_false_eq_true, implies_true, forall_const, forall_eq, if_true, if_false, Nat.zero_add, Nat.add_zero, h11, hj2]
      refine s39 (by omega) (by omega) (by omega) (fun g2 hm => ⟨rfl, ?_⟩)
      refine ih (j + 1) g2 (by omega) (by omega) (fun c x => ?_) (hF.tr hm.2)
      rw [hm.1]
      unfold aCp
      rw [hD, hD]
      by_cases hc : 6 ≤ c ∧ c < 16
      · have hc0 : ¬ c = 0 := by omega
        by_cases hx : x = j
        · subst hx
          simp [hc, hc0, hqj]
          exact fun _ h => absurd h (by omega)
        · by_cases hx2 : x < j
          · simp [hc, hc0, hx, hx2, show x < j + 1 by omega]
          · simp [hc, hc0, hx, hx2, show ¬ x < j + 1 by omega]
      · have hc1 : ∀ P : Prop, ¬ (6 ≤ c ∧ c < 16 ∧ P) := fun P z => hc ⟨z.1, z.2.1⟩
        simp only [hc1, if_false]
  refine loop (n - 1 - q) q (G1, g.2) (by omega) (Nat.le_refl _) (fun c x => ?_) ?_
  · show G1 i c x = _
    rw [hG, if_neg (by omega)]
    simp [u3]
  · rw [hG]
    exact Fr.u3 (Fr.rf g) ⟨rfl, by decide⟩
end SU
