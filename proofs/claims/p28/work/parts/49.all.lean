/-! all of them -/
theorem ev_d1 {f : Nat → Bool} (h0 : f 0 = true) (h1 : f 1 = true) (h2 : f 2 = true) (h3 : f 3 = true) : ∀ d, d < 4 → f d = true := by
  intro d hd
  have : d = 0 ∨ d = 1 ∨ d = 2 ∨ d = 3 := by omega
  rcases this with rfl | rfl | rfl | rfl
  · exact h0
  · exact h1
  · exact h2
  · exact h3
theorem ev_d2 {f : Nat → Bool} (h0 : (f 0 && f 1) = true) (h1 : (f 2 && f 3) = true) : ∀ d, d < 4 → f d = true := by
  rw [Bool.and_eq_true] at h0 h1
  exact ev_d1 h0.1 h0.2 h1.1 h1.2
theorem v_0_0_0_1 : ∀ d, d < 4 → okG (runF 0 0 0 1 d) = true := ev_d2 (f := fun d => okG (runF 0 0 0 1 d)) e_0_0_0_1_01 e_0_0_0_1_23
theorem v_0_0_1_2 : ∀ d, d < 4 → okG (runF 0 0 1 2 d) = true := ev_d2 (f := fun d => okG (runF 0 0 1 2 d)) e_0_0_1_2_01 e_0_0_1_2_23
theorem v_0_0_1_3 : ∀ d, d < 4 → okG (runF 0 0 1 3 d) = true := ev_d2 (f := fun d => okG (runF 0 0 1 3 d)) e_0_0_1_3_01 e_0_0_1_3_23
theorem v_0_0_2_2 : ∀ d, d < 4 → okG (runF 0 0 2 2 d) = true := ev_d2 (f := fun d => okG (runF 0 0 2 2 d)) e_0_0_2_2_01 e_0_0_2_2_23
theorem v_0_0_2_3 : ∀ d, d < 4 → okG (runF 0 0 2 3 d) = true := ev_d2 (f := fun d => okG (runF 0 0 2 3 d)) e_0_0_2_3_01 e_0_0_2_3_23
theorem v_0_1_0_1 : ∀ d, d < 4 → okG (runF 0 1 0 1 d) = true := ev_d2 (f := fun d => okG (runF 0 1 0 1 d)) e_0_1_0_1_01 e_0_1_0_1_23
theorem v_0_1_1_2 : ∀ d, d < 4 → okG (runF 0 1 1 2 d) = true := ev_d2 (f := fun d => okG (runF 0 1 1 2 d)) e_0_1_1_2_01 e_0_1_1_2_23
theorem v_0_1_1_3 : ∀ d, d < 4 → okG (runF 0 1 1 3 d) = true := ev_d2 (f := fun d => okG (runF 0 1 1 3 d)) e_0_1_1_3_01 e_0_1_1_3_23
theorem v_0_1_2_2 : ∀ d, d < 4 → okG (runF 0 1 2 2 d) = true := ev_d2 (f := fun d => okG (runF 0 1 2 2 d)) e_0_1_2_2_01 e_0_1_2_2_23
theorem v_0_1_2_3 : ∀ d, d < 4 → okG (runF 0 1 2 3 d) = true := ev_d2 (f := fun d => okG (runF 0 1 2 3 d)) e_0_1_2_3_01 e_0_1_2_3_23
theorem v_0_2_0_1 : ∀ d, d < 4 → okG (runF 0 2 0 1 d) = true := ev_d2 (f := fun d => okG (runF 0 2 0 1 d)) e_0_2_0_1_01 e_0_2_0_1_23
theorem v_0_2_1_2 : ∀ d, d < 4 → okG (runF 0 2 1 2 d) = true := ev_d2 (f := fun d => okG (runF 0 2 1 2 d)) e_0_2_1_2_01 e_0_2_1_2_23
theorem v_0_2_1_3 : ∀ d, d < 4 → okG (runF 0 2 1 3 d) = true := ev_d2 (f := fun d => okG (runF 0 2 1 3 d)) e_0_2_1_3_01 e_0_2_1_3_23
theorem v_0_2_2_2 : ∀ d, d < 4 → okG (runF 0 2 2 2 d) = true := ev_d2 (f := fun d => okG (runF 0 2 2 2 d)) e_0_2_2_2_01 e_0_2_2_2_23
theorem v_0_2_2_3 : ∀ d, d < 4 → okG (runF 0 2 2 3 d) = true := ev_d2 (f := fun d => okG (runF 0 2 2 3 d)) e_0_2_2_3_01 e_0_2_2_3_23
theorem v_1_0_0_1 : ∀ d, d < 4 → okG (runF 1 0 0 1 d) = true := ev_d2 (f := fun d => okG (runF 1 0 0 1 d)) e_1_0_0_1_01 e_1_0_0_1_23
theorem v_1_0_1_2 : ∀ d, d < 4 → okG (runF 1 0 1 2 d) = true := ev_d2 (f := fun d => okG (runF 1 0 1 2 d)) e_1_0_1_2_01 e_1_0_1_2_23
theorem v_1_0_1_3 : ∀ d, d < 4 → okG (runF 1 0 1 3 d) = true := ev_d2 (f := fun d => okG (runF 1 0 1 3 d)) e_1_0_1_3_01 e_1_0_1_3_23
theorem v_1_0_2_2 : ∀ d, d < 4 → okG (runF 1 0 2 2 d) = true := ev_d2 (f := fun d => okG (runF 1 0 2 2 d)) e_1_0_2_2_01 e_1_0_2_2_23
theorem v_1_0_2_3 : ∀ d, d < 4 → okG (runF 1 0 2 3 d) = true := ev_d2 (f := fun d => okG (runF 1 0 2 3 d)) e_1_0_2_3_01 e_1_0_2_3_23
theorem v_1_1_0_1 : ∀ d, d < 4 → okG (runF 1 1 0 1 d) = true := ev_d2 (f := fun d => okG (runF 1 1 0 1 d)) e_1_1_0_1_01 e_1_1_0_1_23
theorem v_1_1_1_2 : ∀ d, d < 4 → okG (runF 1 1 1 2 d) = true := ev_d2 (f := fun d => okG (runF 1 1 1 2 d)) e_1_1_1_2_01 e_1_1_1_2_23
theorem v_1_1_1_3 : ∀ d, d < 4 → okG (runF 1 1 1 3 d) = true := ev_d2 (f := fun d => okG (runF 1 1 1 3 d)) e_1_1_1_3_01 e_1_1_1_3_23
theorem v_1_1_2_2 : ∀ d, d < 4 → okG (runF 1 1 2 2 d) = true := ev_d2 (f := fun d => okG (runF 1 1 2 2 d)) e_1_1_2_2_01 e_1_1_2_2_23
theorem v_1_1_2_3 : ∀ d, d < 4 → okG (runF 1 1 2 3 d) = true := ev_d2 (f := fun d => okG (runF 1 1 2 3 d)) e_1_1_2_3_01 e_1_1_2_3_23
theorem v_1_2_0_1 : ∀ d, d < 4 → okG (runF 1 2 0 1 d) = true := ev_d1 (f := fun d => okG (runF 1 2 0 1 d)) e_1_2_0_1_0 e_1_2_0_1_1 e_1_2_0_1_2 e_1_2_0_1_3
theorem v_1_2_1_2 : ∀ d, d < 4 → okG (runF 1 2 1 2 d) = true := ev_d1 (f := fun d => okG (runF 1 2 1 2 d)) e_1_2_1_2_0 e_1_2_1_2_1 e_1_2_1_2_2 e_1_2_1_2_3
theorem v_1_2_1_3 : ∀ d, d < 4 → okG (runF 1 2 1 3 d) = true := ev_d1 (f := fun d => okG (runF 1 2 1 3 d)) e_1_2_1_3_0 e_1_2_1_3_1 e_1_2_1_3_2 e_1_2_1_3_3
theorem v_1_2_2_2 : ∀ d, d < 4 → okG (runF 1 2 2 2 d) = true := ev_d1 (f := fun d => okG (runF 1 2 2 2 d)) e_1_2_2_2_0 e_1_2_2_2_1 e_1_2_2_2_2 e_1_2_2_2_3
theorem v_1_2_2_3 : ∀ d, d < 4 → okG (runF 1 2 2 3 d) = true := ev_d1 (f := fun d => okG (runF 1 2 2 3 d)) e_1_2_2_3_0 e_1_2_2_3_1 e_1_2_2_3_2 e_1_2_2_3_3
theorem v_2_0_0_1 : ∀ d, d < 4 → okG (runF 2 0 0 1 d) = true := ev_d2 (f := fun d => okG (runF 2 0 0 1 d)) e_2_0_0_1_01 e_2_0_0_1_23
theorem v_2_0_1_2 : ∀ d, d < 4 → okG (runF 2 0 1 2 d) = true := ev_d2 (f := fun d => okG (runF 2 0 1 2 d)) e_2_0_1_2_01 e_2_0_1_2_23
theorem v_2_0_1_3 : ∀ d, d < 4 → okG (runF 2 0 1 3 d) = true := ev_d2 (f := fun d => okG (runF 2 0 1 3 d)) e_2_0_1_3_01 e_2_0_1_3_23
theorem v_2_0_2_2 : ∀ d, d < 4 → okG (runF 2 0 2 2 d) = true := ev_d2 (f := fun d => okG (runF 2 0 2 2 d)) e_2_0_2_2_01 e_2_0_2_2_23
theorem v_2_0_2_3 : ∀ d, d < 4 → okG (runF 2 0 2 3 d) = true := ev_d2 (f := fun d => okG (runF 2 0 2 3 d)) e_2_0_2_3_01 e_2_0_2_3_23
theorem v_2_1_0_1 : ∀ d, d < 4 → okG (runF 2 1 0 1 d) = true := ev_d1 (f := fun d => okG (runF 2 1 0 1 d)) e_2_1_0_1_0 e_2_1_0_1_1 e_2_1_0_1_2 e_2_1_0_1_3
theorem v_2_1_1_2 : ∀ d, d < 4 → okG (runF 2 1 1 2 d) = true := ev_d1 (f := fun d => okG (runF 2 1 1 2 d)) e_2_1_1_2_0 e_2_1_1_2_1 e_2_1_1_2_2 e_2_1_1_2_3
theorem v_2_1_1_3 : ∀ d, d < 4 → okG (runF 2 1 1 3 d) = true := ev_d1 (f := fun d => okG (runF 2 1 1 3 d)) e_2_1_1_3_0 e_2_1_1_3_1 e_2_1_1_3_2 e_2_1_1_3_3
theorem v_2_1_2_2 : ∀ d, d < 4 → okG (runF 2 1 2 2 d) = true := ev_d1 (f := fun d => okG (runF 2 1 2 2 d)) e_2_1_2_2_0 e_2_1_2_2_1 e_2_1_2_2_2 e_2_1_2_2_3
theorem v_2_1_2_3 : ∀ d, d < 4 → okG (runF 2 1 2 3 d) = true := ev_d1 (f := fun d => okG (runF 2 1 2 3 d)) e_2_1_2_3_0 e_2_1_2_3_1 e_2_1_2_3_2 e_2_1_2_3_3
theorem v_2_2_0_1 : ∀ d, d < 4 → okG (runF 2 2 0 1 d) = true := ev_d1 (f := fun d => okG (runF 2 2 0 1 d)) e_2_2_0_1_0 e_2_2_0_1_1 e_2_2_0_1_2 e_2_2_0_1_3
theorem v_2_2_1_2 : ∀ d, d < 4 → okG (runF 2 2 1 2 d) = true := ev_d1 (f := fun d => okG (runF 2 2 1 2 d)) e_2_2_1_2_0 e_2_2_1_2_1 e_2_2_1_2_2 e_2_2_1_2_3
theorem v_2_2_1_3 : ∀ d, d < 4 → okG (runF 2 2 1 3 d) = true := ev_d1 (f := fun d => okG (runF 2 2 1 3 d)) e_2_2_1_3_0 e_2_2_1_3_1 e_2_2_1_3_2 e_2_2_1_3_3
theorem v_2_2_2_2 : ∀ d, d < 4 → okG (runF 2 2 2 2 d) = true := ev_d1 (f := fun d => okG (runF 2 2 2 2 d)) e_2_2_2_2_0 e_2_2_2_2_1 e_2_2_2_2_2 e_2_2_2_2_3
theorem v_2_2_2_3 : ∀ d, d < 4 → okG (runF 2 2 2 3 d) = true := ev_d1 (f := fun d => okG (runF 2 2 2 3 d)) e_2_2_2_3_0 e_2_2_2_3_1 e_2_2_2_3_2 e_2_2_2_3_3
theorem ev_all : ∀ p s c sp d : Nat, p < 3 → s < 3 → c < 3 → d < 4 → ((c = 0 ∧ sp = 1) ∨ (c ≠ 0 ∧ (sp = 2 ∨ sp = 3))) → okG (runF p s c sp d) = true := by
  intro p s c sp d hp hs hc hd hcs
  have P : p = 0 ∨ p = 1 ∨ p = 2 := by omega
  have S : s = 0 ∨ s = 1 ∨ s = 2 := by omega
  have C : (c = 0 ∧ sp = 1) ∨ (c = 1 ∧ sp = 2) ∨ (c = 1 ∧ sp = 3) ∨ (c = 2 ∧ sp = 2) ∨ (c = 2 ∧ sp = 3) := by omega
  rcases P with rfl | rfl | rfl <;> rcases S with rfl | rfl | rfl <;> rcases C with ⟨rfl, rfl⟩ | ⟨rfl, rfl⟩ | ⟨rfl, rfl⟩ | ⟨rfl, rfl⟩ | ⟨rfl, rfl⟩
  · exact v_0_0_0_1 d hd
  · exact v_0_0_1_2 d hd
  · exact v_0_0_1_3 d hd
  · exact v_0_0_2_2 d hd
  · exact v_0_0_2_3 d hd
  · exact v_0_1_0_1 d hd
  · exact v_0_1_1_2 d hd
  · exact v_0_1_1_3 d hd
  · exact v_0_1_2_2 d hd
  · exact v_0_1_2_3 d hd
  · exact v_0_2_0_1 d hd
  · exact v_0_2_1_2 d hd
  · exact v_0_2_1_3 d hd
  · exact v_0_2_2_2 d hd
  · exact v_0_2_2_3 d hd
  · exact v_1_0_0_1 d hd
  · exact v_1_0_1_2 d hd
  · exact v_1_0_1_3 d hd
  · exact v_1_0_2_2 d hd
  · exact v_1_0_2_3 d hd
  · exact v_1_1_0_1 d hd
  · exact v_1_1_1_2 d hd
  · exact v_1_1_1_3 d hd
  · exact v_1_1_2_2 d hd
  · exact v_1_1_2_3 d hd
  · exact v_1_2_0_1 d hd
  · exact v_1_2_1_2 d hd
  · exact v_1_2_1_3 d hd
  · exact v_1_2_2_2 d hd
  · exact v_1_2_2_3 d hd
  · exact v_2_0_0_1 d hd
  · exact v_2_0_1_2 d hd
  · exact v_2_0_1_3 d hd
  · exact v_2_0_2_2 d hd
  · exact v_2_0_2_3 d hd
  · exact v_2_1_0_1 d hd
  · exact v_2_1_1_2 d hd
  · exact v_2_1_1_3 d hd
  · exact v_2_1_2_2 d hd
  · exact v_2_1_2_3 d hd
  · exact v_2_2_0_1 d hd
  · exact v_2_2_1_2 d hd
  · exact v_2_2_1_3 d hd
  · exact v_2_2_2_2 d hd
  · exact v_2_2_2_3 d hd
