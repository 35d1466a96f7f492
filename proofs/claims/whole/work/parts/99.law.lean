/-! THE LAW'S CALLS: what they keep -/
def REL (g : Gs) (M B : Nat) : Prop := ∃ (D : Nat → Nat → Int32) (T : List Nat) (n o k w : Nat) (ea : Int32) (tx : Nat → Nat) (H : Nat → Nat → Nat → Int32), CLS g D T n o k ea tx H ∧ REF g D T n k w ea tx H ∧ INV M B D k H ∧ T.length ≤ 1400 ∧ 24600 ≤ B ∧ g.2.2 ≤ M
def IX (sc : SC) (x : Int32) : Prop := inb (x + nI 1) sc.1 = true ∧ inb (x + nI 2) sc.1 = true ∧ inb (x + nI 3) sc.1 = true ∧ inb (x + nI 4) sc.1 = true ∧ inb (x + nI 5) sc.1 = true
def BND (M B : Nat) : Prop := M + 1000 < 2 ^ 30 ∧ B + 1000 < 2 ^ 30
def NXT (sc : SC) (d : Nat) (x4 : Int32) (M B : Nat) (Φ : RS → Gs → Prop) : Prop := ∀ (g' : Gs) (w5 w6 : AV), REL g' (M + 50) (B + 50) → Xe sc d 251 1636 [vR 0 901, vR 0 20, vR 0 70, vR 0 90, vI x4, w5, w6] [] g' Φ
theorem lgc_self {a : Int64} : lg_cmp a a = nI 0 := by
  unfold lg_cmp
  rw [if_neg (fun q : a > a => Int64.lt_irrefl q), if_pos rfl]
  rfl
section TL
variable {sc : SC} {d n o k w M B : Nat} {g g5 : Gs} {Φ : RS → Gs → Prop} {D : Nat → Nat → Int32} {T : List Nat} {ea x4 r8 : Int32} {tx : Nat → Nat} {H : Nat → Nat → Nat → Int32} {A : AN} {b : CN} {e0 e1 : Nat}
theorem nI_k {k : Nat} (h : k ≤ 2) : nI k = nI 0 ↔ k = 0 := by rw [nI_eq (by omega) (by decide)]
/-- both sides' answers are compared -/
theorem tail {kk : Nat} (hk : kk ≤ 2) (t : g5.1 0 70 0 = nI kk) (c : kk = 0 → g5.2.1 0 90 0 = r8.toInt64) (K : Xe sc (d + 1300) 251 1636 [vR 0 901, vR 0 20, vR 0 70, vR 0 90, vI x4, vI (nI kk), vI r8] [] g5 Φ) : Rn sc (d + 1300) 127 [vR 0 70] g5 (fun r g9 => ∃ r12 : Int32, r = .inl (some (vI r12)) ∧ (((r12 = nI kk) → (((nI kk = nI 0) → (((lg_cmp (g9.2.1 0 90 (nI 0).toNatClampNeg) r8.toInt64 = nI 0) → (Xe sc (d + 1300) 251 1636 [vR 0 901, vR 0 20, vR 0 70, vR 0 90, vI x4, vI (nI kk), vI r8] [] g9 Φ)) ∧ (¬ (lg_cmp (g9.2.1 0 90 (nI 0).toNatClampNeg) r8.toInt64 = nI 0) → (Φ (.inl (some (vI (nI 0)))) g9)))) ∧ (¬ (nI kk = nI 0) → (Xe sc (d + 1300) 251 1636 [vR 0 901, vR 0 20, vR 0 70, vR 0 90, vI x4, vI (nI kk), vI r8] [] g9 Φ)))) ∧ (¬ (r12 = nI kk) → (Φ (.inl (some (vI (nI 0)))) g9)))) := by
  refine Rn.of rfl (v127_0 ⟨_, rfl, fun _ => ⟨fun q => ⟨fun _ => K, fun z => ?_⟩, fun _ => K⟩, fun q => absurd t q⟩)
  have e0 : (nI 0).toNatClampNeg = 0 := by decide +kernel
  rw [e0, c ((nI_k hk).mp q), lgc_self] at z
  exact absurd rfl z
theorem j90 {g1 : Gs} {v : Int64} {G5 : Nat → Nat → Nat → Int64} (e : G5 = u3 g1.2.1 0 90 (nI 0).toNatClampNeg v) : (g1.1, G5, g1.2.2).2.1 0 90 0 = v := by
  rw [e]
  rw [show (nI 0).toNatClampNeg = 0 by decide +kernel]
  exact j3_e (G := g1.2.1) (i := 0) (c := 90) (k := 0) (v := v)
theorem post1 (hA : ∀ e c, A = .inr (e, c) → e = e0 ∧ c = 1) (K : ∀ g', FCX g g' → CLS g' D T n o k ea tx H → (∀ v, A = .inl v → g'.2.1 0 90 0 = v.toInt64) → Φ (.inl (some (vI (nI (anK A))))) g') : KC g D T n o k ea tx H A (fun r g1 => (∃ r4 : Int32, r = .inl (some (vI r4)) ∧ (∀ G5 : Nat → Nat → Nat → Int64, G5 = u3 g1.2.1 0 90 (nI 0).toNatClampNeg r4.toInt64 → (Φ (.inl (some (vI (nI 0)))) (g1.1, G5, g1.2.2)))) ∨ (r = .inr e0 ∧ (Φ (.inl (some (vI (nI 1)))) g1))) := by
  intro g1 f1 c1
  rcases A with v | ⟨e, c⟩
  · exact Or.inl ⟨v, rfl, fun G5 e5 => K _ f1 c1 (fun v' q => by injection q with q; rw [← q]; exact j90 e5)⟩
  · obtain ⟨rfl, rfl⟩ := hA e c rfl
    exact Or.inr ⟨rfl, K g1 f1 c1 (fun v q => by cases q)⟩
theorem post2 (hA : ∀ e c, A = .inr (e, c) → (e = e0 ∧ c = 1) ∨ (e = e1 ∧ c = 2)) (K : ∀ g', FCX g g' → CLS g' D T n o k ea tx H → (∀ v, A = .inl v → g'.2.1 0 90 0 = v.toInt64) → Φ (.inl (some (vI (nI (anK A))))) g') : KC g D T n o k ea tx H A (fun r g1 => (∃ r4 : Int32, r = .inl (some (vI r4)) ∧ (∀ G5 : Nat → Nat → Nat → Int64, G5 = u3 g1.2.1 0 90 (nI 0).toNatClampNeg r4.toInt64 → (Φ (.inl (some (vI (nI 0)))) (g1.1, G5, g1.2.2)))) ∨ (r = .inr e0 ∧ (Φ (.inl (some (vI (nI 1)))) g1)) ∨ (r = .inr e1 ∧ (Φ (.inl (some (vI (nI 2)))) g1))) := by
  intro g1 f1 c1
  rcases A with v | ⟨e, c⟩
  · exact Or.inl ⟨v, rfl, fun G5 e5 => K _ f1 c1 (fun v' q => by injection q with q; rw [← q]; exact j90 e5)⟩
  · rcases hA e c rfl with ⟨rfl, rfl⟩ | ⟨rfl, rfl⟩
    · exact Or.inr (Or.inl ⟨rfl, K g1 f1 c1 (fun v q => by cases q)⟩)
    · exact Or.inr (Or.inr ⟨rfl, K g1 f1 c1 (fun v q => by cases q)⟩)
/-- a changing call's answer; the states after it -/
def cnK : CN → Nat
  | .inl (_, k) => k
  | .inr _ => 0
def CP (g' : Gs) (D : Nat → Nat → Int32) (T : List Nat) (n o k : Nat) (ea : Int32) (tx : Nat → Nat) (H : Nat → Nat → Nat → Int32) (b : CN) : Prop := match b with
  | .inl _ => CLS g' D T n o k ea tx H
  | .inr (v, E) => g'.2.1 0 90 0 = v.toInt64 ∧ ∃ X, EQD D X ∧ CLS g' E T n (oN o k) (kN k) ea tx (hN k H X)
theorem pst1 (hA : ∀ e c, b = .inl (e, c) → e = e0 ∧ c = 1) (K : ∀ g', FCX g g' → CP g' D T n o k ea tx H b → Φ (.inl (some (vI (nI (cnK b))))) g') : KCC g D T n o k ea tx H b (fun r g1 => (∃ r4 : Int32, r = .inl (some (vI r4)) ∧ (∀ G5 : Nat → Nat → Nat → Int64, G5 = u3 g1.2.1 0 90 (nI 0).toNatClampNeg r4.toInt64 → (Φ (.inl (some (vI (nI 0)))) (g1.1, G5, g1.2.2)))) ∨ (r = .inr e0 ∧ (Φ (.inl (some (vI (nI 1)))) g1))) := by
  refine ⟨fun e c q g1 f1 c1 => ?_, fun v E q g1 X f1 x1 c1 => ?_⟩
  · obtain ⟨rfl, rfl⟩ := hA e c q
    subst q
    exact Or.inr ⟨rfl, K g1 f1 c1⟩
  · subst q
    exact Or.inl ⟨v, rfl, fun G5 e5 => K _ f1.x ⟨j90 e5, X, x1, c1⟩⟩
theorem pst2 (hA : ∀ e c, b = .inl (e, c) → (e = e0 ∧ c = 1) ∨ (e = e1 ∧ c = 2)) (K : ∀ g', FCX g g' → CP g' D T n o k ea tx H b → Φ (.inl (some (vI (nI (cnK b))))) g') : KCC g D T n o k ea tx H b (fun r g1 => (∃ r4 : Int32, r = .inl (some (vI r4)) ∧ (∀ G5 : Nat → Nat → Nat → Int64, G5 = u3 g1.2.1 0 90 (nI 0).toNatClampNeg r4.toInt64 → (Φ (.inl (some (vI (nI 0)))) (g1.1, G5, g1.2.2)))) ∨ (r = .inr e0 ∧ (Φ (.inl (some (vI (nI 1)))) g1)) ∨ (r = .inr e1 ∧ (Φ (.inl (some (vI (nI 2)))) g1))) := by
  refine ⟨fun e c q g1 f1 c1 => ?_, fun v E q g1 X f1 x1 c1 => ?_⟩
  · rcases hA e c q with ⟨rfl, rfl⟩ | ⟨rfl, rfl⟩
    · subst q; exact Or.inr (Or.inl ⟨rfl, K g1 f1 c1⟩)
    · subst q; exact Or.inr (Or.inr ⟨rfl, K g1 f1 c1⟩)
  · subst q
    exact Or.inl ⟨v, rfl, fun G5 e5 => K _ f1.x ⟨j90 e5, X, x1, c1⟩⟩
/-- the end of a query, and of a changing call -/
theorem endQ (hR : INV M B D k H) (hb : BND M B) (hT : T.length ≤ 1400) (hB : 24600 ≤ B) (he : g.2.2 ≤ M + 50) (c : CLS g D T n o k ea tx H) (r : REF g D T n k w ea tx H) : REL g (M + 50) (B + 50) := ⟨D, T, n, o, k, w, ea, tx, H, c, r, hR.mono (by omega) (by omega) (by unfold BND at hb; omega), hT, by omega, he⟩
theorem anK_le (hA : ∀ e c, A = .inr (e, c) → c = 1 ∨ c = 2) : anK A ≤ 2 := by
  rcases A with v | ⟨e, q⟩
  · exact Nat.zero_le _
  · have := hA e q rfl
    show q ≤ 2
    omega
theorem KR.t {g1 : Gs} (hA : ∀ e c, A = .inr (e, c) → c = 1 ∨ c = 2) (c : CLS g1 D T n o k ea tx H) (v1 : ∀ v, A = .inl v → g1.2.1 0 90 0 = v.toInt64) (N : NXT sc (d + 1300) x4 M B Φ) (hR : INV M B D k H) (hb : BND M B) (hT : T.length ≤ 1400) (hB : 24600 ≤ B) (he : g1.2.2 ≤ M + 1) : KR g1 D T n k w ea tx H A (fun r g5 => ∃ r8 : Int32, r = .inl (some (vI r8)) ∧ (Rn sc (d + 1300) 127 [vR 0 70] g5 (fun r g9 => ∃ r12 : Int32, r = .inl (some (vI r12)) ∧ (((r12 = nI (anK A)) → (((nI (anK A) = nI 0) → (((lg_cmp (g9.2.1 0 90 (nI 0).toNatClampNeg) r8.toInt64 = nI 0) → (Xe sc (d + 1300) 251 1636 [vR 0 901, vR 0 20, vR 0 70, vR 0 90, vI x4, vI (nI (anK A)), vI r8] [] g9 Φ)) ∧ (¬ (lg_cmp (g9.2.1 0 90 (nI 0).toNatClampNeg) r8.toInt64 = nI 0) → (Φ (.inl (some (vI (nI 0)))) g9)))) ∧ (¬ (nI (anK A) = nI 0) → (Xe sc (d + 1300) 251 1636 [vR 0 901, vR 0 20, vR 0 70, vR 0 90, vI x4, vI (nI (anK A)), vI r8] [] g9 Φ)))) ∧ (¬ (r12 = nI (anK A)) → (Φ (.inl (some (vI (nI 0)))) g9)))))) := by
  intro g2 r f2 r2 t2 e2
  refine ⟨r, rfl, tail (anK_le hA) t2 (fun hk => ?_) (N g2 _ _ (endQ hR hb hT hB (by rw [f2.2.2]; omega) (c.frf f2) r2))⟩
  rcases A with v | ⟨e, q⟩
  · rw [e2 v rfl, ← v1 v rfl]
    exact congrFun (f2.2.1 0 90 (by decide)) 0
  · have h0 : q = 0 := hk
    have := hA e q rfl
    omega
theorem cnK_le (hA : ∀ e c, b = .inl (e, c) → c = 1 ∨ c = 2) : cnK b ≤ 2 := by
  rcases b with ⟨e, q⟩ | ⟨v, E⟩
  · have := hA e q rfl
    show q ≤ 2
    omega
  · exact Nat.zero_le _
theorem KRC.t {g1 : Gs} (hA : ∀ e c, b = .inl (e, c) → c = 1 ∨ c = 2) (c : CP g1 D T n o k ea tx H b) (N : NXT sc (d + 1300) x4 M B Φ) (hR : INV M B D k H) (hW : ∀ v E, b = .inr (v, E) → WZ E (M + 41) (B + 41)) (hk : k ≤ 8) (hb : BND M B) (hT : T.length ≤ 1400) (hB : 24600 ≤ B) (he : g1.2.2 ≤ M + 1) : KRC g1 D T n k w ea tx H b (fun r g5 => ∃ r8 : Int32, r = .inl (some (vI r8)) ∧ (Rn sc (d + 1300) 127 [vR 0 70] g5 (fun r g9 => ∃ r12 : Int32, r = .inl (some (vI r12)) ∧ (((r12 = nI (cnK b)) → (((nI (cnK b) = nI 0) → (((lg_cmp (g9.2.1 0 90 (nI 0).toNatClampNeg) r8.toInt64 = nI 0) → (Xe sc (d + 1300) 251 1636 [vR 0 901, vR 0 20, vR 0 70, vR 0 90, vI x4, vI (nI (cnK b)), vI r8] [] g9 Φ)) ∧ (¬ (lg_cmp (g9.2.1 0 90 (nI 0).toNatClampNeg) r8.toInt64 = nI 0) → (Φ (.inl (some (vI (nI 0)))) g9)))) ∧ (¬ (nI (cnK b) = nI 0) → (Xe sc (d + 1300) 251 1636 [vR 0 901, vR 0 20, vR 0 70, vR 0 90, vI x4, vI (nI (cnK b)), vI r8] [] g9 Φ)))) ∧ (¬ (r12 = nI (cnK b)) → (Φ (.inl (some (vI (nI 0)))) g9)))))) := by
  refine ⟨fun e q eb g2 r f2 r2 t2 => ?_, fun v E eb g2 f2 r2 t2 => ?_⟩
  · subst eb
    refine ⟨r, rfl, tail (cnK_le hA) t2 (fun hk => ?_) (N g2 _ _ (endQ hR hb hT hB (by rw [f2.2.2]; omega) (CLS.frf c f2) r2))⟩
    have h0 : q = 0 := hk
    have := hA e q rfl
    omega
  · subst eb
    obtain ⟨c1, X, x1, c2⟩ := c
    refine ⟨v, rfl, tail (cnK_le hA) t2 (fun _ => ?_) (N g2 _ _ ?_)⟩
    · rw [← c1]
      exact congrFun (f2.2.1 0 90 (by decide)) 0
    · have hI := hR.kp hk x1
      unfold BND at hb
      exact ⟨E, T, n, oN o k, kN k, (w + 1) % 9, ea, tx, hN k H X, c2.frf f2, r2 X x1, ⟨(hW v E rfl).mono (by omega) (by omega) (by omega), fun j hj => (hI.2 j hj).mono (by omega) (by omega) (by omega)⟩, hT, by omega, by rw [f2.2.2]; omega⟩
end TL
