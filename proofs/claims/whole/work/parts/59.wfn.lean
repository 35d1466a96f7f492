/-! WHAT STAYS WELL-FORMED: a new row, a made kind -/
def SPR (D : Nat → Nat → Int32) : Prop := ∃ s, D 0 12 = nI s ∧ 1 ≤ s ∧ s ≤ 4 ∧ (∀ a, a < nR D → ∃ z, z < s ∧ D 7 a = nI z) ∧ ∀ z, z < s → ∃ a, ROT D (nI z) a
def GRL (D : Nat → Nat → Int32) (B : Nat) : Prop := ∃ b, D 0 14 = nI b ∧ b ≤ B
def WF (D : Nat → Nat → Int32) (M B : Nat) : Prop := CW D M ∧ GNN D ∧ GRL D B ∧ BIT D ∧ OKP D ∧ RNK D ∧ UNQ D ∧ SPC D ∧ RTP D ∧ SPR D
section WFS
variable {D E : Nat → Nat → Int32} {M B : Nat}
theorem WF.cw (h : WF D M B) : CW D M := h.1
theorem WF.gn (h : WF D M B) : GNN D := h.2.1
theorem WF.gl (h : WF D M B) : GRL D B := h.2.2.1
theorem WF.bt (h : WF D M B) : BIT D := h.2.2.2.1
theorem WF.ok (h : WF D M B) : OKP D := h.2.2.2.2.1
theorem WF.rk (h : WF D M B) : RNK D := h.2.2.2.2.2.1
theorem WF.uq (h : WF D M B) : UNQ D := h.2.2.2.2.2.2.1
theorem WF.sc (h : WF D M B) : SPC D := h.2.2.2.2.2.2.2.1
theorem WF.rt (h : WF D M B) : RTP D := h.2.2.2.2.2.2.2.2.1
theorem WF.sp (h : WF D M B) : SPR D := h.2.2.2.2.2.2.2.2.2
theorem WF.n40 (h : WF D M B) : nR D ≤ 40 := h.1.1.2
theorem WF.gb (h : WF D M B) (hB : B < 2 ^ 30) : GRB D := by
  obtain ⟨b, h1, h2⟩ := h.gl
  exact ⟨b, h1, by omega⟩
theorem WF.spn (h : WF D M B) : SPN D := by
  obtain ⟨s, h1, h2, h3, -⟩ := h.sp
  exact ⟨s, h1, h2, h3⟩
theorem made_nn (h : CW D M) : ¬ D 0 13 < nI 0 := by
  obtain ⟨h1, h2, h3, -⟩ := h.2.2.1
  rw [h1]
  exact nI_nn (by have := h.1.2; omega)
theorem num_ne (h : CW D M) {a : Nat} (ha : a < nR D) : ¬ D 6 a = -nI 1 := fun q => num_nn h ha (by rw [q]; exact nI_neg1)
theorem fresh10 (h : CW D M) (ok : OKP D) {a : Nat} (ha : a < nR D) : ¬ D 10 a = D 0 13 := fun q => by
  rcases ok a ha with e | ⟨u, hu, e⟩
  · rw [e] at q; exact made_nn h (by rw [← q]; exact nI_neg1)
  · rw [e] at q; exact h.2.2.1.fresh h.1.2 hu q
theorem WF.new {f : Nat} {v t p v12 v13 : Int32} (h : WF D M B) (h40 : nR D < 40) (hf : f < nR D) (hv : ∃ z, z < nV D ∧ v = nI z) (ht : ¬ t < nI 0) (hp : onP D f p = none) (g12 : ¬ v12 < nI 0) (g13 : ¬ v13 < nI 0) : WF (aNew D (D 7 f) v t (D 6 f) p v12 v13) M B := by
  have n1 : nR (aNew D (D 7 f) v t (D 6 f) p v12 v13) = nR D + 1 := aNew_nR h40
  obtain ⟨n, hn⟩ : ∃ n, n = nR D := ⟨_, rfl⟩
  have old : ∀ {c r}, r < nR D → 6 ≤ c → aNew D (D 7 f) v t (D 6 f) p v12 v13 c r = D c r := fun hr hc => aNew_old (by omega) hc
  have cw := h.cw
  have n40 := h.n40
  have cases' : ∀ {a}, a < nR D + 1 → a = nR D ∨ a < nR D := fun ha => by omega
  -- nothing stands on the new row
  have non : ∀ a, a < nR D + 1 → ¬ aNew D (D 7 f) v t (D 6 f) p v12 v13 10 a = D 0 13 := fun a ha q => by
    rcases cases' ha with e | e
    · rw [e, aNew_10] at q; exact cw.2.2.1.fresh n40 hf q
    · rw [old e (by decide)] at q; exact fresh10 cw h.ok e q
  have noP : ∀ b, b < nR D → D 10 b = D 6 f → D 11 b = p → False := fun b hb e1 e2 => by
    have := of_decide_eq_false (fst9_none hp b hb)
    exact this ⟨e1, e2⟩
  refine ⟨aNew_CW cw h40 hv ht, fun a ha => ?_, ?_, fun a ha => ?_, fun a ha => ?_, ?_, fun a b ha hb h0 e1 e2 => ?_, fun a b ha hb e => ?_, fun a ha e => ?_, ?_⟩
  · rw [n1] at ha
    rcases cases' ha with e | e
    · rw [e, aNew_12, aNew_13]; exact ⟨g12, g13⟩
    · rw [old e (by decide), old e (by decide)]; exact h.gn a e
  · unfold GRL
    rw [aNew_014]
    exact h.gl
  · rw [n1] at ha
    rcases cases' ha with e | e
    · rw [e, aNew_14, aNew_15]; exact ⟨Or.inl rfl, Or.inl rfl⟩
    · rw [old e (by decide), old e (by decide)]; exact h.bt a e
  · rw [n1] at ha ⊢
    rcases cases' ha with e | e
    · rw [e, aNew_10]; exact Or.inr ⟨f, by omega, (old hf (by decide)).symm⟩
    · rw [old e (by decide)]
      rcases h.ok a e with q | ⟨u, hu, q⟩
      · exact Or.inl q
      · exact Or.inr ⟨u, by omega, by rw [old hu (by decide)]; exact q⟩
  · obtain ⟨rk, hrk⟩ := h.rk
    refine ⟨fun z => if z = nR D then rk f + 1 else rk z, fun a u ha hu e => ?_⟩
    rw [n1] at ha hu
    rcases cases' hu with eu | eu
    · rw [eu, aNew_6] at e; exact absurd e (non a ha)
    · rw [old eu (by decide)] at e
      show (if u = nR D then rk f + 1 else rk u) < (if a = nR D then rk f + 1 else rk a)
      rw [if_neg (by omega)]
      rcases cases' ha with ea | ea
      · rw [if_pos ea]
        rw [ea, aNew_10] at e
        have := cw.2.2.1.uq n40 hf eu e
        rw [this]
        exact Nat.lt_succ_self _
      · rw [if_neg (by omega)]
        rw [old ea (by decide)] at e
        exact hrk a u ea eu e
  · rw [n1] at ha hb
    rcases cases' ha with ea | ea
    · rcases cases' hb with eb | eb
      · omega
      · rw [ea, aNew_10, old eb (by decide)] at e1
        rw [ea, aNew_11, old eb (by decide)] at e2
        exact (noP b eb e1.symm e2.symm).elim
    · rcases cases' hb with eb | eb
      · rw [eb, aNew_10, old ea (by decide)] at e1
        rw [eb, aNew_11, old ea (by decide)] at e2
        exact (noP a ea e1 e2).elim
      · rw [old ea (by decide)] at h0
        rw [old ea (by decide), old eb (by decide)] at e1 e2
        exact h.uq a b ea eb h0 e1 e2
  · rw [n1] at ha hb
    rcases cases' hb with eb | eb
    · rw [eb, aNew_6] at e; exact absurd e (non a ha)
    · rw [old eb (by decide)] at e
      rw [old eb (by decide)]
      rcases cases' ha with ea | ea
      · rw [ea, aNew_10] at e
        rw [ea, aNew_7, cw.2.2.1.uq n40 hf eb e]
      · rw [old ea (by decide)] at e ⊢
        exact h.sc a b ea eb e
  · rw [n1] at ha
    rcases cases' ha with ea | ea
    · rw [ea, aNew_10] at e; exact absurd e (num_ne cw hf)
    · rw [old ea (by decide)] at e ⊢
      exact h.rt a ea e
  · obtain ⟨s, s1, s2, s3, s4, s5⟩ := h.sp
    refine ⟨s, by rw [aNew_012]; exact s1, s2, s3, fun a ha => ?_, fun z hz => ?_⟩
    · rw [n1] at ha
      rcases cases' ha with ea | ea
      · rw [ea, aNew_7]; exact s4 f hf
      · rw [old ea (by decide)]; exact s4 a ea
    · obtain ⟨a, r1, r2, r3, r4⟩ := s5 z hz
      refine ⟨a, by rw [n1]; omega, by rw [old r1 (by decide)]; exact r2, by rw [old r1 (by decide)]; exact r3, fun b hb e1 e2 => ?_⟩
      rw [n1] at hb
      rcases cases' hb with eb | eb
      · rw [eb, aNew_10] at e2; exact absurd e2 (num_ne cw hf)
      · rw [old eb (by decide)] at e1 e2
        exact r4 b eb e1 e2
/-- a change of groups, masters, secrets or of the last group -/
theorem WF.sm (h : WF D M B) {M' B' : Nat} (cw : CW E M') (e0 : nR E = nR D) (e12 : E 0 12 = D 0 12) (e6 : ∀ a, E 6 a = D 6 a) (e7 : ∀ a, E 7 a = D 7 a) (e10 : ∀ a, E 10 a = D 10 a) (e11 : ∀ a, E 11 a = D 11 a) (gn : GNN E) (gl : GRL E B') (bt : BIT E) : WF E M' B' := by
  refine ⟨cw, gn, gl, bt, fun a ha => ?_, ?_, fun a b ha hb h0 e1 e2 => ?_, fun a b ha hb e => ?_, fun a ha e => ?_, ?_⟩
  · rw [e0] at ha ⊢
    rw [e10]
    rcases h.ok a ha with q | ⟨u, hu, q⟩
    · exact Or.inl q
    · exact Or.inr ⟨u, hu, by rw [e6]; exact q⟩
  · obtain ⟨rk, hrk⟩ := h.rk
    refine ⟨rk, fun a u ha hu e => hrk a u (by omega) (by omega) ?_⟩
    rw [e10, e6] at e
    exact e
  · rw [e0] at ha hb
    rw [e10] at h0
    rw [e10, e10] at e1
    rw [e11, e11] at e2
    exact h.uq a b ha hb h0 e1 e2
  · rw [e0] at ha hb
    rw [e10, e6] at e
    rw [e7, e7]
    exact h.sc a b ha hb e
  · rw [e0] at ha
    rw [e10] at e
    rw [e11]
    exact h.rt a ha e
  · obtain ⟨s, s1, s2, s3, s4, s5⟩ := h.sp
    refine ⟨s, by rw [e12]; exact s1, s2, s3, fun a ha => by rw [e7]; exact s4 a (by omega), fun z hz => ?_⟩
    obtain ⟨a, r1, r2, r3, r4⟩ := s5 z hz
    exact ⟨a, by omega, by rw [e7]; exact r2, by rw [e10]; exact r3, fun b hb q1 q2 => by rw [e7] at q1; rw [e10] at q2; exact r4 b (by omega) q1 q2⟩
theorem WF.mono (h : WF D M B) {B' : Nat} (hb : B ≤ B') : WF D M B' := by
  obtain ⟨a, b, ⟨z, h1, h2⟩, d⟩ := h
  exact ⟨a, b, ⟨z, h1, by omega⟩, d⟩
end WFS
