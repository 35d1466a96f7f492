/-! THE REFERENCE'S ROWS: changes -/
theorem u3_nc {G : Gm} {i c k i' c' k' : Nat} {v : Int32} (h : c' ≠ c) : u3 G i c k v i' c' k' = G i' c' k' := by
  unfold u3
  rw [if_neg (fun q => h q.2.1)]
theorem u3_ek {G : Gm} {i c k k' : Nat} {v : Int32} (h : k' = k) : u3 G i c k v i c k' = v := by
  unfold u3
  rw [if_pos ⟨rfl, rfl, h⟩]
theorem u3_nk {G : Gm} {i c k i' c' k' : Nat} {v : Int32} (h : k' ≠ k) : u3 G i c k v i' c' k' = G i' c' k' := by
  unfold u3
  rw [if_neg (fun q => h q.2.2)]
theorem u3_row {G : Gm} {i c k : Nat} {v : Int32} : u3 G i c k v i c = upd (G i c) k v := by
  funext j
  unfold u3 upd
  by_cases h : j = k
  · rw [if_pos ⟨rfl, rfl, h⟩, if_pos h]
  · rw [if_neg (fun q => h q.2.2), if_neg h]
theorem u3_rowc {G : Gm} {i c k i' c' : Nat} {v : Int32} (h : c' ≠ c) : u3 G i c k v i' c' = G i' c' := funext fun _ => u3_nc h
theorem upd_e {f : Nat → Int32} {k j : Nat} {v : Int32} (h : j = k) : upd f k v j = v := by unfold upd; rw [if_pos h]
theorem upd_n {f : Nat → Int32} {k j : Nat} {v : Int32} (h : j ≠ k) : upd f k v j = f j := by unfold upd; rw [if_neg h]
/-- the indexes of a window that hold mounts, and their numbers -/
def MW (w j : Nat) : Prop := (780 * w < j ∧ j < 780 * w + 5) ∨ (780 * w + 369 ≤ j ∧ j < 780 * w + 780)
def Fm (w : Nat) (g g' : Gs) : Prop := Fr (fun i c => i = 0 ∧ c = 71) g g' ∧ ∀ j, ¬ MW w j → g'.1 0 71 j = g.1 0 71 j
theorem Fm.rf (w : Nat) (g : Gs) : Fm w g g := ⟨Fr.rf g, fun _ _ => rfl⟩
theorem Fm.tr {w : Nat} {a b c : Gs} (h1 : Fm w a b) (h2 : Fm w b c) : Fm w a c := ⟨h1.1.tr h2.1, fun j hj => (h2.2 j hj).trans (h1.2 j hj)⟩
theorem Fm.put {w j : Nat} {g : Gs} {v : Int32} (h : MW w j) : Fm w g (u3 g.1 0 71 j v, g.2) := by
  refine ⟨Fr.u3 (Fr.rf g) ⟨rfl, rfl⟩, fun x hx => ?_⟩
  exact u3_nk (fun e => hx (e ▸ h))
/-- the reference's window w holds D -/
def MC (g : Gs) (w : Nat) (D : Nat → Nat → Int32) : Prop := g.1 0 70 2 = nI w ∧ w < 10 ∧ RMM (g.1 0 71) w D ∧ ROK D ∧ RMV (g.1 0 71) w D ∧ VOK D
theorem MC.w {g : Gs} {w : Nat} {D : Nat → Nat → Int32} (h : MC g w D) : g.1 0 70 2 = nI w := h.1
theorem MC.l {g : Gs} {w : Nat} {D : Nat → Nat → Int32} (h : MC g w D) : w < 10 := h.2.1
theorem MC.m {g : Gs} {w : Nat} {D : Nat → Nat → Int32} (h : MC g w D) : RMM (g.1 0 71) w D := h.2.2.1
theorem MC.r {g : Gs} {w : Nat} {D : Nat → Nat → Int32} (h : MC g w D) : ROK D := h.2.2.2.1
theorem MC.v {g : Gs} {w : Nat} {D : Nat → Nat → Int32} (h : MC g w D) : RMV (g.1 0 71) w D := h.2.2.2.2.1
theorem MC.vk {g : Gs} {w : Nat} {D : Nat → Nat → Int32} (h : MC g w D) : VOK D := h.2.2.2.2.2
theorem MC.n {g : Gs} {w : Nat} {D : Nat → Nat → Int32} (h : MC g w D) : g.1 0 71 (780 * w + 2) = nI (nR D) := h.m.n h.r
/-- the volumes' words are the same of two -/
def SameV (D D' : Nat → Nat → Int32) : Prop := ∀ c, 1 ≤ c → c ≤ 5 → D' c = D c
theorem sameV_nV {D D' : Nat → Nat → Int32} (h : SameV D D') : nV D' = nV D := by unfold nV; rw [h 1 (by decide) (by decide)]
theorem sameV_nS {D D' : Nat → Nat → Int32} (h : SameV D D') (v : Nat) : nS D' v = nS D v := by unfold nS; rw [h 3 (by decide) (by decide)]
theorem SameV.rf (D : Nat → Nat → Int32) : SameV D D := fun _ _ _ => rfl
theorem SameV.tr {a b c : Nat → Nat → Int32} (h1 : SameV a b) (h2 : SameV b c) : SameV a c := fun x p q => (h2 x p q).trans (h1 x p q)
theorem sameV_dU {D : Nat → Nat → Int32} {c k : Nat} {v : Int32} (h : c = 0 ∨ 6 ≤ c) : SameV D (dU D c k v) := fun x p q => by
  funext j
  unfold dU
  rw [if_neg (by omega)]
theorem VOK.same {D D' : Nat → Nat → Int32} (h : SameV D D') (hv : VOK D) : VOK D' := by
  unfold VOK
  rw [sameV_nV h, h 1 (by decide) (by decide), h 3 (by decide) (by decide), h 5 (by decide) (by decide)]
  simp only [sameV_nS h]
  exact hv
theorem RMV.same {A A' : Nat → Int32} {w : Nat} {D D' : Nat → Nat → Int32} (h : SameV D D') (hv : VOK D) (hA : ∀ j, ¬ MW w j → A' j = A j) (hR : RMV A w D) : RMV A' w D' := by
  obtain ⟨h1, h2, h3⟩ := hR
  have v4 := hv.2.1
  unfold RMV
  rw [sameV_nV h, h 1 (by decide) (by decide), h 2 (by decide) (by decide), h 3 (by decide) (by decide), h 4 (by decide) (by decide), h 5 (by decide) (by decide)]
  simp only [sameV_nS h]
  refine ⟨?_, fun v q => ?_, fun v e q p => ?_⟩
  · rw [hA _ (by unfold MW; omega)]; exact h1
  · obtain ⟨a, L, b1, b2, b3, b4⟩ := h2 v q
    refine ⟨?_, L, b1, b2, b3, fun k hk => ?_⟩
    · rw [hA _ (by unfold MW; omega)]; exact a
    · rw [← b4 k hk]
      exact hA _ (by unfold MW; omega)
  · have s12 := (hv.2.2 v q).2.2.1
    obtain ⟨a, L, b1, b2, b3, b4⟩ := h3 v e q p
    refine ⟨?_, L, b1, b2, b3, fun k hk => ?_⟩
    · rw [hA _ (by unfold MW; omega)]; exact a
    · rw [← b4 k hk]
      exact hA _ (by unfold MW; omega)
theorem nR_dU {D : Nat → Nat → Int32} {c k : Nat} {v : Int32} (h : ¬ (c = 0 ∧ k = 11)) : nR (dU D c k v) = nR D := by
  unfold nR dU
  rw [if_neg (fun q => h ⟨q.1.symm, q.2.symm⟩)]
theorem rok_dU {D : Nat → Nat → Int32} {c k : Nat} {v : Int32} (h : ¬ (c = 0 ∧ k = 11)) (hr : ROK D) : ROK (dU D c k v) := by
  unfold ROK
  rw [nR_dU h]
  refine ⟨?_, hr.2⟩
  unfold dU
  rw [if_neg (fun q => h ⟨q.1.symm, q.2.symm⟩)]
  exact hr.1
/-- a mount's number is put -/
theorem MC.put {g : Gs} {w r k : Nat} {D : Nat → Nat → Int32} {v : Int32} (h : MC g w D) (hr : r < nR D) (hk : k < 10) : MC (u3 g.1 0 71 (780 * w + (369 + 10 * r + k)) v, g.2) w (dU D (6 + k) r v) := by
  have h40 := h.r.2
  have hne : ¬ (6 + k = 0 ∧ r = 11) := by omega
  have hMW : MW w (780 * w + (369 + 10 * r + k)) := by unfold MW; omega
  have hs : SameV D (dU D (6 + k) r v) := sameV_dU (Or.inr (by omega))
  refine ⟨?_, h.l, ?_, rok_dU hne h.r, RMV.same hs h.vk (Fm.put hMW).2 h.v, h.vk.same hs⟩
  · show u3 g.1 0 71 (780 * w + (369 + 10 * r + k)) v 0 70 2 = _
    rw [u3_nc (by decide)]; exact h.w
  · obtain ⟨m1, m2, m3, m4, m5⟩ := h.m
    show RMM (u3 g.1 0 71 (780 * w + (369 + 10 * r + k)) v 0 71) w _
    rw [u3_row]
    unfold RMM
    rw [nR_dU hne]
    have e0 : ∀ j, dU D (6 + k) r v 0 j = D 0 j := fun j => by unfold dU; rw [if_neg (by omega)]
    simp only [e0]
    refine ⟨?_, ?_, ?_, ?_, fun r' hr' k' hk' => ?_⟩
    · rw [upd_n (by omega)]; exact m1
    · rw [upd_n (by omega)]; exact m2
    · rw [upd_n (by omega)]; exact m3
    · rw [upd_n (by omega)]; exact m4
    · unfold dU
      by_cases he : r' = r ∧ k' = k
      · rw [upd_e (by omega), if_pos ⟨by omega, he.1⟩]
      · rw [upd_n (by omega), if_neg (by omega)]
        exact m5 r' hr' k' hk'
theorem MC.putF {g : Gs} {w r k : Nat} {v : Int32} (hr : r < 40) (hk : k < 10) : Fm w g (u3 g.1 0 71 (780 * w + (369 + 10 * r + k)) v, g.2) := Fm.put (by unfold MW; omega)
/-- spaces, made, groups are put -/
theorem MC.putS {g : Gs} {w k : Nat} {D : Nat → Nat → Int32} {v : Int32} (h : MC g w D) (hk : k = 1 ∨ k = 3 ∨ k = 4) : MC (u3 g.1 0 71 (780 * w + k) v, g.2) w (dU D 0 (if k = 1 then 12 else 10 + k) v) := by
  have h40 := h.r.2
  have hk11 : (if k = 1 then 12 else 10 + k) ≠ 11 := by rcases hk with e | e | e <;> subst e <;> decide
  have hne : ¬ (0 = 0 ∧ (if k = 1 then 12 else 10 + k) = 11) := fun q => hk11 q.2
  have hMW : MW w (780 * w + k) := by unfold MW; omega
  have hs : SameV D (dU D 0 (if k = 1 then 12 else 10 + k) v) := sameV_dU (Or.inl rfl)
  refine ⟨?_, h.l, ?_, rok_dU hne h.r, RMV.same hs h.vk (Fm.put hMW).2 h.v, h.vk.same hs⟩
  · show u3 g.1 0 71 (780 * w + k) v 0 70 2 = _
    rw [u3_nc (by decide)]; exact h.w
  · obtain ⟨m1, m2, m3, m4, m5⟩ := h.m
    show RMM (u3 g.1 0 71 (780 * w + k) v 0 71) w _
    rw [u3_row]
    unfold RMM
    rw [nR_dU hne]
    have e0 : ∀ c r, 6 ≤ c → dU D 0 (if k = 1 then 12 else 10 + k) v c r = D c r := fun c r hc => by unfold dU; rw [if_neg (by omega)]
    refine ⟨?_, ?_, ?_, ?_, fun r' hr' k' hk' => ?_⟩
    · rcases hk with e | e | e <;> subst e <;> simp [upd, dU, m1]
    · rcases hk with e | e | e <;> subst e <;> simp [upd, dU, m2]
    · rcases hk with e | e | e <;> subst e <;> simp [upd, dU, m3]
    · rcases hk with e | e | e <;> subst e <;> simp [upd, dU, m4]
    · rw [e0 _ _ (by omega), upd_n (by omega)]
      exact m5 r' hr' k' hk'
