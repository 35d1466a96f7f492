/-! THE LAW'S LOOP -/
theorem len6 {L x : Nat} (hL : L ≤ 3072) (hx : x ≤ 4000) : nI L - nI 6 < nI x ↔ L < x + 6 := by
  have e : (nI L - nI 6).toInt = (L : Int) - 6 := by
    by_cases h : 6 ≤ L
    · rw [nI_sub h, nI_toInt (by omega)]; omega
    · have : L = 0 ∨ L = 1 ∨ L = 2 ∨ L = 3 ∨ L = 4 ∨ L = 5 := by omega
      rcases this with rfl | rfl | rfl | rfl | rfl | rfl <;> decide +kernel
  rw [Int32.lt_iff_toInt_lt, e, nI_toInt (by omega)]
  omega
section LP
variable {sc : SC} {d M B : Nat} {g : Gs} {Φ : RS → Gs → Prop} {x4 : Int32} {w5 w6 : AV}
theorem law_step {x : Nat} (h : REL g M B) (hb : BND M B) (hL : sc.1 ≤ 3072) (hx : x + 6 ≤ sc.1) (N : NXT sc (d + 1300) (nI x) M B Φ) : Xe sc (d + 1300) 251 23 [vR 0 901, vR 0 20, vR 0 70, vR 0 90, vI (nI x), w5, w6] [] g Φ := by
  have hi : IX sc (nI x) := by
    refine ⟨?_, ?_, ?_, ?_, ?_⟩ <;> rw [nI_add] <;> exact inb_nI (by omega) (by omega)
  have hm : REL g (M + 50) (B + 50) := by
    obtain ⟨D, T, n, o, k, w, ea, tx, H, hc, hr, hI, hT, hB, hE⟩ := h
    exact endQ hI hb hT hB (by omega) hc hr
  refine v251_23 ⟨fun q => absurd ((len6 hL (by omega)).mp q) (by omega), fun _ => ⟨inb_nI (by omega) (by omega), ?_⟩⟩
  exact ⟨fun _ => c156 h hb hi N, fun _ => ⟨fun _ => c229 h hb hi N, fun _ => ⟨fun _ => c285 h hb N, fun _ => ⟨fun _ => c298 h hb hi N, fun _ => ⟨fun _ => c354 h hb hi N, fun _ => ⟨fun _ => c410 h hb hi N, fun _ => ⟨fun _ => c478 h hb hi N, fun _ => ⟨fun _ => c546 h hb hi N, fun _ => ⟨fun _ => c602 h hb hi N, fun _ => ⟨fun _ => c670 h hb hi N, fun _ => ⟨fun _ => c738 h hb hi N, fun _ => ⟨fun _ => c794 h hb hi N, fun _ => ⟨fun _ => c869 h hb hi N, fun _ => ⟨fun _ => c925 h hb hi N, fun _ => ⟨fun _ => c993 h hb hi N, fun _ => ⟨fun _ => c1049 h hb hi N, fun _ => ⟨fun _ => c1105 h hb hi N, fun _ => ⟨fun _ => c1185 h hb hi N, fun _ => ⟨fun _ => c1277 h hb hi N, fun _ => ⟨fun _ => c1357 h hb hi N, fun _ => ⟨fun _ => c1413 h hb hi N, fun _ => ⟨fun _ => c1481 h hb hi N, fun _ => ⟨fun _ => c1565 h hb hi N, fun _ => ⟨fun _ => c1609 h hb N, fun _ => ⟨fun _ => c1622 h hb N, fun _ => N g _ _ hm⟩⟩⟩⟩⟩⟩⟩⟩⟩⟩⟩⟩⟩⟩⟩⟩⟩⟩⟩⟩⟩⟩⟩⟩⟩
theorem law_loop (hL : sc.1 ≤ 3072) (K : ∀ g', g'.2.2 ≤ 51200 → Φ (.inl (some (vI (nI 1)))) g') : ∀ (f j : Nat) (g : Gs) (w5 w6 : AV), j + f = 513 → REL g (50 * j) (24600 + 50 * j) → Xe sc (d + 1300) 251 23 [vR 0 901, vR 0 20, vR 0 70, vR 0 90, vI (nI (6 * j)), w5, w6] [] g Φ := by
  intro f
  induction f with
  | zero =>
    intro j g w5 w6 hj h
    obtain ⟨D, T, n, o, k, w, ea, tx, H, hc, hr, hI, hT, hB, hE⟩ := h
    exact v251_23 ⟨fun _ => K g (by omega), fun q => absurd ((len6 hL (by omega)).mpr (by omega)) q⟩
  | succ f ih =>
    intro j g w5 w6 hj h
    by_cases hx : 6 * j + 6 ≤ sc.1
    · refine law_step h (by unfold BND; omega) hL hx (fun g' v5 v6 r => v251_1636 ?_)
      rw [nI_add, show 6 * j + 6 = 6 * (j + 1) by omega]
      refine ih (j + 1) g' v5 v6 (by omega) ?_
      rw [show 50 * (j + 1) = 50 * j + 50 by omega, ← Nat.add_assoc]
      exact r
    · obtain ⟨D, T, n, o, k, w, ea, tx, H, hc, hr, hI, hT, hB, hE⟩ := h
      exact v251_23 ⟨fun _ => K g (by omega), fun q => absurd ((len6 hL (by omega)).mpr (by omega)) q⟩
end LP
