/-! EACH RUN ends with 1 -/
theorem okG_some {r : ZFR} (h : okG r = true) : ∃ T : ZFT, r = some (1, T) ∧ T.2.1 ≤ 7000000 := by
  cases r with
  | none => cases h
  | some q =>
    obtain ⟨v, T⟩ := q
    have h2 : Bool.rec (motive := fun _ => Bool) false (Nat.ble T.2.1 7000000) (Nat.beq v 1) = true := h
    cases h1 : Nat.beq v 1 with
    | false => rw [h1] at h2; cases h2
    | true =>
      rw [h1] at h2
      rw [beq_t h1]
      exact ⟨T, rfl, ble_t h2⟩
theorem te_1 (n : Nat) : fg1 te1 n = te0 := by unfold fg1; cases Nat.ble 1 n <;> rfl
theorem te_2 (n : Nat) : fg2 te2 n = te0 := by unfold fg2; cases Nat.ble 2 n <;> exact te_1 _
theorem te_3 (n : Nat) : fg3 te3 n = te0 := by unfold fg3; cases Nat.ble 4 n <;> exact te_2 _
theorem te_4 (n : Nat) : fg4 te4 n = te0 := by unfold fg4; cases Nat.ble 8 n <;> exact te_3 _
theorem te_5 (n : Nat) : fg5 te5 n = te0 := by unfold fg5; cases Nat.ble 16 n <;> exact te_4 _
theorem te_6 (n : Nat) : fg6 te6 n = te0 := by unfold fg6; cases Nat.ble 32 n <;> exact te_5 _
theorem te_7 (n : Nat) : fg7 te7 n = te0 := by unfold fg7; cases Nat.ble 64 n <;> exact te_6 _
theorem te_8 (n : Nat) : fg8 te8 n = te0 := by unfold fg8; cases Nat.ble 128 n <;> exact te_7 _
theorem wf_0 : WFT (0, 0, te8) := by
  refine ⟨Nat.zero_le _, ?_, ?_, fun q => ?_⟩
  · show (fg8 te8 0).1 = 99
    rw [te_8]
  · show (fg8 te8 255).1 = 99
    rw [te_8]
  · show (fg8 te8 q).2.1 ≤ 8000
    rw [te_8]
    exact Nat.zero_le _
noncomputable def hE : AH := absH (0, 0, te8)
theorem run_ok {sc : SC} {p s c sp d : Nat} (hp : p < 3) (hs : s < 3) (hc : c < 3) (hd : d < 4) (hcs : (c = 0 ∧ sp = 1) ∨ (c ≠ 0 ∧ (sp = 2 ∨ sp = 3))) :
    ∃ hF : AH, exN sc (runM sc 100000 30) 130 (code9 130) 100000 64 (loE p s c sp d) [] hE = some (some (vI (nI 1)), hF) ∧ hF.1.2.1 ≤ 253 ∧ hF.1.2.2 ≤ 7000000 := by
  obtain ⟨T, hT, hsl⟩ := okG_some (ev_all p s c sp d hp hs hc hd hcs)
  have hrun : ev (evM cdF jF mxF 100000 30) (jF 130) 100000 q_130_64 [] (lo64 p s c sp d) (0, 0, te8) = some (1, T) := hT
  have hk : COK sc 130 := coa_at coa_131 (by decide)
  obtain ⟨h1, h2⟩ := ev_ok (sc := sc) (y := 130) hk.2.1 (fun m as T q hm hW hq => evM_ok coa_131 30 m as T q hm hW hq) 100000 q_130_64 64 [] (lo64 p s c sp d) (0, 0, te8) (1, T) wf_0 c_130_64 hrun
  have hsp : sp ≤ 3 := by omega
  have e1 : (lo64 p s c sp d).map dV = loE p s c sp d := by
    show [dV 17179869184, dV p, dV s, dV c, dV sp, dV d, dV 4294967296, dV 4294967296, dV 4294967296, dV 4294967296, dV 4294967296, dV 4294967296, dV 4294967296, dV 4294967296, dV 4294967296, dV 4294967296] = _
    rw [dV_i (show p ≤ 4294967295 by omega), dV_i (show s ≤ 4294967295 by omega), dV_i (show c ≤ 4294967295 by omega), dV_i (show sp ≤ 4294967295 by omega), dV_i (show d ≤ 4294967295 by omega), dV_u]
    rfl
  have e2 : rV 1 = some (vI (nI 1)) := by
    unfold rV
    rw [if_neg (by decide), dV_i (by decide)]
  rw [e1, e2] at h1
  exact ⟨absH T, h1, h2.1, hsl⟩
