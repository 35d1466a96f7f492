/-! THE FAST MACHINE'S HEAP operations -/
section SIO
variable {sc : SC} {y9 : Nat} {i9 : Instr} {np : Nat}
theorem pg_le (C k : Nat) : pg C k ≤ 4294967295 := by have := pg_lt C k; omega
theorem sm_Gf {k ci f ty w : Nat} (hf : fnd (fTL.getD (mcx y9) []) k = some (ci, f, ty, w)) (ht : ty = 0 ∨ ty = 1) (hci : ci < 50) : SIM sc y9 (.getfield k) np (oGf ci f) := by
  intro call kk J st lo T r hW h
  obtain ⟨x, sa, rfl, h⟩ := p1_some h
  obtain ⟨g1, h⟩ := gd_some h
  rw [fz_eq] at h
  have e0 := beq_t g1
  obtain ⟨q, hq, e1, e2, e3, e4, e5⟩ := cel_k hW e0 (by omega)
  refine Or.inl ⟨_, lo, T, hW, ?_, h⟩
  rw [List.map_cons, List.map_cons, e2, dV_i (pg_le _ _), e3]
  unfold stp
  dsimp only
  rw [hf]
  dsimp only
  rw [e4, isO_k rfl hci, hG_abs]
  rcases ht with rfl | rfl <;> rfl
theorem sm_Gr {k ci f w : Nat} (hf : fnd (fTL.getD (mcx y9) []) k = some (ci, f, 2, w)) (hci : ci < 50) : SIM sc y9 (.getfield k) np (oGr ci f) := by
  intro call kk J st lo T r hW h
  obtain ⟨x, sa, rfl, h⟩ := p1_some h
  obtain ⟨g1, h⟩ := gd_some h
  obtain ⟨g2, h⟩ := gd_some h
  rw [fz_eq] at h
  have e0 := beq_t g1
  obtain ⟨q, hq, e1, e2, e3, e4, e5⟩ := cel_k hW e0 (by omega)
  have g3 := ble_t g2
  refine Or.inl ⟨_, lo, T, hW, ?_, h⟩
  rw [e3] at g3
  rw [List.map_cons, List.map_cons, e2, e3, dV_shl g3]
  unfold stp
  dsimp only
  rw [hf]
  dsimp only
  rw [e4, isO_k rfl hci, hR_abs]
  unfold rfD
  rw [if_neg (by omega)]
  rfl
theorem sm_Pf {k ci f w : Nat} (hf : fnd (fTL.getD (mcx y9) []) k = some (ci, f, 0, w)) (hci : ci < 50) (hfin : (!((cls9.getD ci ("", jT0, 0)).2.1 f).2.2.2 || (Nat.beq (mkd y9) 2 && Nat.beq ci (mcx y9))) = true) : SIM sc y9 (.putfield k) np (oPf ci f) := by
  intro call kk J st lo T r hW h
  obtain ⟨v, sa, rfl, ha⟩ := p1_some h
  obtain ⟨x, sb, rfl, h⟩ := p1_some ha
  obtain ⟨g1, h⟩ := gd_some h
  obtain ⟨g2, h⟩ := gd_some h
  have e0 := beq_t g2
  have hv := ble_t g1
  obtain ⟨q, hq, e1, e2, e3, e4, e5⟩ := cel_k hW e0 (by omega)
  rw [fz_eq, fs8_eq, e5, e3] at h
  refine Or.inl ⟨_, lo, _, (by exact hW.st hq hW.1 (hW.2.2.2 (q + 1))), ?_, h⟩
  have ea : absH (T.1, T.2.1, st8 T.2.2 (q + 1) (ci, (lfF T q).2.1, ps (lfF T q).2.2.1 f v, (lfF T q).2.2.2)) = sG (absH T) q 0 f (nI v) := by
    rw [← e0, e3]
    exact abs_sG hq (by omega)
  rw [ea, List.map_cons, List.map_cons, e2, dV_i hv]
  unfold stp
  dsimp only
  rw [hf]
  dsimp only
  rw [e4, isO_k rfl hci, hfin]
  rfl
theorem sm_Pz {k ci f w : Nat} (hf : fnd (fTL.getD (mcx y9) []) k = some (ci, f, 1, w)) (hci : ci < 50) (hfin : (!((cls9.getD ci ("", jT0, 0)).2.1 f).2.2.2 || (Nat.beq (mkd y9) 2 && Nat.beq ci (mcx y9))) = true) : SIM sc y9 (.putfield k) np (oPz ci f) := by
  intro call kk J st lo T r hW h
  obtain ⟨v, sa, rfl, ha⟩ := p1_some h
  obtain ⟨x, sb, rfl, h⟩ := p1_some ha
  obtain ⟨g1, h⟩ := gd_some h
  obtain ⟨g2, h⟩ := gd_some h
  have e0 := beq_t g2
  have hv := beq_t g1
  obtain ⟨q, hq, e1, e2, e3, e4, e5⟩ := cel_k hW e0 (by omega)
  rw [fz_eq, fs8_eq, e5, e3] at h
  refine Or.inl ⟨_, lo, _, (by exact hW.st hq hW.1 (hW.2.2.2 (q + 1))), ?_, h⟩
  have ea : absH (T.1, T.2.1, st8 T.2.2 (q + 1) (ci, (lfF T q).2.1, ps (lfF T q).2.2.1 f 0, (lfF T q).2.2.2)) = sG (absH T) q 0 f (nI 0) := by
    rw [← e0, e3]
    exact abs_sG hq (by omega)
  rw [ea, List.map_cons, List.map_cons, e2, hv, dV_i (by omega)]
  unfold stp
  dsimp only
  rw [hf]
  dsimp only
  rw [e4, isO_k rfl hci, hfin]
  rfl
theorem sm_Pr {k ci f w : Nat} (hf : fnd (fTL.getD (mcx y9) []) k = some (ci, f, 2, w)) (hci : ci < 50) (hfin : (!((cls9.getD ci ("", jT0, 0)).2.1 f).2.2.2 || (Nat.beq (mkd y9) 2 && Nat.beq ci (mcx y9))) = true) : SIM sc y9 (.putfield k) np (oPr ci f) := by
  intro call kk J st lo T r hW h
  obtain ⟨v, sa, rfl, ha⟩ := p1_some h
  obtain ⟨x, sb, rfl, h⟩ := p1_some ha
  obtain ⟨g1, h⟩ := gd_some h
  obtain ⟨g3, h⟩ := gd_some h
  obtain ⟨g2, h⟩ := gd_some h
  have e0 := beq_t g2
  have hv := ble_t g1
  have hv2 := ble_t g3
  obtain ⟨q, hq, e1, e2, e3, e4, e5⟩ := cel_k hW e0 (by omega)
  rw [fz_eq, fs8_eq, e5, e3] at h
  refine Or.inl ⟨_, lo, _, (by exact hW.st hq hW.1 (hW.2.2.2 (q + 1))), ?_, h⟩
  have ea : absH (T.1, T.2.1, st8 T.2.2 (q + 1) (ci, (lfF T q).2.1, (lfF T q).2.2.1, ps (lfF T q).2.2.2 f (Nat.shiftRight v 40))) = sR (absH T) q 0 f (Nat.shiftRight v 40 - 1, 0) := by
    rw [← e0, e3]
    exact abs_sR hq hv (by omega)
  have e6 : dV v = vR (Nat.shiftRight v 40 - 1) 0 := dV_r (by rw [← shr40]; omega)
  rw [ea, List.map_cons, List.map_cons, e2, e6]
  unfold stp
  dsimp only
  rw [hf]
  dsimp only
  rw [e4, isO_k rfl hci, hfin]
  rfl
theorem sm_Ial : SIM sc y9 .iaload np oIal := by
  intro call kk J st lo T r hW h
  obtain ⟨j, sa, rfl, ha⟩ := p1_some h
  obtain ⟨x, sb, rfl, h⟩ := p1_some ha
  obtain ⟨g1, h⟩ := gd_some h
  obtain ⟨g2, h⟩ := gd_some h
  rw [fz_eq] at h
  have e0 := beq_t g1
  obtain ⟨q, hq, e1, e2, e3, e4, e5⟩ := cel_k hW e0 (by omega)
  have hj := ble_t g2
  rw [e3] at hj
  have hl : (lfF T q).2.1 ≤ 8000 := hW.2.2.2 _
  refine Or.inl ⟨_, lo, T, hW, ?_, h⟩
  rw [List.map_cons, List.map_cons, List.map_cons, e2, dV_i (pg_le _ _), dV_i (show j ≤ 4294967295 by omega), e3]
  unfold stp aldI
  dsimp only
  rw [e4, show isA (50, (lfF T q).2.1) = some (0, (lfF T q).2.1) from isA_k (t := 0) (by decide), n_clamp (by omega)]
  dsimp only
  rw [n_inb (j := j) (n := (lfF T q).2.1) (by omega) (by omega), hG_abs]
  rfl
theorem k12 {k : Nat} (h : Nat.div (Nat.add k 1) 2 = 26) : k = 51 ∨ k = 52 := by
  have : (k + 1) / 2 = 26 := h
  omega
theorem sm_Bal : SIM sc y9 .baload np oBal := by
  intro call kk J st lo T r hW h
  obtain ⟨j, sa, rfl, ha⟩ := p1_some h
  obtain ⟨x, sb, rfl, h⟩ := p1_some ha
  obtain ⟨g1, h⟩ := gd_some h
  obtain ⟨g2, h⟩ := gd_some h
  rw [fz_eq] at h
  have e0 := k12 (beq_t g1)
  obtain ⟨q, hq, e1, e2, e3, e4, e5⟩ := cel_k (k := (cel T x).1) hW rfl (by omega)
  have hj := ble_t g2
  rw [e3] at hj
  have hl : (lfF T q).2.1 ≤ 8000 := hW.2.2.2 _
  refine Or.inl ⟨_, lo, T, hW, ?_, h⟩
  rw [List.map_cons, List.map_cons, List.map_cons, e2, dV_i (pg_le _ _), dV_i (show j ≤ 4294967295 by omega), e3]
  unfold stp aldI
  dsimp only
  rcases e0 with e0 | e0
  · rw [e4, e0, show isA (51, (lfF T q).2.1) = some (1, (lfF T q).2.1) from isA_k (t := 1) (by decide), n_clamp (by omega)]
    dsimp only
    rw [n_inb (j := j) (n := (lfF T q).2.1) (by omega) (by omega), hG_abs]
    rfl
  · rw [e4, e0, show isA (52, (lfF T q).2.1) = some (2, (lfF T q).2.1) from isA_k (t := 2) (by decide), n_clamp (by omega)]
    dsimp only
    rw [n_inb (j := j) (n := (lfF T q).2.1) (by omega) (by omega), hG_abs]
    rfl
theorem sm_Ias : SIM sc y9 .iastore np oIas := by
  intro call kk J st lo T r hW h
  obtain ⟨v, s0, rfl, ha⟩ := p1_some h
  obtain ⟨j, sa, rfl, hb⟩ := p1_some ha
  obtain ⟨x, sb, rfl, h⟩ := p1_some hb
  obtain ⟨g0, h⟩ := gd_some h
  obtain ⟨g1, h⟩ := gd_some h
  obtain ⟨g2, h⟩ := gd_some h
  have e0 := beq_t g1
  have hv := ble_t g0
  obtain ⟨q, hq, e1, e2, e3, e4, e5⟩ := cel_k hW e0 (by omega)
  rw [fz_eq, fs8_eq, e5, e3] at h
  have hj := ble_t g2
  rw [e3] at hj
  have hl : (lfF T q).2.1 ≤ 8000 := hW.2.2.2 _
  refine Or.inl ⟨_, lo, _, (by exact hW.st hq hW.1 (hW.2.2.2 (q + 1))), ?_, h⟩
  have ea : absH (T.1, T.2.1, st8 T.2.2 (q + 1) (50, (lfF T q).2.1, ps (lfF T q).2.2.1 j v, (lfF T q).2.2.2)) = sG (absH T) q 0 j (nI v) := by
    rw [← e0, e3]
    exact abs_sG hq (by omega)
  rw [ea, List.map_cons, List.map_cons, List.map_cons, e2, dV_i hv, dV_i (show j ≤ 4294967295 by omega)]
  unfold stp astI
  dsimp only
  rw [e4, show isA (50, (lfF T q).2.1) = some (0, (lfF T q).2.1) from isA_k (t := 0) (by decide), n_clamp (by omega)]
  dsimp only
  rw [n_inb (j := j) (n := (lfF T q).2.1) (by omega) (by omega)]
  rfl
theorem sm_Bas : SIM sc y9 .bastore np oBas := by
  intro call kk J st lo T r hW h
  obtain ⟨v, s0, rfl, ha⟩ := p1_some h
  obtain ⟨j, sa, rfl, hb⟩ := p1_some ha
  obtain ⟨x, sb, rfl, h⟩ := p1_some hb
  obtain ⟨g2, h⟩ := gd_some h
  have hl : (cel T x).2.1 ≤ 8000 := hW.2.2.2 _
  have hj := ble_t g2
  rcases if_some h with ⟨g1, h⟩ | ⟨_, h⟩
  · obtain ⟨g0, h⟩ := gd_some h
    have e0 := beq_t g1
    have hv := ble_t g0
    obtain ⟨q, hq, e1, e2, e3, e4, e5⟩ := cel_k hW e0 (by omega)
    rw [fz_eq, fs8_eq, e5, e3] at h
    rw [e3] at hj hl
    refine Or.inl ⟨_, lo, _, (by exact hW.st hq hW.1 (hW.2.2.2 (q + 1))), ?_, h⟩
    have ea : absH (T.1, T.2.1, st8 T.2.2 (q + 1) (51, (lfF T q).2.1, ps (lfF T q).2.2.1 j v, (lfF T q).2.2.2)) = sG (absH T) q 0 j (nI v) := by
      rw [← e0, e3]
      exact abs_sG hq (by omega)
    rw [ea, List.map_cons, List.map_cons, List.map_cons, e2, dV_i (show v ≤ 4294967295 by omega), dV_i (show j ≤ 4294967295 by omega)]
    unfold stp astI
    dsimp only
    rw [e4, show isA (51, (lfF T q).2.1) = some (1, (lfF T q).2.1) from isA_k (t := 1) (by decide), n_clamp (by omega)]
    dsimp only
    rw [n_inb (j := j) (n := (lfF T q).2.1) (by omega) (by omega), show narT 1 (nI v) = nI v from (n_byt hv).1]
    rfl
  · obtain ⟨g1, h⟩ := gd_some h
    obtain ⟨g0, h⟩ := gd_some h
    have e0 := beq_t g1
    have hv := ble_t g0
    obtain ⟨q, hq, e1, e2, e3, e4, e5⟩ := cel_k hW e0 (by omega)
    rw [fz_eq, fs8_eq, e5, e3] at h
    rw [e3] at hj hl
    refine Or.inl ⟨_, lo, _, (by exact hW.st hq hW.1 (hW.2.2.2 (q + 1))), ?_, h⟩
    have ea : absH (T.1, T.2.1, st8 T.2.2 (q + 1) (52, (lfF T q).2.1, ps (lfF T q).2.2.1 j v, (lfF T q).2.2.2)) = sG (absH T) q 0 j (nI v) := by
      rw [← e0, e3]
      exact abs_sG hq (by omega)
    rw [ea, List.map_cons, List.map_cons, List.map_cons, e2, dV_i (show v ≤ 4294967295 by omega), dV_i (show j ≤ 4294967295 by omega)]
    unfold stp astI
    dsimp only
    rw [e4, show isA (52, (lfF T q).2.1) = some (2, (lfF T q).2.1) from isA_k (t := 2) (by decide), n_clamp (by omega)]
    dsimp only
    rw [n_inb (j := j) (n := (lfF T q).2.1) (by omega) (by omega), show narT 2 (nI v) = nI v from n_bit hv]
    rfl
theorem sm_Aal : SIM sc y9 .aaload np oAal := by
  intro call kk J st lo T r hW h
  obtain ⟨j, sa, rfl, ha⟩ := p1_some h
  obtain ⟨x, sb, rfl, h⟩ := p1_some ha
  obtain ⟨g1, h⟩ := gd_some h
  obtain ⟨g2, h⟩ := gd_some h
  obtain ⟨g3, h⟩ := gd_some h
  rw [fz_eq] at h
  have e0 := beq_t g1
  obtain ⟨q, hq, e1, e2, e3, e4, e5⟩ := cel_k hW e0 (by omega)
  have hj := ble_t g2
  have hx := ble_t g3
  rw [e3] at hj hx
  have hl : (lfF T q).2.1 ≤ 8000 := hW.2.2.2 _
  refine Or.inl ⟨_, lo, T, hW, ?_, h⟩
  rw [List.map_cons, List.map_cons, List.map_cons, e2, e3, dV_shl hx, dV_i (show j ≤ 4294967295 by omega)]
  unfold stp
  dsimp only
  rw [e4, show isA (53, (lfF T q).2.1) = some (3, (lfF T q).2.1) from isA_k (t := 3) (by decide), n_clamp (by omega)]
  dsimp only
  rw [n_inb (j := j) (n := (lfF T q).2.1) (by omega) (by omega), hR_abs]
  unfold rfD
  rw [if_neg (by omega)]
  rfl
theorem sm_Aas : SIM sc y9 .aastore np oAas := by
  intro call kk J st lo T r hW h
  obtain ⟨v, s0, rfl, ha⟩ := p1_some h
  obtain ⟨j, sa, rfl, hb⟩ := p1_some ha
  obtain ⟨x, sb, rfl, h⟩ := p1_some hb
  obtain ⟨g3, h⟩ := gd_some h
  obtain ⟨g4, h⟩ := gd_some h
  obtain ⟨g1, h⟩ := gd_some h
  obtain ⟨g2, h⟩ := gd_some h
  have e0 := beq_t g1
  obtain ⟨q, hq, e1, e2, e3, e4, e5⟩ := cel_k hW e0 (by omega)
  obtain ⟨u, hu, f1, f2, f3, f4, f5⟩ := cel_k hW (beq_t g4) (by omega)
  rw [fz_eq, fs8_eq, e5, e3, f5] at h
  have hj := ble_t g2
  rw [e3] at hj
  have hl : (lfF T q).2.1 ≤ 8000 := hW.2.2.2 _
  refine Or.inl ⟨_, lo, _, (by exact hW.st hq hW.1 (hW.2.2.2 (q + 1))), ?_, h⟩
  have ea : absH (T.1, T.2.1, st8 T.2.2 (q + 1) (53, (lfF T q).2.1, (lfF T q).2.2.1, ps (lfF T q).2.2.2 j (u + 1))) = sR (absH T) q 0 j (u, 0) := by
    rw [← e0, e3]
    exact abs_sR hq (by omega) (by omega)
  rw [ea, List.map_cons, List.map_cons, List.map_cons, e2, f2, dV_i (show j ≤ 4294967295 by omega)]
  unfold stp
  dsimp only
  rw [e4, show isA (53, (lfF T q).2.1) = some (3, (lfF T q).2.1) from isA_k (t := 3) (by decide), n_clamp (by omega), f4, isO_k (ci := 3) rfl (by decide)]
  dsimp only
  rw [n_inb (j := j) (n := (lfF T q).2.1) (by omega) (by omega)]
  rfl
theorem sm_Aln : SIM sc y9 .arraylength np oAln := by
  intro call kk J st lo T r hW h
  obtain ⟨x, sb, rfl, h⟩ := p1_some h
  obtain ⟨g1, h⟩ := gd_some h
  obtain ⟨g2, h⟩ := gd_some h
  rw [fz_eq] at h
  have h1 := ble_t g1
  have h2 := ble_t g2
  obtain ⟨t, ht⟩ : ∃ t, (cel T x).1 = 50 + t := ⟨(cel T x).1 - 50, by omega⟩
  obtain ⟨q, hq, e1, e2, e3, e4, e5⟩ := cel_k hW ht (by omega)
  have hl : (lfF T q).2.1 ≤ 8000 := hW.2.2.2 _
  refine Or.inl ⟨_, lo, T, hW, ?_, h⟩
  rw [List.map_cons, List.map_cons, e2, e3, dV_i (by omega)]
  unfold stp
  dsimp only
  rw [e4, isA_k (by omega)]
  dsimp only
  rw [show Nat.blt t 4 = true from Nat.blt_eq.mpr (by omega)]
  rfl
theorem al_ok {T : ZFT} {kd n m : Nat} (hW : WFT T) (h : T.1 ≤ 252) (hn : n ≤ 8000) : WFT (Nat.succ T.1, Nat.add T.2.1 m, st8 T.2.2 (Nat.succ T.1) (kd, n, 0, 0)) ∧ absH (Nat.succ T.1, Nat.add T.2.1 m, st8 T.2.2 (Nat.succ T.1) (kd, n, 0, 0)) = alc (absH T) (kd, n) m ∧ dV (Nat.shiftLeft (Nat.succ T.1) 40) = .inr (.inr (.inl (nm (absH T).1.1))) ∧ Nat.blt (absH T).1.1 nmN = true :=
  ⟨hW.st (by omega) (by omega) hn, abs_al h, dV_shl (by omega), Nat.blt_eq.mpr (show T.1 < 256 by omega)⟩
theorem sm_New {k ci n a b c : Nat} (hf : fnd (cTL.getD (mcx y9) []) k = some (ci, a, b, c)) (hn : fcn ci = n) : SIM sc y9 (.new k) np (oNew ci n) := by
  intro call kk J st lo T r hW h
  obtain ⟨g1, h⟩ := gd_some h
  rw [fz_eq, fz_eq, fs8_eq, fz_eq] at h
  obtain ⟨a1, a2, a3, a4⟩ := al_ok (kd := ci) (n := 0) (m := n) hW (ble_t g1) (by decide)
  refine Or.inl ⟨_, lo, _, a1, ?_, h⟩
  rw [a2, List.map_cons, a3]
  unfold stp
  dsimp only
  rw [hf]
  dsimp only
  rw [a4, hn]
  rfl
theorem na_ok {T : ZFT} {n q : Nat} {st lo : List Nat} {r : Nat × ZFT} {kk : ZFK} (hW : WFT T) (h : (Bool.rec (motive := fun _ => ZFR) none ((Bool.rec (motive := fun _ => ZFR) none (fz (fun c => fz (fun s => fs8 T.2.2 c (q, n, 0, 0) fun t => fz (fun r => kk (r :: st) lo (c, s, t)) (Nat.shiftLeft c 40)) (Nat.add T.2.1 n)) (Nat.succ T.1)) (Nat.ble T.1 252))) (Nat.ble n 8000)) = some r) :
    n ≤ 8000 ∧ ∃ (v : Nat) (T' : ZFT), WFT T' ∧ absH T' = alc (absH T) (q, n) n ∧ dV v = .inr (.inr (.inl (nm (absH T).1.1))) ∧ Nat.blt (absH T).1.1 nmN = true ∧ kk (v :: st) lo T' = some r := by
  obtain ⟨g0, h⟩ := gd_some h
  obtain ⟨g1, h⟩ := gd_some h
  rw [fz_eq, fz_eq, fs8_eq, fz_eq] at h
  obtain ⟨a1, a2, a3, a4⟩ := al_ok (kd := q) (n := n) (m := n) hW (ble_t g1) (ble_t g0)
  exact ⟨ble_t g0, _, _, a1, a2, a3, a4, h⟩
theorem nI_neg0 {n : Nat} (h : n ≤ 2147483647) : decide (nI n < 0) = false := decide_eq_false (nI_pos (by omega))
theorem sm_Na {t : ArrayType} {q : Nat} (hq : q = 50 + aty t) (ht : Nat.blt (aty t) 3 = true) : SIM sc y9 (.newarray t) np (oNa q) := by
  intro call kk J st lo T r hW h
  obtain ⟨n, sa, rfl, h⟩ := p1_some h
  obtain ⟨hn, v, T', a1, a2, a3, a4, h⟩ := na_ok hW h
  refine Or.inl ⟨_, lo, _, a1, ?_, h⟩
  rw [a2, List.map_cons, List.map_cons, a3, dV_i (by omega), hq]
  unfold stp
  dsimp only
  rw [ht, a4, nI_neg0 (by omega), n_clamp (by omega), Nat.ble_eq_true_of_le hn]
  rfl
theorem sm_Ana {k : Nat} (hy : Nat.beq (mcx y9) 4 = true) : SIM sc y9 (.anewarray k) np (oNa 53) := by
  intro call kk J st lo T r hW h
  obtain ⟨n, sa, rfl, h⟩ := p1_some h
  obtain ⟨hn, v, T', a1, a2, a3, a4, h⟩ := na_ok hW h
  refine Or.inl ⟨_, lo, _, a1, ?_, h⟩
  rw [a2, List.map_cons, List.map_cons, a3, dV_i (by omega)]
  unfold stp
  dsimp only
  rw [hy, a4, nI_neg0 (by omega), n_clamp (by omega), Nat.ble_eq_true_of_le hn]
  rfl
end SIO
