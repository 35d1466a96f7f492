/-! THE FAST MACHINE'S CALLS and ends -/
section SIC
variable {sc : SC} {y9 : Nat} {i9 : Instr} {np : Nat}
theorem sm_Obj {k cd w : Nat} (hf : fnd (mTL.getD (mcx y9) []) k = some (500, cd, w)) : SIM sc y9 (.invokespecial k) np oObj := by
  intro call kk J st lo T r hW h
  obtain ⟨x, sa, rfl, h⟩ := p1_some h
  obtain ⟨g1, h⟩ := gd_some h
  obtain ⟨hl, h⟩ := leL_some h
  obtain ⟨p, e⟩ := dV_ref (ble_t g1)
  refine Or.inl ⟨sa, lo, T, hW, ?_, h⟩
  rw [List.map_cons, e]
  unfold stp
  dsimp only
  rw [hf]
  dsimp only
  rw [cats8 hl]
  rfl
theorem sm_Max {k cd w : Nat} (hf : fnd (mTL.getD (mcx y9) []) k = some (503, cd, w)) : SIM sc y9 (.invokestatic k) np oMax := by
  intro call kk J st lo T r hW h
  obtain ⟨y, sa, rfl, ha⟩ := p1_some h
  obtain ⟨x, sb, rfl, h⟩ := p1_some ha
  obtain ⟨g1, h⟩ := gd_some h
  obtain ⟨hl, h⟩ := leL_some h
  obtain ⟨hx, hy⟩ := lor_le g1
  have key : ∀ z, (if nI x < nI y then nI y else nI x) = nI z → z ≤ 2147483647 → stp sc y9 (.invokestatic k) np (lo.map dV) ((y :: x :: sb).map dV) (absH T) = some (.inl (np, lo.map dV, (z :: sb).map dV, absH T)) := by
    intro z hz hz2
    rw [List.map_cons, List.map_cons, List.map_cons, dV_i (show x ≤ 4294967295 by omega), dV_i (show y ≤ 4294967295 by omega), dV_i (show z ≤ 4294967295 by omega)]
    unfold stp
    dsimp only
    rw [hf]
    dsimp only
    rw [cats8 hl, hz]
    rfl
  have hlt : nI x < nI y ↔ x < y := by rw [Int32.lt_iff_toInt_lt, n_ti hx, n_ti hy]; omega
  rcases if_some h with ⟨g2, h⟩ | ⟨g2, h⟩
  · exact Or.inl ⟨x :: sb, lo, T, hW, key x (if_neg (fun z => by have := hlt.mp z; have := ble_t g2; omega)) hx, h⟩
  · exact Or.inl ⟨y :: sb, lo, T, hW, key y (if_pos (hlt.mpr (ble_f g2))) hy, h⟩
theorem sm_Min {k cd w : Nat} (hf : fnd (mTL.getD (mcx y9) []) k = some (504, cd, w)) : SIM sc y9 (.invokestatic k) np oMin := by
  intro call kk J st lo T r hW h
  obtain ⟨y, sa, rfl, ha⟩ := p1_some h
  obtain ⟨x, sb, rfl, h⟩ := p1_some ha
  obtain ⟨g1, h⟩ := gd_some h
  obtain ⟨hl, h⟩ := leL_some h
  obtain ⟨hx, hy⟩ := lor_le g1
  have key : ∀ z, (if nI y < nI x then nI y else nI x) = nI z → z ≤ 2147483647 → stp sc y9 (.invokestatic k) np (lo.map dV) ((y :: x :: sb).map dV) (absH T) = some (.inl (np, lo.map dV, (z :: sb).map dV, absH T)) := by
    intro z hz hz2
    rw [List.map_cons, List.map_cons, List.map_cons, dV_i (show x ≤ 4294967295 by omega), dV_i (show y ≤ 4294967295 by omega), dV_i (show z ≤ 4294967295 by omega)]
    unfold stp
    dsimp only
    rw [hf]
    dsimp only
    rw [cats8 hl, hz]
    rfl
  have hlt : nI y < nI x ↔ y < x := by rw [Int32.lt_iff_toInt_lt, n_ti hx, n_ti hy]; omega
  rcases if_some h with ⟨g2, h⟩ | ⟨g2, h⟩
  · exact Or.inl ⟨x :: sb, lo, T, hW, key x (if_neg (fun z => by have := hlt.mp z; have := ble_t g2; omega)) hx, h⟩
  · exact Or.inl ⟨y :: sb, lo, T, hW, key y (if_pos (hlt.mpr (ble_f g2))) hy, h⟩
theorem sm_Chk {k cd w : Nat} (hf : fnd (mTL.getD (mcx y9) []) k = some (508, cd, w)) : SIM sc y9 (.invokestatic k) np oChk := by
  intro call kk J st lo T r hW h
  obtain ⟨n, sa, rfl, ha⟩ := p1_some h
  obtain ⟨j, sb, rfl, h⟩ := p1_some ha
  obtain ⟨g1, h⟩ := gd_some h
  obtain ⟨g2, h⟩ := gd_some h
  obtain ⟨hl, h⟩ := leL_some h
  have hn := ble_t g1
  have hj := ble_t g2
  refine Or.inl ⟨sb, lo, T, hW, ?_, h⟩
  rw [List.map_cons, List.map_cons, dV_i (show n ≤ 4294967295 by omega), dV_i (show j ≤ 4294967295 by omega)]
  unfold stp
  dsimp only
  rw [hf]
  dsimp only
  rw [nI_neg0 (by omega), decide_eq_true (show nI j < nI n by rw [Int32.lt_iff_toInt_lt, n_ti (by omega), n_ti hn]; omega), cats8 hl]
  rfl
theorem cpy_pg {C E sp dp n j : Nat} (g1 g2 : Nat → Int32) (h1 : ∀ i, g1 i = nI (pg C i)) (h2 : ∀ i, g2 i = nI (pg E i)) : nI (pg (pcp C E sp dp n) j) = va_cpy g1 g2 sp dp n j := by
  rw [pg_cp]
  unfold va_cpy
  by_cases h : dp ≤ j ∧ j < dp + n
  · rw [if_pos h, if_pos h, h1]
  · rw [if_neg h, if_neg h, h2]
theorem k01 {k : Nat} (h : Nat.div k 2 = 25) : k = 50 ∨ k = 51 := by
  have : k / 2 = 25 := h
  omega
theorem sm_Cpy {k cd w : Nat} (hf : fnd (mTL.getD (mcx y9) []) k = some (505, cd, w)) : SIM sc y9 (.invokestatic k) np oCpy := by
  intro call kk J st lo T r hW h
  obtain ⟨n, s1, rfl, h1⟩ := p1_some h
  obtain ⟨dp, s2, rfl, h2⟩ := p1_some h1
  obtain ⟨a, s3, rfl, h3⟩ := p1_some h2
  obtain ⟨sp, s4, rfl, h4⟩ := p1_some h3
  obtain ⟨b, s5, rfl, h⟩ := p1_some h4
  obtain ⟨g1, h⟩ := gd_some h
  obtain ⟨g2, h⟩ := gd_some h
  obtain ⟨g3, h⟩ := gd_some h
  obtain ⟨g4, h⟩ := gd_some h
  obtain ⟨hl, h⟩ := leL_some h
  have c1 : sp + n ≤ (cel T b).2.1 := ble_t g1
  have c2 : dp + n ≤ (cel T a).2.1 := ble_t g2
  have c3 := beq_t g3
  have c4 := k01 (beq_t g4)
  have hlb : (cel T b).2.1 ≤ 8000 := hW.2.2.2 _
  have hla : (cel T a).2.1 ≤ 8000 := hW.2.2.2 _
  obtain ⟨q, hq, e1, e2, e3, e4, e5⟩ := cel_k (k := (cel T a).1) hW rfl (by omega)
  obtain ⟨u, hu, f1, f2, f3, f4, f5⟩ := cel_k (k := (cel T b).1) hW rfl (by omega)
  rw [fz_eq, fs8_eq, fz_eq, fs8_eq, e5, e3, f3] at h
  have hst : ∀ (t : Nat), t < 2 → (cel T a).1 = 50 + t → (t = 0 ∨ byF (hG (absH T) u 0) sp n = true) → stp sc y9 (.invokestatic k) np (lo.map dV) ((n :: dp :: a :: sp :: b :: s5).map dV) (absH T) = some (.inl (np, lo.map dV, s5.map dV, sW (absH T) q 0 (va_cpy (hG (absH T) u 0) (hG (absH T) q 0) sp dp n))) := by
    intro t ht hk hby
    simp only [List.map_cons]
    rw [dV_i (show n ≤ 4294967295 by omega), dV_i (show dp ≤ 4294967295 by omega), dV_i (show sp ≤ 4294967295 by omega), e2, f2]
    unfold stp
    dsimp only
    rw [hf]
    dsimp only
    rw [e4, f4, c3, hk, isA_k (show t < 10 by omega), isA_k (show t < 10 by omega)]
    dsimp only
    rw [nI_neg0 (by omega), nI_neg0 (by omega), nI_neg0 (by omega), n_clamp (by omega), n_clamp (by omega), n_clamp (by omega), cats8 hl, ← f3, ← e3, Nat.ble_eq_true_of_le c1, Nat.ble_eq_true_of_le c2, show Nat.beq t t = true from Nat.beq_refl t, show Nat.blt t 2 = true from Nat.blt_eq.mpr ht]
    have hby2 : (Nat.beq t 0 || byF (hG (absH T) u 0) sp n) = true := by
      rcases hby with z | z
      · rw [z]; rfl
      · rw [z, Bool.or_true]
    rw [hby2]
    rfl
  have fin : ∀ t, t < 2 → (cel T a).1 = 50 + t → (t = 0 ∨ byF (hG (absH T) u 0) sp n = true) → kk s5 lo (T.1, T.2.1, st8 T.2.2 (q + 1) (50 + t, (lfF T q).2.1, pcp (lfF T u).2.2.1 (lfF T q).2.2.1 sp dp n, (lfF T q).2.2.2)) = some r → (∃ (st' lo' : List Nat) (T' : ZFT), WFT T' ∧ stp sc y9 (.invokestatic k) np (lo.map dV) ((n :: dp :: a :: sp :: b :: s5).map dV) (absH T) = some (.inl (np, lo'.map dV, st'.map dV, absH T')) ∧ kk st' lo' T' = some r) := by
    intro t ht hk hby h
    refine ⟨s5, lo, _, (by exact hW.st hq hW.1 (hW.2.2.2 (q + 1))), ?_, h⟩
    rw [hst t ht hk hby, ← hk, e3, abs_sW hq (w := va_cpy (hG (absH T) u 0) (hG (absH T) q 0) sp dp n) (fun j => cpy_pg _ _ (fun i => hG_abs i) (fun i => hG_abs i))]
  rcases if_some h with ⟨g5, h⟩ | ⟨g9, h⟩
  · exact Or.inl (fin 0 (by decide) (by rw [e3]; exact beq_t g5) (Or.inl rfl) h)
  · obtain ⟨g5, h⟩ := gd_some h
    by_cases hk : (cel T a).1 = 50
    · exfalso
      rw [← e3, hk] at g9
      cases g9
    · refine Or.inl (fin 1 (by decide) (by omega) (Or.inr ?_) h)
      unfold byF
      rw [List.all_eq_true]
      intro i hi
      have hi2 := List.mem_range.mp hi
      rw [hG_abs]
      have z := byA_t g5 i hi2
      rw [pg_seg hi2] at z
      exact (n_byt z).2
theorem nI_nuI (x : Int32) : nI (nuI x) = x := by
  refine Int32.toBitVec_inj.mp ?_
  rw [nI_bv]
  refine BitVec.eq_of_toNat_eq ?_
  rw [BitVec.toNat_ofNat]
  exact Nat.mod_eq_of_lt x.toBitVec.isLt
theorem nuI_lt (x : Int32) : nuI x < 4294967296 := x.toBitVec.isLt
theorem tp_pg : ∀ (l : List Int32) (k : Nat), k < l.length → nI (pg (l.foldr (fun x a => nuI x + 4294967296 * a) 0) k) = l.getD k 0 := by
  intro l
  induction l with
  | nil => intro k h; cases h
  | cons x xs ih =>
    intro k h
    rw [List.foldr_cons]
    have hx := nuI_lt x
    cases k with
    | zero =>
      rw [pg_eq, Nat.mul_zero, Nat.pow_zero, Nat.div_one]
      rw [show (nuI x + 4294967296 * xs.foldr (fun x a => nuI x + 4294967296 * a) 0) % 2 ^ 32 = nuI x by omega, nI_nuI]
      rfl
    | succ k =>
      have := ih k (Nat.lt_of_succ_lt_succ h)
      rw [List.getD_cons_succ, ← this, pg_eq, pg_eq, Nat.mul_succ, Nat.add_comm (32 * k) 32, Nat.pow_add, ← Nat.div_div_eq_div_mul]
      rw [show (nuI x + 4294967296 * xs.foldr (fun x a => nuI x + 4294967296 * a) 0) / 2 ^ 32 = xs.foldr (fun x a => nuI x + 4294967296 * a) 0 by omega]
theorem txt_len : ∀ i, i < strN → (txt i).length ≤ 100 := by decide +kernel
theorem gb_h {k cd w z dp a b u : Nat} {s5 lo : List Nat} {T : ZFT} {kk : ZFK} {r : Nat × ZFT} (hf : fnd (mTL.getD (mcx y9) []) k = some (507, cd, w)) (hW : WFT T) (hu : b - 8589934592 = u) (h : (Bool.rec (motive := fun _ => ZFR) none ((Bool.rec (motive := fun _ => ZFR) none ((Bool.rec (motive := fun _ => ZFR) none ((Bool.rec (motive := fun _ => ZFR) none ((Bool.rec (motive := fun _ => ZFR) none (leL s5 8 (fz (fun C => fs8 T.2.2 (Nat.shiftRight a 40) (51, (cel T a).2.1, C, (cel T a).2.2.2) fun t => kk s5 lo (T.1, T.2.1, t)) (pcp (tpF u) (cel T a).2.2.1 0 dp (tlF u)))) (Nat.ble (Nat.add dp (tlF u)) (cel T a).2.1))) (Nat.ble (Nat.succ u) strN))) (Nat.ble 8589934592 b))) (Nat.beq (cel T a).1 51))) (Nat.beq z 0)) = some r) :
    ∃ (st' lo' : List Nat) (T' : ZFT), WFT T' ∧ stp sc y9 (.invokevirtual k) np (lo.map dV) ((z :: dp :: a :: b :: s5).map dV) (absH T) = some (.inl (np, lo'.map dV, st'.map dV, absH T')) ∧ kk st' lo' T' = some r := by
  obtain ⟨g1, h⟩ := gd_some h
  obtain ⟨g2, h⟩ := gd_some h
  obtain ⟨g3, h⟩ := gd_some h
  obtain ⟨g4, h⟩ := gd_some h
  obtain ⟨g5, h⟩ := gd_some h
  obtain ⟨hl, h⟩ := leL_some h
  have c1 := beq_t g1
  have e0 := beq_t g2
  have c3 := ble_t g3
  have c4 : u < strN := ble_t g4
  have c5 : dp + (txt u).length ≤ (cel T a).2.1 := ble_t g5
  have hsn : strN = 14 := rfl
  have hla : (cel T a).2.1 ≤ 8000 := hW.2.2.2 _
  obtain ⟨q, hq, e1, e2, e3, e4, e5⟩ := cel_k hW e0 (by omega)
  rw [fz_eq, fs8_eq, e5, e3] at h
  refine ⟨s5, lo, _, (by exact hW.st hq hW.1 (hW.2.2.2 (q + 1))), ?_, h⟩
  have ea : absH (T.1, T.2.1, st8 T.2.2 (q + 1) (51, (lfF T q).2.1, pcp (tpF u) (lfF T q).2.2.1 0 dp (tlF u), (lfF T q).2.2.2)) = sW (absH T) q 0 (va_cpy (fun k => (txt u).getD k 0) (hG (absH T) q 0) 0 dp (txt u).length) := by
    rw [← e0, e3]
    refine abs_sW hq (fun j => ?_)
    rw [pg_cp]
    unfold va_cpy
    by_cases hj : dp ≤ j ∧ j < dp + (txt u).length
    · rw [if_pos hj]
      refine (congrArg nI (if_pos hj)).trans ?_
      rw [Nat.zero_add]
      exact tp_pg _ _ (by omega)
    · rw [if_neg hj]
      refine (congrArg nI (if_neg hj)).trans ?_
      exact (hG_abs j).symm
  rw [ea]
  simp only [List.map_cons]
  rw [dV_i (show dp ≤ 4294967295 by omega), c1, dV_i (show 0 ≤ 4294967295 by omega), e2, dV_s c3 (by omega), hu]
  unfold stp
  dsimp only
  rw [hf]
  dsimp only
  rw [e4, show isA (51, (lfF T q).2.1) = some (1, (lfF T q).2.1) from isA_k (t := 1) (by decide)]
  rw [show Nat.beq 507 507 = true from rfl, cond_true]
  have gbm : ∀ (n : Nat) (f : Nat → Option SR) (g : Option (Nat × Nat) → Option SR), stp.match_16 (fun _ => Option SR) (some (1, n)) f g = f n := fun n f g => rfl
  rw [gbm]
  rw [nI_neg0 (by omega), n_clamp (by omega), cats8 hl, ← e3, Nat.ble_eq_true_of_le c5, show Nat.blt u strN = true from Nat.blt_eq.mpr c4]
  rfl
theorem sm_Gb {k cd w : Nat} (hf : fnd (mTL.getD (mcx y9) []) k = some (507, cd, w)) : SIM sc y9 (.invokevirtual k) np oGb := by
  intro call kk J st lo T r hW h
  obtain ⟨z, s1, rfl, h1⟩ := p1_some h
  obtain ⟨dp, s2, rfl, h2⟩ := p1_some h1
  obtain ⟨a, s3, rfl, h3⟩ := p1_some h2
  obtain ⟨b, s5, rfl, h4⟩ := p1_some h3
  exact Or.inl (gb_h (u := Nat.sub b 8589934592) hf hW rfl h4)
/-- a call's end -/
theorem cal_some {call : ZFCL} {kk : ZFK} {m : Nat} {as st lo : List Nat} {T : ZFT} {r : Nat × ZFT} (h : Option.rec (motive := fun _ => ZFR) none (fun q => (Bool.rec (motive := fun _ => ZFR) (kk (q.1 :: st) lo q.2) (kk st lo q.2) (Nat.beq q.1 34359738368))) (call m as T) = some r) : ∃ q, call m as T = some q ∧ kk (if q.1 = 34359738368 then st else q.1 :: st) lo q.2 = some r := by
  cases hc : call m as T with
  | none => rw [hc] at h; cases h
  | some q =>
    rw [hc] at h
    refine ⟨q, rfl, ?_⟩
    rcases if_some h with ⟨g, h⟩ | ⟨g, h⟩
    · rw [if_pos (beq_t g)]; exact h
    · rw [if_neg (beq_f g)]; exact h
theorem sm_Cst {m na : Nat} (hna : mna m = na) (hm : (Nat.blt m 131 && Nat.beq (mkd m) 1) = true) (hs : ∀ lo st h, stp sc y9 i9 np lo st h = ivk 1 m lo st np h) : SIM sc y9 i9 np (oCst m na) := by
  intro call kk J st lo T r hW h
  obtain ⟨as, rest, rfl, hlen, h⟩ := spK_some h
  obtain ⟨hl, h⟩ := leL_some h
  obtain ⟨q, hq, h⟩ := cal_some h
  rw [List.append_nil] at hq
  refine Or.inr (Or.inr (Or.inr ⟨m, as.reverse, rest, q, Nat.blt_eq.mp (Bool.and_eq_true_iff.mp hm).1, ?_, hq, h⟩))
  rw [hs]
  unfold ivk
  rw [show (Nat.blt m 131 && Nat.beq (mkd m) (bif Nat.blt 1 3 then 1 else 0)) = true from hm, hna, List.map_append, ← hlen, show as.length = (as.map dV).length from (List.length_map _).symm, List.drop_left, List.take_left, cats8 hl, List.map_reverse]
  have : Nat.ble (as.map dV).length (as.map dV ++ rest.map dV).length = true := Nat.ble_eq_true_of_le (by rw [List.length_append]; omega)
  rw [this]
  rfl
theorem drop_ref {as rest : List Nat} {x na : Nat} (hlen : as.length = na) : ((as ++ x :: rest).map dV).drop na = dV x :: rest.map dV ∧ ((as ++ x :: rest).map dV).take na = as.map dV := by
  rw [List.map_append, ← hlen, show as.length = (as.map dV).length from (List.length_map _).symm, List.drop_left, List.take_left]
  exact ⟨rfl, rfl⟩
theorem sm_Cal {kd m na ci : Nat} (hna : mna m = na) (hkd : Nat.beq kd 1 = false) (hm : (Nat.blt m 131 && Nat.beq (mkd m) (bif Nat.blt kd 3 then kd else 0)) = true) (hci : ci < 50) (hr : ∀ n, rcv kd m (ci, n) = true) (hs : ∀ lo st h, isK m st = false → stp sc y9 i9 np lo st h = ivk kd m lo st np h) : SIM sc y9 i9 np (oCal m na ci) := by
  intro call kk J st lo T r hW h
  obtain ⟨as, rest, rfl, hlen, ha⟩ := spK_some h
  obtain ⟨x, sb, rfl, hb⟩ := p1_some ha
  obtain ⟨g1, hc⟩ := gd_some hb
  obtain ⟨hl, hd⟩ := leL_some hc
  obtain ⟨q, hq, he⟩ := cal_some hd
  rw [List.append_nil] at hq
  have e0 := beq_t g1
  obtain ⟨u, hu, e1, e2, e3, e4, e5⟩ := cel_k hW e0 (by omega)
  refine Or.inr (Or.inr (Or.inr ⟨m, x :: as.reverse, sb, q, Nat.blt_eq.mp (Bool.and_eq_true_iff.mp hm).1, ?_, hq, he⟩))
  obtain ⟨d1, d2⟩ := drop_ref (rest := sb) (x := x) hlen
  rw [hs _ _ _ (by unfold isK; rw [hna, d1, e2]; rfl)]
  unfold ivk
  rw [hm, hkd, hna, d1, d2, e2]
  dsimp only [cond]
  rw [e4, hr, cats8 hl, List.map_cons, e2, List.map_reverse]
  rfl
theorem str_some {x u : Nat} (hu : Nat.sub x 8589934592 = u) (g1 : Nat.ble 8589934592 x = true) (g2 : Nat.ble (Nat.succ u) strN = true) : dV x = vR u 900 ∧ u < strN := by
  have c3 := ble_t g1
  have c4 : u < strN := ble_t g2
  have hsn : strN = 14 := rfl
  have hu2 : x - 8589934592 = u := hu
  rw [dV_s c3 (by omega), hu2]
  exact ⟨rfl, c4⟩
theorem sm_Len (h12 : SIM sc y9 i9 np (oCal 112 0 12)) (hs : ∀ lo st h, isK 112 st = true → stp sc y9 i9 np lo st h = strI 112 lo st np h) (hna : mna 112 = 0) : SIM sc y9 i9 np (oLen 112) := by
  intro call kk J st lo T r hW h
  obtain ⟨x, sb, rfl, h⟩ := p1_some h
  generalize hu : Nat.sub x 8589934592 = u at h
  rcases if_some h with ⟨_, h⟩ | ⟨_, h⟩
  · exact h12 call kk J _ lo T r hW h
  · obtain ⟨g1, h⟩ := gd_some h
    obtain ⟨g2, h⟩ := gd_some h
    obtain ⟨hl, h⟩ := leL_some h
    rw [fz_eq] at h
    obtain ⟨e, hi⟩ := str_some hu g1 g2
    have ht := txt_len _ hi
    refine Or.inl ⟨_, lo, T, hW, ?_, h⟩
    rw [List.map_cons, List.map_cons, e, dV_i (show tlF u ≤ 4294967295 from (show (txt u).length ≤ 4294967295 by omega)), hs _ _ _ (by unfold isK; rw [hna]; rfl)]
    unfold strI
    dsimp only
    rw [show Nat.blt u strN = true from Nat.blt_eq.mpr hi, cats8 hl]
    rfl
theorem sm_Cod (h12 : SIM sc y9 i9 np (oCal 115 0 12)) (hs : ∀ lo st h, isK 115 st = true → stp sc y9 i9 np lo st h = strI 115 lo st np h) (hna : mna 115 = 0) : SIM sc y9 i9 np (oCod 115) := by
  intro call kk J st lo T r hW h
  obtain ⟨x, sb, rfl, h⟩ := p1_some h
  generalize hu : Nat.sub x 8589934592 = u at h
  rcases if_some h with ⟨_, h⟩ | ⟨_, h⟩
  · exact h12 call kk J _ lo T r hW h
  · obtain ⟨g1, h⟩ := gd_some h
    obtain ⟨g2, h⟩ := gd_some h
    obtain ⟨hl, h⟩ := leL_some h
    obtain ⟨e, hi⟩ := str_some hu g1 g2
    refine Or.inl ⟨_, lo, T, hW, ?_, h⟩
    rw [List.map_cons, List.map_cons, e, dV_i (show 0 ≤ 4294967295 by omega), hs _ _ _ (by unfold isK; rw [hna]; rfl)]
    unfold strI
    dsimp only
    rw [show Nat.blt u strN = true from Nat.blt_eq.mpr hi, cats8 hl]
    rfl
theorem sm_Chr (h12 : SIM sc y9 i9 np (oCal 113 1 12)) (hs : ∀ lo st h, isK 113 st = true → stp sc y9 i9 np lo st h = strI 113 lo st np h) (hna : mna 113 = 1) : SIM sc y9 i9 np (oChr 113) := by
  intro call kk J st lo T r hW h
  obtain ⟨j, sa, rfl, ha⟩ := p1_some h
  obtain ⟨x, sb, rfl, h⟩ := p1_some ha
  generalize hu : Nat.sub x 8589934592 = u at h
  rcases if_some h with ⟨_, h⟩ | ⟨_, h⟩
  · exact h12 call kk J _ lo T r hW h
  · obtain ⟨g1, h⟩ := gd_some h
    obtain ⟨g2, h⟩ := gd_some h
    obtain ⟨g3, h⟩ := gd_some h
    obtain ⟨hl, h⟩ := leL_some h
    rw [fz_eq] at h
    obtain ⟨e, hi⟩ := str_some hu g1 g2
    have ht := txt_len _ hi
    have hj : j < (txt u).length := ble_t g3
    refine Or.inl ⟨_, lo, T, hW, ?_, h⟩
    rw [List.map_cons, List.map_cons, List.map_cons, e, dV_i (pg_le _ _), dV_i (show j ≤ 4294967295 by omega), hs _ _ _ (by unfold isK; rw [hna]; rfl)]
    unfold strI
    dsimp only
    rw [show Nat.blt u strN = true from Nat.blt_eq.mpr hi, cats8 hl, n_inb hj (by omega), n_clamp (by omega), ← tp_pg _ _ hj]
    rfl
theorem sm_RI {b : Nat} (hb : b ≤ 4294967295) (hr : ∀ x, x ≤ b → rty y9 (nI x) = true) : SIM sc y9 .ireturn np (oRI b) := by
  intro call kk J st lo T r hW h
  obtain ⟨v, sa, rfl, ha⟩ := p1_some h
  obtain ⟨rfl, h⟩ := p0_some ha
  obtain ⟨g1, h⟩ := gd_some h
  cases h
  have hv := ble_t g1
  refine Or.inr (Or.inr (Or.inl ⟨v, rfl, ?_⟩))
  rw [List.map_cons, dV_i (by omega)]
  unfold stp rV
  dsimp only [List.map]
  rw [hr v hv, if_neg (by omega), dV_i (by omega)]
  rfl
theorem sm_RA (hr : ∀ p : Nat × Nat, ∀ lo h, stp sc y9 .areturn np lo [.inr (.inr (.inl p))] h = some (.inr (.inl (some (.inr (.inr (.inl p))))))) : SIM sc y9 .areturn np oRA := by
  intro call kk J st lo T r hW h
  obtain ⟨v, sa, rfl, ha⟩ := p1_some h
  obtain ⟨rfl, h⟩ := p0_some ha
  obtain ⟨g1, h⟩ := gd_some h
  obtain ⟨g2, h⟩ := gd_some h
  cases h
  obtain ⟨p, e⟩ := dV_ref (ble_t g1)
  refine Or.inr (Or.inr (Or.inl ⟨v, rfl, ?_⟩))
  have hv : v ≠ 34359738368 := fun z => by rw [z] at g2; cases g2
  unfold rV
  rw [if_neg hv, List.map_cons, e]
  exact hr p _ _
theorem sm_RV (hr : mRt.getD y9 none = none) : SIM sc y9 .return_ np oRV := by
  intro call kk J st lo T r hW h
  obtain ⟨rfl, h⟩ := p0_some h
  cases h
  refine Or.inr (Or.inr (Or.inl ⟨34359738368, rfl, ?_⟩))
  unfold stp rV
  dsimp only [List.map_nil]
  rw [hr]
  rfl
end SIC
