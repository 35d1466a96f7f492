/-! EACH OPERATION of the fast machine is an instruction of the small one -/
def rV (v : Nat) : Option AV := if v = 34359738368 then none else some (dV v)
def SIM (sc : SC) (y : Nat) (i : Instr) (np : Nat) (f : ZFO) : Prop := ∀ (call : ZFCL) (k : ZFK) (J : Nat → ZFK) (st lo : List Nat) (T : ZFT) (r : Nat × ZFT), WFT T → f call k J st lo T = some r →
  (∃ (st' lo' : List Nat) (T' : ZFT), WFT T' ∧ stp sc y i np (lo.map dV) (st.map dV) (absH T) = some (.inl (np, lo'.map dV, st'.map dV, absH T')) ∧ k st' lo' T' = some r) ∨
  (∃ (t : Nat) (st' lo' : List Nat) (T' : ZFT), WFT T' ∧ stp sc y i np (lo.map dV) (st.map dV) (absH T) = some (.inl (t, lo'.map dV, st'.map dV, absH T')) ∧ J t st' lo' T' = some r) ∨
  (∃ v : Nat, r = (v, T) ∧ stp sc y i np (lo.map dV) (st.map dV) (absH T) = some (.inr (.inl (rV v)))) ∨
  (∃ (m : Nat) (as rest : List Nat) (q : Nat × ZFT), m < 131 ∧ stp sc y i np (lo.map dV) (st.map dV) (absH T) = some (.inr (.inr (m, as.map dV, rest.map dV))) ∧ call m as T = some q ∧ k (if q.1 = 34359738368 then rest else q.1 :: rest) lo q.2 = some r)
section SIMS
variable {sc : SC} {y9 : Nat} {i9 : Instr} {np : Nat}
theorem lor_le {x y b : Nat} (h : Nat.ble (Nat.lor x y) b = true) : x ≤ b ∧ y ≤ b := by
  have h1 := ble_t h
  have h2 : x ≤ Nat.lor x y := Nat.left_le_or
  have h3 : y ≤ Nat.lor x y := Nat.right_le_or
  omega
theorem sm_No : SIM sc y9 i9 np oNo := fun call k J st lo T r hW h => by cases h
theorem sm_K {v : Nat} {w : AV} (hd : dV v = w) (hs : ∀ lo st h, stp sc y9 i9 np lo st h = sNx np lo (w :: st) h) : SIM sc y9 i9 np (oK v) := fun call k J st lo T r hW h =>
  Or.inl ⟨v :: st, lo, T, hW, by rw [hs, List.map_cons, hd], h⟩
theorem sm_LI {j : Nat} (hs : ∀ lo st h, stp sc y9 i9 np lo st h = ldI lo st np j h) : SIM sc y9 i9 np (oLI j) := by
  intro call k J st lo T r hW h
  obtain ⟨v, h1, h2⟩ := lgK_some h
  obtain ⟨h3, h4⟩ := gd_some h2
  refine Or.inl ⟨v :: st, lo, T, hW, ?_, h4⟩
  rw [hs]
  unfold ldI
  rw [List.getElem?_map, h1, Option.map_some, List.map_cons, dV_i (ble_t h3)]
theorem sm_LA {j : Nat} (hs : ∀ lo st h, stp sc y9 i9 np lo st h = ldA lo st np j h) : SIM sc y9 i9 np (oLA j) := by
  intro call k J st lo T r hW h
  obtain ⟨v, h1, h2⟩ := lgK_some h
  obtain ⟨h3, h4⟩ := gd_some h2
  refine Or.inl ⟨v :: st, lo, T, hW, ?_, h4⟩
  obtain ⟨p, hp⟩ := dV_ref (ble_t h3)
  rw [hs]
  unfold ldA
  rw [List.getElem?_map, h1, Option.map_some, List.map_cons, hp]
theorem sm_SI {j : Nat} (hs : ∀ lo st h, stp sc y9 i9 np lo st h = stI lo st np j h) : SIM sc y9 i9 np (oSI j) := by
  intro call k J st lo T r hW h
  obtain ⟨v, st, rfl, h⟩ := p1_some h
  obtain ⟨h3, h⟩ := gd_some h
  obtain ⟨h4, h⟩ := lsK_some h
  refine Or.inl ⟨st, lo.set j v, T, hW, ?_, h⟩
  rw [hs, List.map_cons, List.map_set, dV_i (ble_t h3)]
  unfold stI
  dsimp only
  rw [nlo_dV, List.length_map, Nat.blt_eq.mpr h4]
  rfl
theorem sm_SA {j : Nat} (hs : ∀ lo st h, stp sc y9 i9 np lo st h = stA lo st np j h) : SIM sc y9 i9 np (oSA j) := by
  intro call k J st lo T r hW h
  obtain ⟨v, st, rfl, h⟩ := p1_some h
  obtain ⟨h3, h⟩ := gd_some h
  obtain ⟨h4, h⟩ := lsK_some h
  refine Or.inl ⟨st, lo.set j v, T, hW, ?_, h⟩
  obtain ⟨p, hp⟩ := dV_ref (ble_t h3)
  rw [hs, List.map_cons, List.map_set, hp]
  unfold stA
  dsimp only
  rw [nlo_dV, List.length_map, Nat.blt_eq.mpr h4]
  rfl
theorem sm_Inc {j d : Nat} {n : Int} (hd : Int32.ofInt n = nI d) : SIM sc y9 (.iinc j n) np (oInc j d) := by
  intro call k J st lo T r hW h
  obtain ⟨v, h1, h⟩ := lgK_some h
  obtain ⟨h3, h⟩ := gd_some h
  rw [fz_eq] at h
  obtain ⟨h4, h⟩ := lsK_some h
  refine Or.inl ⟨st, lo.set j (Nat.mod (Nat.add v d) 4294967296), T, hW, ?_, h⟩
  unfold stp
  dsimp only
  have hm : (Nat.mod (Nat.add v d) 4294967296) ≤ 4294967295 := by have : (v + d) % 4294967296 < 4294967296 := Nat.mod_lt _ (by decide); show (v + d) % 4294967296 ≤ _; omega
  rw [List.getElem?_map, h1, Option.map_some, dV_i (ble_t h3), List.map_set, dV_i hm]
  dsimp only
  rw [nlo_dV, hd, n_add]
  rfl
theorem sm_Add (hs : ∀ lo st h, stp sc y9 i9 np lo st h = bin (· + ·) lo st np h) : SIM sc y9 i9 np oAdd := by
  intro call k J st lo T r hW h
  obtain ⟨y, sa, rfl, ha⟩ := p1_some h
  obtain ⟨x, st, rfl, h⟩ := p1_some ha
  obtain ⟨g1, h⟩ := gd_some h
  obtain ⟨hx, hy⟩ := lor_le g1
  rw [fz_eq] at h
  refine Or.inl ⟨Nat.mod (Nat.add x y) 4294967296 :: st, lo, T, hW, ?_, h⟩
  have hw : Nat.mod (Nat.add x y) 4294967296 ≤ 4294967295 := by
    have : (x + y) % 4294967296 < 4294967296 := Nat.mod_lt _ (by decide)
    show (x + y) % 4294967296 ≤ _
    omega
  rw [hs, List.map_cons, List.map_cons, List.map_cons, dV_i (show x ≤ 4294967295 by omega), dV_i (show y ≤ 4294967295 by omega), dV_i hw]
  unfold bin
  dsimp only
  have e := n_add x y
  (try rw [e])
  (try rfl)
theorem sm_Sub (hs : ∀ lo st h, stp sc y9 i9 np lo st h = bin (· - ·) lo st np h) : SIM sc y9 i9 np oSub := by
  intro call k J st lo T r hW h
  obtain ⟨y, sa, rfl, ha⟩ := p1_some h
  obtain ⟨x, st, rfl, h⟩ := p1_some ha
  obtain ⟨g1, h⟩ := gd_some h
  obtain ⟨hx, hy⟩ := lor_le g1
  rw [fz_eq] at h
  refine Or.inl ⟨Nat.mod (Nat.add x (Nat.sub 4294967296 y)) 4294967296 :: st, lo, T, hW, ?_, h⟩
  have hw : Nat.mod (Nat.add x (Nat.sub 4294967296 y)) 4294967296 ≤ 4294967295 := by
    have : (x + (4294967296 - y)) % 4294967296 < 4294967296 := Nat.mod_lt _ (by decide)
    show (x + (4294967296 - y)) % 4294967296 ≤ _
    omega
  rw [hs, List.map_cons, List.map_cons, List.map_cons, dV_i (show x ≤ 4294967295 by omega), dV_i (show y ≤ 4294967295 by omega), dV_i hw]
  unfold bin
  dsimp only
  have e := n_sub (x := x) hy
  (try rw [e])
  (try rfl)
theorem sm_Mul (hs : ∀ lo st h, stp sc y9 i9 np lo st h = bin (· * ·) lo st np h) : SIM sc y9 i9 np oMul := by
  intro call k J st lo T r hW h
  obtain ⟨y, sa, rfl, ha⟩ := p1_some h
  obtain ⟨x, st, rfl, h⟩ := p1_some ha
  obtain ⟨g1, h⟩ := gd_some h
  obtain ⟨hx, hy⟩ := lor_le g1
  rw [fz_eq] at h
  refine Or.inl ⟨Nat.mod (Nat.mul x y) 4294967296 :: st, lo, T, hW, ?_, h⟩
  have hw : Nat.mod (Nat.mul x y) 4294967296 ≤ 4294967295 := by
    have : (x * y) % 4294967296 < 4294967296 := Nat.mod_lt _ (by decide)
    show (x * y) % 4294967296 ≤ _
    omega
  rw [hs, List.map_cons, List.map_cons, List.map_cons, dV_i (show x ≤ 4294967295 by omega), dV_i (show y ≤ 4294967295 by omega), dV_i hw]
  unfold bin
  dsimp only
  have e := n_mul x y
  (try rw [e])
  (try rfl)
theorem sm_And (hs : ∀ lo st h, stp sc y9 i9 np lo st h = bin (· &&& ·) lo st np h) : SIM sc y9 i9 np oAnd := by
  intro call k J st lo T r hW h
  obtain ⟨y, sa, rfl, ha⟩ := p1_some h
  obtain ⟨x, st, rfl, h⟩ := p1_some ha
  obtain ⟨g1, h⟩ := gd_some h
  obtain ⟨hx, hy⟩ := lor_le g1
  rw [fz_eq] at h
  refine Or.inl ⟨Nat.land x y :: st, lo, T, hW, ?_, h⟩
  have hw : Nat.land x y ≤ 4294967295 := by
    have : x &&& y ≤ x := Nat.and_le_left
    show x &&& y ≤ _
    omega
  rw [hs, List.map_cons, List.map_cons, List.map_cons, dV_i (show x ≤ 4294967295 by omega), dV_i (show y ≤ 4294967295 by omega), dV_i hw]
  unfold bin
  dsimp only
  have e := n_and hx hy
  (try rw [e])
  (try rfl)
theorem sm_Or (hs : ∀ lo st h, stp sc y9 i9 np lo st h = bin (· ||| ·) lo st np h) : SIM sc y9 i9 np oOr := by
  intro call k J st lo T r hW h
  obtain ⟨y, sa, rfl, ha⟩ := p1_some h
  obtain ⟨x, st, rfl, h⟩ := p1_some ha
  obtain ⟨g1, h⟩ := gd_some h
  obtain ⟨hx, hy⟩ := lor_le g1
  rw [fz_eq] at h
  refine Or.inl ⟨Nat.lor x y :: st, lo, T, hW, ?_, h⟩
  have hw : Nat.lor x y ≤ 4294967295 := by
    exact ble_t g1
  rw [hs, List.map_cons, List.map_cons, List.map_cons, dV_i (show x ≤ 4294967295 by omega), dV_i (show y ≤ 4294967295 by omega), dV_i hw]
  unfold bin
  dsimp only
  have e := n_or (show x ||| y ≤ 4294967295 from ble_t g1)
  (try rw [e])
  (try rfl)
theorem sm_Shl (hs : ∀ lo st h, stp sc y9 i9 np lo st h = bin (fun x y => x <<< (y &&& 31)) lo st np h) : SIM sc y9 i9 np oShl := by
  intro call k J st lo T r hW h
  obtain ⟨y, sa, rfl, ha⟩ := p1_some h
  obtain ⟨x, st, rfl, h⟩ := p1_some ha
  obtain ⟨g1, h⟩ := gd_some h
  obtain ⟨g2, h⟩ := gd_some h
  have hx := ble_t g1
  have hy := ble_t g2
  rw [fz_eq] at h
  refine Or.inl ⟨Nat.mod (Nat.shiftLeft x y) 4294967296 :: st, lo, T, hW, ?_, h⟩
  have hw : Nat.mod (Nat.shiftLeft x y) 4294967296 ≤ 4294967295 := by
    have : (x <<< y) % 4294967296 < 4294967296 := Nat.mod_lt _ (by decide)
    show (x <<< y) % 4294967296 ≤ _
    omega
  rw [hs, List.map_cons, List.map_cons, List.map_cons, dV_i (show x ≤ 4294967295 by omega), dV_i (show y ≤ 4294967295 by omega), dV_i hw]
  unfold bin
  dsimp only
  have e := n_shl (x := x) hy
  (try rw [e])
  (try rfl)
theorem sm_Shr (hs : ∀ lo st h, stp sc y9 i9 np lo st h = bin (fun x y => x >>> (y &&& 31)) lo st np h) : SIM sc y9 i9 np oShr := by
  intro call k J st lo T r hW h
  obtain ⟨y, sa, rfl, ha⟩ := p1_some h
  obtain ⟨x, st, rfl, h⟩ := p1_some ha
  obtain ⟨g1, h⟩ := gd_some h
  obtain ⟨g2, h⟩ := gd_some h
  have hx := ble_t g1
  have hy := ble_t g2
  rw [fz_eq] at h
  refine Or.inl ⟨Nat.shiftRight x y :: st, lo, T, hW, ?_, h⟩
  have hw : Nat.shiftRight x y ≤ 4294967295 := by
    show x >>> y ≤ _
    rw [Nat.shiftRight_eq_div_pow]
    have := Nat.div_le_self x (2 ^ y)
    omega
  rw [hs, List.map_cons, List.map_cons, List.map_cons, dV_i (show x ≤ 4294967295 by omega), dV_i (show y ≤ 4294967295 by omega), dV_i hw]
  unfold bin
  dsimp only
  have e := n_shr hx hy
  (try rw [e])
  (try rfl)
theorem sm_Div (hs : ∀ lo st h, stp sc y9 i9 np lo st h = binD (· / ·) lo st np h) : SIM sc y9 i9 np oDiv := by
  intro call k J st lo T r hW h
  obtain ⟨y, sa, rfl, ha⟩ := p1_some h
  obtain ⟨x, st, rfl, h⟩ := p1_some ha
  obtain ⟨g1, h⟩ := gd_some h
  obtain ⟨hx, hy⟩ := lor_le g1
  obtain ⟨g2, h⟩ := gd_some h
  have h0 := ble_t g2
  rw [fz_eq] at h
  refine Or.inl ⟨Nat.div x y :: st, lo, T, hW, ?_, h⟩
  have hw : Nat.div x y ≤ 4294967295 := by
    have : x / y ≤ x := Nat.div_le_self x y
    show x / y ≤ _
    omega
  rw [hs, List.map_cons, List.map_cons, List.map_cons, dV_i (show x ≤ 4294967295 by omega), dV_i (show y ≤ 4294967295 by omega), dV_i hw]
  unfold binD
  dsimp only
  rw [if_neg (n_ne0 (by omega) h0)]
  have e := n_div hx hy h0
  (try rw [e])
  (try rfl)
theorem sm_Rem (hs : ∀ lo st h, stp sc y9 i9 np lo st h = binD (fun x y => x - x / y * y) lo st np h) : SIM sc y9 i9 np oRem := by
  intro call k J st lo T r hW h
  obtain ⟨y, sa, rfl, ha⟩ := p1_some h
  obtain ⟨x, st, rfl, h⟩ := p1_some ha
  obtain ⟨g1, h⟩ := gd_some h
  obtain ⟨hx, hy⟩ := lor_le g1
  obtain ⟨g2, h⟩ := gd_some h
  have h0 := ble_t g2
  rw [fz_eq] at h
  refine Or.inl ⟨Nat.mod x y :: st, lo, T, hW, ?_, h⟩
  have hw : Nat.mod x y ≤ 4294967295 := by
    have : x % y < y := Nat.mod_lt _ h0
    show x % y ≤ _
    omega
  rw [hs, List.map_cons, List.map_cons, List.map_cons, dV_i (show x ≤ 4294967295 by omega), dV_i (show y ≤ 4294967295 by omega), dV_i hw]
  unfold binD
  dsimp only
  rw [if_neg (n_ne0 (by omega) h0)]
  have e := n_rem hx hy h0
  (try rw [e])
  (try rfl)
theorem sm_I2b : SIM sc y9 .i2b np oI2b := by
  intro call k J st lo T r hW h
  obtain ⟨x, st, rfl, h⟩ := p1_some h
  obtain ⟨g1, h⟩ := gd_some h
  obtain ⟨g2, h⟩ := gd_some h
  rw [fz_eq] at h
  refine Or.inl ⟨Nat.mod x 256 :: st, lo, T, hW, ?_, h⟩
  have hm : x % 256 ≤ 127 := ble_t g2
  rw [List.map_cons, List.map_cons, dV_i (ble_t g1), dV_i (show Nat.mod x 256 ≤ 4294967295 from (show x % 256 ≤ 4294967295 by omega))]
  show some _ = some _
  rw [n_i2b hm]
  rfl
theorem sm_I2c : SIM sc y9 .i2c np oI2c := by
  intro call k J st lo T r hW h
  obtain ⟨x, st, rfl, h⟩ := p1_some h
  obtain ⟨g1, h⟩ := gd_some h
  refine Or.inl ⟨x :: st, lo, T, hW, ?_, h⟩
  have hm := ble_t g1
  rw [List.map_cons, dV_i (show x ≤ 4294967295 by omega)]
  unfold stp
  dsimp only
  rw [n_inb (show x < 128 by omega) (by decide)]
  rfl
theorem nu_of {x : Nat} (h : Nat.beq (Nat.beq x 4294967296).toNat 0 = true) : x ≠ 4294967296 := fun e => by
  rw [e] at h
  cases h
theorem sm_Dup : SIM sc y9 .dup np oDup := by
  intro call k J st lo T r hW h
  obtain ⟨x, st, rfl, h⟩ := p1_some h
  obtain ⟨g1, h⟩ := gd_some h
  refine Or.inl ⟨x :: x :: st, lo, T, hW, ?_, h⟩
  simp only [List.map_cons]
  rcases dV_nu (nu_of g1) with ⟨a, e⟩ | ⟨p, e⟩
  · rw [e]; rfl
  · rw [e]; rfl
theorem sm_Pop : SIM sc y9 .pop np oPop := by
  intro call k J st lo T r hW h
  obtain ⟨x, st, rfl, h⟩ := p1_some h
  obtain ⟨g1, h⟩ := gd_some h
  refine Or.inl ⟨st, lo, T, hW, ?_, h⟩
  rw [List.map_cons]
  rcases dV_nu (nu_of g1) with ⟨a, e⟩ | ⟨p, e⟩
  · rw [e]; rfl
  · rw [e]; rfl
theorem sm_Dx : SIM sc y9 .dup_x1 np oDx := by
  intro call k J st lo T r hW h
  obtain ⟨x, sa, rfl, ha⟩ := p1_some h
  obtain ⟨y, st, rfl, h⟩ := p1_some ha
  obtain ⟨g1, h⟩ := gd_some h
  obtain ⟨g2, h⟩ := gd_some h
  obtain ⟨p, e⟩ := dV_ref (ble_t g2)
  refine Or.inl ⟨x :: y :: x :: st, lo, T, hW, ?_, h⟩
  rw [List.map_cons, List.map_cons, List.map_cons, List.map_cons, List.map_cons, e, dV_i (ble_t g1)]
  rfl
theorem sm_D2 : SIM sc y9 .dup2 np oD2 := by
  intro call k J st lo T r hW h
  obtain ⟨x, sa, rfl, ha⟩ := p1_some h
  obtain ⟨y, st, rfl, h⟩ := p1_some ha
  obtain ⟨g1, h⟩ := gd_some h
  obtain ⟨g2, h⟩ := gd_some h
  obtain ⟨p, e⟩ := dV_ref (ble_t g2)
  refine Or.inl ⟨x :: y :: x :: y :: st, lo, T, hW, ?_, h⟩
  rw [List.map_cons, List.map_cons, List.map_cons, List.map_cons, List.map_cons, List.map_cons, e, dV_i (ble_t g1)]
  rfl
theorem sm_Eq {t : Nat} (hs : ∀ lo st h, stp sc y9 i9 np lo st h = br1 (fun x => decide (x = 0)) lo st np t h) : SIM sc y9 i9 np (oEq t) := by
  intro call k J st lo T r hW h
  obtain ⟨x, st, rfl, h⟩ := p1_some h
  obtain ⟨g1, h⟩ := gd_some h
  have hx := ble_t g1
  have key : stp sc y9 i9 np (lo.map dV) ((x :: st).map dV) (absH T) = bif decide ((nI x) = 0) then sNx t (lo.map dV) (st.map dV) (absH T) else sNx np (lo.map dV) (st.map dV) (absH T) := by
    rw [hs, List.map_cons, dV_i hx]; rfl
  rcases if_some h with ⟨g2, h⟩ | ⟨g2, h⟩
  · exact Or.inr (Or.inl ⟨t, st, lo, T, hW, by rw [key, decide_eq_true ((n_eq0 hx).mpr (beq_t g2))]; rfl, h⟩)
  · exact Or.inl ⟨st, lo, T, hW, by rw [key, decide_eq_false (fun z => beq_f g2 ((n_eq0 hx).mp z))]; rfl, h⟩
theorem sm_Ne {t : Nat} (hs : ∀ lo st h, stp sc y9 i9 np lo st h = br1 (fun x => !decide (x = 0)) lo st np t h) : SIM sc y9 i9 np (oNe t) := by
  intro call k J st lo T r hW h
  obtain ⟨x, st, rfl, h⟩ := p1_some h
  obtain ⟨g1, h⟩ := gd_some h
  have hx := ble_t g1
  have key : stp sc y9 i9 np (lo.map dV) ((x :: st).map dV) (absH T) = bif !decide ((nI x) = 0) then sNx t (lo.map dV) (st.map dV) (absH T) else sNx np (lo.map dV) (st.map dV) (absH T) := by
    rw [hs, List.map_cons, dV_i hx]; rfl
  rcases if_some h with ⟨g2, h⟩ | ⟨g2, h⟩
  · exact Or.inl ⟨st, lo, T, hW, by rw [key, decide_eq_true ((n_eq0 hx).mpr (beq_t g2))]; rfl, h⟩
  · exact Or.inr (Or.inl ⟨t, st, lo, T, hW, by rw [key, decide_eq_false (fun z => beq_f g2 ((n_eq0 hx).mp z))]; rfl, h⟩)
theorem sm_Lt {t : Nat} (hs : ∀ lo st h, stp sc y9 i9 np lo st h = br1 (fun x => decide (x < 0)) lo st np t h) : SIM sc y9 i9 np (oLt t) := by
  intro call k J st lo T r hW h
  obtain ⟨x, st, rfl, h⟩ := p1_some h
  obtain ⟨g1, h⟩ := gd_some h
  have hx := ble_t g1
  have key : stp sc y9 i9 np (lo.map dV) ((x :: st).map dV) (absH T) = bif decide ((nI x) < 0) then sNx t (lo.map dV) (st.map dV) (absH T) else sNx np (lo.map dV) (st.map dV) (absH T) := by
    rw [hs, List.map_cons, dV_i hx]; rfl
  rcases if_some h with ⟨g2, h⟩ | ⟨g2, h⟩
  · exact Or.inr (Or.inl ⟨t, st, lo, T, hW, by rw [key, decide_eq_true ((n_lt0 hx).mpr (ble_t g2))]; rfl, h⟩)
  · exact Or.inl ⟨st, lo, T, hW, by rw [key, decide_eq_false (fun z => by have := (n_lt0 hx).mp z; have := ble_f g2; omega)]; rfl, h⟩
theorem sm_Ge {t : Nat} (hs : ∀ lo st h, stp sc y9 i9 np lo st h = br1 (fun x => decide (0 ≤ x)) lo st np t h) : SIM sc y9 i9 np (oGe t) := by
  intro call k J st lo T r hW h
  obtain ⟨x, st, rfl, h⟩ := p1_some h
  obtain ⟨g1, h⟩ := gd_some h
  have hx := ble_t g1
  have key : stp sc y9 i9 np (lo.map dV) ((x :: st).map dV) (absH T) = bif decide (0 ≤ (nI x)) then sNx t (lo.map dV) (st.map dV) (absH T) else sNx np (lo.map dV) (st.map dV) (absH T) := by
    rw [hs, List.map_cons, dV_i hx]; rfl
  rcases if_some h with ⟨g2, h⟩ | ⟨g2, h⟩
  · exact Or.inl ⟨st, lo, T, hW, by rw [key, decide_eq_false (fun z => by have := (n_ge0 hx).mp z; have := ble_t g2; omega)]; rfl, h⟩
  · exact Or.inr (Or.inl ⟨t, st, lo, T, hW, by rw [key, decide_eq_true ((n_ge0 hx).mpr (ble_f g2))]; rfl, h⟩)
theorem sm_Gt {t : Nat} (hs : ∀ lo st h, stp sc y9 i9 np lo st h = br1 (fun x => decide (0 < x)) lo st np t h) : SIM sc y9 i9 np (oGt t) := by
  intro call k J st lo T r hW h
  obtain ⟨x, st, rfl, h⟩ := p1_some h
  obtain ⟨g1, h⟩ := gd_some h
  have hx := ble_t g1
  have key : stp sc y9 i9 np (lo.map dV) ((x :: st).map dV) (absH T) = bif decide (0 < (nI x)) then sNx t (lo.map dV) (st.map dV) (absH T) else sNx np (lo.map dV) (st.map dV) (absH T) := by
    rw [hs, List.map_cons, dV_i hx]; rfl
  rcases if_some h with ⟨g2, h⟩ | ⟨g2, h⟩
  · exact Or.inl ⟨st, lo, T, hW, by rw [key, decide_eq_false (fun z => ((n_gt0 hx).mp z).1 (beq_t g2))]; rfl, h⟩
  · rcases if_some h with ⟨g3, h⟩ | ⟨g3, h⟩
    · exact Or.inl ⟨st, lo, T, hW, by rw [key, decide_eq_false (fun z => by have := ((n_gt0 hx).mp z).2; have := ble_t g3; omega)]; rfl, h⟩
    · exact Or.inr (Or.inl ⟨t, st, lo, T, hW, by rw [key, decide_eq_true ((n_gt0 hx).mpr ⟨beq_f g2, ble_f g3⟩)]; rfl, h⟩)
theorem sm_Le {t : Nat} (hs : ∀ lo st h, stp sc y9 i9 np lo st h = br1 (fun x => decide (x ≤ 0)) lo st np t h) : SIM sc y9 i9 np (oLe t) := by
  intro call k J st lo T r hW h
  obtain ⟨x, st, rfl, h⟩ := p1_some h
  obtain ⟨g1, h⟩ := gd_some h
  have hx := ble_t g1
  have key : stp sc y9 i9 np (lo.map dV) ((x :: st).map dV) (absH T) = bif decide ((nI x) ≤ 0) then sNx t (lo.map dV) (st.map dV) (absH T) else sNx np (lo.map dV) (st.map dV) (absH T) := by
    rw [hs, List.map_cons, dV_i hx]; rfl
  rcases if_some h with ⟨g2, h⟩ | ⟨g2, h⟩
  · exact Or.inr (Or.inl ⟨t, st, lo, T, hW, by rw [key, decide_eq_true ((n_le0 hx).mpr (Or.inl (beq_t g2)))]; rfl, h⟩)
  · rcases if_some h with ⟨g3, h⟩ | ⟨g3, h⟩
    · exact Or.inr (Or.inl ⟨t, st, lo, T, hW, by rw [key, decide_eq_true ((n_le0 hx).mpr (Or.inr (ble_t g3)))]; rfl, h⟩)
    · exact Or.inl ⟨st, lo, T, hW, by rw [key, decide_eq_false (fun z => by have := (n_le0 hx).mp z; have := beq_f g2; have := ble_f g3; omega)]; rfl, h⟩
theorem sm_Ieq {t : Nat} (hs : ∀ lo st h, stp sc y9 i9 np lo st h = br2 (fun x y => decide (x = y)) lo st np t h) : SIM sc y9 i9 np (oIeq t) := by
  intro call k J st lo T r hW h
  obtain ⟨y, sa, rfl, ha⟩ := p1_some h
  obtain ⟨x, st, rfl, h⟩ := p1_some ha
  obtain ⟨g1, h⟩ := gd_some h
  obtain ⟨hx, hy⟩ := lor_le g1
  have key : stp sc y9 i9 np (lo.map dV) ((y :: x :: st).map dV) (absH T) = bif decide ((nI x) = (nI y)) then sNx t (lo.map dV) (st.map dV) (absH T) else sNx np (lo.map dV) (st.map dV) (absH T) := by
    rw [hs, List.map_cons, List.map_cons, dV_i hx, dV_i hy]; rfl
  rcases if_some h with ⟨g2, h⟩ | ⟨g2, h⟩
  · exact Or.inr (Or.inl ⟨t, st, lo, T, hW, by rw [key, decide_eq_true ((n_eq hx hy).mpr (beq_t g2))]; rfl, h⟩)
  · exact Or.inl ⟨st, lo, T, hW, by rw [key, decide_eq_false (fun z => beq_f g2 ((n_eq hx hy).mp z))]; rfl, h⟩
theorem sm_Ine {t : Nat} (hs : ∀ lo st h, stp sc y9 i9 np lo st h = br2 (fun x y => !decide (x = y)) lo st np t h) : SIM sc y9 i9 np (oIne t) := by
  intro call k J st lo T r hW h
  obtain ⟨y, sa, rfl, ha⟩ := p1_some h
  obtain ⟨x, st, rfl, h⟩ := p1_some ha
  obtain ⟨g1, h⟩ := gd_some h
  obtain ⟨hx, hy⟩ := lor_le g1
  have key : stp sc y9 i9 np (lo.map dV) ((y :: x :: st).map dV) (absH T) = bif !decide ((nI x) = (nI y)) then sNx t (lo.map dV) (st.map dV) (absH T) else sNx np (lo.map dV) (st.map dV) (absH T) := by
    rw [hs, List.map_cons, List.map_cons, dV_i hx, dV_i hy]; rfl
  rcases if_some h with ⟨g2, h⟩ | ⟨g2, h⟩
  · exact Or.inl ⟨st, lo, T, hW, by rw [key, decide_eq_true ((n_eq hx hy).mpr (beq_t g2))]; rfl, h⟩
  · exact Or.inr (Or.inl ⟨t, st, lo, T, hW, by rw [key, decide_eq_false (fun z => beq_f g2 ((n_eq hx hy).mp z))]; rfl, h⟩)
theorem sm_Ilt {t : Nat} (hs : ∀ lo st h, stp sc y9 i9 np lo st h = br2 (fun x y => decide (x < y)) lo st np t h) : SIM sc y9 i9 np (oIlt t) := by
  intro call k J st lo T r hW h
  obtain ⟨y, sa, rfl, ha⟩ := p1_some h
  obtain ⟨x, st, rfl, h⟩ := p1_some ha
  obtain ⟨g1, h⟩ := gd_some h
  obtain ⟨hx, hy⟩ := lor_le g1
  have key : stp sc y9 i9 np (lo.map dV) ((y :: x :: st).map dV) (absH T) = bif decide ((nI x) < (nI y)) then sNx t (lo.map dV) (st.map dV) (absH T) else sNx np (lo.map dV) (st.map dV) (absH T) := by
    rw [hs, List.map_cons, List.map_cons, dV_i hx, dV_i hy]; rfl
  generalize hb : Nat.ble (Nat.mod (Nat.add y 2147483648) 4294967296) (Nat.mod (Nat.add x 2147483648) 4294967296) = b at h
  rcases if_some h with ⟨g2, h⟩ | ⟨g2, h⟩
  · exact Or.inl ⟨st, lo, T, hW, by rw [key, decide_eq_false (fun z => Nat.lt_irrefl _ (Nat.lt_of_lt_of_le ((n_lt hx hy).mp z) (ble_t (hb.trans g2))))]; rfl, h⟩
  · exact Or.inr (Or.inl ⟨t, st, lo, T, hW, by rw [key, decide_eq_true ((n_lt hx hy).mpr (ble_f (hb.trans g2)))]; rfl, h⟩)
theorem sm_Ige {t : Nat} (hs : ∀ lo st h, stp sc y9 i9 np lo st h = br2 (fun x y => decide (y ≤ x)) lo st np t h) : SIM sc y9 i9 np (oIge t) := by
  intro call k J st lo T r hW h
  obtain ⟨y, sa, rfl, ha⟩ := p1_some h
  obtain ⟨x, st, rfl, h⟩ := p1_some ha
  obtain ⟨g1, h⟩ := gd_some h
  obtain ⟨hx, hy⟩ := lor_le g1
  have key : stp sc y9 i9 np (lo.map dV) ((y :: x :: st).map dV) (absH T) = bif decide ((nI y) ≤ (nI x)) then sNx t (lo.map dV) (st.map dV) (absH T) else sNx np (lo.map dV) (st.map dV) (absH T) := by
    rw [hs, List.map_cons, List.map_cons, dV_i hx, dV_i hy]; rfl
  generalize hb : Nat.ble (Nat.mod (Nat.add y 2147483648) 4294967296) (Nat.mod (Nat.add x 2147483648) 4294967296) = b at h
  rcases if_some h with ⟨g2, h⟩ | ⟨g2, h⟩
  · exact Or.inr (Or.inl ⟨t, st, lo, T, hW, by rw [key, decide_eq_true ((n_le hy hx).mpr (ble_t (hb.trans g2)))]; rfl, h⟩)
  · exact Or.inl ⟨st, lo, T, hW, by rw [key, decide_eq_false (fun z => Nat.lt_irrefl _ (Nat.lt_of_le_of_lt ((n_le hy hx).mp z) (ble_f (hb.trans g2))))]; rfl, h⟩
theorem sm_Igt {t : Nat} (hs : ∀ lo st h, stp sc y9 i9 np lo st h = br2 (fun x y => decide (y < x)) lo st np t h) : SIM sc y9 i9 np (oIgt t) := by
  intro call k J st lo T r hW h
  obtain ⟨y, sa, rfl, ha⟩ := p1_some h
  obtain ⟨x, st, rfl, h⟩ := p1_some ha
  obtain ⟨g1, h⟩ := gd_some h
  obtain ⟨hx, hy⟩ := lor_le g1
  have key : stp sc y9 i9 np (lo.map dV) ((y :: x :: st).map dV) (absH T) = bif decide ((nI y) < (nI x)) then sNx t (lo.map dV) (st.map dV) (absH T) else sNx np (lo.map dV) (st.map dV) (absH T) := by
    rw [hs, List.map_cons, List.map_cons, dV_i hx, dV_i hy]; rfl
  generalize hb : Nat.ble (Nat.mod (Nat.add x 2147483648) 4294967296) (Nat.mod (Nat.add y 2147483648) 4294967296) = b at h
  rcases if_some h with ⟨g2, h⟩ | ⟨g2, h⟩
  · exact Or.inl ⟨st, lo, T, hW, by rw [key, decide_eq_false (fun z => Nat.lt_irrefl _ (Nat.lt_of_lt_of_le ((n_lt hy hx).mp z) (ble_t (hb.trans g2))))]; rfl, h⟩
  · exact Or.inr (Or.inl ⟨t, st, lo, T, hW, by rw [key, decide_eq_true ((n_lt hy hx).mpr (ble_f (hb.trans g2)))]; rfl, h⟩)
theorem sm_Ile {t : Nat} (hs : ∀ lo st h, stp sc y9 i9 np lo st h = br2 (fun x y => decide (x ≤ y)) lo st np t h) : SIM sc y9 i9 np (oIle t) := by
  intro call k J st lo T r hW h
  obtain ⟨y, sa, rfl, ha⟩ := p1_some h
  obtain ⟨x, st, rfl, h⟩ := p1_some ha
  obtain ⟨g1, h⟩ := gd_some h
  obtain ⟨hx, hy⟩ := lor_le g1
  have key : stp sc y9 i9 np (lo.map dV) ((y :: x :: st).map dV) (absH T) = bif decide ((nI x) ≤ (nI y)) then sNx t (lo.map dV) (st.map dV) (absH T) else sNx np (lo.map dV) (st.map dV) (absH T) := by
    rw [hs, List.map_cons, List.map_cons, dV_i hx, dV_i hy]; rfl
  generalize hb : Nat.ble (Nat.mod (Nat.add x 2147483648) 4294967296) (Nat.mod (Nat.add y 2147483648) 4294967296) = b at h
  rcases if_some h with ⟨g2, h⟩ | ⟨g2, h⟩
  · exact Or.inr (Or.inl ⟨t, st, lo, T, hW, by rw [key, decide_eq_true ((n_le hx hy).mpr (ble_t (hb.trans g2)))]; rfl, h⟩)
  · exact Or.inl ⟨st, lo, T, hW, by rw [key, decide_eq_false (fun z => Nat.lt_irrefl _ (Nat.lt_of_le_of_lt ((n_le hx hy).mp z) (ble_f (hb.trans g2))))]; rfl, h⟩
theorem sm_Go {t : Int} : SIM sc y9 (.goto t) np (oGo t.toNat) := fun call k J st lo T r hW h => Or.inr (Or.inl ⟨t.toNat, st, lo, T, hW, rfl, h⟩)
theorem sm_Nul {t : Int} : SIM sc y9 (.ifnull t) np oNul := by
  intro call k J st lo T r hW h
  obtain ⟨x, st, rfl, h⟩ := p1_some h
  obtain ⟨g1, h⟩ := gd_some h
  obtain ⟨p, e⟩ := dV_ref (ble_t g1)
  exact Or.inl ⟨st, lo, T, hW, by rw [List.map_cons, e]; rfl, h⟩
theorem sm_Nn {t : Int} : SIM sc y9 (.ifnonnull t) np (oNn t.toNat) := by
  intro call k J st lo T r hW h
  obtain ⟨x, st, rfl, h⟩ := p1_some h
  obtain ⟨g1, h⟩ := gd_some h
  obtain ⟨p, e⟩ := dV_ref (ble_t g1)
  exact Or.inr (Or.inl ⟨t.toNat, st, lo, T, hW, by rw [List.map_cons, e]; rfl, h⟩)
theorem sm_Sw {d b : Int} {os : Array Int} {ol : List Nat} (hb : (ol.length : Int) = b + 1) (ho : os.toList.map Int.toNat = ol) : SIM sc y9 (.tableswitch d 0 b os) np (oSw d.toNat ol) := by
  intro call k J st lo T r hW h
  obtain ⟨x, st, rfl, h⟩ := p1_some h
  obtain ⟨g1, h⟩ := gd_some h
  have hx := ble_t g1
  have et := n_ti hx
  rcases if_some h with ⟨g2, h⟩ | ⟨g2, h⟩
  · refine Or.inr (Or.inl ⟨d.toNat, st, lo, T, hW, ?_, h⟩)
    rw [List.map_cons, dV_i (by omega)]
    unfold stp
    dsimp only
    have := ble_t g2
    rw [et, if_pos (Or.inr (by omega))]
  · obtain ⟨t, h1, h⟩ := lgK_some h
    refine Or.inr (Or.inl ⟨t, st, lo, T, hW, ?_, h⟩)
    rw [List.map_cons, dV_i (by omega)]
    unfold stp
    dsimp only
    have h2 := ble_f g2
    rw [et, if_neg (by omega)]
    have e : ((x : Int) - 0).toNat = x := by omega
    rw [e]
    rw [← ho, List.getElem?_map] at h1
    cases hz : os.toList[x]? with
    | none => rw [hz] at h1; cases h1
    | some z =>
      rw [hz] at h1
      cases h1
      rw [← Array.getElem?_toList, hz]
end SIMS
