/-! THE FAST MACHINE'S NUMBERS are the machine's -/
theorem nI_bv (n : Nat) : (nI n).toBitVec = BitVec.ofNat 32 n := rfl
theorem nI_mod (n : Nat) : nI (n % 4294967296) = nI n := by
  refine Int32.toBitVec_inj.mp ?_
  rw [nI_bv, nI_bv]
  refine BitVec.eq_of_toNat_eq ?_
  rw [BitVec.toNat_ofNat, BitVec.toNat_ofNat]
  omega
theorem n_add (x y : Nat) : nI x + nI y = nI ((x + y) % 4294967296) := by rw [nI_mod, nI_add]
theorem n_mul (x y : Nat) : nI x * nI y = nI ((x * y) % 4294967296) := by
  rw [nI_mod]
  refine Int32.toBitVec_inj.mp ?_
  rw [Int32.toBitVec_mul, nI_bv, nI_bv, nI_bv]
  refine BitVec.eq_of_toNat_eq ?_
  rw [BitVec.toNat_mul, BitVec.toNat_ofNat, BitVec.toNat_ofNat, BitVec.toNat_ofNat, ← Nat.mul_mod]
theorem n_sub {x y : Nat} (hy : y ≤ 4294967295) : nI x - nI y = nI ((x + (4294967296 - y)) % 4294967296) := by
  rw [nI_mod]
  refine Int32.toBitVec_inj.mp ?_
  rw [Int32.toBitVec_sub, nI_bv, nI_bv, nI_bv]
  refine BitVec.eq_of_toNat_eq ?_
  rw [BitVec.toNat_sub, BitVec.toNat_ofNat, BitVec.toNat_ofNat, BitVec.toNat_ofNat]
  omega
theorem n_and {x y : Nat} (hx : x ≤ 4294967295) (hy : y ≤ 4294967295) : nI x &&& nI y = nI (x &&& y) := by
  refine Int32.toBitVec_inj.mp ?_
  rw [Int32.toBitVec_and, nI_bv, nI_bv, nI_bv]
  refine BitVec.eq_of_toNat_eq ?_
  have h := Nat.and_le_left (n := x) (m := y)
  rw [BitVec.toNat_and, BitVec.toNat_ofNat, BitVec.toNat_ofNat, BitVec.toNat_ofNat, Nat.mod_eq_of_lt (by omega : x < 2 ^ 32), Nat.mod_eq_of_lt (by omega : y < 2 ^ 32), Nat.mod_eq_of_lt (by omega : x &&& y < 2 ^ 32)]
theorem n_or {x y : Nat} (h : x ||| y ≤ 4294967295) : nI x ||| nI y = nI (x ||| y) := by
  have hx := Nat.left_le_or (n := x) (m := y)
  have hy := Nat.right_le_or (n := x) (m := y)
  refine Int32.toBitVec_inj.mp ?_
  rw [Int32.toBitVec_or, nI_bv, nI_bv, nI_bv]
  refine BitVec.eq_of_toNat_eq ?_
  rw [BitVec.toNat_or, BitVec.toNat_ofNat, BitVec.toNat_ofNat, BitVec.toNat_ofNat, Nat.mod_eq_of_lt (by omega : x < 2 ^ 32), Nat.mod_eq_of_lt (by omega : y < 2 ^ 32), Nat.mod_eq_of_lt (by omega : x ||| y < 2 ^ 32)]
theorem sh31 {y : Nat} (hy : y ≤ 31) : ((nI y &&& 31).toBitVec.smod 32).toNat = y := by
  have hh : ∀ y : Fin 32, ((nI y.1 &&& 31).toBitVec.smod 32).toNat = y.1 := by decide +kernel
  exact hh ⟨y, by omega⟩
theorem n_shl {x y : Nat} (hy : y ≤ 31) : nI x <<< (nI y &&& 31) = nI ((x <<< y) % 4294967296) := by
  rw [nI_mod]
  refine Int32.toBitVec_inj.mp ?_
  rw [Int32.toBitVec_shiftLeft, nI_bv, nI_bv]
  show BitVec.ofNat 32 x <<< ((nI y &&& 31).toBitVec.smod 32).toNat = _
  rw [sh31 hy]
  refine BitVec.eq_of_toNat_eq ?_
  rw [BitVec.toNat_shiftLeft, BitVec.toNat_ofNat, BitVec.toNat_ofNat, Nat.shiftLeft_eq, Nat.shiftLeft_eq, Nat.mod_mul_mod]
theorem n_tI {x : Nat} (h : x ≤ 4294967295) : (nI x).toInt = if x < 2147483648 then (x : Int) else (x : Int) - 4294967296 := by
  show (BitVec.ofNat 32 x).toInt = _
  rw [BitVec.toInt_eq_toNat_cond, BitVec.toNat_ofNat, Nat.mod_eq_of_lt (by omega : x < 2 ^ 32)]
  by_cases h2 : x < 2147483648
  · rw [if_pos (by omega), if_pos h2]
  · rw [if_neg (by omega), if_neg h2]
    rfl
theorem n_ti {x : Nat} (h : x ≤ 2147483647) : (nI x).toInt = (x : Int) := by
  rw [n_tI (by omega), if_pos (by omega)]
theorem n_ofI {x : Nat} {a : Int32} (h : x ≤ 2147483647) (e : a.toInt = (x : Int)) : a = nI x := Int32.toInt_inj.mp (by rw [e, n_ti h])
theorem n_shr {x y : Nat} (hx : x ≤ 2147483647) (hy : y ≤ 31) : nI x >>> (nI y &&& 31) = nI (x >>> y) := by
  refine Int32.toBitVec_inj.mp ?_
  rw [Int32.toBitVec_shiftRight, nI_bv, nI_bv]
  show (BitVec.ofNat 32 x).sshiftRight ((nI y &&& 31).toBitVec.smod 32).toNat = _
  rw [sh31 hy, BitVec.sshiftRight_eq_of_msb_false (by rw [BitVec.msb_eq_decide, BitVec.toNat_ofNat]; simp; omega)]
  refine BitVec.eq_of_toNat_eq ?_
  rw [BitVec.toNat_ushiftRight, BitVec.toNat_ofNat, BitVec.toNat_ofNat, Nat.mod_eq_of_lt (by omega : x < 2 ^ 32), Nat.mod_eq_of_lt]
  rw [Nat.shiftRight_eq_div_pow]
  have := Nat.div_le_self x (2 ^ y)
  omega
theorem n_div {x y : Nat} (hx : x ≤ 2147483647) (hy : y ≤ 2147483647) (h0 : 1 ≤ y) : nI x / nI y = nI (x / y) := by
  have hd := Nat.div_le_self x y
  refine n_ofI (by omega) ?_
  rw [Int32.toInt_div_of_ne_right _ _ (by
    intro e
    have := congrArg Int32.toInt e
    rw [n_ti hy] at this
    have e2 : (-1 : Int32).toInt = -1 := by decide
    rw [e2] at this
    omega), n_ti hx, n_ti hy]
  rfl
theorem n_ne0 {y : Nat} (hy : y ≤ 4294967295) (h0 : 1 ≤ y) : ¬ nI y = 0 := fun e => by
  have := congrArg Int32.toInt e
  rw [n_tI hy, Int32.toInt_zero] at this
  split at this <;> omega
theorem n_rem {x y : Nat} (hx : x ≤ 2147483647) (hy : y ≤ 2147483647) (h0 : 1 ≤ y) : nI x - nI x / nI y * nI y = nI (x % y) := by
  rw [n_div hx hy h0, n_mul, nI_mod, n_sub (y := x / y * y) (by have := Nat.div_mul_le_self x y; omega), nI_mod]
  have h1 := Nat.div_add_mod x y
  have h2 := Nat.div_mul_le_self x y
  have e : x + (4294967296 - x / y * y) = x % y + 4294967296 := by
    rw [Nat.mul_comm] at h1
    omega
  rw [e, ← nI_mod, Nat.add_mod_right, nI_mod]
theorem n_eq {x y : Nat} (hx : x ≤ 4294967295) (hy : y ≤ 4294967295) : nI x = nI y ↔ x = y := by
  refine ⟨fun e => ?_, fun e => by rw [e]⟩
  have := congrArg Int32.toInt e
  rw [n_tI hx, n_tI hy] at this
  split at this <;> split at this <;> omega
theorem n_lt {x y : Nat} (hx : x ≤ 4294967295) (hy : y ≤ 4294967295) : nI x < nI y ↔ (x + 2147483648) % 4294967296 < (y + 2147483648) % 4294967296 := by
  rw [Int32.lt_iff_toInt_lt, n_tI hx, n_tI hy]
  split <;> split <;> omega
theorem n_le {x y : Nat} (hx : x ≤ 4294967295) (hy : y ≤ 4294967295) : nI x ≤ nI y ↔ (x + 2147483648) % 4294967296 ≤ (y + 2147483648) % 4294967296 := by
  rw [Int32.le_iff_toInt_le, n_tI hx, n_tI hy]
  split <;> split <;> omega
theorem n_lt0 {x : Nat} (hx : x ≤ 4294967295) : nI x < 0 ↔ 2147483648 ≤ x := by
  rw [Int32.lt_iff_toInt_lt, n_tI hx, Int32.toInt_zero]
  split <;> omega
theorem n_ge0 {x : Nat} (hx : x ≤ 4294967295) : 0 ≤ nI x ↔ x < 2147483648 := by
  rw [Int32.le_iff_toInt_le, n_tI hx, Int32.toInt_zero]
  split <;> omega
theorem n_gt0 {x : Nat} (hx : x ≤ 4294967295) : 0 < nI x ↔ x ≠ 0 ∧ x < 2147483648 := by
  rw [Int32.lt_iff_toInt_lt, n_tI hx, Int32.toInt_zero]
  split <;> omega
theorem n_le0 {x : Nat} (hx : x ≤ 4294967295) : nI x ≤ 0 ↔ x = 0 ∨ 2147483648 ≤ x := by
  rw [Int32.le_iff_toInt_le, n_tI hx, Int32.toInt_zero]
  split <;> omega
theorem n_eq0 {x : Nat} (hx : x ≤ 4294967295) : nI x = 0 ↔ x = 0 := n_eq (y := 0) hx (by decide)
theorem n_byt {z : Nat} (h : z ≤ 127) : (nI z).toInt8.toInt32 = nI z ∧ fits .byte (.int (nI z)) = true := by
  have hh : ∀ z : Fin 128, (nI z.1).toInt8.toInt32 = nI z.1 ∧ fits .byte (.int (nI z.1)) = true := by decide +kernel
  exact hh ⟨z, by omega⟩
theorem n_i2b {x : Nat} (h : x % 256 ≤ 127) : (nI x).toInt8.toInt32 = nI (x % 256) := by
  rw [← (n_byt h).1]
  congr 1
  refine Int8.toBitVec_inj.mp ?_
  show (BitVec.ofNat 32 x).signExtend 8 = (BitVec.ofNat 32 (x % 256)).signExtend 8
  rw [BitVec.signExtend_eq_setWidth_of_le _ (by decide), BitVec.signExtend_eq_setWidth_of_le _ (by decide)]
  refine BitVec.eq_of_toNat_eq ?_
  rw [BitVec.toNat_setWidth, BitVec.toNat_setWidth, BitVec.toNat_ofNat, BitVec.toNat_ofNat]
  omega
theorem n_bit {z : Nat} (h : z ≤ 1) : nI z &&& 1 = nI z := by
  have : z = 0 ∨ z = 1 := by omega
  rcases this with rfl | rfl <;> decide
theorem n_clamp {j : Nat} (h : j ≤ 2147483647) : (nI j).toNatClampNeg = j := nI_clamp (by omega)
theorem n_inb {j n : Nat} (h : j < n) (hn : n ≤ 2147483647) : inb (nI j) n = true := by
  unfold inb
  rw [nI_clamp (by omega)]
  have h0 : ¬ nI j < 0 := nI_pos (by omega)
  rw [decide_eq_false h0]
  simp only [Bool.not_false, Bool.true_and]
  exact Nat.ble_eq_true_of_le h
