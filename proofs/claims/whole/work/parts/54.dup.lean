/-! A SPACE COPIED: what its copies hold -/
def dupV (D : Nat → Nat → Int32) (lk : Bool) (o p : Int32) (r j c : Nat) : Int32 :=
  if c = 6 then D 0 13 + nI j else if c = 7 then D 0 12 else if c = 8 then D 8 r else if c = 9 then D 9 r else if c = 10 then o else if c = 11 then p
  else if c = 12 then (if lk = true then nI 0 else D 12 r) else if c = 13 then (if lk = true ∧ ¬ D 12 r = nI 0 then D 12 r else D 13 r) else if c = 14 then D 14 r else (if lk = true then nI 1 else D 15 r)
def rrr (ls : List Nat) (j : Nat) : Nat := (ls[j]?).getD 0
def dupF (D : Nat → Nat → Int32) (ls : List Nat) (f10 f11 : Nat → Nat → Int32) (lk : Bool) (s12 : Int32) : Nat → Nat → Int32 := fun c k =>
  if c = 0 then (if k = 11 then nI (nR D + ls.length) else if k = 13 then D 0 13 + nI ls.length else if k = 12 then s12 else D 0 k)
  else if 6 ≤ c ∧ c < 16 ∧ nR D ≤ k ∧ k < nR D + ls.length then dupV D lk (f10 (k - nR D) (rrr ls (k - nR D))) (f11 (k - nR D) (rrr ls (k - nR D))) (rrr ls (k - nR D)) (k - nR D) c
  else D c k
def dupS (D E : Nat → Nat → Int32) (r : Nat) (o p : Int32) (lk : Bool) : Nat → Nat → Int32 :=
  dU (dU (dU (dU (dU (dU (aAdd E (nR E) (D 0 12) (D 8 r) (D 9 r)) 10 (nR E) o) 11 (nR E) p) 14 (nR E) (D 14 r)) 15 (nR E) (if lk = true then nI 1 else D 15 r)) 12 (nR E) (if lk = true then nI 0 else D 12 r)) 13 (nR E) (if lk = true ∧ ¬ D 12 r = nI 0 then D 12 r else D 13 r)
section DF
variable {D : Nat → Nat → Int32} {ls : List Nat} {f10 f11 : Nat → Nat → Int32} {lk : Bool} {s12 : Int32}
theorem dupF_nR (h : nR D + ls.length ≤ 40) : nR (dupF D ls f10 f11 lk s12) = nR D + ls.length := by
  show (dupF D ls f10 f11 lk s12 0 11).toNatClampNeg = _
  unfold dupF
  rw [if_pos rfl, if_pos rfl, nI_clamp (by omega)]
theorem dupF_rok (h : nR D + ls.length ≤ 40) : ROK (dupF D ls f10 f11 lk s12) := by
  refine ⟨?_, by rw [dupF_nR h]; exact h⟩
  rw [dupF_nR h]
  unfold dupF
  rw [if_pos rfl, if_pos rfl]
theorem dupF_old {c k : Nat} (h : k < nR D) (hc : c ≠ 0) : dupF D ls f10 f11 lk s12 c k = D c k := by
  unfold dupF
  rw [if_neg hc, if_neg (by omega)]
theorem dupF_new {c j : Nat} (h : j < ls.length) (hc : 6 ≤ c ∧ c < 16) : dupF D ls f10 f11 lk s12 c (nR D + j) = dupV D lk (f10 j (rrr ls j)) (f11 j (rrr ls j)) (rrr ls j) j c := by
  unfold dupF
  rw [if_neg (by omega), if_pos (by omega), Nat.add_sub_cancel_left]
theorem dupF_sv : SameV D (dupF D ls f10 f11 lk s12) := fun c h1 h2 => by
  funext k
  unfold dupF
  rw [if_neg (by omega), if_neg (by omega)]
theorem dupF_nil (h : ROK D) : dupF D [] f10 f11 lk (D 0 12) = D := by
  funext c k
  unfold dupF
  by_cases hc : c = 0
  · subst hc
    rw [if_pos rfl]
    by_cases h11 : k = 11
    · subst h11; rw [if_pos rfl]; exact h.1.symm
    · rw [if_neg h11]
      by_cases h13 : k = 13
      · subst h13; rw [if_pos rfl]; exact Int32.add_zero _
      · rw [if_neg h13]
        by_cases h12 : k = 12
        · subst h12; rw [if_pos rfl]
        · rw [if_neg h12]
  · rw [if_neg hc, if_neg (by simp only [List.length_nil]; omega)]
theorem dupF_12 {v : Int32} : dU (dupF D ls f10 f11 lk s12) 0 12 v = dupF D ls f10 f11 lk v := by
  funext c k
  unfold dU dupF
  by_cases hc : c = 0
  · subst hc
    by_cases h12 : k = 12
    · subst h12; simp
    · simp [h12]
  · simp [hc]
theorem dupF_10 {j : Nat} {v : Int32} (hj : j < ls.length) : dU (dupF D ls f10 f11 lk s12) 10 (nR D + j) v = dupF D ls (fun a b => if a = j then v else f10 a b) f11 lk s12 := by
  funext c k
  unfold dU dupF dupV
  by_cases hc : c = 10
  · subst hc
    by_cases hk : k = nR D + j
    · subst hk; simp [hj]
    · by_cases hr : nR D ≤ k ∧ k < nR D + ls.length
      · have : ¬ k - nR D = j := by omega
        simp [hk, hr, this]
      · have h2 : ¬ (nR D ≤ k ∧ k < nR D + ls.length) := hr
        simp [hk, h2]
  · simp [hc]
theorem dupF_11 {j : Nat} {v : Int32} (hj : j < ls.length) : dU (dupF D ls f10 f11 lk s12) 11 (nR D + j) v = dupF D ls f10 (fun a b => if a = j then v else f11 a b) lk s12 := by
  funext c k
  unfold dU dupF dupV
  by_cases hc : c = 11
  · subst hc
    by_cases hk : k = nR D + j
    · subst hk; simp [hj]
    · by_cases hr : nR D ≤ k ∧ k < nR D + ls.length
      · have : ¬ k - nR D = j := by omega
        simp [hk, hr, this]
      · have h2 : ¬ (nR D ≤ k ∧ k < nR D + ls.length) := hr
        simp [hk, h2]
  · simp [hc]
theorem dupF_s {r : Nat} (h : nR D + ls.length < 40) : dupS D (dupF D ls f10 f11 lk s12) r (f10 ls.length r) (f11 ls.length r) lk = dupF D (ls ++ [r]) f10 f11 lk s12 := by
  have hN : nR (dupF D ls f10 f11 lk s12) = nR D + ls.length := dupF_nR (by omega)
  have hlen : (ls ++ [r]).length = ls.length + 1 := by rw [List.length_append]; rfl
  funext c k
  unfold dupS
  rw [hN]
  by_cases hc0 : c = 0
  · subst hc0
    unfold aAdd
    by_cases h13 : k = 13
    · subst h13
      simp (disch := omega) only [u3_nc, u3_ek, u3_nk, upd_e, upd_n, dU_nk, dU_nc, dU_e, nI_ltI, nI_eq, nI_clamp, nI_add, nI_mul, inb_nI, nI_neg1, nI_ne1, nI_n1e, nI_neg1e, Nat.not_lt_zero, Nat.lt_irrefl, true_and, and_true, true_implies, false_implies, not_true_eq_false, not_false_eq_true, implies_true, forall_const, forall_eq, if_true, if_false, Nat.reduceEqDiff, eq_self, Nat.one_ne_zero, Nat.zero_ne_one, Nat.zero_add, Nat.add_zero]
      unfold dupF
      simp [hlen, Int32.add_assoc]
      rw [← nI_add]
    · by_cases h11 : k = 11
      · subst h11
        simp (disch := omega) only [u3_nc, u3_ek, u3_nk, upd_e, upd_n, dU_nk, dU_nc, dU_e, nI_ltI, nI_eq, nI_clamp, nI_add, nI_mul, inb_nI, nI_neg1, nI_ne1, nI_n1e, nI_neg1e, Nat.not_lt_zero, Nat.lt_irrefl, true_and, and_true, true_implies, false_implies, not_true_eq_false, not_false_eq_true, implies_true, forall_const, forall_eq, if_true, if_false, Nat.reduceEqDiff, eq_self, Nat.one_ne_zero, Nat.zero_ne_one, Nat.zero_add, Nat.add_zero]
        unfold dupF
        simp [hlen, Nat.add_assoc]
      · simp (disch := omega) only [u3_nc, u3_ek, u3_nk, upd_e, upd_n, dU_nk, dU_nc, dU_e, nI_ltI, nI_eq, nI_clamp, nI_add, nI_mul, inb_nI, nI_neg1, nI_ne1, nI_n1e, nI_neg1e, Nat.not_lt_zero, Nat.lt_irrefl, true_and, and_true, true_implies, false_implies, not_true_eq_false, not_false_eq_true, implies_true, forall_const, forall_eq, if_true, if_false, Nat.reduceEqDiff, eq_self, Nat.one_ne_zero, Nat.zero_ne_one, Nat.zero_add, Nat.add_zero]
        unfold dupF
        simp [h13, h11]
  · by_cases hc6 : 6 ≤ c ∧ c < 16
    · by_cases hk : k = nR D + ls.length
      · subst hk
        rw [dupF_new (by omega) hc6]
        have hr : rrr (ls ++ [r]) ls.length = r := by unfold rrr; rw [List.getElem?_append_right (Nat.le_refl _), Nat.sub_self]; rfl
        rw [hr]
        unfold aAdd dupV
        rcases c16 hc6 with e | e | e | e | e | e | e | e | e | e <;> subst e <;> simp (disch := omega) only [u3_nc, u3_ek, u3_nk, upd_e, upd_n, dU_nk, dU_nc, dU_e, nI_ltI, nI_eq, nI_clamp, nI_add, nI_mul, inb_nI, nI_neg1, nI_ne1, nI_n1e, nI_neg1e, Nat.not_lt_zero, Nat.lt_irrefl, true_and, and_true, true_implies, false_implies, not_true_eq_false, not_false_eq_true, implies_true, forall_const, forall_eq, if_true, if_false, Nat.reduceEqDiff, eq_self, Nat.one_ne_zero, Nat.zero_ne_one, Nat.zero_add, Nat.add_zero]
        unfold dupF
        simp
      · rw [dU_nk hk, dU_nk hk, dU_nk hk, dU_nk hk, dU_nk hk, dU_nk hk, aAdd_old hk hc6.1]
        unfold dupF
        rw [if_neg hc0, if_neg hc0]
        by_cases hr : nR D ≤ k ∧ k < nR D + ls.length
        · rw [if_pos ⟨hc6.1, hc6.2, hr.1, hr.2⟩, if_pos ⟨hc6.1, hc6.2, hr.1, by rw [hlen]; omega⟩]
          have : rrr (ls ++ [r]) (k - nR D) = rrr ls (k - nR D) := by unfold rrr; rw [List.getElem?_append_left (by omega)]
          rw [this]
        · rw [if_neg (by omega), if_neg (by rw [hlen]; omega)]
    · unfold aAdd
      rw [dU_nc (by omega), dU_nc (by omega), dU_nc (by omega), dU_nc (by omega), dU_nc (by omega), dU_nc (by omega), dU_nc (by omega), dU_nc (by omega), dU_nc (by omega), dU_nc (by omega), dU_nc (by omega), dU_nc (by omega), dU_nc (by omega), dU_nc (by omega), dU_nc (by omega), dU_nc (by omega), dU_nc (by omega), dU_nc (by omega)]
      unfold dupF
      rw [if_neg hc0, if_neg hc0, if_neg (by omega), if_neg (by omega)]
end DF
