/-! A SPACE COPIED, by the class's changer and by the reference -/
def lqq (p : Nat → Bool) (q : Nat) : List Nat := (List.range q).filter p
theorem lqq_s {p : Nat → Bool} {q : Nat} : lqq p (q + 1) = if p q = true then lqq p q ++ [q] else lqq p q := by
  unfold lqq
  rw [List.range_succ, List.filter_append]
  by_cases h : p q = true
  · rw [if_pos h]; simp [h]
  · rw [if_neg h]; simp [h]
theorem lqq_len {p : Nat → Bool} {q : Nat} : (lqq p q).length = cntF p q := filter_len p q
theorem rrr_l {ls : List Nat} {x j : Nat} (h : j < ls.length) : rrr (ls ++ [x]) j = rrr ls j := by unfold rrr; rw [List.getElem?_append_left h]
theorem rrr_r {ls : List Nat} {x : Nat} : rrr (ls ++ [x]) ls.length = x := by unfold rrr; rw [List.getElem?_append_right (Nat.le_refl _), Nat.sub_self]; rfl
theorem posA {p : Nat → Bool} : ∀ n a, a < (lqq p n).length → rrr (lqq p n) a < n ∧ p (rrr (lqq p n) a) = true ∧ cntF p (rrr (lqq p n) a) = a := by
  intro n
  induction n with
  | zero => intro a h; exact absurd h (Nat.not_lt_zero a)
  | succ n ih =>
    intro a h
    rw [lqq_s] at h ⊢
    by_cases hp : p n = true
    · rw [if_pos hp] at h ⊢
      by_cases he : a = (lqq p n).length
      · subst he
        rw [rrr_r]
        exact ⟨Nat.lt_succ_self n, hp, lqq_len.symm⟩
      · rw [List.length_append, List.length_singleton] at h
        rw [rrr_l (by omega)]
        obtain ⟨h1, h2, h3⟩ := ih a (by omega)
        exact ⟨by omega, h2, h3⟩
    · rw [if_neg hp] at h ⊢
      obtain ⟨h1, h2, h3⟩ := ih a h
      exact ⟨by omega, h2, h3⟩
theorem posB {p : Nat → Bool} : ∀ n q, q < n → p q = true → cntF p q < (lqq p n).length ∧ rrr (lqq p n) (cntF p q) = q := by
  intro n
  induction n with
  | zero => intro q h; exact absurd h (Nat.not_lt_zero q)
  | succ n ih =>
    intro q h hq
    rw [lqq_s]
    by_cases he : q = n
    · subst he
      rw [if_pos hq, ← lqq_len, rrr_r, List.length_append, List.length_singleton]
      exact ⟨by omega, rfl⟩
    · obtain ⟨h1, h2⟩ := ih q (by omega) hq
      by_cases hp : p n = true
      · rw [if_pos hp, rrr_l h1, List.length_append, List.length_singleton]
        exact ⟨by omega, h2⟩
      · rw [if_neg hp]; exact ⟨h1, h2⟩
theorem cntF_mono {p : Nat → Bool} {a b : Nat} (h : a ≤ b) : cntF p a ≤ cntF p b := by
  induction b with
  | zero => rw [Nat.le_zero.mp h]; exact Nat.le_refl _
  | succ b ih =>
    by_cases he : a = b + 1
    · rw [he]; exact Nat.le_refl _
    · have := ih (by omega)
      show _ ≤ cntF p b + _
      omega
theorem dupF_congr {D : Nat → Nat → Int32} {ls : List Nat} {f10 f11 h10 h11 : Nat → Nat → Int32} {lk : Bool} {s12 : Int32} (h1 : ∀ a, a < ls.length → f10 a (rrr ls a) = h10 a (rrr ls a)) (h2 : ∀ a, a < ls.length → f11 a (rrr ls a) = h11 a (rrr ls a)) : dupF D ls f10 f11 lk s12 = dupF D ls h10 h11 lk s12 := by
  funext c k
  unfold dupF
  by_cases hc : c = 0
  · rw [if_pos hc, if_pos hc]
  · rw [if_neg hc, if_neg hc]
    by_cases hr : 6 ≤ c ∧ c < 16 ∧ nR D ≤ k ∧ k < nR D + ls.length
    · rw [if_pos hr, if_pos hr, h1 _ (by omega), h2 _ (by omega)]
    · rw [if_neg hr, if_neg hr]
def inS (D : Nat → Nat → Int32) (sp : Int32) : Nat → Bool := fun r => decide (D 7 r = sp)
/-- what a copy stands on -/
def fxD (D : Nat → Nat → Int32) (sp : Int32) (r : Nat) : Int32 := if D 10 r = -nI 1 then -nI 1 else D 0 13 + nI (cntF (inS D sp) ((up D r).getD 0))
def aDup (D : Nat → Nat → Int32) (sp : Int32) (lk : Bool) : Nat → Nat → Int32 := dupF D (lqq (inS D sp) (nR D)) (fun _ r => fxD D sp r) (fun _ r => D 11 r) lk (D 0 12 + nI 1)
def aCps (D : Nat → Nat → Int32) (sp : Int32) (lk : Bool) : Int32 × (Nat → Nat → Int32) :=
  if D 0 12 = nI 4 then (-nI 8, D) else if 40 < nR D + cntF (inS D sp) (nR D) then (-nI 8, D) else (D 0 12, aDup D sp lk)
/-- spaces: at most four; a mount is in the space of what it stands on; roots have no place -/
def SPN (D : Nat → Nat → Int32) : Prop := ∃ s, D 0 12 = nI s ∧ 1 ≤ s ∧ s ≤ 4
def SPC (D : Nat → Nat → Int32) : Prop := ∀ a b, a < nR D → b < nR D → D 10 a = D 6 b → D 7 a = D 7 b
def RTP (D : Nat → Nat → Int32) : Prop := ∀ a, a < nR D → D 10 a = -nI 1 → D 11 a = -nI 1
section DS
variable {sc : SC} {d i w r M : Nat} {g : Gs} {Φ : RS → Gs → Prop} {D E : Nat → Nat → Int32} {sp : Int32} {lk : Bool}
theorem s16 (hi : fm i = i) (hA : At g i E) (rk : ROK E) (h40 : nR E < 40) (hr : r < nR E) (hE : ∀ c, 6 ≤ c → E c r = D c r)
    (k : ∀ g', At g' i (dupS D E r (D 10 r) (D 11 r) lk) → Fr (fun i' c => i' = i ∧ (c < 16 ∨ c = 43)) g g' → (∀ u, g'.1 i 43 u = if u = r then E 0 13 else g.1 i 43 u) → Φ (.inl none) g') : Rn sc (d + 2) 16 [vR i 40, vI (nI r), vI (D 0 12), vI (if lk = true then nI 1 else nI 0)] g Φ := by
  have e8 : g.1 i 8 r = D 8 r := by rw [hA 8 (by decide)]; exact hE 8 (by decide)
  have e9 : g.1 i 9 r = D 9 r := by rw [hA 9 (by decide)]; exact hE 9 (by decide)
  have hr40 : r < 40 := by omega
  refine Rn.of rfl (v16_0 ?_)
  simp (disch := omega) only [u3_nc, u3_ek, u3_nk, upd_e, upd_n, dU_nk, dU_nc, dU_e, nI_ltI, nI_eq, nI_clamp, nI_add, nI_mul, inb_nI, nI_neg1, nI_ne1, nI_n1e, nI_neg1e, Nat.not_lt_zero, Nat.lt_irrefl, true_and, and_true, true_implies, false_implies, not_true_eq_false, not_false_eq_true, implies_true, forall_const, forall_eq, if_true, if_false, Nat.reduceEqDiff, eq_self, Nat.one_ne_zero, Nat.zero_ne_one, Nat.zero_add, Nat.add_zero, hi, e8, e9]
  refine s37A hA rk h40 (fun g1 a1 f1 => ⟨_, rfl, ?_⟩)
  unfold dupS at k
  obtain ⟨N, hN⟩ : ∃ N, N = nR E := ⟨_, rfl⟩
  rw [← hN] at a1 h40 hr k ⊢
  have o : ∀ c, 6 ≤ c → c < 16 → g1.1 i c r = D c r := fun c hc hc2 => by rw [a1 c hc2, aAdd_old (by omega) hc]; exact hE c hc
  have o6 : g1.1 i 6 N = E 0 13 := by rw [a1 6 (by decide)]; unfold aAdd; simp (disch := omega) only [u3_nc, u3_ek, u3_nk, upd_e, upd_n, dU_nk, dU_nc, dU_e, nI_ltI, nI_eq, nI_clamp, nI_add, nI_mul, inb_nI, nI_neg1, nI_ne1, nI_n1e, nI_neg1e, Nat.not_lt_zero, Nat.lt_irrefl, true_and, and_true, true_implies, false_implies, not_true_eq_false, not_false_eq_true, implies_true, forall_const, forall_eq, if_true, if_false, Nat.reduceEqDiff, eq_self, Nat.one_ne_zero, Nat.zero_ne_one, Nat.zero_add, Nat.add_zero]
  have o10 := o 10 (by decide) (by decide)
  have o11 := o 11 (by decide) (by decide)
  have o12 := o 12 (by decide) (by decide)
  have o13 := o 13 (by decide) (by decide)
  have o14 := o 14 (by decide) (by decide)
  have o15 := o 15 (by decide) (by decide)
  have hnn : ¬ nI N < nI 0 := nI_nn (by omega)
  have hne : ¬ N = r := by omega
  have g43 : ∀ u, g1.1 i 43 u = g.1 i 43 u := fun u => by rw [f1.1 i 43 (by omega)]
  simp (disch := omega) only [u3_nc, u3_ek, u3_nk, upd_e, upd_n, dU_nk, dU_nc, dU_e, nI_ltI, nI_eq, nI_clamp, nI_add, nI_mul, inb_nI, nI_neg1, nI_ne1, nI_n1e, nI_neg1e, Nat.not_lt_zero, Nat.lt_irrefl, true_and, and_true, true_implies, false_implies, not_true_eq_false, not_false_eq_true, implies_true, forall_const, forall_eq, if_true, if_false, Nat.reduceEqDiff, eq_self, Nat.one_ne_zero, Nat.zero_ne_one, Nat.zero_add, Nat.add_zero, hnn, hi, o6, o10, o11, o14]
  cases lk with
  | false =>
    rw [if_neg (by decide : ¬ false = true)]
    rw [if_neg (by decide : ¬ false = true), if_neg (by decide : ¬ false = true), if_neg (fun q => by cases q.1)] at k
    simp (disch := omega) only [u3_nc, u3_ek, u3_nk, upd_e, upd_n, dU_nk, dU_nc, dU_e, nI_ltI, nI_eq, nI_clamp, nI_add, nI_mul, inb_nI, nI_neg1, nI_ne1, nI_n1e, nI_neg1e, Nat.not_lt_zero, Nat.lt_irrefl, true_and, and_true, true_implies, false_implies, not_true_eq_false, not_false_eq_true, implies_true, forall_const, forall_eq, if_true, if_false, Nat.reduceEqDiff, eq_self, Nat.one_ne_zero, Nat.zero_ne_one, Nat.zero_add, Nat.add_zero, hi, o15, o12, o13]
    refine k _ (At.uc (At.uc (At.uc (At.uc (At.uc (At.uc (At.ux a1 (by decide)))))))) ((f1.wk (fun _ _ q => ⟨q.1, Or.inl q.2⟩)).tr (by repeat (first | exact Fr.rf _ | refine Fr.u3 ?_ ⟨rfl, by decide⟩))) (fun u => ?_)
    dsimp only
    rw [u3_nc (by decide), u3_nc (by decide), u3_nc (by decide), u3_nc (by decide), u3_nc (by decide), u3_nc (by decide), u3_if, g43]
  | true =>
    rw [if_pos rfl]
    rw [if_pos rfl, if_pos rfl] at k
    simp (disch := omega) only [u3_nc, u3_ek, u3_nk, upd_e, upd_n, dU_nk, dU_nc, dU_e, nI_ltI, nI_eq, nI_clamp, nI_add, nI_mul, inb_nI, nI_neg1, nI_ne1, nI_n1e, nI_neg1e, Nat.not_lt_zero, Nat.lt_irrefl, true_and, and_true, true_implies, false_implies, not_true_eq_false, not_false_eq_true, implies_true, forall_const, forall_eq, if_true, if_false, Nat.reduceEqDiff, eq_self, Nat.one_ne_zero, Nat.zero_ne_one, Nat.zero_add, Nat.add_zero, hi, o12, o13]
    refine ⟨fun h0 => ?_, fun h0 => ?_⟩
    · rw [if_neg (fun q => q.2 h0)] at k
      refine k _ (At.uc (At.uc (At.uc (At.uc (At.uc (At.uc (At.ux a1 (by decide)))))))) ((f1.wk (fun _ _ q => ⟨q.1, Or.inl q.2⟩)).tr (by repeat (first | exact Fr.rf _ | refine Fr.u3 ?_ ⟨rfl, by decide⟩))) (fun u => ?_)
      dsimp only
      rw [u3_nc (by decide), u3_nc (by decide), u3_nc (by decide), u3_nc (by decide), u3_nc (by decide), u3_nc (by decide), u3_if, g43]
    · rw [if_pos ⟨rfl, h0⟩] at k
      refine k _ (At.uc (At.uc (At.uc (At.uc (At.uc (At.uc (At.ux a1 (by decide)))))))) ((f1.wk (fun _ _ q => ⟨q.1, Or.inl q.2⟩)).tr (by repeat (first | exact Fr.rf _ | refine Fr.u3 ?_ ⟨rfl, by decide⟩))) (fun u => ?_)
      dsimp only
      rw [u3_nc (by decide), u3_nc (by decide), u3_nc (by decide), u3_nc (by decide), u3_nc (by decide), u3_nc (by decide), u3_if, g43]
end DS
