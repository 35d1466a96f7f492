/-! A METHOD OF THE SMALL MACHINE IS A METHOD OF THE MACHINE -/
theorem rlo_rep (L : AD) (k n : Nat) : rlo L n (List.replicate k vU) = [] := by
  induction k generalizing n with
  | zero => rfl
  | succ k ih => exact ih (n + 1)
theorem rlo_entry (L : AD) (k : Nat) (as : List AV) : ∀ n, ∀ q ∈ rlo L n (elo as ++ List.replicate k vU), q ∈ lv_args n (as.map (avV L)) := by
  induction as with
  | nil =>
    intro n q hq
    rw [show elo [] ++ List.replicate k vU = List.replicate k vU from rfl, rlo_rep] at hq
    cases hq
  | cons v r ih =>
    intro n q hq
    match v, hq with
    | .inl x, hq =>
      rcases List.mem_cons.mp (show q ∈ (n, Value.int x) :: rlo L (n + 1) (elo r ++ List.replicate k vU) from hq) with h | h
      · exact h ▸ List.mem_cons_self
      · exact List.mem_cons_of_mem _ (ih (n + 1) q h)
    | .inr (.inl x), hq =>
      rcases List.mem_cons.mp (show q ∈ (n, Value.long x) :: rlo L (n + 2) (elo r ++ List.replicate k vU) from hq) with h | h
      · exact h ▸ List.mem_cons_self
      · exact List.mem_cons_of_mem _ (ih (n + 2) q h)
    | .inr (.inr (.inl x)), hq =>
      rcases List.mem_cons.mp (show q ∈ (n, Value.ref (L x.1 x.2)) :: rlo L (n + 1) (elo r ++ List.replicate k vU) from hq) with h | h
      · exact h ▸ List.mem_cons_self
      · exact List.mem_cons_of_mem _ (ih (n + 1) q h)
    | .inr (.inr (.inr ())), hq => exact List.mem_cons_of_mem _ (ih (n + 1) q (show q ∈ rlo L (n + 1) (elo r ++ List.replicate k vU) from hq))
theorem sl_len (L : AD) (as : List AV) : (lg_sl (as.map (avV L))).length = (elo as).length := by
  induction as with
  | nil => rfl
  | cons v r ih =>
    match v with
    | .inl x => exact congrArg Nat.succ ih
    | .inr (.inl x) => exact congrArg (fun n => n + 2) ih
    | .inr (.inr (.inl x)) => exact congrArg Nat.succ ih
    | .inr (.inr (.inr ())) => exact congrArg Nat.succ ih
theorem lo0_len {as : List AV} {n : Nat} (h : (elo as).length ≤ n) : (lo0 as n).length = n := by
  unfold lo0
  rw [List.length_append, List.length_replicate]
  omega
theorem elo_ok {n : Nat} {as : List AV} (h : ∀ v ∈ as, okV n v) : ∀ v ∈ elo as, okV n v := by
  induction as with
  | nil => intro v hv; cases hv
  | cons x r ih =>
    intro v hv
    have ihr := ih (fun w hw => h w (List.mem_cons_of_mem _ hw))
    match x, hv, h x List.mem_cons_self with
    | .inl a, hv, _ =>
      rcases List.mem_cons.mp (show v ∈ vI a :: elo r from hv) with e | e
      · rw [e]; trivial
      · exact ihr v e
    | .inr (.inl a), hv, _ =>
      rcases List.mem_cons.mp (show v ∈ vJ a :: vU :: elo r from hv) with e | e
      · rw [e]; trivial
      · rcases List.mem_cons.mp e with e | e
        · rw [e]; trivial
        · exact ihr v e
    | .inr (.inr (.inl a)), hv, ha =>
      rcases List.mem_cons.mp (show v ∈ .inr (.inr (.inl a)) :: elo r from hv) with e | e
      · rw [e]; exact ha
      · exact ihr v e
    | .inr (.inr (.inr ())), hv, _ =>
      rcases List.mem_cons.mp (show v ∈ vU :: elo r from hv) with e | e
      · rw [e]; trivial
      · exact ihr v e
theorem lo0_ok {n k : Nat} {as : List AV} (h : ∀ v ∈ as, okV n v) : ∀ v ∈ lo0 as k, okV n v := by
  intro v hv
  rcases List.mem_append.mp hv with e | e
  · exact elo_ok h v e
  · rw [(List.mem_replicate.mp e).2]; trivial
theorem ivk_spec {kd m mm np : Nat} {lo st as rest : List AV} {h : AH} (q : ivk kd m lo st np h = some (.inr (.inr (.inl (mm, as, rest))))) : mm = m ∧ m < 252 ∧ mkd m = kd ∧
    ((kd = 1 ∧ st = as.reverse ++ rest ∧ as.length = mna m ∧ Nat.ble (cats rest) 8 = true) ∨ (kd ≠ 1 ∧ ∃ i c as', as = vR i c :: as' ∧ st = as'.reverse ++ vR i c :: rest ∧ as'.length = mna m ∧ isO c (mcx m) = true ∧ Nat.ble (cats rest) 8 = true)) := by
  unfold ivk at q
  simp only [Bool.cond_eq_ite] at q
  split at q
  · rename_i h1
    simp only [Bool.and_eq_true] at h1
    have hm : m < 252 := Nat.le_of_ble_eq_true h1.1
    have hk := Nat.eq_of_beq_eq_true h1.2
    split at q
    · rename_i h2
      split at q
      · rename_i h3
        simp only [Bool.and_eq_true] at h3
        simp only [Option.some.injEq, Sum.inr.injEq, Sum.inl.injEq, Prod.mk.injEq] at q
        obtain ⟨rfl, rfl, rfl⟩ := q
        refine ⟨rfl, hm, hk, Or.inl ⟨Nat.eq_of_beq_eq_true h2, ?_, ?_, h3.2⟩⟩
        · rw [List.reverse_reverse, List.take_append_drop]
        · rw [List.length_reverse, List.length_take]
          have := Nat.le_of_ble_eq_true h3.1
          omega
      · cases q
    · rename_i h2
      split at q
      · rename_i i c rest' hd
        split at q
        · rename_i h3
          simp only [Bool.and_eq_true] at h3
          simp only [Option.some.injEq, Sum.inr.injEq, Sum.inl.injEq, Prod.mk.injEq] at q
          obtain ⟨rfl, rfl, rfl⟩ := q
          refine ⟨rfl, hm, hk, Or.inr ⟨fun e => h2 (by rw [e]; rfl), i, c, _, rfl, ?_, ?_, h3.1, h3.2⟩⟩
          · rw [List.reverse_reverse]
            conv => lhs; rw [← List.take_append_drop (mna m) st, hd]
          · rw [List.length_reverse, List.length_take]
            have hlen : (st.drop (mna m)).length = rest'.length + 1 := by rw [hd]; rfl
            rw [List.length_drop] at hlen
            omega
        · cases q
      · cases q
  · cases q
theorem ivk_noR {kd mm np : Nat} {lo st : List AV} {h : AH} {v : Option AV} (q : ivk kd mm lo st np h = some (.inr (.inl v))) : False := by
  unfold ivk at q
  simp only [Bool.cond_eq_ite] at q
  repeat' split at q
  all_goals cases q
theorem ivk_noX {kd mm np e : Nat} {lo st : List AV} {h : AH} (q : ivk kd mm lo st np h = some (.inr (.inr (.inr e)))) : False := by
  unfold ivk at q
  simp only [Bool.cond_eq_ite] at q
  repeat' split at q
  all_goals cases q
section KIND
variable {sc : SC} {y : Nat} {K : List (Nat × Instr × Nat)} {i : Instr} {np pc : Nat} {lo st : List AV} {h : AH}
set_option maxHeartbeats 4000000 in
theorem stp_ret {v : Option AV} (hst : stp sc y K i np pc lo st h = some (.inr (.inl v))) : i = .ireturn ∨ i = .lreturn ∨ i = .return_ := by
  cases i <;> first
    | (cases hst; done)
    | exact Or.inl rfl
    | exact Or.inr (Or.inl rfl)
    | exact Or.inr (Or.inr rfl)
    | (rename_i cnd _; cases cnd <;> (unfold stp at hst; simp only [br1, br2, sNx, Bool.cond_eq_ite] at hst; (repeat' split at hst); all_goals (cases hst; done)))
    | (unfold stp at hst
       (try dsimp only at hst)
       (try simp only [ldI, ldJ, ldA, stI, stA, stJ, bin, binJ, binD, br1, br2, aldI, astI, Bool.cond_eq_ite] at hst)
       (repeat' split at hst)
       all_goals first
         | (cases hst; done)
         | (exact (ivk_noR hst).elim))
set_option maxHeartbeats 4000000 in
theorem stp_thr {e : Nat} (hst : stp sc y K i np pc lo st h = some (.inr (.inr (.inr e)))) : ∃ k, i = .new k := by
  cases i <;> first
    | (cases hst; done)
    | exact ⟨_, rfl⟩
    | (rename_i cnd _; cases cnd <;> (unfold stp at hst; simp only [br1, br2, sNx, Bool.cond_eq_ite] at hst; (repeat' split at hst); all_goals (cases hst; done)))
    | (unfold stp at hst
       (try dsimp only at hst)
       (try simp only [ldI, ldJ, ldA, stI, stA, stJ, bin, binJ, binD, br1, br2, aldI, astI, Bool.cond_eq_ite] at hst)
       (repeat' split at hst)
       all_goals first
         | (cases hst; done)
         | (exact (ivk_noX hst).elim))
set_option maxHeartbeats 4000000 in
theorem stp_cal {mm : Nat} {as rest : List AV} (hst : stp sc y K i np pc lo st h = some (.inr (.inr (.inl (mm, as, rest))))) :
    ∃ k q w, fnd (mTL.getD (mcx y) []) k = some (q, w) ∧ ((i = .invokespecial k ∧ ivk 2 q lo st np h = some (.inr (.inr (.inl (mm, as, rest))))) ∨ (i = .invokestatic k ∧ ivk 1 q lo st np h = some (.inr (.inr (.inl (mm, as, rest))))) ∨ (i = .invokevirtual k ∧ ivk 0 q lo st np h = some (.inr (.inr (.inl (mm, as, rest)))))) := by
  cases i <;> first
    | (cases hst; done)
    | (rename_i cnd _; cases cnd <;> (unfold stp at hst; simp only [br1, br2, sNx, Bool.cond_eq_ite] at hst; (repeat' split at hst); all_goals (cases hst; done)))
    | (unfold stp at hst
       (try dsimp only at hst)
       (try simp only [ldI, ldJ, ldA, stI, stA, stJ, bin, binJ, binD, br1, br2, aldI, astI, Bool.cond_eq_ite] at hst)
       (repeat' split at hst)
       all_goals first
         | (cases hst; done)
         | (rename_i hf _; exact ⟨_, _, _, hf, Or.inl ⟨rfl, hst⟩⟩)
         | (rename_i hf _; exact ⟨_, _, _, hf, Or.inr (Or.inr ⟨rfl, hst⟩)⟩)
         | (rename_i hf _ _; exact ⟨_, _, _, hf, Or.inr (Or.inr ⟨rfl, hst⟩)⟩)
         | (rename_i hf _ _ _; exact ⟨_, _, _, hf, Or.inr (Or.inl ⟨rfl, hst⟩)⟩))
end KIND
theorem m251 : mTL.all (fun L => L.all (fun e => !(Nat.beq e.2.1 251))) = true := by decide +kernel
theorem m_lt {cx k q : Nat} {w : Nat × Nat} (hq : q < 252) (h : fnd (mTL.getD cx []) k = some (q, w)) : q < 251 := by
  have hm := fnd_mem h
  by_cases hc : cx < mTL.length
  · have h1 := List.all_eq_true.mp m251 (mTL.getD cx []) (by rw [List.getD_eq_getElem?_getD, List.getElem?_eq_getElem hc]; exact List.getElem_mem hc)
    have h2 := List.all_eq_true.mp h1 _ hm
    simp only [Bool.not_eq_true'] at h2
    have h3 : q ≠ 251 := fun e => by rw [e] at h2; cases h2
    omega
  · rw [List.getD_eq_getElem?_getD, List.getElem?_eq_none (by omega)] at hm
    cases hm
theorem hw_good (y : Nat) : goodWord (hWord y) = true := by
  unfold hWord
  split <;> rfl
theorem good_wsY {y : Nat} (hy : y < 251) : GoodIn (lw_tbl.filter goodWord) (wsY y) := by
  intro w hw
  have h1 : w ∈ lw_tbl.filter goodWord := by
    rcases List.mem_cons.mp hw with e | e
    · rw [e]; exact List.mem_filter.mpr ⟨(yf_all y hy).1, hw_good y⟩
    · exact e
  exact ⟨h1, good_of_word (List.mem_filter.mp h1).2⟩
