/-! CONTRACTS: what stands of the machine at each method's begin, and how it passes to a callee -/
def sofW : Cond → Bool
  | .methodLinkNest _ _ _ _ => true
  | _ => false
/-- the string constants' own cells, and the statics that reading them reads -/
def WS (base : Nat) (adK : Nat → Nat) (U : State) : Prop := va_Z "java/lang/String" "COMPACT_STRINGS" "Z" (.int 1) (fun q => base ≤ q) U U.heap ∧ va_Zq "jdk/internal/util/Preconditions" "SIOOBE_FORMATTER" "Ljava/util/function/BiFunction;" (fun q => base ≤ q) U U.heap ∧
  ∀ i, i < strN → va_O "java/lang/String" (adK i) (fun q => base ≤ q) U U.heap ∧ va_OF "java/lang/String" "coder" "B" (.int 0) (adK i) (fun q => base ≤ q) U U.heap ∧ ∃ v : Nat, va_OF "java/lang/String" "value" "[B" (.ref v) (adK i) (fun q => base ≤ q) U U.heap ∧ va_T .byte v (txt i).length (fun j => .int ((txt i).getD j 0)) (fun q => base ≤ q) U U.heap
def WY (D : va_G) (tc : Nat → ClassId) (base b0 : Nat) (sc : SC) (adK : Nat → Nat) (U : State) : Prop :=
  va_K D cls9 (tys9 tc) U ∧ va_X b0 sc.1 sc.2 U U.heap ∧ b0 < base ∧ base ≤ U.heap.size ∧ (∀ i q, strL[i]? = some q → vk_R q.1 q.2.1 q.2.2 (adK i) U) ∧ va_AO "MountSpaces$Mounts" U ∧ ((∀ w ∈ lw_tbl, sofW w = true → va_Nw w U) ∧ ∀ x ∈ xpL, va_Nw (.selects sbN x x) U) ∧ WS base adK U
theorem sof_warm {w : Cond} {s U : State} (hW : s.WarmedH U.vm) (hw : sofW w = true) (h : va_Nw w s) : va_Nw w U := by
  cases w <;> first | exact va_Nw.warmM hW h | cases hw
theorem WY.to {D : va_G} {tc : Nat → ClassId} {base b0 : Nat} {sc : SC} {adK : Nat → Nat} {s U : State} (h : WY D tc base b0 sc adK s) (hW : s.WarmedH U.vm) (hz : s.heap.size ≤ U.heap.size) (hk : ∀ q, q < s.heap.size → ¬ base ≤ q → U.heap[q]? = s.heap[q]?) : WY D tc base b0 sc adK U := by
  obtain ⟨h1, h2, h3, h4, h5, h6, ⟨g1, g2⟩, e1, e2, e3⟩ := h
  have hb : ∀ q, q < base → U.heap[q]? = s.heap[q]? := fun q hq => hk q (by omega) (by omega)
  refine ⟨va_K.moved hW.alike h1, (va_X.moved hW.alike h2).kept (hb b0 h3), h3, by omega, fun i q hq => vk_R.warm hW (h5 i q hq), va_AO.moved hW.alike h6, ⟨fun w hw hs => sof_warm hW hs (g1 w hw hs), fun x hx => word_at hW (Or.inl rfl) (g2 x hx)⟩, va_Z.moved hW.alike (e1.kept hk), va_Zq.moved hW.alike (e2.kept hk), fun i hi => ?_⟩
  obtain ⟨f1, f2, v, f3, f4⟩ := e3 i hi
  exact ⟨va_O.moved hW.alike (f1.kept hk), va_OF.moved hW.alike (f2.kept hk), v, va_OF.moved hW.alike (f3.kept hk), va_T.moved hW.alike (f4.kept hk)⟩
theorem WY.X {D : va_G} {tc : Nat → ClassId} {base b0 : Nat} {sc : SC} {adK : Nat → Nat} {s : State} {args : Array Value} (h : WY D tc base b0 sc adK s) (hw : ∀ w ∈ lw_tbl, goodWord w = true → w.before args s = true) : WX s args D tc base b0 sc adK :=
  ⟨⟨hw, h.1⟩, h.2.1, h.2.2.1, h.2.2.2.1, h.2.2.2.2.1, h.2.2.2.2.2.1⟩
def wsY (y : Nat) : List Cond := hWord y :: lw_tbl.filter goodWord
def rmY (d mc ms : Nat) : Room := { frames := 8 + d, cells := mc, slots := ms, locals := 200 + 40 * d }
def pcY (base : Nat) (D : va_G) (tc : Nat → ClassId) (adK : Nat → Nat) (b0 : Nat) (sc : SC) (L : AD) (as : List AV) (h : AH) : Array Value → State → Prop := fun v U =>
  v = (as.map (avV L)).toArray ∧ RL base D tc adK b0 L h U.heap ∧ WY D tc base b0 sc adK U
def qcY (base : Nat) (D : va_G) (tc : Nat → ClassId) (adK : Nat → Nat) (b0 : Nat) (L : AD) (n : Nat) (v : Option AV) (h' : AH) : Array Value → State → Outcome → State → Prop := fun _ st o t =>
  ∃ L' : AD, o = .returned (v.map (avV L')) ∧ (∀ q, okA n q → L' q.1 q.2 = L q.1 q.2) ∧ RL base D tc adK b0 L' h' t.heap ∧ va_F (fun q => base ≤ q) st t ∧ (∀ w, v = some w → okV h'.1.1 w) ∧ n ≤ h'.1.1
def SND (l : Launch) (base : Nat) (D : va_G) (tc : Nat → ClassId) (adK : Nat → Nat) (b0 : Nat) (sc : SC) (N d : Nat) : Prop :=
  ∀ (y : Nat) (as : List AV) (h h' : AH) (v : Option AV) (L : AD), y < 130 → runM sc N d y as h = some (v, h') → (∀ w ∈ as, okV h.1.1 w) →
    Met l (mNam y) (wsY y) (rmY d (h'.1.2.1 - h.1.2.1) (h'.1.2.2 - h.1.2.2)) (pcY base D tc adK b0 sc L as h) (qcY base D tc adK b0 L h.1.1 v h') (h'.1.2.1 - h.1.2.1) (h'.1.2.2 - h.1.2.2) (fun q => base ≤ q)
theorem mmx_all : (List.range 131).all (fun y => Nat.ble (mmx y) 21 && Nat.ble (mna y) 9) = true := by decide +kernel
theorem mmx_le {y : Nat} (h : y < 131) : mmx y ≤ 21 := by
  have := List.all_eq_true.mp mmx_all y (List.mem_range.mpr h)
  simp only [Bool.and_eq_true] at this
  exact Nat.le_of_ble_eq_true this.1
/-! what grows, grows -/
def leH (h h' : AH) : Prop := h.1.1 ≤ h'.1.1 ∧ h.1.2.1 ≤ h'.1.2.1 ∧ h.1.2.2 ≤ h'.1.2.2
theorem leH.rf (h : AH) : leH h h := ⟨Nat.le_refl _, Nat.le_refl _, Nat.le_refl _⟩
theorem leH.tr {a b c : AH} (h1 : leH a b) (h2 : leH b c) : leH a c := ⟨Nat.le_trans h1.1 h2.1, Nat.le_trans h1.2.1 h2.2.1, Nat.le_trans h1.2.2 h2.2.2⟩
theorem leH.of {h h' : AH} (e : h'.1 = h.1) : leH h h' := by rw [show leH h h' ↔ _ from Iff.rfl]; unfold leH; rw [e]; exact ⟨Nat.le_refl _, Nat.le_refl _, Nat.le_refl _⟩
theorem leH.al (h : AH) (kd : Nat × Nat) (n : Nat) : leH h (alc h kd n) := ⟨Nat.le_succ _, Nat.le_succ _, Nat.le_add_right _ _⟩
theorem sNx_le {pc pc' : Nat} {lo lo' st st' : List AV} {h h' : AH} (q : sNx pc lo st h = some (.inl (pc', lo', st', h'))) : h' = h := (sNx_inj q).2.2.2.symm
theorem strI_le {m np pc' : Nat} {lo lo' st st' : List AV} {h h' : AH} (q : strI m lo st np h = some (.inl (pc', lo', st', h'))) : h' = h := by
  unfold strI at q
  simp only [Bool.cond_eq_ite] at q
  repeat' split at q
  all_goals first
    | (cases q; done)
    | exact sNx_le q
theorem strI_no {m np : Nat} {lo st : List AV} {h : AH} {x : (Option AV) ⊕ (Nat × List AV × List AV)} (q : strI m lo st np h = some (.inr x)) : False := by
  unfold strI at q
  simp only [Bool.cond_eq_ite] at q
  repeat' split at q
  all_goals cases q
set_option maxHeartbeats 4000000 in
theorem stp_le {sc : SC} {y : Nat} {i : Instr} {np pc' : Nat} {lo lo' st st' : List AV} {h h' : AH} (hst : stp sc y i np lo st h = some (.inl (pc', lo', st', h'))) : leH h h' := by
  cases i <;> first
    | (cases hst; done)
    | (unfold stp at hst
       (try dsimp only at hst)
       (try simp only [ldI, ldA, stI, stA, bin, binD, br1, br2, aldI, astI, Bool.cond_eq_ite] at hst)
       (repeat' split at hst)
       all_goals first
         | (cases hst; done)
         | (rw [sNx_le hst]; exact leH.rf _)
         | (rw [sNx_le hst]; exact leH.of rfl)
         | (rw [sNx_le hst]; exact leH.al _ _ _)
         | (rw [strI_le hst]; exact leH.rf _)
         | (exact (ivk_no hst).elim))
/-! A METHOD OF THE SMALL MACHINE IS A METHOD OF THE MACHINE -/
theorem rlo_rep (L : AD) (k n : Nat) : rlo L n (List.replicate k vU) = [] := by
  induction k generalizing n with
  | zero => rfl
  | succ k ih => exact ih (n + 1)
theorem rlo_entry (L : AD) (k : Nat) (as : List AV) : ∀ n, ∀ q ∈ rlo L n (elo as ++ List.replicate k vU), q ∈ lv_args n (as.map (avV L)) := by
  induction as with
  | nil =>
    intro n q hq
    rw [show elo [] ++ List.replicate k vU = List.replicate k vU from rfl, rlo_rep] at hq
    cases hq
  | cons v r ih =>
    intro n q hq
    match v, hq with
    | .inl x, hq =>
      rcases List.mem_cons.mp (show q ∈ (n, Value.int x) :: rlo L (n + 1) (elo r ++ List.replicate k vU) from hq) with h | h
      · exact h ▸ List.mem_cons_self
      · exact List.mem_cons_of_mem _ (ih (n + 1) q h)
    | .inr (.inl x), hq =>
      rcases List.mem_cons.mp (show q ∈ (n, Value.long x) :: rlo L (n + 2) (elo r ++ List.replicate k vU) from hq) with h | h
      · exact h ▸ List.mem_cons_self
      · exact List.mem_cons_of_mem _ (ih (n + 2) q h)
    | .inr (.inr (.inl x)), hq =>
      rcases List.mem_cons.mp (show q ∈ (n, Value.ref (L x.1 x.2)) :: rlo L (n + 1) (elo r ++ List.replicate k vU) from hq) with h | h
      · exact h ▸ List.mem_cons_self
      · exact List.mem_cons_of_mem _ (ih (n + 1) q h)
    | .inr (.inr (.inr ())), hq => exact List.mem_cons_of_mem _ (ih (n + 1) q (show q ∈ rlo L (n + 1) (elo r ++ List.replicate k vU) from hq))
theorem sl_len (L : AD) (as : List AV) : (lg_sl (as.map (avV L))).length = (elo as).length := by
  induction as with
  | nil => rfl
  | cons v r ih =>
    match v with
    | .inl x => exact congrArg Nat.succ ih
    | .inr (.inl x) => exact congrArg (fun n => n + 2) ih
    | .inr (.inr (.inl x)) => exact congrArg Nat.succ ih
    | .inr (.inr (.inr ())) => exact congrArg Nat.succ ih
theorem lo0_len {as : List AV} {n : Nat} (h : (elo as).length ≤ n) : (lo0 as n).length = n := by
  unfold lo0
  rw [List.length_append, List.length_replicate]
  omega
theorem elo_ok {n : Nat} {as : List AV} (h : ∀ v ∈ as, okV n v) : ∀ v ∈ elo as, okV n v := by
  induction as with
  | nil => intro v hv; cases hv
  | cons x r ih =>
    intro v hv
    have ihr := ih (fun w hw => h w (List.mem_cons_of_mem _ hw))
    match x, hv, h x List.mem_cons_self with
    | .inl a, hv, _ =>
      rcases List.mem_cons.mp (show v ∈ vI a :: elo r from hv) with e | e
      · rw [e]; trivial
      · exact ihr v e
    | .inr (.inl a), hv, _ =>
      rcases List.mem_cons.mp (show v ∈ Sum.inr (Sum.inl a) :: vU :: elo r from hv) with e | e
      · rw [e]; trivial
      · rcases List.mem_cons.mp e with e | e
        · rw [e]; trivial
        · exact ihr v e
    | .inr (.inr (.inl a)), hv, ha =>
      rcases List.mem_cons.mp (show v ∈ .inr (.inr (.inl a)) :: elo r from hv) with e | e
      · rw [e]; exact ha
      · exact ihr v e
    | .inr (.inr (.inr ())), hv, _ =>
      rcases List.mem_cons.mp (show v ∈ vU :: elo r from hv) with e | e
      · rw [e]; trivial
      · exact ihr v e
theorem lo0_ok {n k : Nat} {as : List AV} (h : ∀ v ∈ as, okV n v) : ∀ v ∈ lo0 as k, okV n v := by
  intro v hv
  rcases List.mem_append.mp hv with e | e
  · exact elo_ok h v e
  · rw [(List.mem_replicate.mp e).2]; trivial
theorem ivk_spec {kd m mm np : Nat} {lo st as rest : List AV} {h : AH} (q : ivk kd m lo st np h = some (.inr (.inr (mm, as, rest)))) : mm = m ∧ m < 131 ∧ mkd m = (bif Nat.blt kd 3 then kd else 0) ∧
    ((kd = 1 ∧ st = as.reverse ++ rest ∧ as.length = mna m ∧ Nat.ble (cats rest) 8 = true) ∨ (kd ≠ 1 ∧ ∃ i c as', as = vR i c :: as' ∧ st = as'.reverse ++ vR i c :: rest ∧ as'.length = mna m ∧ rcv kd m (hK h i c) = true ∧ Nat.ble (cats rest) 8 = true)) := by
  unfold ivk at q
  cases h1 : (Nat.blt m 131 && Nat.beq (mkd m) (bif Nat.blt kd 3 then kd else 0)) with
  | false => rw [h1] at q; cases q
  | true =>
    rw [h1] at q
    dsimp only [cond_true] at q
    simp only [Bool.and_eq_true] at h1
    have hm : m < 131 := Nat.blt_eq.mp h1.1
    have hk := Nat.eq_of_beq_eq_true h1.2
    cases h2 : Nat.beq kd 1 with
    | true =>
      rw [h2] at q
      dsimp only [cond_true] at q
      cases h3 : (Nat.ble (mna m) st.length && Nat.ble (cats (st.drop (mna m))) 8) with
      | false => rw [h3] at q; cases q
      | true =>
        rw [h3] at q
        dsimp only [cond_true] at q
        simp only [Bool.and_eq_true] at h3
        simp only [Option.some.injEq, Sum.inr.injEq, Prod.mk.injEq] at q
        obtain ⟨rfl, rfl, rfl⟩ := q
        refine ⟨rfl, hm, hk, Or.inl ⟨Nat.eq_of_beq_eq_true h2, ?_, ?_, h3.2⟩⟩
        · rw [List.reverse_reverse, List.take_append_drop]
        · rw [List.length_reverse, List.length_take]
          have := Nat.le_of_ble_eq_true h3.1
          omega
    | false =>
      rw [h2] at q
      dsimp only [cond_false] at q
      split at q
      · rename_i i c rest' hd
        cases h3 : (rcv kd m (hK h i c) && Nat.ble (cats rest') 8) with
        | false => rw [h3] at q; cases q
        | true =>
          rw [h3] at q
          dsimp only [cond_true] at q
          simp only [Bool.and_eq_true] at h3
          simp only [Option.some.injEq, Sum.inr.injEq, Prod.mk.injEq] at q
          obtain ⟨rfl, rfl, rfl⟩ := q
          refine ⟨rfl, hm, hk, Or.inr ⟨fun e => (by rw [e] at h2; cases h2), i, c, _, rfl, ?_, ?_, h3.1, h3.2⟩⟩
          · rw [List.reverse_reverse]
            conv => lhs; rw [← List.take_append_drop (mna m) st, hd]
          · rw [List.length_reverse, List.length_take]
            have hlen : (st.drop (mna m)).length = rest'.length + 1 := by rw [hd]; rfl
            rw [List.length_drop] at hlen
            omega
      · cases q
theorem ivk_noR {kd mm np : Nat} {lo st : List AV} {h : AH} {v : Option AV} (q : ivk kd mm lo st np h = some (.inr (.inl v))) : False := by
  unfold ivk at q
  simp only [Bool.cond_eq_ite] at q
  repeat' split at q
  all_goals cases q
section KIND
variable {sc : SC} {y : Nat} {i : Instr} {np pc : Nat} {lo st : List AV} {h : AH}
set_option maxHeartbeats 4000000 in
theorem stp_ret {v : Option AV} (hst : stp sc y i np lo st h = some (.inr (.inl v))) : i = .ireturn ∨ i = .areturn ∨ i = .return_ := by
  cases i <;> first
    | (cases hst; done)
    | exact Or.inl rfl
    | exact Or.inr (Or.inl rfl)
    | exact Or.inr (Or.inr rfl)
    | (rename_i cnd _; cases cnd <;> (unfold stp at hst; simp only [br1, br2, sNx, Bool.cond_eq_ite] at hst; (repeat' split at hst); all_goals (cases hst; done)))
    | (unfold stp at hst
       (try dsimp only at hst)
       (try simp only [ldI, ldA, stI, stA, bin, binD, br1, br2, aldI, astI, Bool.cond_eq_ite] at hst)
       (repeat' split at hst)
       all_goals first
         | (cases hst; done)
         | (exact (strI_no hst).elim)
         | (exact (ivk_noR hst).elim))
set_option maxHeartbeats 4000000 in
theorem stp_cal {mm : Nat} {as rest : List AV} (hst : stp sc y i np lo st h = some (.inr (.inr (mm, as, rest)))) :
    ∃ k q cd w, fnd (mTL.getD (mcx y) []) k = some (q, cd, w) ∧ ((i = .invokespecial k ∧ cd = 3 ∧ ivk 4 q lo st np h = some (.inr (.inr (mm, as, rest)))) ∨ (i = .invokespecial k ∧ cd < 2 ∧ ivk 2 q lo st np h = some (.inr (.inr (mm, as, rest)))) ∨ (i = .invokestatic k ∧ cd = 0 ∧ ivk 1 q lo st np h = some (.inr (.inr (mm, as, rest)))) ∨
      (i = .invokevirtual k ∧ cd = 2 ∧ ivk 3 q lo st np h = some (.inr (.inr (mm, as, rest)))) ∨ (i = .invokevirtual k ∧ cd = 0 ∧ ivk 0 q lo st np h = some (.inr (.inr (mm, as, rest))))) := by
  cases i
  case invokespecial k =>
    unfold stp at hst
    dsimp only at hst
    split at hst
    · rename_i q cd w hf
      refine ⟨k, q, cd, w, hf, ?_⟩
      cases h5 : Nat.beq q 500 with
      | true =>
        rw [h5] at hst
        dsimp only [cond_true] at hst
        split at hst
        · simp only [Bool.cond_eq_ite] at hst
          split at hst <;> cases hst
        · cases hst
      | false =>
        rw [h5] at hst
        dsimp only [cond_false] at hst
        cases h3 : Nat.beq cd 3 with
        | true => rw [h3] at hst; exact Or.inl ⟨rfl, Nat.eq_of_beq_eq_true h3, hst⟩
        | false =>
          rw [h3] at hst
          dsimp only [cond_false] at hst
          cases h2 : Nat.blt cd 2 with
          | true => rw [h2] at hst; exact Or.inr (Or.inl ⟨rfl, Nat.blt_eq.mp h2, hst⟩)
          | false => rw [h2] at hst; cases hst
    · cases hst
  case invokestatic k =>
    unfold stp at hst
    dsimp only at hst
    split at hst
    · rename_i q cd w hf
      refine ⟨k, q, cd, w, hf, Or.inr (Or.inr (Or.inl ?_))⟩
      cases h0 : Nat.beq cd 0 with
      | true =>
        rw [h0] at hst
        refine ⟨rfl, Nat.eq_of_beq_eq_true h0, ?_⟩
        simp only [Bool.cond_eq_ite] at hst
        (repeat' split at hst)
        all_goals first
          | (cases hst; done)
          | exact hst
      | false =>
        rw [h0] at hst
        exfalso
        simp only [Bool.cond_eq_ite] at hst
        (repeat' split at hst)
        all_goals first
          | (cases hst; done)
          | (rename_i z; cases z)
    · cases hst
  case invokevirtual k =>
    unfold stp at hst
    dsimp only at hst
    split at hst
    · rename_i q cd w hf
      refine ⟨k, q, cd, w, hf, Or.inr (Or.inr (Or.inr ?_))⟩
      cases h5 : Nat.beq q 507 with
      | true =>
        rw [h5] at hst
        exfalso
        dsimp only [cond_true] at hst
        simp only [Bool.cond_eq_ite] at hst
        (repeat' split at hst)
        all_goals (cases hst; done)
      | false =>
        rw [h5] at hst
        dsimp only [cond_false] at hst
        cases hk9 : (Nat.beq cd 0 && isK q st) with
        | true => rw [hk9] at hst; exact (strI_no hst).elim
        | false =>
          rw [hk9] at hst
          dsimp only [cond_false] at hst
          cases h2 : Nat.beq cd 2 with
          | true => rw [h2] at hst; exact Or.inl ⟨rfl, Nat.eq_of_beq_eq_true h2, hst⟩
          | false =>
            rw [h2] at hst
            dsimp only [cond_false] at hst
            cases h0 : Nat.beq cd 0 with
            | true => rw [h0] at hst; exact Or.inr ⟨rfl, Nat.eq_of_beq_eq_true h0, hst⟩
            | false => rw [h0] at hst; cases hst
    · cases hst
  all_goals first
    | (cases hst; done)
    | (rename_i cnd _; cases cnd <;> (unfold stp at hst; simp only [br1, br2, sNx, Bool.cond_eq_ite] at hst; (repeat' split at hst); all_goals (cases hst; done)))
    | (unfold stp at hst
       (try dsimp only at hst)
       (try simp only [ldI, ldA, stI, stA, bin, binD, br1, br2, aldI, astI, Bool.cond_eq_ite] at hst)
       (repeat' split at hst)
       all_goals (cases hst; done))
end KIND
theorem m130 : mTL.all (fun L => L.all (fun e => !(Nat.beq e.2.1 130))) = true := by decide +kernel
theorem m_lt {cx k q : Nat} {w : Nat × Nat} (hq : q < 131) (h : fnd (mTL.getD cx []) k = some (q, w)) : q < 130 := by
  have hm := fnd_mem h
  by_cases hc : cx < mTL.length
  · have h1 := List.all_eq_true.mp m130 (mTL.getD cx []) (by rw [List.getD_eq_getElem?_getD, List.getElem?_eq_getElem hc]; exact List.getElem_mem hc)
    have h2 := List.all_eq_true.mp h1 _ hm
    simp only [Bool.not_eq_true'] at h2
    have h3 : q ≠ 130 := fun e => by rw [e] at h2; cases h2
    omega
  · rw [List.getD_eq_getElem?_getD, List.getElem?_eq_none (by omega)] at hm
    cases hm
theorem hw_good (y : Nat) : goodWord (hWord y) = true := rfl
theorem good_wsY {y : Nat} (hy : y < 130) : GoodIn (lw_tbl.filter goodWord) (wsY y) := by
  intro w hw
  have h1 : w ∈ lw_tbl.filter goodWord := by
    rcases List.mem_cons.mp hw with e | e
    · rw [e]; exact List.mem_filter.mpr ⟨(yf_all y hy).1, hw_good y⟩
    · exact e
  exact ⟨h1, good_of_word (List.mem_filter.mp h1).2⟩
