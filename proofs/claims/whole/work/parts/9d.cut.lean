/-! THE PICTURE'S REFERENCES, cut to what is there: a run over the one is a run over the other -/
def cutR (A : Nat → Nat → Nat → Option (Nat × Nat)) : Nat → Nat → Nat → Option (Nat × Nat) := fun i c k => if c = 63 ∧ 8 ≤ k then none else A i c k
def cH (h : AH) : AH := (h.1, cutR h.2.1, h.2.2)
def cS : SR → SR
  | .inl (pc, lo, st, h) => .inl (pc, lo, st, cH h)
  | .inr x => .inr x
theorem cutR_u2 {A : Nat → Nat → Nat → Option (Nat × Nat)} {i c : Nat} : cutR (u2 A i c (fun _ => none)) = u2 (cutR A) i c (fun _ => none) := by
  funext i' c' k'
  unfold cutR u2
  by_cases h1 : i' = i ∧ c' = c
  · simp [h1]
  · simp [h1]
theorem cutR_u3 {A : Nat → Nat → Nat → Option (Nat × Nat)} {i c k : Nat} {v : Option (Nat × Nat)} (h : ¬ (c = 63 ∧ 8 ≤ k)) : cutR (u3 A i c k v) = u3 (cutR A) i c k v := by
  funext i' c' k'
  unfold cutR u3
  by_cases h1 : i' = i ∧ c' = c ∧ k' = k
  · obtain ⟨rfl, rfl, rfl⟩ := h1
    simp [h]
  · simp [h1]
theorem cH_alc {h : AH} {n : Nat} : alc (cH h) n = cH (alc h n) := by
  unfold alc cH
  dsimp only
  rw [cutR_u2]
theorem cH_sR {h : AH} {i c k : Nat} {v : Nat × Nat} (hc : ¬ (c = 63 ∧ 8 ≤ k)) : sR (cH h) i c k v = cH (sR h i c k v) := by
  unfold sR cH
  dsimp only
  rw [cutR_u3 hc]
theorem cH_hR {h : AH} {i c k : Nat} (hc : ¬ (c = 63 ∧ 8 ≤ k)) : hR (cH h) i c k = hR h i c k := if_neg hc
theorem KD63 : KD 63 = .inr (4, 8) := by decide +kernel
theorem isO63 {c ci f : Nat} (h : isO c ci = true) : ¬ (c = 63 ∧ 8 ≤ f) := fun q => by
  have := isO_KD h
  rw [q.1, KD63] at this
  cases this
theorem isA63 {c q n : Nat} {j : Int32} (h : isA c = some (q, n)) (hj : inb j n = true) : ¬ (c = 63 ∧ 8 ≤ j.toNatClampNeg) := fun z => by
  have := isA_KD h
  rw [z.1, KD63] at this
  cases this
  have := inb_of hj (by decide)
  obtain ⟨k, hk, rfl⟩ := this
  have := z.2
  rw [nI_clamp (by omega)] at this
  omega
theorem cH_G {h : AH} : hG (cH h) = hG h := rfl
theorem cH_Q {h : AH} : hQ (cH h) = hQ h := rfl
theorem cH_1 {h : AH} : (cH h).1 = h.1 := rfl
set_option maxHeartbeats 4000000 in
theorem stp_cut {sc : SC} {y : Nat} {K : List (Nat × Instr × Nat)} {i : Instr} {np pc : Nat} {lo st : List AV} {h : AH} {X : SR} (hst : stp sc y K i np pc lo st h = some X) : stp sc y K i np pc lo st (cH h) = some (cS X) := by
  cases i <;> first
    | (cases hst; done)
    | (cases hst; rfl)
    | (unfold stp at hst ⊢
       (try dsimp only at hst ⊢)
       (try simp only [ldI, ldJ, ldA, stI, stA, stJ, bin, binJ, binD, br1, br2, aldI, astI, ivk, Bool.cond_eq_ite, cH_G, cH_Q, cH_1] at hst ⊢)
       (repeat' split at hst)
       all_goals first
         | (cases hst; done)
         | (cases hst; simp_all [cS, cH_alc]; done)
         | (cases hst; simp_all [cS, cH_alc]; rename_i hh; intro z; exact (Int32.lt_irrefl (Int32.lt_of_lt_of_le z hh)).elim)
         | (cases hst; simp_all [cS, cH_alc]; rename_i hh; intro z; exact (Int32.lt_irrefl (Int32.lt_of_lt_of_le hh z)).elim)
         | (cases hst; simp_all [cS, cH_alc]; exact cH_sR (isA63 ‹isA _ = some _› (‹(_ ∧ _) ∧ _›).1.2))
         | (cases hst; simp_all [cS, cH_alc]; simp only [cH_hR (isA63 ‹isA _ = some _› (‹_ ∧ inb _ _ = true›).2), *])
         | (cases hst; simp_all [cS, cH_alc]; simp only [cH_hR (isO63 ‹isO _ _ = true›), *])
         | (cases hst; simp_all [cS, cH_alc]; exact (cH_sR (isO63 ‹isO _ _ = true›)))
         | (cases hst; simp_all [cS, cH_alc]; exact (cH_sR (isO63 (‹isO _ _ = true ∧ _›).1)))
         | (cases hst; simp_all [cS, cH_alc]; omega)
         | (cases hst; simp_all [cS, cH_alc]; rfl))
/-- a whole run -/
def cM (q : RS × AH) : RS × AH := (q.1, cH q.2)
theorem exN_cut {sc : SC} {call : Nat → List AV → AH → Option (RS × AH)} {y : Nat} {K : List (Nat × Instr × Nat)} (hcall : ∀ mm as h q, call mm as h = some q → call mm as (cH h) = some (cM q)) :
    ∀ (n pc : Nat) (lo st : List AV) (h : AH) (q : RS × AH), exN sc call y K n pc lo st h = some q → exN sc call y K n pc lo st (cH h) = some (cM q) := by
  intro n
  induction n with
  | zero => intro pc lo st h q e; cases e
  | succ n ih =>
    intro pc lo st h q e
    unfold exN at e ⊢
    cases hf : fnd K pc with
    | none => rw [hf] at e; cases e
    | some ip =>
      obtain ⟨i, np⟩ := ip
      rw [hf] at e
      dsimp only at e ⊢
      cases hs : stp sc y K i np pc lo st h with
      | none => rw [hs] at e; cases e
      | some X =>
        rw [hs] at e
        rw [stp_cut hs]
        rcases X with ⟨pc', lo', st', h'⟩ | v | ⟨mm, as, rest⟩ | e9
        · exact ih pc' lo' st' h' q e
        · cases e; rfl
        · dsimp only [cS] at e ⊢
          cases hc : call mm as h with
          | none => rw [hc] at e; cases e
          | some rr =>
            rw [hcall _ _ _ _ hc]
            rw [hc] at e
            obtain ⟨r1, h1⟩ := rr
            rcases r1 with v | e9
            · exact ih np lo _ h1 q e
            · dsimp only [cM] at e ⊢
              cases hh : hnd y e9 pc with
              | none => rw [hh] at e; cases e; rfl
              | some hp =>
                rw [hh] at e
                dsimp only at e ⊢
                cases hn : hnIn K lo hp with
                | none => rw [hn] at e; cases e
                | some z => rw [hn] at e; exact ih z.1 z.2 [] h1 q e
        · cases e; rfl
theorem runM_cut {sc : SC} {N : Nat} : ∀ (d y : Nat) (as : List AV) (h : AH) (q : RS × AH), runM sc N d y as h = some q → runM sc N d y as (cH h) = some (cM q) := by
  intro d
  induction d with
  | zero => intro y as h q e; cases e
  | succ d ih =>
    intro y as h q e
    unfold runM at e ⊢
    cases hb : Nat.ble (elo as).length (mmx y) with
    | false => rw [hb] at e; cases e
    | true =>
      rw [hb] at e
      exact exN_cut ih _ _ _ _ _ _ e
