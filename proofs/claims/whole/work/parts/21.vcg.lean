/-! RUNS WITHOUT NEW CELLS: the references stand, what changes are numbers; a generator of conditions -/
abbrev Gs : Type := (Nat → Nat → Nat → Int32) × (Nat → Nat → Nat → Int64) × Nat
def emb (g : Gs) : AH := ((216, 216 + g.2.2, 22346 + 6 * g.2.2), R0, g.2.1, g.1)
theorem exN_mono {sc : SC} {c1 c2 : Nat → List AV → AH → Option (RS × AH)} {y : Nat} {K : List (Nat × Instr × Nat)} (hc : ∀ m as h x, c1 m as h = some x → c2 m as h = some x) :
    ∀ (n n' : Nat), n ≤ n' → ∀ (pc : Nat) (lo st : List AV) (h : AH) (x : RS × AH), exN sc c1 y K n pc lo st h = some x → exN sc c2 y K n' pc lo st h = some x := by
  intro n
  induction n with
  | zero => intro n' _ pc lo st h x q; cases q
  | succ n ih =>
    intro n' hn pc lo st h x q
    obtain ⟨n', rfl⟩ : ∃ z, n' = z + 1 := ⟨n' - 1, by omega⟩
    have hn1 : n ≤ n' := by omega
    unfold exN at q ⊢
    split at q
    · cases q
    · rename_i i np hE
      split at q
      · cases q
      · rename_i hst
        exact ih n' hn1 _ _ _ _ _ q
      · exact q
      · rename_i m as rest hst
        split at q
        · cases q
        · rename_i v h' hcall
          rw [hc _ _ _ _ hcall]
          exact ih n' hn1 _ _ _ _ _ q
        · rename_i e h' hcall
          rw [hc _ _ _ _ hcall]
          dsimp only
          split at q
          · exact q
          · split at q
            · exact ih n' hn1 _ _ _ _ _ q
            · cases q
      · exact q
theorem runM_mono {sc : SC} {N N' : Nat} (hN : N ≤ N') : ∀ (d d' : Nat), d ≤ d' → ∀ (y : Nat) (as : List AV) (h : AH) (x : RS × AH), runM sc N d y as h = some x → runM sc N' d' y as h = some x := by
  intro d
  induction d with
  | zero => intro d' _ y as h x q; cases q
  | succ d ih =>
    intro d' hd y as h x q
    obtain ⟨d', rfl⟩ : ∃ z, d' = z + 1 := ⟨d' - 1, by omega⟩
    unfold runM at q ⊢
    cases hb : Nat.ble (elo as).length (mmx y) with
    | false => rw [hb] at q; cases q
    | true =>
      rw [hb] at q
      exact exN_mono (fun m as h x hx => ih d' (by omega) m as h x hx) N N' hN _ _ _ _ _ q
/-- a method runs to an end with Φ -/
def Rn (sc : SC) (d y : Nat) (as : List AV) (g : Gs) (Φ : RS → Gs → Prop) : Prop := ∃ (N : Nat) (r : RS) (g' : Gs), runM sc N d y as (emb g) = some (r, emb g') ∧ Φ r g'
/-- from a place of a method on -/
def Xe (sc : SC) (d y : Nat) (pc : Nat) (lo st : List AV) (g : Gs) (Φ : RS → Gs → Prop) : Prop := ∃ (N n : Nat) (r : RS) (g' : Gs), exN sc (runM sc N d) y (code9 y) n pc lo st (emb g) = some (r, emb g') ∧ Φ r g'
section RULES
variable {sc : SC} {d y np pc pc' : Nat} {i : Instr} {lo lo' st st' as : List AV} {g g' : Gs} {Φ Ψ : RS → Gs → Prop}
theorem Rn.mono (h : Rn sc d y as g Ψ) (hq : ∀ r g', Ψ r g' → Φ r g') : Rn sc d y as g Φ := by
  obtain ⟨N, r, g', h1, h2⟩ := h
  exact ⟨N, r, g', h1, hq r g' h2⟩
theorem Rn.deep {d' : Nat} (h : Rn sc d y as g Φ) (hd : d ≤ d') : Rn sc d' y as g Φ := by
  obtain ⟨N, r, g', h1, h2⟩ := h
  exact ⟨N, r, g', runM_mono (Nat.le_refl _) d d' hd y as _ _ h1, h2⟩
theorem Xe.mono (h : Xe sc d y pc lo st g Ψ) (hq : ∀ r g', Ψ r g' → Φ r g') : Xe sc d y pc lo st g Φ := by
  obtain ⟨N, n, r, g', h1, h2⟩ := h
  exact ⟨N, n, r, g', h1, hq r g' h2⟩
theorem Xe.step (hE : fnd (code9 y) pc = some (i, np)) (hst : stp sc y (code9 y) i np pc lo st (emb g) = some (.inl (pc', lo', st', emb g'))) (k : Xe sc d y pc' lo' st' g' Φ) : Xe sc d y pc lo st g Φ := by
  obtain ⟨N, n, r, g2, h1, h2⟩ := k
  refine ⟨N, n + 1, r, g2, ?_, h2⟩
  unfold exN
  rw [hE]
  dsimp only
  rw [hst]
  exact h1
theorem Xe.fin {v : Option AV} (hE : fnd (code9 y) pc = some (i, np)) (hst : stp sc y (code9 y) i np pc lo st (emb g) = some (.inr (.inl v))) (k : Φ (.inl v) g) : Xe sc d y pc lo st g Φ := by
  refine ⟨0, 1, .inl v, g, ?_, k⟩
  unfold exN
  rw [hE]
  dsimp only
  rw [hst]
theorem bump_emb (g : Gs) : bump (emb g) = emb (g.1, g.2.1, g.2.2 + 1) := rfl
theorem Xe.thr {e : Nat} (hE : fnd (code9 y) pc = some (i, np)) (hst : stp sc y (code9 y) i np pc lo st (emb g) = some (.inr (.inr (.inr e)))) (k : Φ (.inr e) (g.1, g.2.1, g.2.2 + 1)) : Xe sc d y pc lo st g Φ := by
  refine ⟨0, 1, .inr e, (g.1, g.2.1, g.2.2 + 1), ?_, k⟩
  unfold exN
  rw [hE]
  dsimp only
  rw [hst]
  rfl
/-- behind a call -/
def AFT (y pc np : Nat) (lo rest : List AV) (Φ : RS → Gs → Prop) (k : Nat → List AV → List AV → Gs → Prop) (r : RS) (g' : Gs) : Prop := match r with
  | .inl v => k np lo (v.toList ++ rest) g'
  | .inr e => match hnd y e pc with
    | none => Φ (.inr e) g'
    | some hp => match hnIn (code9 y) lo hp with
      | some (np', lo') => k np' lo' [] g'
      | none => False
theorem Xe.call {m : Nat} {as rest : List AV} (hE : fnd (code9 y) pc = some (i, np)) (hst : stp sc y (code9 y) i np pc lo st (emb g) = some (.inr (.inr (.inl (m, as, rest))))) (k : Rn sc d m as g (AFT y pc np lo rest Φ (fun pc' lo' st' g' => Xe sc d y pc' lo' st' g' Φ))) : Xe sc d y pc lo st g Φ := by
  obtain ⟨N1, r1, g1, h1, h2⟩ := k
  match r1, h1, h2 with
  | .inl v, h1, h2 =>
    obtain ⟨N, n, r, g2, h3, h4⟩ : Xe sc d y np lo (v.toList ++ rest) g1 Φ := h2
    refine ⟨max N1 N, n + 1, r, g2, ?_, h4⟩
    unfold exN
    rw [hE]
    dsimp only
    rw [hst]
    dsimp only
    rw [runM_mono (Nat.le_max_left N1 N) d d (Nat.le_refl _) _ _ _ _ h1]
    exact exN_mono (fun m as h x hx => runM_mono (Nat.le_max_right N1 N) d d (Nat.le_refl _) m as h x hx) n n (Nat.le_refl _) _ _ _ _ _ h3
  | .inr e, h1, h2 =>
    unfold AFT at h2
    dsimp only at h2
    split at h2
    · rename_i hh
      refine ⟨N1, 1, .inr e, g1, ?_, h2⟩
      unfold exN
      rw [hE]
      dsimp only
      rw [hst]
      dsimp only
      rw [h1]
      dsimp only
      rw [hh]
    · rename_i hp hh
      split at h2
      · rename_i np' lo' hin
        obtain ⟨N, n, r, g2, h3, h4⟩ : Xe sc d y np' lo' [] g1 Φ := h2
        refine ⟨max N1 N, n + 1, r, g2, ?_, h4⟩
        unfold exN
        rw [hE]
        dsimp only
        rw [hst]
        dsimp only
        rw [runM_mono (Nat.le_max_left N1 N) d d (Nat.le_refl _) _ _ _ _ h1]
        dsimp only
        rw [hh]
        dsimp only
        rw [hin]
        exact exN_mono (fun m as h x hx => runM_mono (Nat.le_max_right N1 N) d d (Nat.le_refl _) m as h x hx) n n (Nat.le_refl _) _ _ _ _ _ h3
      · exact h2.elim
theorem Rn.of (hl : Nat.ble (elo as).length (mmx y) = true) (k : Xe sc d y 0 (lo0 as (mmx y)) [] g Φ) : Rn sc (d + 1) y as g Φ := by
  obtain ⟨N, n, r, g', h1, h2⟩ := k
  refine ⟨max N n, r, g', ?_, h2⟩
  unfold runM
  rw [hl]
  exact exN_mono (fun m as h x hx => runM_mono (Nat.le_max_left N n) d d (Nat.le_refl _) m as h x hx) n _ (Nat.le_max_right N n) _ _ _ _ _ h1
end RULES
def kI : Int → Int32
  | .ofNat n => nI n
  | .negSucc n => - nI (n + 1)
theorem kI_eq (n : Int) : Int32.ofInt n = kI n := by
  cases n with
  | ofNat n => exact Int32.ofInt_eq_ofNat
  | negSucc n =>
    show Int32.ofInt (Int.negSucc n) = - Int32.ofNat (n + 1)
    rw [← Int32.ofInt_eq_ofNat, ← Int32.ofInt_neg]
    rfl
/-- a switch, target by target -/
def swA (x : Int32) (D : Prop) (T : Int → Prop) : Int → List Int → Prop
  | _, [] => D
  | a, t :: r => (x = kI a → T t) ∧ (¬ x = kI a → swA x D T (a + 1) r)
abbrev KT : Type := Nat → List AV → List AV → Gs → Prop
def v1 (c : Int32 → Prop) (lo st : List AV) (g : Gs) (k : KT) (yes no : Nat) : Prop := match st with
  | .inl x :: st => (c x → k yes lo st g) ∧ (¬ c x → k no lo st g)
  | _ => False
def v2 (c : Int32 → Int32 → Prop) (lo st : List AV) (g : Gs) (k : KT) (yes no : Nat) : Prop := match st with
  | .inl y :: .inl x :: st => (c x y → k yes lo st g) ∧ (¬ c x y → k no lo st g)
  | _ => False
def vpush (lo st : List AV) (g : Gs) (np : Nat) (k : KT) (v : Option AV) : Prop := match v with
  | some v => k np lo (v :: st) g
  | none => False
/-- one instruction: what is to be shown, k what goes on -/
def vst (sc : SC) (d y : Nat) (Φ : RS → Gs → Prop) (i : Instr) (np pc : Nat) (lo st : List AV) (g : Gs) (k : KT) : Prop :=
  match i with
  | .iconst n => k np lo (vI (kI n) :: st) g
  | .bipush n => bif decide (-128 ≤ n) && decide (n < 128) then k np lo (vI (kI n) :: st) g else False
  | .sipush n => bif decide (-32768 ≤ n) && decide (n < 32768) then k np lo (vI (kI n) :: st) g else False
  | .iinc q n => match lo[q]? with
    | some (.inl x) => bif nlo lo q then k np (lo.set q (vI (x + kI n))) st g else False
    | _ => False
  | .idiv => match st with
    | .inl y :: .inl x :: st => (¬ y = nI 0) ∧ k np lo (vI (x / y) :: st) g
    | _ => False
  | .irem => match st with
    | .inl y :: .inl x :: st => (¬ y = nI 0) ∧ k np lo (vI (x - x / y * y) :: st) g
    | _ => False
  | .ifCond .eq t => v1 (fun x => x = nI 0) lo st g k t.toNat np
  | .ifCond .ne t => v1 (fun x => x = nI 0) lo st g k np t.toNat
  | .ifCond .lt t => v1 (fun x => x < nI 0) lo st g k t.toNat np
  | .ifCond .ge t => v1 (fun x => x < nI 0) lo st g k np t.toNat
  | .ifCond .gt t => v1 (fun x => nI 0 < x) lo st g k t.toNat np
  | .ifCond .le t => v1 (fun x => nI 0 < x) lo st g k np t.toNat
  | .if_icmp .eq t => v2 (fun x y => x = y) lo st g k t.toNat np
  | .if_icmp .ne t => v2 (fun x y => x = y) lo st g k np t.toNat
  | .if_icmp .lt t => v2 (fun x y => x < y) lo st g k t.toNat np
  | .if_icmp .ge t => v2 (fun x y => x < y) lo st g k np t.toNat
  | .if_icmp .gt t => v2 (fun x y => y < x) lo st g k t.toNat np
  | .if_icmp .le t => v2 (fun x y => y < x) lo st g k np t.toNat
  | .tableswitch dd a b os => match st with
    | .inl x :: st => swA x (k dd.toNat lo st g) (fun t => k t.toNat lo st g) a os.toList ∧ b = a + os.size - 1 ∧ -1000 ≤ a ∧ b ≤ 1000
    | _ => False
  | .putfield q => match fnd (fTL.getD (mcx y) []) q, st with
    | some (ci, f, ty, _), v :: .inr (.inr (.inl (i, c))) :: st => bif isO c ci && (!((cls9.getD ci ("", jT0, 0)).2.1 f).2.2.2 || (Nat.beq (mkd y) 2 && Nat.beq ci (mcx y))) then (match ty, v with
        | 0, .inl x => k np lo st (u3 g.1 i c f x, g.2.1, g.2.2)
        | 1, .inr (.inl x) => k np lo st (g.1, u3 g.2.1 i c f x, g.2.2)
        | _, _ => False) else False
    | _, _ => False
  | .iaload => match st with
    | .inl j :: .inr (.inr (.inl (i, c))) :: st => bif Nat.beq c 901 then inb j sc.1 = true ∧ k np lo (vI (sc.2 j.toNatClampNeg) :: st) g else match isA c with
      | some (q, n) => bif Nat.beq q 0 then inb j n = true ∧ k np lo (vI (g.1 i c j.toNatClampNeg) :: st) g else False
      | none => False
    | _ => False
  | .baload => match st with
    | .inl j :: .inr (.inr (.inl (i, c))) :: st => bif Nat.beq c 901 then False else match isA c with
      | some (q, n) => bif Nat.beq q 1 || Nat.beq q 2 then inb j n = true ∧ k np lo (vI (g.1 i c j.toNatClampNeg) :: st) g else False
      | none => False
    | _ => False
  | .iastore => match st with
    | .inl x :: .inl j :: .inr (.inr (.inl (i, c))) :: st => match isA c with
      | some (q, n) => bif Nat.beq q 0 then inb j n = true ∧ k np lo st (u3 g.1 i c j.toNatClampNeg x, g.2.1, g.2.2) else False
      | none => False
    | _ => False
  | .bastore => match st with
    | .inl x :: .inl j :: .inr (.inr (.inl (i, c))) :: st => match isA c with
      | some (q, n) => bif Nat.beq q 1 || Nat.beq q 2 then inb j n = true ∧ k np lo st (u3 g.1 i c j.toNatClampNeg (narT q x), g.2.1, g.2.2) else False
      | none => False
    | _ => False
  | .laload => match st with
    | .inl j :: .inr (.inr (.inl (i, c))) :: st => match isA c with
      | some (q, n) => bif Nat.beq q 3 then inb j n = true ∧ k np lo (vJ (g.2.1 i c j.toNatClampNeg) :: st) g else False
      | none => False
    | _ => False
  | .lastore => match st with
    | .inr (.inl x) :: .inl j :: .inr (.inr (.inl (i, c))) :: st => match isA c with
      | some (q, n) => bif Nat.beq q 3 then inb j n = true ∧ k np lo st (g.1, u3 g.2.1 i c j.toNatClampNeg x, g.2.2) else False
      | none => False
    | _ => False
  | .aaload => match st with
    | .inl j :: .inr (.inr (.inl (i, c))) :: st => match isA c with
      | some (q, n) => bif Nat.beq q 4 then inb j n = true ∧ (match R0 i c j.toNatClampNeg with
        | some p => k np lo (.inr (.inr (.inl p)) :: st) g
        | none => False) else False
      | none => False
    | _ => False
  | .newarray _ => False
  | .anewarray _ => False
  | .aastore => False
  | .invokespecial _ => False
  | .new q => match fnd (cTL.getD (mcx y) []) q with
    | some (0, _, _, _, _) => False
    | some (_, e, _, _, _) => bif thrP (mcx y) (code9 y) pc e && Nat.ble (cats st) 8 then Φ (.inr e) (g.1, g.2.1, g.2.2 + 1) else False
    | none => False
  | .invokestatic q => match fnd (mTL.getD (mcx y) []) q with
    | some (m, _, _) => bif Nat.beq m 505 then (match st with
          | .inl n :: .inl dp :: .inr (.inr (.inl (i, c))) :: .inl sp :: .inr (.inr (.inl (j, dd))) :: st => match isA dd, isA c with
            | some (0, n0), some (0, n1) => bif Nat.ble (cats st) 8 then (¬ sp < nI 0 ∧ ¬ dp < nI 0 ∧ ¬ n < nI 0 ∧ sp.toNatClampNeg + n.toNatClampNeg ≤ n0 ∧ dp.toNatClampNeg + n.toNatClampNeg ≤ n1) ∧
                k np lo st (u2 g.1 i c (va_cpy (g.1 j dd) (g.1 i c) sp.toNatClampNeg dp.toNatClampNeg n.toNatClampNeg), g.2.1, g.2.2) else False
            | _, _ => False
          | _ => False)
      else match stp sc y (code9 y) (.invokestatic q) np pc lo st (emb g) with
        | some (.inl (pc', lo', st', _)) => k pc' lo' st' g
        | some (.inr (.inr (.inl (m, as, rest)))) => Rn sc d m as g (AFT y pc np lo rest Φ k)
        | _ => False
    | none => False
  | .invokevirtual q => match fnd (mTL.getD (mcx y) []) q with
    | some (m, _, _) => bif Nat.beq m 501 then (match st with
          | .inr (.inr (.inl (i, c))) :: st => bif Nat.beq c 900 && Nat.ble (cats st) 8 then Nat.blt i strN = true ∧ k np lo (vI (nI (txt i).length) :: st) g else False
          | _ => False)
      else bif Nat.beq m 502 then (match st with
          | .inl j :: .inr (.inr (.inl (i, c))) :: st => bif Nat.beq c 900 && Nat.ble (cats st) 8 then (Nat.blt i strN = true ∧ inb j (txt i).length = true) ∧ k np lo (vI ((txt i).getD j.toNatClampNeg 0) :: st) g else False
          | _ => False)
      else match stp sc y (code9 y) (.invokevirtual q) np pc lo st (emb g) with
        | some (.inl (pc', lo', st', _)) => k pc' lo' st' g
        | some (.inr (.inr (.inl (m, as, rest)))) => Rn sc d m as g (AFT y pc np lo rest Φ k)
        | _ => False
    | none => False
  | .ireturn => match st with
    | [.inl x] => match mRt.getD y none with
      | some .int => Φ (.inl (some (vI x))) g
      | some .boolean => (x = nI 0 ∨ x = nI 1) ∧ Φ (.inl (some (vI x))) g
      | _ => False
    | _ => False
  | .lreturn => match st with
    | [.inr (.inl x)] => match mRt.getD y none with
      | some .long => Φ (.inl (some (vJ x))) g
      | _ => False
    | _ => False
  | .return_ => match st with
    | [] => match mRt.getD y none with
      | none => Φ (.inl none) g
      | _ => False
    | _ => False
  | i => match stp sc y (code9 y) i np pc lo st (emb g) with
    | some (.inl (pc', lo', st', _)) => k pc' lo' st' g
    | _ => False
/-- many instructions, up to a cut -/
def vcg (sc : SC) (d y : Nat) (cut : Nat → Bool) (Φ : RS → Gs → Prop) : Nat → KT
  | 0, pc, lo, st, g => Xe sc d y pc lo st g Φ
  | n + 1, pc, lo, st, g => match fnd (code9 y) pc with
    | none => False
    | some (i, np) => vst sc d y Φ i np pc lo st g (fun pc' lo' st' g' => bif cut pc' then Xe sc d y pc' lo' st' g' Φ else vcg sc d y cut Φ n pc' lo' st' g')
