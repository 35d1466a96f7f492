/-! THE CONDITION GENERATOR IS SOUND -/
theorem kI_toInt {a : Int} (h1 : -100000 ≤ a) (h2 : a ≤ 100000) : (kI a).toInt = a := by
  rw [← kI_eq, Int32.toInt_ofInt]
  have e : (Int32.size : Int) = 4294967296 := rfl
  exact Int.bmod_eq_of_le (by omega) (by omega)
theorem kI_iff {a : Int} {x : Int32} (h1 : -100000 ≤ a) (h2 : a ≤ 100000) : x = kI a ↔ x.toInt = a := by
  constructor
  · intro e
    rw [e, kI_toInt h1 h2]
  · intro e
    exact Int32.toInt_inj.mp (by rw [e, kI_toInt h1 h2])
theorem i8_kI {n : Int} (h1 : -128 ≤ n) (h2 : n < 128) : (Int8.ofInt n).toInt32 = kI n := by
  refine Int32.toInt_inj.mp ?_
  rw [kI_toInt (by omega) (by omega), Int8.toInt_toInt32, Int8.toInt_ofInt]
  have e : (Int8.size : Int) = 256 := rfl
  exact Int.bmod_eq_of_le (by omega) (by omega)
theorem i16_kI {n : Int} (h1 : -32768 ≤ n) (h2 : n < 32768) : (Int16.ofInt n).toInt32 = kI n := by
  refine Int32.toInt_inj.mp ?_
  rw [kI_toInt (by omega) (by omega), Int16.toInt_toInt32, Int16.toInt_ofInt]
  have e : (Int16.size : Int) = 65536 := rfl
  exact Int.bmod_eq_of_le (by omega) (by omega)
theorem swA_ok {x : Int32} {D : Prop} {T : Int → Prop} : ∀ (L : List Int) (a : Int), swA x D T a L → -100000 ≤ a → a + L.length ≤ 100000 →
    ((x.toInt < a ∨ a + L.length ≤ x.toInt) → D) ∧ ∀ (j : Nat) (t : Int), L[j]? = some t → x.toInt = a + j → T t := by
  intro L
  induction L with
  | nil =>
    intro a h h1 h2
    exact ⟨fun _ => h, fun j t ht => by simp at ht⟩
  | cons t0 r ih =>
    intro a h h1 h2
    obtain ⟨g1, g2⟩ := h
    have hlen : ((t0 :: r).length : Int) = r.length + 1 := by simp
    rw [hlen] at h2
    refine ⟨fun hq => ?_, fun j t ht hx => ?_⟩
    · have hne : ¬ x = kI a := fun e => by
        have := (kI_iff h1 (by omega)).mp e
        rw [hlen] at hq
        omega
      refine (ih (a + 1) (g2 hne) (by omega) (by omega)).1 ?_
      rw [hlen] at hq
      omega
    · cases j with
      | zero =>
        simp at ht
        subst ht
        exact g1 ((kI_iff h1 (by omega)).mpr (by simpa using hx))
      | succ j =>
        have hne : ¬ x = kI a := fun e => by
          have := (kI_iff h1 (by omega)).mp e
          omega
        exact (ih (a + 1) (g2 hne) (by omega) (by omega)).2 j t (by simpa using ht) (by omega)
section VOK
variable {sc : SC} {d y np pc : Nat} {lo st : List AV} {g : Gs} {Φ : RS → Gs → Prop} {k : KT}
theorem v1_yes {i : Instr} {f : Int32 → Bool} {c : Int32 → Prop} {tg : Nat} (hE : fnd (code9 y) pc = some (i, np)) (hs : stp sc y (code9 y) i np pc lo st (emb g) = br1 f lo st np tg (emb g)) (hf : ∀ x, f x = true ↔ c x) (H : v1 c lo st g k tg np) (hk : ∀ pc' lo' st' g', k pc' lo' st' g' → Xe sc d y pc' lo' st' g' Φ) : Xe sc d y pc lo st g Φ := by
  unfold v1 at H
  split at H
  · rename_i x st
    by_cases hc : c x
    · refine Xe.step hE (g' := g) (hs.trans ?_) (hk _ _ _ _ (H.1 hc))
      unfold br1
      dsimp only
      rw [(hf x).mpr hc]
      rfl
    · refine Xe.step hE (g' := g) (hs.trans ?_) (hk _ _ _ _ (H.2 hc))
      unfold br1
      dsimp only
      have : f x = false := by
        cases hq : f x with
        | false => rfl
        | true => exact absurd ((hf x).mp hq) hc
      rw [this]
      rfl
  · exact H.elim
theorem v1_no {i : Instr} {f : Int32 → Bool} {c : Int32 → Prop} {tg : Nat} (hE : fnd (code9 y) pc = some (i, np)) (hs : stp sc y (code9 y) i np pc lo st (emb g) = br1 f lo st np tg (emb g)) (hf : ∀ x, f x = true ↔ ¬ c x) (H : v1 c lo st g k np tg) (hk : ∀ pc' lo' st' g', k pc' lo' st' g' → Xe sc d y pc' lo' st' g' Φ) : Xe sc d y pc lo st g Φ := by
  unfold v1 at H
  split at H
  · rename_i x st
    by_cases hc : c x
    · refine Xe.step hE (g' := g) (hs.trans ?_) (hk _ _ _ _ (H.1 hc))
      unfold br1
      dsimp only
      have : f x = false := by
        cases hq : f x with
        | false => rfl
        | true => exact absurd hc ((hf x).mp hq)
      rw [this]
      rfl
    · refine Xe.step hE (g' := g) (hs.trans ?_) (hk _ _ _ _ (H.2 hc))
      unfold br1
      dsimp only
      rw [(hf x).mpr hc]
      rfl
  · exact H.elim
theorem v2_yes {i : Instr} {f : Int32 → Int32 → Bool} {c : Int32 → Int32 → Prop} {tg : Nat} (hE : fnd (code9 y) pc = some (i, np)) (hs : stp sc y (code9 y) i np pc lo st (emb g) = br2 f lo st np tg (emb g)) (hf : ∀ x z, f x z = true ↔ c x z) (H : v2 c lo st g k tg np) (hk : ∀ pc' lo' st' g', k pc' lo' st' g' → Xe sc d y pc' lo' st' g' Φ) : Xe sc d y pc lo st g Φ := by
  unfold v2 at H
  split at H
  · rename_i z x st
    by_cases hc : c x z
    · refine Xe.step hE (g' := g) (hs.trans ?_) (hk _ _ _ _ (H.1 hc))
      unfold br2
      dsimp only
      rw [(hf x z).mpr hc]
      rfl
    · refine Xe.step hE (g' := g) (hs.trans ?_) (hk _ _ _ _ (H.2 hc))
      unfold br2
      dsimp only
      have : f x z = false := by
        cases hq : f x z with
        | false => rfl
        | true => exact absurd ((hf x z).mp hq) hc
      rw [this]
      rfl
  · exact H.elim
theorem v2_no {i : Instr} {f : Int32 → Int32 → Bool} {c : Int32 → Int32 → Prop} {tg : Nat} (hE : fnd (code9 y) pc = some (i, np)) (hs : stp sc y (code9 y) i np pc lo st (emb g) = br2 f lo st np tg (emb g)) (hf : ∀ x z, f x z = true ↔ ¬ c x z) (H : v2 c lo st g k np tg) (hk : ∀ pc' lo' st' g', k pc' lo' st' g' → Xe sc d y pc' lo' st' g' Φ) : Xe sc d y pc lo st g Φ := by
  unfold v2 at H
  split at H
  · rename_i z x st
    by_cases hc : c x z
    · refine Xe.step hE (g' := g) (hs.trans ?_) (hk _ _ _ _ (H.1 hc))
      unfold br2
      dsimp only
      have : f x z = false := by
        cases hq : f x z with
        | false => rfl
        | true => exact absurd hc ((hf x z).mp hq)
      rw [this]
      rfl
    · refine Xe.step hE (g' := g) (hs.trans ?_) (hk _ _ _ _ (H.2 hc))
      unfold br2
      dsimp only
      rw [(hf x z).mpr hc]
      rfl
  · exact H.elim
theorem dflt {i : Instr} (hE : fnd (code9 y) pc = some (i, np)) (H : match stp sc y (code9 y) i np pc lo st (emb g) with
    | some (.inl (pc', lo', st', _)) => k pc' lo' st' g
    | _ => False) (hsame : ∀ pc' lo' st' h', stp sc y (code9 y) i np pc lo st (emb g) = some (.inl (pc', lo', st', h')) → h' = emb g) (hk : ∀ pc' lo' st' g', k pc' lo' st' g' → Xe sc d y pc' lo' st' g' Φ) : Xe sc d y pc lo st g Φ := by
  split at H
  · rename_i pc' lo' st' h' hst
    rw [hsame _ _ _ _ hst] at hst
    exact Xe.step hE hst (hk _ _ _ _ H)
  · exact H.elim
theorem AFT.mono {pc np : Nat} {rest : List AV} {r : RS} {g' : Gs} (H : AFT y pc np lo rest Φ k r g') (hk : ∀ pc' lo' st' g', k pc' lo' st' g' → Xe sc d y pc' lo' st' g' Φ) : AFT y pc np lo rest Φ (fun pc' lo' st' g' => Xe sc d y pc' lo' st' g' Φ) r g' := by
  unfold AFT at H ⊢
  split at H
  · exact hk _ _ _ _ H
  · split at H
    · exact H
    · split at H
      · exact hk _ _ _ _ H
      · exact H
theorem dcal {i : Instr} (hE : fnd (code9 y) pc = some (i, np)) (H : match stp sc y (code9 y) i np pc lo st (emb g) with
    | some (.inl (pc', lo', st', _)) => k pc' lo' st' g
    | some (.inr (.inr (.inl (m, as, rest)))) => Rn sc d m as g (AFT y pc np lo rest Φ k)
    | _ => False) (hsame : ∀ pc' lo' st' h', stp sc y (code9 y) i np pc lo st (emb g) = some (.inl (pc', lo', st', h')) → h' = emb g) (hk : ∀ pc' lo' st' g', k pc' lo' st' g' → Xe sc d y pc' lo' st' g' Φ) : Xe sc d y pc lo st g Φ := by
  split at H
  · rename_i pc' lo' st' h' hst
    rw [hsame _ _ _ _ hst] at hst
    exact Xe.step hE hst (hk _ _ _ _ H)
  · rename_i m as rest hst
    exact Xe.call hE hst (H.mono fun r g' h => h.mono hk)
  · exact H.elim
theorem ge_iff (x y : Int32) : decide (y ≤ x) = true ↔ ¬ x < y := by rw [decide_eq_true_iff, Int32.not_lt]
theorem inb_emb {i c q : Nat} : hG (emb g) i c q = g.1 i c q := rfl
set_option maxHeartbeats 4000000 in
theorem vst_ok {i : Instr} (hE : fnd (code9 y) pc = some (i, np)) (H : vst sc d y Φ i np pc lo st g k) (hk : ∀ pc' lo' st' g', k pc' lo' st' g' → Xe sc d y pc' lo' st' g' Φ) : Xe sc d y pc lo st g Φ := by
  cases i
  case iconst n => exact Xe.step hE (g' := g) (congrArg (fun z => sNx np lo (vI z :: st) (emb g)) (kI_eq n)) (hk _ _ _ _ H)
  case bipush n =>
    unfold vst at H
    dsimp only at H
    cases hb : (decide (-128 ≤ n) && decide (n < 128)) with
    | false => rw [hb] at H; exact H.elim
    | true =>
      rw [hb] at H
      simp only [Bool.and_eq_true, decide_eq_true_eq] at hb
      exact Xe.step hE (g' := g) (congrArg (fun z => sNx np lo (vI z :: st) (emb g)) (i8_kI hb.1 hb.2)) (hk _ _ _ _ H)
  case sipush n =>
    unfold vst at H
    dsimp only at H
    cases hb : (decide (-32768 ≤ n) && decide (n < 32768)) with
    | false => rw [hb] at H; exact H.elim
    | true =>
      rw [hb] at H
      simp only [Bool.and_eq_true, decide_eq_true_eq] at hb
      exact Xe.step hE (g' := g) (congrArg (fun z => sNx np lo (vI z :: st) (emb g)) (i16_kI hb.1 hb.2)) (hk _ _ _ _ H)
  case iinc q n =>
    unfold vst at H
    dsimp only at H
    split at H
    · rename_i x hx
      cases hn : nlo lo q with
      | false => rw [hn] at H; exact H.elim
      | true =>
        rw [hn] at H
        refine Xe.step hE (g' := g) ?_ (hk _ _ _ _ H)
        unfold stp
        dsimp only
        rw [hx]
        dsimp only
        rw [hn, kI_eq]
        rfl
    · exact H.elim
  case idiv =>
    unfold vst at H
    dsimp only at H
    split at H
    · obtain ⟨h0, H⟩ := H
      rw [nI_0] at h0
      refine Xe.step hE (g' := g) ?_ (hk _ _ _ _ H)
      unfold stp
      dsimp only [binD]
      rw [if_neg h0]
    · exact H.elim
  case irem =>
    unfold vst at H
    dsimp only at H
    split at H
    · obtain ⟨h0, H⟩ := H
      rw [nI_0] at h0
      refine Xe.step hE (g' := g) ?_ (hk _ _ _ _ H)
      unfold stp
      dsimp only [binD]
      rw [if_neg h0]
    · exact H.elim
  case ifCond cc t =>
    cases cc
    case eq => exact v1_yes hE (f := fun x => decide (x = 0)) rfl (fun x => by rw [nI_0]; exact decide_eq_true_iff) H hk
    case ne => exact v1_no hE (f := fun x => !decide (x = 0)) rfl (fun x => by rw [nI_0]; simp) H hk
    case lt => exact v1_yes hE (f := fun x => decide (x < 0)) rfl (fun x => by rw [nI_0]; exact decide_eq_true_iff) H hk
    case ge => exact v1_no hE (f := fun x => decide (0 ≤ x)) rfl (fun x => by rw [nI_0]; exact ge_iff x 0) H hk
    case gt => exact v1_yes hE (f := fun x => decide (0 < x)) rfl (fun x => by rw [nI_0]; exact decide_eq_true_iff) H hk
    case le => exact v1_no hE (f := fun x => decide (x ≤ 0)) rfl (fun x => by rw [nI_0]; exact ge_iff 0 x) H hk
  case if_icmp cc t =>
    cases cc
    case eq => exact v2_yes hE (f := fun x z => decide (x = z)) rfl (fun x z => decide_eq_true_iff) H hk
    case ne => exact v2_no hE (f := fun x z => !decide (x = z)) rfl (fun x z => by simp) H hk
    case lt => exact v2_yes hE (f := fun x z => decide (x < z)) rfl (fun x z => decide_eq_true_iff) H hk
    case ge => exact v2_no hE (f := fun x z => decide (z ≤ x)) rfl (fun x z => ge_iff x z) H hk
    case gt => exact v2_yes hE (f := fun x z => decide (z < x)) rfl (fun x z => decide_eq_true_iff) H hk
    case le => exact v2_no hE (f := fun x z => decide (x ≤ z)) rfl (fun x z => ge_iff z x) H hk
  case tableswitch dd a b os =>
    unfold vst at H
    dsimp only at H
    split at H
    · rename_i x st
      obtain ⟨H, hb, h1, h2⟩ := H
      obtain ⟨s1, s2⟩ := swA_ok os.toList a H (by omega) (by rw [Array.length_toList]; omega)
      rw [Array.length_toList] at s1
      by_cases hout : x.toInt < a ∨ b < x.toInt
      · refine Xe.step hE (g' := g) ?_ (hk _ _ _ _ (s1 (by omega)))
        unfold stp
        dsimp only
        rw [if_pos hout]
      · have hj : (x.toInt - a).toNat < os.size := by omega
        have ht : os[(x.toInt - a).toNat]? = some os[(x.toInt - a).toNat] := Array.getElem?_eq_getElem hj
        refine Xe.step hE (g' := g) ?_ (hk _ _ _ _ (s2 (x.toInt - a).toNat _ (by rw [Array.getElem?_toList]; exact ht) (by omega)))
        unfold stp
        dsimp only
        rw [if_neg hout, ht]
    · exact H.elim
  case putfield q =>
    unfold vst at H
    dsimp only at H
    split at H
    · rename_i ci f ty wi v i c st hf
      cases hb : (isO c ci && (!((cls9.getD ci ("", jT0, 0)).2.1 f).2.2.2 || (Nat.beq (mkd y) 2 && Nat.beq ci (mcx y)))) with
      | false => rw [hb] at H; exact H.elim
      | true =>
        rw [hb] at H
        dsimp only [cond_true] at H
        split at H
        · refine Xe.step hE (g' := _) ?_ (hk _ _ _ _ H)
          unfold stp
          dsimp only
          rw [hf]
          dsimp only
          rw [hb]
          rfl
        · refine Xe.step hE (g' := _) ?_ (hk _ _ _ _ H)
          unfold stp
          dsimp only
          rw [hf]
          dsimp only
          rw [hb]
          rfl
        · exact H.elim
    · exact H.elim
  case iaload =>
    unfold vst at H
    dsimp only at H
    split at H
    · rename_i j i c st
      cases h9 : Nat.beq c 901 with
      | true =>
        rw [h9] at H
        obtain ⟨h1, H⟩ := H
        refine Xe.step hE (g' := g) ?_ (hk _ _ _ _ H)
        unfold stp
        dsimp only [aldI]
        rw [h9]
        dsimp only [cond_true]
        rw [h1]
        rfl
      | false =>
        rw [h9] at H
        dsimp only [cond_false] at H
        split at H
        · rename_i q n hq
          cases hb : Nat.beq q 0 with
          | false => rw [hb] at H; exact H.elim
          | true =>
            rw [hb] at H
            obtain ⟨h1, H⟩ := H
            refine Xe.step hE (g' := g) ?_ (hk _ _ _ _ H)
            unfold stp
            dsimp only [aldI]
            rw [h9]
            dsimp only [cond_false]
            rw [hq]
            dsimp only
            rw [hb, h1]
            rfl
        · exact H.elim
    · exact H.elim
  case baload =>
    unfold vst at H
    dsimp only at H
    split at H
    · rename_i j i c st
      cases h9 : Nat.beq c 901 with
      | true => rw [h9] at H; exact H.elim
      | false =>
        rw [h9] at H
        dsimp only [cond_false] at H
        split at H
        · rename_i q n hq
          cases hb : (Nat.beq q 1 || Nat.beq q 2) with
          | false => rw [hb] at H; exact H.elim
          | true =>
            rw [hb] at H
            obtain ⟨h1, H⟩ := H
            refine Xe.step hE (g' := g) ?_ (hk _ _ _ _ H)
            unfold stp
            dsimp only [aldI]
            rw [h9]
            dsimp only [cond_false]
            rw [hq]
            dsimp only
            rw [hb, h1]
            rfl
        · exact H.elim
    · exact H.elim
  case iastore =>
    unfold vst at H
    dsimp only at H
    split at H
    · rename_i x j i c st
      split at H
      · rename_i q n hq
        cases hb : Nat.beq q 0 with
        | false => rw [hb] at H; exact H.elim
        | true =>
          rw [hb] at H
          obtain ⟨h1, H⟩ := H
          refine Xe.step hE (g' := _) ?_ (hk _ _ _ _ H)
          unfold stp
          dsimp only [astI]
          rw [hq]
          dsimp only
          rw [hb, h1, Nat.eq_of_beq_eq_true hb]
          rfl
      · exact H.elim
    · exact H.elim
  case bastore =>
    unfold vst at H
    dsimp only at H
    split at H
    · rename_i x j i c st
      split at H
      · rename_i q n hq
        cases hb : (Nat.beq q 1 || Nat.beq q 2) with
        | false => rw [hb] at H; exact H.elim
        | true =>
          rw [hb] at H
          obtain ⟨h1, H⟩ := H
          refine Xe.step hE (g' := _) ?_ (hk _ _ _ _ H)
          unfold stp
          dsimp only [astI]
          rw [hq]
          dsimp only
          rw [hb, h1]
          rfl
      · exact H.elim
    · exact H.elim
  case laload =>
    unfold vst at H
    dsimp only at H
    split at H
    · rename_i j i c st
      split at H
      · rename_i q n hq
        cases hb : Nat.beq q 3 with
        | false => rw [hb] at H; exact H.elim
        | true =>
          rw [hb] at H
          obtain ⟨h1, H⟩ := H
          refine Xe.step hE (g' := g) ?_ (hk _ _ _ _ H)
          unfold stp
          dsimp only
          rw [hq]
          dsimp only
          rw [hb, h1]
          rfl
      · exact H.elim
    · exact H.elim
  case lastore =>
    unfold vst at H
    dsimp only at H
    split at H
    · rename_i x j i c st
      split at H
      · rename_i q n hq
        cases hb : Nat.beq q 3 with
        | false => rw [hb] at H; exact H.elim
        | true =>
          rw [hb] at H
          obtain ⟨h1, H⟩ := H
          refine Xe.step hE (g' := _) ?_ (hk _ _ _ _ H)
          unfold stp
          dsimp only
          rw [hq]
          dsimp only
          rw [hb, h1]
          rfl
      · exact H.elim
    · exact H.elim
  case aaload =>
    unfold vst at H
    dsimp only at H
    split at H
    · rename_i j i c st
      split at H
      · rename_i q n hq
        cases hb : Nat.beq q 4 with
        | false => rw [hb] at H; exact H.elim
        | true =>
          rw [hb] at H
          obtain ⟨h1, H⟩ := H
          split at H
          · rename_i pr hp
            refine Xe.step hE (g' := g) ?_ (hk _ _ _ _ H)
            unfold stp
            dsimp only
            rw [hq]
            dsimp only
            rw [hb, h1]
            show (match hR (emb g) i c j.toNatClampNeg with
              | some p => sNx np lo (.inr (.inr (.inl p)) :: st) (emb g)
              | none => none) = _
            rw [show hR (emb g) i c j.toNatClampNeg = some pr from hp]
          · exact H.elim
      · exact H.elim
    · exact H.elim
  case new q =>
    unfold vst at H
    dsimp only at H
    split at H
    · exact H.elim
    · rename_i f9 e w1 w2 w3 hne hf
      cases hb : (thrP (mcx y) (code9 y) pc e && Nat.ble (cats st) 8) with
      | false => rw [hb] at H; exact H.elim
      | true =>
        rw [hb] at H
        refine Xe.thr hE (e := e) ?_ H
        unfold stp
        dsimp only
        rw [hf]
        cases f9 with
        | zero => exact absurd rfl hne
        | succ f9 =>
          show (bif (thrP (mcx y) (code9 y) pc e && Nat.ble (cats st) 8) then (some (.inr (.inr (.inr e))) : Option SR) else none) = _
          rw [hb]
          rfl
    · exact H.elim
  case invokestatic q =>
    unfold vst at H
    dsimp only at H
    split at H
    · rename_i m w1 w2 hf
      cases hb : Nat.beq m 505 with
      | true =>
        rw [hb] at H
        dsimp only [cond_true] at H
        have hm := Nat.eq_of_beq_eq_true hb
        subst hm
        split at H
        · rename_i n dp i c sp j dd st
          split at H
          · rename_i n0 n1 e0 e1
            cases hc : Nat.ble (cats st) 8 with
            | false => rw [hc] at H; exact H.elim
            | true =>
              rw [hc] at H
              obtain ⟨⟨p1, p2, p3, p4, p5⟩, H⟩ := H
              rw [nI_0] at p1 p2 p3
              refine Xe.step hE (g' := _) ?_ (hk _ _ _ _ H)
              unfold stp
              dsimp only
              rw [hf]
              dsimp only
              rw [show Nat.beq 505 503 = false from rfl, show Nat.beq 505 504 = false from rfl, show Nat.beq 505 505 = true from rfl]
              dsimp only [cond_true, cond_false]
              rw [e0, e1]
              show (bif Nat.ble (cats st) 8 && !(decide (sp < 0)) && !(decide (dp < 0)) && !(decide (n < 0)) && Nat.ble (sp.toNatClampNeg + n.toNatClampNeg) n0 && Nat.ble (dp.toNatClampNeg + n.toNatClampNeg) n1 then sNx np lo st (sW (emb g) i c (va_cpy (hG (emb g) j dd) (hG (emb g) i c) sp.toNatClampNeg dp.toNatClampNeg n.toNatClampNeg)) else none) = _
              rw [hc, decide_eq_false p1, decide_eq_false p2, decide_eq_false p3, Nat.ble_eq_true_of_le p4, Nat.ble_eq_true_of_le p5]
              rfl
          · exact H.elim
        · exact H.elim
      | false =>
        rw [hb] at H
        refine dcal hE H (fun pc' lo' st' h' hst => ?_) hk
        unfold stp at hst
        dsimp only at hst
        rw [hf] at hst
        dsimp only at hst
        rw [hb] at hst
        simp only [Bool.cond_eq_ite, Bool.false_eq_true, if_false] at hst
        repeat' split at hst
        all_goals first
          | (cases hst; done)
          | exact sNx_le hst
          | exact (ivk_no hst).elim
    · exact H.elim
  case invokevirtual q =>
    unfold vst at H
    dsimp only at H
    split at H
    · rename_i m w1 w2 hf
      cases hb1 : Nat.beq m 501 with
      | true =>
        rw [hb1] at H
        dsimp only [cond_true] at H
        have hm := Nat.eq_of_beq_eq_true hb1
        subst hm
        split at H
        · rename_i i c st
          cases hc : (Nat.beq c 900 && Nat.ble (cats st) 8) with
          | false => rw [hc] at H; exact H.elim
          | true =>
            rw [hc] at H
            obtain ⟨h1, H⟩ := H
            simp only [Bool.and_eq_true] at hc
            refine Xe.step hE (g' := g) ?_ (hk _ _ _ _ H)
            unfold stp
            dsimp only
            rw [hf]
            dsimp only
            rw [show Nat.beq 501 501 = true from rfl]
            dsimp only [cond_true]
            rw [hc.1, hc.2, h1]
            rfl
        · exact H.elim
      | false =>
        rw [hb1] at H
        dsimp only [cond_false] at H
        cases hb : Nat.beq m 502 with
        | true =>
          rw [hb] at H
          dsimp only [cond_true] at H
          have hm := Nat.eq_of_beq_eq_true hb
          subst hm
          split at H
          · rename_i j i c st
            cases hc : (Nat.beq c 900 && Nat.ble (cats st) 8) with
            | false => rw [hc] at H; exact H.elim
            | true =>
              rw [hc] at H
              obtain ⟨⟨h0, h1⟩, H⟩ := H
              simp only [Bool.and_eq_true] at hc
              refine Xe.step hE (g' := g) ?_ (hk _ _ _ _ H)
              unfold stp
              dsimp only
              rw [hf]
              dsimp only
              rw [show Nat.beq 502 501 = false from rfl, show Nat.beq 502 502 = true from rfl]
              dsimp only [cond_true, cond_false]
              rw [hc.1, hc.2, h0, h1]
              rfl
          · exact H.elim
        | false =>
          rw [hb] at H
          refine dcal hE H (fun pc' lo' st' h' hst => ?_) hk
          unfold stp at hst
          dsimp only at hst
          rw [hf] at hst
          dsimp only at hst
          rw [hb, hb1] at hst
          simp only [Bool.cond_eq_ite, Bool.false_eq_true, if_false] at hst
          exact (ivk_no hst).elim
    · exact H.elim
  case ireturn =>
    unfold vst at H
    dsimp only at H
    split at H
    · split at H
      · rename_i hm
        refine Xe.fin hE ?_ H
        unfold stp
        dsimp only
        rw [hm]
      · rename_i hm
        obtain ⟨h01, H⟩ := H
        refine Xe.fin hE ?_ H
        unfold stp
        dsimp only
        rw [hm]
        dsimp only
        rw [if_pos (show _ = (0 : Int32) ∨ _ = (1 : Int32) from h01)]
      · exact H.elim
    · exact H.elim
  case lreturn =>
    unfold vst at H
    dsimp only at H
    split at H
    · split at H
      · rename_i hm
        refine Xe.fin hE ?_ H
        unfold stp
        dsimp only
        rw [hm]
      · exact H.elim
    · exact H.elim
  case return_ =>
    unfold vst at H
    dsimp only at H
    split at H
    · split at H
      · rename_i hm
        refine Xe.fin hE ?_ H
        unfold stp
        dsimp only
        rw [hm]
      · exact H.elim
    · exact H.elim
  all_goals first
    | exact H.elim
    | (refine dflt hE H (fun pc' lo' st' h' hst => ?_) hk
       first
         | (cases hst; done)
         | (unfold stp at hst
            (try dsimp only at hst)
            (try simp only [ldI, ldJ, ldA, stI, stA, stJ, bin, binJ, Bool.cond_eq_ite] at hst)
            (repeat' split at hst)
            all_goals first
              | (cases hst; done)
              | exact sNx_le hst))
theorem vcg_ok {cut : Nat → Bool} : ∀ (n pc : Nat) (lo st : List AV) (g : Gs), vcg sc d y cut Φ n pc lo st g → Xe sc d y pc lo st g Φ := by
  intro n
  induction n with
  | zero => intro pc lo st g H; exact H
  | succ n ih =>
    intro pc lo st g H
    unfold vcg at H
    split at H
    · exact H.elim
    · rename_i i np hE
      refine vst_ok hE H (fun pc' lo' st' g' q => ?_)
      cases hc : cut pc' with
      | true => rw [hc] at q; exact q
      | false => rw [hc] at q; exact ih pc' lo' st' g' q
end VOK
