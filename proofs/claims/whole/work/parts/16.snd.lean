/-! THE SMALL MACHINE IS SOUND: what stands of the machine at each method's begin, and how it passes to a callee -/
/-- the string constants' own cells, and the statics that reading them reads -/
def WS (base : Nat) (adK : Nat → Nat) (U : State) : Prop := va_Z "java/lang/String" "COMPACT_STRINGS" "Z" (.int 1) (fun q => base ≤ q) U U.heap ∧ va_Zq "jdk/internal/util/Preconditions" "SIOOBE_FORMATTER" "Ljava/util/function/BiFunction;" (fun q => base ≤ q) U U.heap ∧
  ∀ i, i < strN → va_O "java/lang/String" (adK i) (fun q => base ≤ q) U U.heap ∧ va_OF "java/lang/String" "coder" "B" (.int 0) (adK i) (fun q => base ≤ q) U U.heap ∧ ∃ v : Nat, va_OF "java/lang/String" "value" "[B" (.ref v) (adK i) (fun q => base ≤ q) U U.heap ∧ va_T .byte v (txt i).length (fun j => .int ((txt i).getD j 0)) (fun q => base ≤ q) U U.heap
def WE (base : Nat) (U : State) : Prop :=
  (∀ w ∈ lw_tbl, sofW w = true → va_Nw w U) ∧ (∀ i, i < 4 → ∀ j, j < 4 → i ≠ j → va_Nc (exN9 i) (exN9 j) U) ∧ (∀ e ∈ xsL, ∃ a, vk_R "MountSpaces" e.1 e.2 a U) ∧
  vx_Zq Bundle.tN "UNASSIGNED_STACK" Bundle.steD (fun q => base ≤ q) U U.heap ∧ vx_Zq Bundle.tN "SUPPRESSED_SENTINEL" Bundle.listD (fun q => base ≤ q) U U.heap
def WY (D : va_G) (tc : Nat → ClassId) (base b0 : Nat) (sc : SC) (adK : Nat → Nat) (U : State) : Prop :=
  va_K D cls9 (tys9 tc) U ∧ va_X b0 sc.1 sc.2 U U.heap ∧ b0 < base ∧ base ≤ U.heap.size ∧ (∀ i q, strL[i]? = some q → vk_R q.1 q.2.1 q.2.2 (adK i) U) ∧ va_AO "MountSpaces$Mounts" U ∧ WE base U ∧ WS base adK U
theorem sof_warm {w : Cond} {s U : State} (hW : s.WarmedH U.vm) (hw : sofW w = true) (h : va_Nw w s) : va_Nw w U := by
  cases w <;> first | exact va_Nw.warmD hW h | exact va_Nw.warmC hW h | exact va_Nw.warmM hW h | cases hw
theorem WY.to {D : va_G} {tc : Nat → ClassId} {base b0 : Nat} {sc : SC} {adK : Nat → Nat} {s U : State} (h : WY D tc base b0 sc adK s) (hW : s.WarmedH U.vm) (hz : s.heap.size ≤ U.heap.size) (hk : ∀ q, q < s.heap.size → ¬ base ≤ q → U.heap[q]? = s.heap[q]?) : WY D tc base b0 sc adK U := by
  obtain ⟨h1, h2, h3, h4, h5, h6, ⟨g1, g2, g3, g4, g5⟩, e1, e2, e3⟩ := h
  have hb : ∀ q, q < base → U.heap[q]? = s.heap[q]? := fun q hq => hk q (by omega) (by omega)
  refine ⟨va_K.moved hW.alike h1, (va_X.moved hW.alike h2).kept (hb b0 h3), h3, by omega, fun i q hq => vk_R.warm hW (h5 i q hq), va_AO.moved hW.alike h6, ⟨fun w hw hs => sof_warm hW hs (g1 w hw hs), fun i hi j hj hij => va_Nc.moved hW.alike (g2 i hi j hj hij), fun e he => ?_, vx_Zq.moved hW.alike (g4.kept hk), vx_Zq.moved hW.alike (g5.kept hk)⟩, va_Z.moved hW.alike (e1.kept hk), va_Zq.moved hW.alike (e2.kept hk), fun i hi => ?_⟩
  · obtain ⟨a, ha⟩ := g3 e he
    exact ⟨a, vk_R.warm hW ha⟩
  · obtain ⟨f1, f2, v, f3, f4⟩ := e3 i hi
    exact ⟨va_O.moved hW.alike (f1.kept hk), va_OF.moved hW.alike (f2.kept hk), v, va_OF.moved hW.alike (f3.kept hk), va_T.moved hW.alike (f4.kept hk)⟩
theorem WY.X {D : va_G} {tc : Nat → ClassId} {base b0 : Nat} {sc : SC} {adK : Nat → Nat} {s : State} {args : Array Value} (h : WY D tc base b0 sc adK s) (hw : ∀ w ∈ lw_tbl, goodWord w = true → w.before args s = true) : WX s args D tc base b0 sc adK :=
  ⟨⟨hw, h.1⟩, h.2.1, h.2.2.1, h.2.2.2.1, h.2.2.2.2.1, h.2.2.2.2.2.1⟩
theorem WY.WE {D : va_G} {tc : Nat → ClassId} {base b0 : Nat} {sc : SC} {adK : Nat → Nat} {s : State} (h : WY D tc base b0 sc adK s) : WE base s := h.2.2.2.2.2.2.1
/-! contracts -/
def wsY (y : Nat) : List Cond := hWord y :: lw_tbl.filter goodWord
def rmY (d mc ms : Nat) : Room := { frames := 8 + d, cells := mc, slots := ms, locals := 200 + 40 * d }
def pcY (base : Nat) (D : va_G) (tc : Nat → ClassId) (adK : Nat → Nat) (b0 : Nat) (sc : SC) (L : AD) (as : List AV) (h : AH) : Array Value → State → Prop := fun v U =>
  v = (as.map (avV L)).toArray ∧ RL base D tc adK b0 L h U.heap ∧ WY D tc base b0 sc adK U
def qcY (base : Nat) (D : va_G) (tc : Nat → ClassId) (adK : Nat → Nat) (b0 : Nat) (L : AD) (n : Nat) (r : RS) (h' : AH) : Array Value → State → Outcome → State → Prop := fun _ st o t =>
  ∃ (v : Option AV) (L' : AD), r = .inl v ∧ o = .returned (v.map (avV L')) ∧ (∀ q, okA n q → L' q.1 q.2 = L q.1 q.2) ∧ RL base D tc adK b0 L' h' t.heap ∧ va_F (fun q => base ≤ q) st t ∧ (∀ w, v = some w → okV h'.1.1 w) ∧ n ≤ h'.1.1
def xcY (base : Nat) (D : va_G) (tc : Nat → ClassId) (adK : Nat → Nat) (b0 : Nat) (L : AD) (n : Nat) (r : RS) (h' : AH) : String → State → State → Prop := fun E st t =>
  ∃ (e : Nat) (L' : AD), r = .inr e ∧ e < 4 ∧ E = exN9 e ∧ (∀ q, okA n q → L' q.1 q.2 = L q.1 q.2) ∧ RL base D tc adK b0 L' h' t.heap ∧ va_F (fun q => base ≤ q) st t ∧ n ≤ h'.1.1
def SND (l : Launch) (base : Nat) (D : va_G) (tc : Nat → ClassId) (adK : Nat → Nat) (b0 : Nat) (sc : SC) (N d : Nat) : Prop :=
  ∀ (y : Nat) (as : List AV) (h h' : AH) (r : RS) (L : AD), y < 251 → runM sc N d y as h = some (r, h') → (∀ v ∈ as, okV h.1.1 v) →
    vx_Met l (mNam y) (wsY y) (rmY d (h'.1.2.1 - h.1.2.1) (h'.1.2.2 - h.1.2.2)) (pcY base D tc adK b0 sc L as h) (qcY base D tc adK b0 L h.1.1 r h') (xcY base D tc adK b0 L h.1.1 r h') (h'.1.2.1 - h.1.2.1) (h'.1.2.2 - h.1.2.2) (fun q => base ≤ q)
theorem mmx_all : (List.range 252).all (fun y => Nat.ble (mmx y) 21 && Nat.ble (mna y) 9) = true := by decide +kernel
theorem mmx_le {y : Nat} (h : y < 252) : mmx y ≤ 21 := by
  have := List.all_eq_true.mp mmx_all y (List.mem_range.mpr h)
  simp only [Bool.and_eq_true] at this
  exact Nat.le_of_ble_eq_true this.1
/-! what grows, grows -/
def leH (h h' : AH) : Prop := h.1.1 ≤ h'.1.1 ∧ h.1.2.1 ≤ h'.1.2.1 ∧ h.1.2.2 ≤ h'.1.2.2
theorem leH.rf (h : AH) : leH h h := ⟨Nat.le_refl _, Nat.le_refl _, Nat.le_refl _⟩
theorem leH.tr {a b c : AH} (h1 : leH a b) (h2 : leH b c) : leH a c := ⟨Nat.le_trans h1.1 h2.1, Nat.le_trans h1.2.1 h2.2.1, Nat.le_trans h1.2.2 h2.2.2⟩
theorem leH.of {h h' : AH} (e : h'.1 = h.1) : leH h h' := by rw [show leH h h' ↔ _ from Iff.rfl]; unfold leH; rw [e]; exact ⟨Nat.le_refl _, Nat.le_refl _, Nat.le_refl _⟩
theorem leH.al (h : AH) (n : Nat) : leH h (alc h n) := ⟨Nat.le_succ _, Nat.le_succ _, Nat.le_add_right _ _⟩
theorem leH.bp (h : AH) : leH h (bump h) := ⟨Nat.le_refl _, Nat.le_succ _, Nat.le_add_right _ _⟩
theorem sNx_le {pc pc' : Nat} {lo lo' st st' : List AV} {h h' : AH} (q : sNx pc lo st h = some (.inl (pc', lo', st', h'))) : h' = h := (sNx_inj q).2.2.2.symm
set_option maxHeartbeats 4000000 in
theorem stp_le {sc : SC} {y : Nat} {K : List (Nat × Instr × Nat)} {i : Instr} {np pc pc' : Nat} {lo lo' st st' : List AV} {h h' : AH} (hst : stp sc y K i np pc lo st h = some (.inl (pc', lo', st', h'))) : leH h h' := by
  cases i <;> first
    | (cases hst; done)
    | (unfold stp at hst
       (try dsimp only at hst)
       (try simp only [ldI, ldJ, ldA, stI, stA, stJ, bin, binJ, binD, br1, br2, aldI, astI, Bool.cond_eq_ite] at hst)
       (repeat' split at hst)
       all_goals first
         | (cases hst; done)
         | (rw [sNx_le hst]; exact leH.rf _)
         | (rw [sNx_le hst]; exact leH.of rfl)
         | (rw [sNx_le hst]; exact leH.al _ _)
         | (exact (ivk_no hst).elim))
