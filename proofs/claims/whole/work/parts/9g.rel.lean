/-! THE START: what the constructors leave is the relation that the law's loop keeps -/
theorem REL0 {g : Gs} (hf : fkL.all (fun q => decide (g.1 0 q.1 q.2.1 = q.2.2)) = true) (he : g.2.2 = 0) : REL g 0 24600 := by
  have fk : ∀ {c k : Nat} {v : Int32}, (c, k, v) ∈ fkL → g.1 0 c k = v := fun {c k v} hm => of_decide_eq_true (List.all_eq_true.mp hf (c, k, v) hm)
  obtain ⟨D, hD⟩ : ∃ D, D = g.1 0 := ⟨_, rfl⟩
  have e : ∀ c k, D c k = g.1 0 c k := fun c k => by rw [hD]
  have b20 : g.1 0 20 1 = -nI 1 := fk (List.mem_of_getElem? (i := 0) rfl)
  have b21 : g.1 0 21 1 = nI 0 := fk (List.mem_of_getElem? (i := 1) rfl)
  have b55 : g.1 0 55 4 = nI 0 := fk (List.mem_of_getElem? (i := 2) rfl)
  have b621 : g.1 0 62 1 = nI 0 := fk (List.mem_of_getElem? (i := 3) rfl)
  have b622 : g.1 0 62 2 = nI 0 := fk (List.mem_of_getElem? (i := 4) rfl)
  have d11 : D 0 11 = nI 1 := (e _ _).trans (fk (List.mem_of_getElem? (i := 5) rfl))
  have d12 : D 0 12 = nI 1 := (e _ _).trans (fk (List.mem_of_getElem? (i := 6) rfl))
  have d13 : D 0 13 = nI 1 := (e _ _).trans (fk (List.mem_of_getElem? (i := 7) rfl))
  have d14 : D 0 14 = nI 0 := (e _ _).trans (fk (List.mem_of_getElem? (i := 8) rfl))
  have v14 : D 1 4 = nI 1 := (e _ _).trans (fk (List.mem_of_getElem? (i := 9) rfl))
  have v3 : D 3 0 = nI 1 := (e _ _).trans (fk (List.mem_of_getElem? (i := 10) rfl))
  have v2 : D 2 0 = nI 0 := (e _ _).trans (fk (List.mem_of_getElem? (i := 11) rfl))
  have v5 : D 5 0 = -nI 1 := (e _ _).trans (fk (List.mem_of_getElem? (i := 12) rfl))
  have v4 : D 4 0 = nI 0 := (e _ _).trans (fk (List.mem_of_getElem? (i := 13) rfl))
  have r6 : D 6 0 = nI 0 := (e _ _).trans (fk (List.mem_of_getElem? (i := 14) rfl))
  have r7 : D 7 0 = nI 0 := (e _ _).trans (fk (List.mem_of_getElem? (i := 15) rfl))
  have r8 : D 8 0 = nI 0 := (e _ _).trans (fk (List.mem_of_getElem? (i := 16) rfl))
  have r9 : D 9 0 = nI 0 := (e _ _).trans (fk (List.mem_of_getElem? (i := 17) rfl))
  have r10 : D 10 0 = -nI 1 := (e _ _).trans (fk (List.mem_of_getElem? (i := 18) rfl))
  have r11 : D 11 0 = -nI 1 := (e _ _).trans (fk (List.mem_of_getElem? (i := 19) rfl))
  have r12 : D 12 0 = nI 0 := (e _ _).trans (fk (List.mem_of_getElem? (i := 20) rfl))
  have r13 : D 13 0 = nI 0 := (e _ _).trans (fk (List.mem_of_getElem? (i := 21) rfl))
  have r14 : D 14 0 = nI 0 := (e _ _).trans (fk (List.mem_of_getElem? (i := 22) rfl))
  have r15 : D 15 0 = nI 0 := (e _ _).trans (fk (List.mem_of_getElem? (i := 23) rfl))
  have m2 : g.1 0 70 2 = nI 0 := fk (List.mem_of_getElem? (i := 24) rfl)
  have m3 : g.1 0 70 3 = nI 0 := fk (List.mem_of_getElem? (i := 25) rfl)
  have m14 : g.1 0 70 14 = nI 0 := fk (List.mem_of_getElem? (i := 26) rfl)
  have m15 : g.1 0 70 15 = -nI 1 := fk (List.mem_of_getElem? (i := 27) rfl)
  have m27 : g.1 0 70 27 = nI 0 := fk (List.mem_of_getElem? (i := 28) rfl)
  have a0 : g.1 0 71 0 = nI 1 := fk (List.mem_of_getElem? (i := 29) rfl)
  have a1 : g.1 0 71 1 = nI 1 := fk (List.mem_of_getElem? (i := 30) rfl)
  have a2 : g.1 0 71 2 = nI 1 := fk (List.mem_of_getElem? (i := 31) rfl)
  have a3 : g.1 0 71 3 = nI 1 := fk (List.mem_of_getElem? (i := 32) rfl)
  have a4 : g.1 0 71 4 = nI 0 := fk (List.mem_of_getElem? (i := 33) rfl)
  have a11 : g.1 0 71 11 = nI 1 := fk (List.mem_of_getElem? (i := 34) rfl)
  have aN : ∀ k, k < 6 → g.1 0 71 (5 + k) = nI 0 := fun k hk => by
    have : k = 0 ∨ k = 1 ∨ k = 2 ∨ k = 3 ∨ k = 4 ∨ k = 5 := by omega
    rcases this with rfl | rfl | rfl | rfl | rfl | rfl
    · exact fk (List.mem_of_getElem? (i := 35) rfl)
    · exact fk (List.mem_of_getElem? (i := 36) rfl)
    · exact fk (List.mem_of_getElem? (i := 37) rfl)
    · exact fk (List.mem_of_getElem? (i := 38) rfl)
    · exact fk (List.mem_of_getElem? (i := 39) rfl)
    · exact fk (List.mem_of_getElem? (i := 40) rfl)
  have a39 : g.1 0 71 39 = -nI 1 := fk (List.mem_of_getElem? (i := 41) rfl)
  have aM : ∀ k, k < 6 → g.1 0 71 (33 + k) = nI 0 := fun k hk => by
    have : k = 0 ∨ k = 1 ∨ k = 2 ∨ k = 3 ∨ k = 4 ∨ k = 5 := by omega
    rcases this with rfl | rfl | rfl | rfl | rfl | rfl
    · exact fk (List.mem_of_getElem? (i := 42) rfl)
    · exact fk (List.mem_of_getElem? (i := 43) rfl)
    · exact fk (List.mem_of_getElem? (i := 44) rfl)
    · exact fk (List.mem_of_getElem? (i := 45) rfl)
    · exact fk (List.mem_of_getElem? (i := 46) rfl)
    · exact fk (List.mem_of_getElem? (i := 47) rfl)
  have aR : ∀ k, k < 10 → g.1 0 71 (369 + k) = D (6 + k) 0 := fun k hk => by
    have : k = 0 ∨ k = 1 ∨ k = 2 ∨ k = 3 ∨ k = 4 ∨ k = 5 ∨ k = 6 ∨ k = 7 ∨ k = 8 ∨ k = 9 := by omega
    rcases this with rfl | rfl | rfl | rfl | rfl | rfl | rfl | rfl | rfl | rfl
    · exact (fk (List.mem_of_getElem? (i := 48) rfl)).trans r6.symm
    · exact (fk (List.mem_of_getElem? (i := 49) rfl)).trans r7.symm
    · exact (fk (List.mem_of_getElem? (i := 50) rfl)).trans r8.symm
    · exact (fk (List.mem_of_getElem? (i := 51) rfl)).trans r9.symm
    · exact (fk (List.mem_of_getElem? (i := 52) rfl)).trans r10.symm
    · exact (fk (List.mem_of_getElem? (i := 53) rfl)).trans r11.symm
    · exact (fk (List.mem_of_getElem? (i := 54) rfl)).trans r12.symm
    · exact (fk (List.mem_of_getElem? (i := 55) rfl)).trans r13.symm
    · exact (fk (List.mem_of_getElem? (i := 56) rfl)).trans r14.symm
    · exact (fk (List.mem_of_getElem? (i := 57) rfl)).trans r15.symm
  have n1 : nR D = 1 := by unfold nR; rw [d11, nI_clamp (by decide)]
  have n2 : nV D = 1 := by unfold nV; rw [v14, nI_clamp (by decide)]
  have n3 : nS D 0 = 1 := by unfold nS; rw [v3, nI_clamp (by decide)]
  have rok : ROK D := ⟨by rw [n1]; exact d11, by omega⟩
  have vok : VOK D := by
    refine ⟨by rw [n2]; exact v14, by omega, fun v hv => ?_⟩
    have : v = 0 := by omega
    subst this
    rw [n3]
    exact ⟨v3, Nat.le_refl _, by decide, v5, fun x hx h0 => absurd (by omega) h0⟩
  have dph : DPH D (fun _ _ => 0) := by
    intro v x hv hx
    have : v = 0 := by omega
    subst this
    exact ⟨Nat.zero_le 5, fun o ho => by omega⟩
  have rmm : RMM (g.1 0 71) 0 D := by
    refine ⟨a1.trans d12.symm, a2.trans d11.symm, a3.trans d13.symm, a4.trans d14.symm, fun r hr k hk => ?_⟩
    have : r = 0 := by omega
    subst this
    rw [show 780 * 0 + (369 + 10 * 0 + k) = 369 + k by omega]
    exact aR k hk
  have nm0 : ∀ {x : Int32} {f : Nat → Int32}, x = nI 0 → (∀ k, k < 6 → f k = nI 0) → NM x f := fun {x f} hx hf => ⟨[], Nat.zero_le 6, (fun l hl => absurd hl List.not_mem_nil), hx, (fun k hk => hf k hk)⟩
  have rmv : RMV (g.1 0 71) 0 D := by
    refine ⟨a0.trans v14.symm, fun v hv => ?_, fun v x hv hx => ?_⟩
    · have : v = 0 := by omega
      subst this
      refine ⟨a11.trans v3.symm, nm0 v2 (fun k hk => ?_)⟩
      show g.1 0 71 (780 * 0 + (5 + 7 * 0 + k)) = nI 0
      rw [show 780 * 0 + (5 + 7 * 0 + k) = 5 + k by omega]
      exact aN k hk
    · have : v = 0 := by omega
      subst this
      have : x = 0 := by omega
      subst this
      refine ⟨a39.trans v5.symm, nm0 v4 (fun k hk => ?_)⟩
      show g.1 0 71 (780 * 0 + (33 + 7 * (12 * 0 + 0) + k)) = nI 0
      rw [show 780 * 0 + (33 + 7 * (12 * 0 + 0) + k) = 33 + k by omega]
      exact aM k hk
  have wz : WZ D 0 24600 := by
    have w0 : WZ (aBeg D (nI 0)) 0 0 := WZ.beg (h := fun _ _ => 0) vok dph (by omega)
    have eq : EQD (aBeg D (nI 0)) D := by
      refine ⟨fun k h1 h2 => ?_, ?_, fun c k hc hk => ?_, fun c k hc hk => ?_, fun c k h1 h2 hk => ?_⟩
      · have : k = 11 ∨ k = 12 ∨ k = 13 ∨ k = 14 := by omega
        rcases this with rfl | rfl | rfl | rfl
        · have h := (aBeg_rok (D := D) (x := nI 0)).1
          rw [aBeg_nR] at h
          rw [h]; exact d11
        · rw [aBeg_012]; exact d12
        · rw [aBeg_013]; exact d13
        · rw [aBeg_014]; exact d14
      · exact (congrFun (aBeg_sv (D := D) (x := nI 0) 1 (by decide) (by decide)) 4).symm
      · exact (congrFun (aBeg_sv (D := D) (x := nI 0) c (by omega) (by omega)) k).symm
      · exact (congrFun (aBeg_sv (D := D) (x := nI 0) c (by omega) (by omega)) k).symm
      · rw [aBeg_nR] at hk
        have : k = 0 := by omega
        subst this
        have : c = 6 ∨ c = 7 ∨ c = 8 ∨ c = 9 ∨ c = 10 ∨ c = 11 ∨ c = 12 ∨ c = 13 ∨ c = 14 ∨ c = 15 := by omega
        rcases this with rfl | rfl | rfl | rfl | rfl | rfl | rfl | rfl | rfl | rfl
        · rw [aBeg_6]; exact r6
        · rw [aBeg_7]; exact r7
        · rw [aBeg_8]; exact r8
        · rw [aBeg_9]; exact r9
        · rw [aBeg_10]; exact r10
        · rw [aBeg_11]; exact r11
        · rw [aBeg_12]; exact r12
        · rw [aBeg_13]; exact r13
        · rw [aBeg_14]; exact r14
        · rw [aBeg_15]; exact r15
    exact (eq.wz w0).mono (Nat.le_refl _) (Nat.zero_le _) (by decide)
  refine ⟨D, [], 0, 0, 0, 0, -nI 1, fun _ => 0, fun _ _ _ => 0, ⟨fun c _ => by rw [hD], b20, b21, ⟨Nat.zero_le _, fun t ht => absurd ht (Nat.not_lt_zero _)⟩, ⟨b55, fun t b hb => by simp at hb⟩, b621, by decide, b622, by decide, fun j hj => absurd hj (Nat.not_lt_zero _)⟩, ⟨⟨m2, by decide, rmm, rok, rmv, vok⟩, by decide, m15, m14, ⟨Nat.zero_le _, fun t ht => absurd ht (Nat.not_lt_zero _)⟩, ⟨m27, fun t b hb => by simp at hb⟩, m3, by decide, fun j hj => absurd hj (Nat.not_lt_zero _)⟩, ⟨wz, fun j hj => absurd hj (Nat.not_lt_zero _)⟩, by decide, Nat.le_refl _, by rw [he]; exact Nat.le_refl _⟩
/-! the picture with the references cut -/
theorem r0_len : r0L.all (fun l => Nat.ble l.length 40) = true := by decide +kernel
theorem r0_none {c k : Nat} (hk : 40 ≤ k) : (r0L.getD c []).getD k none = none := by
  have h40 : (r0L.getD c []).length ≤ 40 := by
    rw [List.getD_eq_getElem?_getD]
    cases h : r0L[c]? with
    | none => exact Nat.zero_le _
    | some l => exact Nat.le_of_ble_eq_true (List.all_eq_true.mp r0_len l (List.mem_of_getElem? h))
  rw [List.getD_eq_getElem?_getD, List.getElem?_eq_none (by omega)]
  rfl
theorem r0_ok : (List.range 216).all (fun j => (List.range 40).all (fun k => match cutR R0 (nm j).1 (nm j).2 k with
  | none => true
  | some p => Nat.blt (nmI p) 216 && Nat.beq (nm (nmI p)).1 p.1 && Nat.beq (nm (nmI p)).2 p.2)) = true := by decide +kernel
theorem cut_ok {j k : Nat} {p : Nat × Nat} (hj : j < 216) (h : cutR R0 (nm j).1 (nm j).2 k = some p) : okP 216 p := by
  by_cases hk : k < 40
  · have e := List.all_eq_true.mp (List.all_eq_true.mp r0_ok j (List.mem_range.mpr hj)) k (List.mem_range.mpr hk)
    rw [h] at e
    simp only [Bool.and_eq_true] at e
    exact ⟨nmI p, Nat.le_of_ble_eq_true e.1.1, Prod.ext (Nat.eq_of_beq_eq_true e.1.2) (Nat.eq_of_beq_eq_true e.2)⟩
  · exfalso
    unfold cutR at h
    split at h
    · cases h
    · rename_i hc
      unfold R0 at h
      split at h
      · rename_i h63
        exact hc ⟨h63, by omega⟩
      · rw [r0_none (c := (nm j).2) (k := k) (by omega)] at h
        cases h
theorem arrV_congr9 {cA : ClassId} {n : Nat} {f f' : Nat → Value} (h : ∀ j, j < n → f' j = f j) : arrV cA n f' = arrV cA n f := by
  have hj : (fun j : Fin n => f' j.val) = (fun j : Fin n => f j.val) := funext fun j => h j.val j.isLt
  unfold arrV
  rw [hj]
theorem cel_cut {tc : Nat → ClassId} {D : va_G} {L : AD} {h : AH} {H : Heap} {n X : Nat} (hn : n < 216) (hk : fkR h = true) (hx : va_at D cls9 (X, celE tc L h (nm n).1 (nm n).2) H) : va_at D cls9 (X, celE tc L (h.1, cutR R0, h.2.2) (nm n).1 (nm n).2) H := by
  have e := List.all_eq_true.mp hk n (List.mem_range.mpr hn)
  generalize hi : (nm n).1 = i at e hx ⊢
  generalize hc : (nm n).2 = c at e hx ⊢
  unfold celE at hx ⊢
  cases hK : KD c with
  | inl ci =>
    rw [hK] at e hx
    dsimp only at e hx ⊢
    have el : (List.range (fcn ci)).map (fV L (h.1, cutR R0, h.2.2) i c ci) = (List.range (fcn ci)).map (fV L h i c ci) := by
      refine List.map_congr_left fun k hm => ?_
      have e1 := List.all_eq_true.mp e k hm
      simp only [Bool.or_eq_true, decide_eq_true_eq] at e1
      unfold fV
      rcases e1 with (e1 | e1) | e1
      · rw [e1]; rfl
      · rw [e1]; rfl
      · cases ftc ci k with
        | zero => rfl
        | succ n9 =>
          cases n9 with
          | zero => rfl
          | succ n8 =>
            show va_rf (Option.map _ (cutR R0 i c k)) = va_rf (Option.map _ (h.2.1 i c k))
            rw [e1]
    rw [el]
    exact hx
  | inr qm =>
    obtain ⟨q, m⟩ := qm
    rw [hK] at e hx
    dsimp only at e hx ⊢
    by_cases hq : q = 4
    · subst hq
      have e1 : (List.range m).all (fun k => decide (h.2.1 i c k = cutR R0 i c k)) = true := e
      have hx' : H[X]? = some (vp_cell (tc 4) (m, .inr (.inr (.inr (.inr (fun j => (hR h i c j).map fun p => L p.1 p.2)))))) := hx
      show H[X]? = some (vp_cell (tc 4) (m, .inr (.inr (.inr (.inr (fun j => (cutR R0 i c j).map fun p => L p.1 p.2))))))
      rw [hx', vp_cell_q, vp_cell_q]
      refine congrArg some (arrV_congr9 fun j hj => ?_)
      have e2 := of_decide_eq_true (List.all_eq_true.mp e1 j (List.mem_range.mpr hj))
      show va_rf ((h.2.1 i c j).map _) = va_rf ((cutR R0 i c j).map _)
      rw [e2]
    · have ea : arV L (h.1, cutR R0, h.2.2) i c q m = arV L h i c q m := by
        unfold arV
        split
        · rfl
        · exact absurd rfl hq
        · rfl
      rw [ea]
      exact hx
theorem RL_cut {base : Nat} {D : va_G} {tc : Nat → ClassId} {adK : Nat → Nat} {b0 : Nat} {L : AD} {h : AH} {H : Heap} (hn : h.1.1 = 216) (hk : fkR h = true) (r : RL base D tc adK b0 L h H) : RL base D tc adK b0 L (h.1, cutR R0, h.2.2) H := by
  obtain ⟨r1, r2, r3, r4, r5, r6⟩ := r
  have hlt : ∀ {k : Nat} {q : Nat × va_E}, (wsE tc L (h.1, cutR R0, h.2.2))[k]? = some q → k < 216 ∧ q = (L (nm k).1 (nm k).2, celE tc L (h.1, cutR R0, h.2.2) (nm k).1 (nm k).2) ∧ (wsE tc L h)[k]? = some (L (nm k).1 (nm k).2, celE tc L h (nm k).1 (nm k).2) := by
    intro k q hq
    have hk9 : k < (wsE tc L (h.1, cutR R0, h.2.2)).length := (List.getElem?_eq_some_iff.mp hq).1
    rw [ws_len] at hk9
    have hk8 : k < h.1.1 := hk9
    rw [ws_at hk9] at hq
    exact ⟨by omega, (Option.some.inj hq).symm, ws_at hk8⟩
  refine ⟨fun k q hq => ?_, ⟨fun i j p q hp hq hpq => ?_, fun k q hq => ?_⟩, r3, fun j hj k p hp => ?_, r5, r6⟩
  · obtain ⟨h1, rfl, h3⟩ := hlt hq
    exact cel_cut h1 hk (r1 k _ h3)
  · obtain ⟨h1, rfl, h3⟩ := hlt hp
    obtain ⟨g1, rfl, g3⟩ := hlt hq
    exact r2.1 i j _ _ h3 g3 hpq
  · obtain ⟨h1, rfl, h3⟩ := hlt hq
    have z := r2.2 k _ h3
    exact z
  · show okP h.1.1 p
    rw [hn]
    have hj' : j < h.1.1 := hj
    exact cut_ok (by omega) hp
/-! a run to a place is a run of the machine; and a run to the law's end -/
section SGO
variable {p : Program} {l : Launch} {e : Env} {R : Room} {s : State} {m : MethodId} {args : Array Value} {below : List Frame} {meth : Method} {c : Code} {base : Nat} {D : va_G} {tc : Nat → ClassId} {adK : Nat → Nat} {b0 y : Nat} {L0 : AD} {n0 c0 k0 : Nat} {hF : AH} {sc : SC} {N d : Nat} {Q : State → Prop}
theorem exS_le {K : List (Nat × Instr × Nat)} {stop : Nat} {loF stF : List AV} : ∀ (n pc : Nat) (lo st : List AV) (h : AH), exS sc (runM sc N d) y K stop n pc lo st h = some (loF, stF, hF) → leH h hF := by
  intro n
  induction n with
  | zero => intro pc lo st h q; cases q
  | succ n ih =>
    intro pc lo st h q
    unfold exS at q
    cases hp : Nat.beq pc stop with
    | true => rw [hp] at q; cases q; exact leH.rf _
    | false =>
      rw [hp] at q
      dsimp only [cond] at q
      split at q
      · cases q
      · split at q
        · rename_i hst
          exact (stp_le hst).tr (ih _ _ _ _ q)
        · split at q
          · rename_i hc
            exact (runM_le _ _ _ _ _ _ hc).tr (ih _ _ _ _ q)
          · cases q
        · cases q
theorem exS_go (F : FX p R s m meth c y) (W0 : WX s args D tc base b0 sc adK) (Y0 : WY D tc base b0 sc adK s) (IH : SND l base D tc adK b0 sc N d) (hR : 8 + d + 1 ≤ R.frames ∧ 200 + 40 * (d + 1) ≤ R.locals) (I0 : INTR p l e R s m args below meth c base adK y Q)
    {stop : Nat} {loF stF : List AV} (hRc : hF.1.2.1 ≤ R.cells + c0 ∧ hF.1.2.2 ≤ R.slots + k0) (KF : GO p l e R s m args below meth c base D tc adK b0 y L0 n0 c0 k0 Q stop loF stF hF) :
    ∀ (n pc : Nat) (lo st : List AV) (h : AH), exS sc (runM sc N d) y (code9 y) stop n pc lo st h = some (loF, stF, hF) → GO p l e R s m args below meth c base D tc adK b0 y L0 n0 c0 k0 Q pc lo st h := by
  intro n
  induction n with
  | zero => intro pc lo st h q; cases q
  | succ n ih =>
    intro pc lo st h q
    unfold exS at q
    cases hp : Nat.beq pc stop with
    | true =>
      rw [hp] at q
      cases q
      rw [Nat.eq_of_beq_eq_true hp]
      exact KF
    | false =>
      rw [hp] at q
      dsimp only [cond] at q
      split at q
      · cases q
      · rename_i i np hE
        split at q
        · rename_i pc' lo' st' h' hst
          have hl2 := exS_le _ _ _ _ _ q
          refine stp_go F W0 I0 hE ?_ hst (ih pc' lo' st' h' q)
          have := hl2.2.1; have := hl2.2.2
          omega
        · rename_i mm as rest hst
          split at q
          · rename_i v h1 hcall
            have hl1 := runM_le d mm as h (.inl v) h1 hcall
            have hl2 := exS_le _ _ _ _ _ q
            have g1 := hl1.2.1; have g2 := hl1.2.2; have g3 := hl2.2.1; have g4 := hl2.2.2; have g5 := hl1.1
            intro L H locs cells slots ls a1 a2 a3 a4 a5 a6 a7 a8 a9 b1
            obtain ⟨hnp, hrok, hrun⟩ := call_run (cells := cells) (slots := slots) F W0 Y0 IH hE hst hcall hR a1 a2 a3 a6 (by omega)
            refine run_go hrun a2 ?_ ?_
            · intro v2 L' H1 locs1 hr1 hag hRL hS hok hn
              cases hr1
              have hag2 : ∀ q, okA n0 q → L' q.1 q.2 = L0 q.1 q.2 := fun q hq => by rw [hag q (hq.mono b1)]; exact a9 q hq
              have key := ih np lo (v.toList ++ rest) h1 q L' H1 locs1 (cells + (h1.1.2.1 - h.1.2.1)) (slots + (h1.1.2.2 - h.1.2.2)) ls hRL hS (lv_mono a3 (rlo_congr hag a5)) a4 (fun w hw => (a5 w hw).mono g5) (fun w hw => by
                rcases List.mem_append.mp hw with z | z
                · cases v with
                  | none => cases z
                  | some w9 => rw [List.mem_singleton.mp z]; exact hok w9 rfl
                · exact (hrok w z).mono g5) (by omega) (by omega) hag2 (Nat.le_trans b1 g5)
              rw [List.map_append, map_congr9 hag hrok, hnp] at key
              cases v with
              | none => exact key
              | some w9 => exact key
            · intro e9 L' H1 locs1 q9 ce hr1
              cases hr1
          · cases q
        · cases q
theorem exL_go (F : FX p R s m meth c y) (W0 : WX s args D tc base b0 sc adK) (Y0 : WY D tc base b0 sc adK s) (IH : SND l base D tc adK b0 sc N d) (hR : 8 + d + 1 ≤ R.frames ∧ 200 + 40 * (d + 1) ≤ R.locals) (I0 : INTR p l e R s m args below meth c base adK y Q)
    (hnn : ∀ e9 pc, hnd y e9 pc = none) {x9 : Int32} (hRc : hF.1.2.1 ≤ R.cells + c0 ∧ hF.1.2.2 ≤ R.slots + k0) (KF : ∀ (pc np : Nat) (lo : List AV), fnd (code9 y) pc = some (.ireturn, np) → GO p l e R s m args below meth c base D tc adK b0 y L0 n0 c0 k0 Q pc lo [vI x9] hF) :
    ∀ (n pc : Nat) (lo st : List AV) (h : AH), exN sc (runM sc N d) y (code9 y) n pc lo st h = some (.inl (some (vI x9)), hF) → GO p l e R s m args below meth c base D tc adK b0 y L0 n0 c0 k0 Q pc lo st h := by
  intro n
  induction n with
  | zero => intro pc lo st h q; cases q
  | succ n ih =>
    intro pc lo st h q
    unfold exN at q
    split at q
    · cases q
    · rename_i i np hE
      split at q
      · cases q
      · rename_i pc' lo' st' h' hst
        have hl2 := exN_le (fun mm as h r h' => runM_le d mm as h r h') _ _ _ _ _ _ _ q
        refine stp_go F W0 I0 hE ?_ hst (ih pc' lo' st' h' q)
        have := hl2.2.1; have := hl2.2.2
        omega
      · rename_i v hst
        cases q
        rcases stp_ret hst with rfl | rfl | rfl
        · unfold stp at hst
          dsimp only at hst
          split at hst
          · split at hst
            · cases hst
              exact KF pc np lo hE
            · split at hst
              · cases hst
                exact KF pc np lo hE
              · cases hst
            · cases hst
          · cases hst
        · unfold stp at hst
          dsimp only at hst
          split at hst
          · split at hst
            · cases hst
            · cases hst
          · cases hst
        · unfold stp at hst
          dsimp only at hst
          split at hst
          · split at hst
            · cases hst
            · cases hst
          · cases hst
      · rename_i mm as rest hst
        cases hcall : runM sc N d mm as h with
        | none => rw [hcall] at q; cases q
        | some rr =>
          obtain ⟨r1, h1⟩ := rr
          rw [hcall] at q
          have hl1 := runM_le d mm as h r1 h1 hcall
          cases r1 with
          | inr e9 =>
            dsimp only at q
            rw [hnn] at q
            cases q
          | inl v =>
            dsimp only at q
            have hl2 := exN_le (fun mm as h r h' => runM_le d mm as h r h') _ _ _ _ _ _ _ q
            have g1 := hl1.2.1; have g2 := hl1.2.2; have g3 := hl2.2.1; have g4 := hl2.2.2; have g5 := hl1.1
            intro L H locs cells slots ls a1 a2 a3 a4 a5 a6 a7 a8 a9 b1
            obtain ⟨hnp, hrok, hrun⟩ := call_run (cells := cells) (slots := slots) F W0 Y0 IH hE hst hcall hR a1 a2 a3 a6 (by omega)
            refine run_go hrun a2 ?_ ?_
            · intro v2 L' H1 locs1 hr1 hag hRL hS hok hn
              cases hr1
              have hag2 : ∀ q, okA n0 q → L' q.1 q.2 = L0 q.1 q.2 := fun q hq => by rw [hag q (hq.mono b1)]; exact a9 q hq
              have key := ih np lo (v.toList ++ rest) h1 q L' H1 locs1 (cells + (h1.1.2.1 - h.1.2.1)) (slots + (h1.1.2.2 - h.1.2.2)) ls hRL hS (lv_mono a3 (rlo_congr hag a5)) a4 (fun w hw => (a5 w hw).mono g5) (fun w hw => by
                rcases List.mem_append.mp hw with z | z
                · cases v with
                  | none => cases z
                  | some w9 => rw [List.mem_singleton.mp z]; exact hok w9 rfl
                · exact (hrok w z).mono g5) (by omega) (by omega) hag2 (Nat.le_trans b1 g5)
              rw [List.map_append, map_congr9 hag hrok, hnp] at key
              cases v with
              | none => exact key
              | some w9 => exact key
            · intro e9 L' H1 locs1 q9 ce hr1
              cases hr1
      · cases q
end SGO
