/-! THROWS, HANDLERS, AND THE WHOLE -/
theorem rx_dec (i : Nat) (h : i < 4) : decode (exR9 i) 0 = .ok (.aload_n 0, 1) ∧ decode (exR9 i) 1 = .ok (.aload_n 1, 1) ∧ decode (exR9 i) 2 = .ok (.invokespecial (exX9 i), 3) ∧ decode (exR9 i) 5 = .ok (.return_, 1) ∧ Bundle.fit (exN9 i) = true := by
  match i, h with
  | 0, _ => decide +kernel
  | 1, _ => decide +kernel
  | 2, _ => decide +kernel
  | 3, _ => decide +kernel
theorem sof_tab {w : Cond} (h : sofW w = true) : w.onTables = true := by
  cases w <;> first | rfl | cases h
theorem ct_link {ct : Nat} (h : clsOf ct < 4) : Cond.classLink (cnm 12) ct (exN9 (clsOf ct)) ∈ lw_tbl := by
  unfold clsOf at h ⊢
  split at h
  · rename_i x a b d hf
    rcases ck_all 12 (by decide) _ (fnd_mem hf) with ⟨q, -⟩ | ⟨-, -, f, -⟩
    · cases q
    · exact f
  · omega
def inR (z : Nat × Nat × Nat × Nat) (pc : Nat) : Prop := z.1 ≤ pc ∧ pc < z.2.1
theorem hnd3_none {e pc : Nat} {Z : List (Nat × Nat × Nat × Nat)} (h : hnd3 (Z.map fun z => (clsOf z.2.2.2, z.1, z.2.1, z.2.2.1)) e pc = none) : ∀ z ∈ Z, ¬ inR z pc ∨ clsOf z.2.2.2 ≠ e := by
  induction Z with
  | nil => intro z hz; cases hz
  | cons x r ih =>
    simp only [List.map_cons, hnd3] at h
    cases hb : (Nat.beq (clsOf x.2.2.2) e && Nat.ble x.1 pc && Nat.blt pc x.2.1) with
    | true => rw [hb] at h; cases h
    | false =>
      rw [hb] at h
      intro z hz
      rcases List.mem_cons.mp hz with q | q
      · subst q
        by_cases hc : clsOf z.2.2.2 = e
        · left
          intro ⟨g1, g2⟩
          have e1 : Nat.beq (clsOf z.2.2.2) e = true := by rw [hc]; exact Nat.beq_refl e
          have e2 : Nat.ble z.1 pc = true := Nat.ble_eq_true_of_le g1
          have e3 : Nat.blt pc z.2.1 = true := Nat.ble_eq_true_of_le g2
          rw [e1, e2, e3] at hb
          cases hb
        · exact Or.inr hc
      · exact ih h z q
theorem hnd3_some {e pc hp : Nat} {Z : List (Nat × Nat × Nat × Nat)} (h : hnd3 (Z.map fun z => (clsOf z.2.2.2, z.1, z.2.1, z.2.2.1)) e pc = some hp) : ∃ pre z suf, Z = pre ++ z :: suf ∧ z.2.2.1 = hp ∧ clsOf z.2.2.2 = e ∧ inR z pc ∧ ∀ w ∈ pre, ¬ inR w pc ∨ clsOf w.2.2.2 ≠ e := by
  induction Z with
  | nil => cases h
  | cons x r ih =>
    simp only [List.map_cons, hnd3] at h
    cases hb : (Nat.beq (clsOf x.2.2.2) e && Nat.ble x.1 pc && Nat.blt pc x.2.1) with
    | true =>
      rw [hb] at h
      simp only [Bool.and_eq_true] at hb
      exact ⟨[], x, r, rfl, Option.some.inj h, Nat.eq_of_beq_eq_true hb.1.1, ⟨Nat.le_of_ble_eq_true hb.1.2, Nat.le_of_ble_eq_true hb.2⟩, fun w hw => nomatch hw⟩
    | false =>
      rw [hb] at h
      obtain ⟨pre, z, suf, h1, h2, h3, h4, h5⟩ := ih h
      refine ⟨x :: pre, z, suf, by rw [h1]; rfl, h2, h3, h4, fun w hw => ?_⟩
      rcases List.mem_cons.mp hw with q | q
      · subst q
        by_cases hc : clsOf w.2.2.2 = e
        · left
          intro ⟨g1, g2⟩
          have e1 : Nat.beq (clsOf w.2.2.2) e = true := by rw [hc]; exact Nat.beq_refl e
          have e2 : Nat.ble w.1 pc = true := Nat.ble_eq_true_of_le g1
          have e3 : Nat.blt pc w.2.1 = true := Nat.ble_eq_true_of_le g2
          rw [e1, e2, e3] at hb
          cases hb
        · exact Or.inr hc
      · exact h5 w q
theorem han_at {y : Nat} (hy : y < 252) {z : Nat × Nat × Nat × Nat} (hz : z ∈ mHan y) : clsOf z.2.2.2 < 4 ∧ z.2.2.2 ≠ 0 ∧ mcx y = 12 := by
  have h1 := List.all_eq_true.mp hrow_all y (List.mem_range.mpr hy)
  simp only [Bool.and_eq_true] at h1
  have h2 := List.all_eq_true.mp h1.1.2 z hz
  simp only [Bool.and_eq_true, Bool.not_eq_true'] at h2
  refine ⟨Nat.le_of_ble_eq_true h2.1, fun q => ?_, ?_⟩
  · have e0 := h2.2
    rw [q] at e0
    cases e0
  · rcases (Bool.or_eq_true _ _).mp h1.2 with q | q
    · rw [List.isEmpty_iff.mp q] at hz
      cases hz
    · exact Nat.eq_of_beq_eq_true q
theorem cov_no {z : Nat × Nat × Nat × Nat} {pc : Nat} (h : ¬ inR z pc) : covers ⟨z.1, z.2.1, z.2.2.1, z.2.2.2⟩ pc = false := by
  unfold covers
  show (decide (z.1 ≤ pc) && decide (pc < z.2.1)) = false
  by_cases h1 : z.1 ≤ pc
  · have h2 : ¬ pc < z.2.1 := fun q => h ⟨h1, q⟩
    rw [decide_eq_false h2, Bool.and_false]
  · rw [decide_eq_false h1, Bool.false_and]
section EXG
variable {p : Program} {l : Launch} {e : Env} {R : Room} {s : State} {m : MethodId} {args : Array Value} {below : List Frame} {meth : Method} {c : Code} {base : Nat} {D : va_G} {tc : Nat → ClassId} {adK : Nat → Nat} {b0 y : Nat} {L0 : AD} {n0 c0 k0 : Nat} {pc np k : Nat} {lo st : List AV} {h h1 hF : AH} {sc : SC} {N d : Nat} {r r1 : RS} {L : AD}
theorem nc_of (Y0 : WY D tc base b0 sc adK s) (W0 : WX s args D tc base b0 sc adK) {z : Nat × Nat × Nat × Nat} (hy : y < 252) (hz : z ∈ mHan y) {e9 : Nat} (he : e9 < 4) (hne : clsOf z.2.2.2 ≠ e9) : z.2.2.2 ≠ 0 ∧ ∃ nm : String, (Cond.classLink (cnm (mcx y)) z.2.2.2 nm).before args s = true ∧ va_Nc (exN9 e9) nm s := by
  obtain ⟨g1, g2, g3⟩ := han_at hy hz
  exact ⟨g2, _, by rw [g3]; exact W0.1.w (ct_link g1), Y0.WE.2.1 e9 he _ g1 (fun q => hne q.symm)⟩
theorem RL.bp {H H1 : Heap} (a1 : RL base D tc adK b0 L h H) (hk : ∀ q, q < H.size → H1[q]? = H[q]?) : RL base D tc adK b0 L (bump h) H1 := by
  obtain ⟨r1, r2, r3, r4, r5, r6⟩ := a1
  exact ⟨r1.kept fun k q hq => hk q.1 ((r1 k q hq).lt), r2, r3, r4, r5, r6⟩
theorem go_thr {e9 : Nat} {i : Instr} (F : FX p R s m meth c y) (W0 : WX s args D tc base b0 sc adK) (Y0 : WY D tc base b0 sc adK s) (hl : l.stackTraces = false) (ht : c.exceptionTable.toList = tableOf (mHan y)) (hE : fnd (code9 y) pc = some (i, np)) (hst : stp sc y (code9 y) i np pc lo st h = some (.inr (.inr (.inr e9)))) (hc : c0 ≤ h.1.2.1) (hk : k0 ≤ h.1.2.2) (hR1 : (bump h).1.2.1 - c0 ≤ R.cells) (hR2 : (bump h).1.2.2 - k0 ≤ R.slots) :
    GO p l e R s m args below meth c base D tc adK b0 y L0 n0 c0 k0 (QY below base D tc adK b0 L0 n0 c0 k0 (.inr e9) (bump h) args s) pc lo st h := by
  have hx := F.1
  have hb := F.2.1
  have hml := F.2.2.1
  have hown := F.2.2.2.1
  have hlk : meth.locks = false := F.2.2.2.2.2.1
  have hy : y < 252 := F.2.2.2.2.2.2.2.1
  have hRf : 8 ≤ R.frames := F.2.2.2.2.2.2.2.2.1
  have hRl : 200 ≤ R.locals := F.2.2.2.2.2.2.2.2.2
  obtain ⟨k9, rfl⟩ := stp_thr hst
  obtain ⟨i0, len, dec, habs, hnp, hlen⟩ := code_at hy hE
  have e0 := absI_nb habs rfl; subst e0; have e1 := hlen rfl; subst e1
  have hsite := List.all_eq_true.mp (List.all_eq_true.mp site_all y (List.mem_range.mpr hy)) _ (fnd_mem hE)
  dsimp only at hsite
  unfold stp at hst
  dsimp only at hst
  split at hst
  · simp only [Bool.cond_eq_ite] at hst
    split at hst <;> cases hst
  · rename_i f9 x9 w1 w2 w3 hne hf
    simp only [Bool.cond_eq_ite] at hst
    split at hst
    · rename_i hcond
      simp only [Bool.and_eq_true] at hcond
      cases hst
      rw [hf] at hsite
      have hs2 : (Nat.beq (mcx y) 10 && (mHan y).isEmpty && Nat.blt e9 4 && siteC (code9 y) pc e9) = true := by
        revert hsite
        cases f9 with
        | zero => exact absurd rfl hne
        | succ f9 => exact fun q => q
      simp only [Bool.and_eq_true] at hs2
      obtain ⟨⟨⟨s1, s2⟩, s3⟩, s4⟩ := hs2
      have h10 := Nat.eq_of_beq_eq_true s1
      have hh := List.isEmpty_iff.mp s2
      have he4 : e9 < 4 := Nat.le_of_ble_eq_true s3
      have hnoT : ∀ (q : Nat), ∀ x ∈ c.exceptionTable.toList, covers x q = false := by
        intro q x hx
        rw [ht, hh] at hx
        cases hx
      have hlink : Cond.classLink (cnm 10) k9 (exN9 e9) ∈ lw_tbl := by
        rcases ck_all (mcx y) (mcx_lt hy) _ (fnd_mem hf) with ⟨q, -⟩ | ⟨-, -, f, -⟩
        · exact absurd q hne
        · rw [h10] at f; exact f
      have hown' : s.vm.findClass "MountSpaces" = some m.cls := by
        rw [h10] at hown; exact hown
      obtain ⟨d0, d1, d2, d5, dfit⟩ := rx_dec e9 he4
      have hat : ∀ w ∈ (xc_atoms "MountSpaces" (exC9 e9) (exN9 e9) (exX9 e9) (exR9 e9)).filter vx_no, w.before args s = true := by
        intro w hw
        obtain ⟨g1, g2, -⟩ := xw_all e9 he4 w hw
        rcases g2 with g2 | g2
        · exact W0.1.1 w g1 g2
        · exact va_Nw.use (sof_tab g2) (Y0.WE.1 w g1 g2)
      have hgood : ∀ w ∈ Cond.classLink "MountSpaces" k9 (exN9 e9) :: Cond.initialized (exN9 e9) :: (xc_atoms "MountSpaces" (exC9 e9) (exN9 e9) (exX9 e9) (exR9 e9)).filter vx_no, vx_ot w = true := by
        intro w hw
        rcases List.mem_cons.mp hw with q | hw
        · rw [q]; rfl
        · rcases List.mem_cons.mp hw with q | hw
          · rw [q]; rfl
          · exact (xw_all e9 he4 w hw).2.2
      intro L H locs cells slots ls a1 a2 a3 a4 a5 a6 a7 a8 a9 b1
      have hsum := cats_le (L := L) hcond.2
      have hr1 : h.1.2.1 + 1 - c0 ≤ R.cells := hR1
      have hr2 : h.1.2.2 + 6 - k0 ≤ R.slots := hR2
      have kkk : ∀ (pc9 : Nat) (q : Nat) (ce : Cell) (H1 : Heap), H1[q]? = some ce → ce.vm = .none → s.vm.findClass (exN9 e9) = some ce.cls → H.size ≤ H1.size → (∀ q9 : Nat, q9 < H.size → H1[q9]? = H[q9]?) → va_S (fun q => base ≤ q) s.heap H1 locs → vx_W p l e R s m args below meth c H1 locs (cells + 1) (slots + 6) (QY below base D tc adK b0 L0 n0 c0 k0 (.inr e9) (bump h) args s) (F0 m pc9 ls (st.map (avV L))) q := by
        intro pc9 q ce H1 hce hcv hcl hsz hkeep hS1
        refine vx_out (hnoT pc9) hlk hce hcv hcl (fun t ht9 hal => ⟨e9, L, rfl, he4, rfl, a9, by rw [ht9]; exact a1.bp hkeep, va_S.F hS1 ht9, b1⟩) (fun z hz => hS1.2.2 z hz) ?_ ?_
        · show cells + 1 ≤ h.1.2.1 + 1 - c0; omega
        · show slots + 6 ≤ h.1.2.2 + 6 - k0; omega
      unfold siteC at s4
      split at s4
      · rename_i n3 is n4 hf3 hf4
        simp only [Bool.and_eq_true] at s4
        obtain ⟨t1, t2⟩ := s4
        split at t2
        · rename_i ic n6 n9 hf6 hf9
          have hic := Nat.eq_of_beq_eq_true t2
          subst hic
          obtain ⟨tx, htx⟩ := Option.isSome_iff_exists.mp t1
          obtain ⟨sa, hsa⟩ := Y0.WE.2.2.1 _ (fnd_mem htx)
          obtain ⟨j3, l3, dc3, ha3, -, hl3⟩ := code_at hy hf3
          have q3 := absI_nb ha3 rfl; subst q3; have r3 := hl3 rfl; subst r3
          obtain ⟨j4, l4, dc4, ha4, -, hl4⟩ := code_at hy hf4
          have q4 := absI_nb ha4 rfl; subst q4; have r4 := hl4 rfl; subst r4
          obtain ⟨j6, l6, dc6, ha6, -, hl6⟩ := code_at hy hf6
          have q6 := absI_nb ha6 rfl; subst q6; have r6 := hl6 rfl; subst r6
          obtain ⟨j9, l9, dc9, ha9, -, hl9⟩ := code_at hy hf9
          have q9 := absI_nb ha9 rfl; subst q9; have r9 := hl9 rfl; subst r9
          exact xc_throw hx hb hl d0 d1 d2 d5 hown' dfit (W0.1.w hlink) (W0.1.w (xw_ini e9 he4)) hsa hat hgood Y0.WE.2.2.2.1 Y0.WE.2.2.2.2 a2 (by rw [a3.1, hml]) dec dc3 dc4 dc6 dc9 (by omega) (by omega) (by omega) (by omega) (kkk (pc + 9))
        · cases t2
      · rename_i n3 is n4 hf3 hf4
        simp only [Bool.and_eq_true] at s4
        obtain ⟨t1, t2⟩ := s4
        split at t2
        · rename_i ic n6 n9 hf6 hf9
          have hic := Nat.eq_of_beq_eq_true t2
          subst hic
          obtain ⟨tx, htx⟩ := Option.isSome_iff_exists.mp t1
          obtain ⟨sa, hsa⟩ := Y0.WE.2.2.1 _ (fnd_mem htx)
          obtain ⟨j3, l3, dc3, ha3, -, hl3⟩ := code_at hy hf3
          have q3 := absI_nb ha3 rfl; subst q3; have r3 := hl3 rfl; subst r3
          obtain ⟨j4, l4, dc4, ha4, -, hl4⟩ := code_at hy hf4
          have q4 := absI_nb ha4 rfl; subst q4; have r4 := hl4 rfl; subst r4
          obtain ⟨j6, l6, dc6, ha6, -, hl6⟩ := code_at hy hf6
          have q6 := absI_nb ha6 rfl; subst q6; have r6 := hl6 rfl; subst r6
          obtain ⟨j9, l9, dc9, ha9, -, hl9⟩ := code_at hy hf9
          have q9 := absI_nb ha9 rfl; subst q9; have r9 := hl9 rfl; subst r9
          exact xc_throwW hx hb hl d0 d1 d2 d5 hown' dfit (W0.1.w hlink) (W0.1.w (xw_ini e9 he4)) hsa hat hgood Y0.WE.2.2.2.1 Y0.WE.2.2.2.2 a2 (by rw [a3.1, hml]) dec dc3 dc4 dc6 dc9 (by omega) (by omega) (by omega) (by omega) (kkk (pc + 10))
        · cases t2
      · cases s4
    · cases hst
  · cases hst
end EXG
