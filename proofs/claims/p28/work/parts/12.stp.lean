/-! ONE STEP, all instructions but calls, ends and throws -/
def isBr : Instr → Bool
  | .goto _ | .ifnull _ | .ifnonnull _ | .ifCond _ _ | .if_icmp _ _ | .tableswitch _ _ _ _ => true
  | _ => false
theorem absI_nb {pc : Nat} {i0 i : Instr} (h : absI pc i0 = i) (hb : isBr i = false) : i0 = i := by
  cases i0 <;> first | exact h | (subst h; cases hb)
theorem absI_goto {pc : Nat} {i0 : Instr} {t : Int} (h : absI pc i0 = .goto t) : ∃ t0, i0 = .goto t0 ∧ (pc : Int) + t0 = t := by
  cases i0 <;> first | exact ⟨_, rfl, Instr.goto.inj h⟩ | cases h
theorem absI_ifnull {pc : Nat} {i0 : Instr} {t : Int} (h : absI pc i0 = .ifnull t) : ∃ t0, i0 = .ifnull t0 ∧ (pc : Int) + t0 = t := by
  cases i0 <;> first | exact ⟨_, rfl, Instr.ifnull.inj h⟩ | cases h
theorem absI_ifnn {pc : Nat} {i0 : Instr} {t : Int} (h : absI pc i0 = .ifnonnull t) : ∃ t0, i0 = .ifnonnull t0 ∧ (pc : Int) + t0 = t := by
  cases i0 <;> first | exact ⟨_, rfl, Instr.ifnonnull.inj h⟩ | cases h
theorem absI_if {pc : Nat} {i0 : Instr} {c} {t : Int} (h : absI pc i0 = .ifCond c t) : ∃ t0, i0 = .ifCond c t0 ∧ (pc : Int) + t0 = t := by
  cases i0 <;> first | (obtain ⟨h1, h2⟩ := Instr.ifCond.inj h; subst h1; exact ⟨_, rfl, h2⟩) | cases h
theorem absI_cmp {pc : Nat} {i0 : Instr} {c} {t : Int} (h : absI pc i0 = .if_icmp c t) : ∃ t0, i0 = .if_icmp c t0 ∧ (pc : Int) + t0 = t := by
  cases i0 <;> first | (obtain ⟨h1, h2⟩ := Instr.if_icmp.inj h; subst h1; exact ⟨_, rfl, h2⟩) | cases h
theorem absI_tsw {pc : Nat} {i0 : Instr} {d a b : Int} {os : Array Int} (h : absI pc i0 = .tableswitch d a b os) : ∃ d0 os0, i0 = .tableswitch d0 a b os0 ∧ (pc : Int) + d0 = d ∧ os0.map (fun z => (pc : Int) + z) = os := by
  cases i0 <;> first | (obtain ⟨h1, h2, h3, h4⟩ := Instr.tableswitch.inj h; subst h2; subst h3; exact ⟨_, _, rfl, h1, h4⟩) | cases h
def brPos : Instr → Bool
  | .goto t | .ifnull t | .ifnonnull t | .ifCond _ t | .if_icmp _ t => decide (0 ≤ t)
  | .tableswitch d _ _ os => decide (0 ≤ d) && os.toList.all (fun z => decide (0 ≤ z))
  | _ => true
theorem br_all : (List.range 131).all (fun y => (code9 y).all (fun e => brPos e.2.1)) = true := by decide +kernel
theorem br_at {y pc : Nat} {i : Instr} {np : Nat} (hy : y < 131) (h : fnd (code9 y) pc = some (i, np)) : brPos i = true := List.all_eq_true.mp (List.all_eq_true.mp br_all y (List.mem_range.mpr hy)) _ (fnd_mem h)
theorem w_objI : Cond.instanceMethod objectInit ∈ lw_tbl ∧ Cond.code objectInit ⟨#[0xb1]⟩ 1 none ∈ lw_tbl := by decide +kernel
theorem w_max : Cond.static Lib.Math.max.name ∈ lw_tbl ∧ Cond.initialized "java/lang/Math" ∈ lw_tbl ∧ Cond.code Lib.Math.max.name Lib.Math.max.code 2 (some .int) ∈ lw_tbl := by decide +kernel
theorem w_min : Cond.static Lib.Math.min.name ∈ lw_tbl ∧ Cond.code Lib.Math.min.name Lib.Math.min.code 2 (some .int) ∈ lw_tbl := by decide +kernel
theorem w_cpy : Cond.native arraycopyName ∈ lw_tbl ∧ Cond.static arraycopyName ∈ lw_tbl ∧ Cond.initialized "java/lang/System" ∈ lw_tbl := by decide +kernel
theorem w_arr : Cond.arrayClass .int ∈ lw_tbl ∧ Cond.arrayClass .byte ∈ lw_tbl ∧ Cond.arrayClass .boolean ∈ lw_tbl := by decide +kernel
/-- what a String constant answers, how it gives its bytes; the check of an index; the static of the Strings' form: proved in a later part -/
def INTR (p : Program) (l : Launch) (e : Env) (R : Room) (s : State) (m : MethodId) (args : Array Value) (below : List Frame) (meth : Method) (c : Code) (base : Nat) (D : va_G) (tc : Nat → ClassId) (adK : Nat → Nat) (y : Nat) (Q : State → Prop) : Prop :=
  ∀ (H : Heap) (locs : List Loc) (cells slots : Nat) (ls : Array Slot) (pc k : Nat) (rest : List Value), va_S (fun q => base ≤ q) s.heap H locs → cells ≤ R.cells → slots ≤ R.slots → ls.size = mmx y →
    (∀ i, i < strN → (rest.map fun v => v.category).sum ≤ 8 → decode (mByt y) pc = .ok (.invokevirtual k, 3) →
      ((Cond.methodLink (cnm (mcx y)) k (mNam 112)).before args s = true → W p l e R s m args below meth c H locs cells slots Q (F0 m (pc + 3) ls (.int (Int32.ofNat (txt i).length) :: rest)) → W p l e R s m args below meth c H locs cells slots Q (F0 m pc ls (.ref (adK i) :: rest))) ∧
      (∀ j : Int32, inb j (txt i).length = true → (Cond.methodLink (cnm (mcx y)) k (mNam 113)).before args s = true → W p l e R s m args below meth c H locs cells slots Q (F0 m (pc + 3) ls (.int ((txt i).getD j.toNatClampNeg 0) :: rest)) → W p l e R s m args below meth c H locs cells slots Q (F0 m pc ls (.int j :: .ref (adK i) :: rest))) ∧
      ((Cond.methodLink (cnm (mcx y)) k (mNam 115)).before args s = true → W p l e R s m args below meth c H locs cells slots Q (F0 m (pc + 3) ls (.int 0 :: rest)) → W p l e R s m args below meth c H locs cells slots Q (F0 m pc ls (.ref (adK i) :: rest))) ∧
      (∀ (ws : va_W) (q1 a n1 : Nat) (g : Nat → Int32) (dp : Int32), va_P D cls9 ws H → va_D (fun q => base ≤ q) ws → ws[q1]? = some (a, .inl (tc 1, n1, .inl g)) → ¬ dp < 0 → dp.toNatClampNeg + (txt i).length ≤ n1 → (Cond.methodLink (cnm (mcx y)) k (intN 507)).before args s = true →
        (∀ (H1 : Heap) (locs1 : List Loc), va_P D cls9 (ws.set q1 (a, .inl (tc 1, n1, .inl (va_cpy (fun k => (txt i).getD k 0) g 0 dp.toNatClampNeg (txt i).length)))) H1 → va_D (fun q => base ≤ q) (ws.set q1 (a, .inl (tc 1, n1, .inl (va_cpy (fun k => (txt i).getD k 0) g 0 dp.toNatClampNeg (txt i).length)))) → va_S (fun q => base ≤ q) s.heap H1 locs1 → W p l e R s m args below meth c H1 locs1 cells slots Q (F0 m (pc + 3) ls rest)) →
        W p l e R s m args below meth c H locs cells slots Q (F0 m pc ls (.int 0 :: .int dp :: .ref a :: .ref (adK i) :: rest)))) ∧
    (∀ (i n : Int32), (rest.map fun v => v.category).sum ≤ 8 → decode (mByt y) pc = .ok (.invokestatic k, 3) → (Cond.methodLink (cnm (mcx y)) k (intN 508)).before args s = true → ¬ i < 0 → i < n → W p l e R s m args below meth c H locs cells slots Q (F0 m (pc + 3) ls rest) → W p l e R s m args below meth c H locs cells slots Q (F0 m pc ls (.int n :: .int i :: rest))) ∧
    (decode (mByt y) pc = .ok (.getstatic k, 3) → (Cond.fieldLink (cnm (mcx y)) k "java/lang/String" "COMPACT_STRINGS" "Z").before args s = true → W p l e R s m args below meth c H locs cells slots Q (F0 m (pc + 3) ls (.int 1 :: rest)) → W p l e R s m args below meth c H locs cells slots Q (F0 m pc ls rest))
theorem KD_cls {ci n : Nat} (h : ci < 50) : KD (ci, n) = .inl ci := by
  unfold KD
  rw [show Nat.blt ci 50 = true from Nat.blt_eq.mpr h]
  rfl
theorem KD_arr {q n : Nat} (h : q < 10) : KD (50 + q, n) = .inr (q, n) := by
  unfold KD
  have e1 : Nat.blt (50 + q) 50 = false := by
    cases hb : Nat.blt (50 + q) 50 with
    | false => rfl
    | true => have := Nat.blt_eq.mp hb; omega
  rw [e1, show Nat.blt (50 + q) 60 = true from Nat.blt_eq.mpr (by omega)]
  show Sum.inr (50 + q - 50, n) = _
  rw [Nat.add_sub_cancel_left]
theorem arV_i {L : AD} {h : AH} {i c q n : Nat} (hq : q < 3) : arV L h i c q n = (n, .inl (hG h i c)) := by
  match q, hq with
  | 0, _ => rfl
  | 1, _ => rfl
  | 2, _ => rfl
section STP
variable {p : Program} {l : Launch} {e : Env} {R : Room} {s : State} {m : MethodId} {args : Array Value} {below : List Frame} {meth : Method} {c : Code} {base : Nat} {D : va_G} {tc : Nat → ClassId} {adK : Nat → Nat} {b0 y : Nat} {L0 : AD} {n0 c0 k0 : Nat} {Q : State → Prop} {pc np pc' k : Nat} {lo st lo' st' : List AV} {h h' : AH} {sc : SC}
theorem sTl_at {cx k s9 : Nat} (hc : cx < 18) (h : fnd (sTL.getD cx []) k = some s9) : s9 < strN ∧ ∃ tx, strL[s9]? = some (cnm cx, k, tx) := by
  have h1 := List.all_eq_true.mp (List.all_eq_true.mp sChk cx (List.mem_range.mpr hc)) _ (fnd_mem h)
  unfold sChk1 at h1
  simp only [Bool.and_eq_true, decide_eq_true_eq] at h1
  refine ⟨h1.1, ?_⟩
  have h2 := h1.2
  split at h2
  · rename_i o k' tx hs
    simp only [Bool.and_eq_true, decide_eq_true_eq] at h2
    refine ⟨tx, ?_⟩
    rw [hs, h2.1, Nat.eq_of_beq_eq_true h2.2]
  · cases h2
theorem cats_le {L : AD} {st : List AV} {n : Nat} (h : Nat.ble (cats st) n = true) : ((st.map (avV L)).map fun v => v.category).sum ≤ n := by
  rw [cats_map L st (fun _ _ => Or.inr trivial)]
  exact Nat.le_of_ble_eq_true h
theorem go_ldc (F : FX p R s m meth c y) (W0 : WX s args D tc base b0 sc adK) {s9 : Nat} (hf : fnd (sTL.getD (mcx y) []) k = some s9)
    (row : ∀ {H : Heap} {locs : List Loc} {cells slots : Nat} {ls : Array Slot} {rest : List Value} {tx : String} {a : Nat}, vk_R (cnm (mcx y)) k tx a s → W p l e R s m args below meth c H locs cells slots Q (F0 m np ls (.ref a :: rest)) → W p l e R s m args below meth c H locs cells slots Q (F0 m pc ls rest))
    (hst : sNx np lo (vR s9 900 :: st) h = some (.inl (pc', lo', st', h'))) (kk : GO p l e R s m args below meth c base D tc adK b0 y L0 n0 c0 k0 Q pc' lo' st' h') : GO p l e R s m args below meth c base D tc adK b0 y L0 n0 c0 k0 Q pc lo st h := by
  obtain ⟨h1, tx, h2⟩ := sTl_at (mcx_lt F.2.2.2.2.2.2.2.1) hf
  refine go_push (v := vR s9 900) (Or.inr (Or.inl ⟨rfl, h1⟩)) (fun hZ kw => ?_) hst kk
  have hr := W0.2.2.2.2.1 s9 _ h2
  refine row hr ?_
  rw [← hZ.2.2.2.2.1 s9 h1]
  exact kw
theorem go_newc (F : FX p R s m meth c y) (W0 : WX s args D tc base b0 sc adK) {ci w1 w2 w3 : Nat} (hf : fnd (cTL.getD (mcx y) []) k = some (ci, w1, w2, w3)) (dec : decode (mByt y) pc = .ok (.new k, 3)) (hcap : h'.1.2.1 ≤ R.cells + c0 ∧ h'.1.2.2 ≤ R.slots + k0)
    (hst : (bif Nat.blt h.1.1 nmN then sNx (pc + 3) lo (.inr (.inr (.inl (nm h.1.1))) :: st) (alc h (ci, 0) (fcn ci)) else none) = some (.inl (pc', lo', st', h'))) (kk : GO p l e R s m args below meth c base D tc adK b0 y L0 n0 c0 k0 Q pc' lo' st' h') : GO p l e R s m args below meth c base D tc adK b0 y L0 n0 c0 k0 Q pc lo st h := by
  obtain ⟨hx, hb, hml, hown, hret, hlk, hini, hy, hRf, hRl⟩ := F
  cases hbb : Nat.blt h.1.1 nmN with
  | false => rw [hbb] at hst; cases hst
  | true =>
    rw [hbb] at hst
    obtain ⟨rfl, rfl, rfl, rfl⟩ := sNx_inj hst
    have hlt : h.1.1 < 256 := Nat.blt_eq.mp hbb
    obtain ⟨f1, f2, f3, f4⟩ := ck_all (mcx y) (mcx_lt hy) _ (fnd_mem hf)
    dsimp only at f1 f2 f3 f4
    obtain ⟨k1, k2, k3, k4, k5, k6, k7, k8⟩ := kf_all ci f1
    intro L H locs cells slots ls a1 a2 a3 a4 a5 a6 a7 a8 a9 b1
    have hcap1 : h.1.2.1 + 1 ≤ R.cells + c0 := hcap.1
    have hcap2 : h.1.2.2 + fcn ci ≤ R.slots + k0 := hcap.2
    refine va_new (fs := (List.range (fcn ci)).map (fun j => defaultValue (tyf ci j))) hx hb (Ts := u_ws (cN9 ci) (cT9 ci) (cS9 ci)) (lays_good k1 W0.1) (fun _ h => h) (tyf ci) k2 hown (W0.1.w f2) (W0.1.w f3) (W0.1.w f4) W0.1.2 a1.1 a1.2.1 a2 (va_hA W0.2.2.2.1) k7 (fun j hj => ?_) (by omega) (by rw [k4]; omega) dec (fun q H1 hP hD hS => ?_)
    · rw [k4] at hj
      simp [vp_V, hj]
    · rw [k4]
      refine go_new kk hlt (RL.push a1 hlt ?_ hP hD) hS a3 a4 a5 a6 a7 a8 a9 b1
      refine (celE_obj (by rw [hK_alc]; exact KD_cls (by omega))).trans ?_
      congr 2
      refine List.map_congr_left fun j hj => ?_
      have hj' : j < cS9 ci := by rw [k4]; exact List.mem_range.mp hj
      obtain ⟨e1, e2⟩ := k6 j hj'
      have g0 : hG (alc h (ci, 0) (fcn ci)) (nm h.1.1).1 (nm h.1.1).2 j = 0 := by rw [hG_alc, u2_at]
      have r0 : hR (alc h (ci, 0) (fcn ci)) (nm h.1.1).1 (nm h.1.1).2 j = none := by rw [hR_alc, u2_at]
      rcases (show ftc ci j = 0 ∨ ftc ci j = 1 ∨ ftc ci j = 2 by omega) with q | q | q
      · rw [fV_0 (by rw [q]; decide), tc_int (ty := tyf ci j) (by rw [e1, q]), g0]; rfl
      · rw [fV_0 (by rw [q]; decide), g0]
        have h2 : tcF (tyf ci j) = 1 := by rw [e1, q]
        cases hty : tyf ci j <;> rw [hty] at h2 <;> first | rfl | (cases h2)
      · rw [fV_2 q, r0]
        have h2 : tcF (tyf ci j) = 2 := by rw [e1, q]
        cases hty : tyf ci j <;> rw [hty] at h2 <;> first | rfl | (cases h2)
theorem go_newa (F : FX p R s m meth c y) (W0 : WX s args D tc base b0 sc adK) {t : ArrayType} (dec : decode (mByt y) pc = .ok (.newarray t, 2)) (hcap : h'.1.2.1 ≤ R.cells + c0 ∧ h'.1.2.2 ≤ R.slots + k0)
    (hst : stp sc y (.newarray t) (pc + 2) lo st h = some (.inl (pc', lo', st', h'))) (kk : GO p l e R s m args below meth c base D tc adK b0 y L0 n0 c0 k0 Q pc' lo' st' h') : GO p l e R s m args below meth c base D tc adK b0 y L0 n0 c0 k0 Q pc lo st h := by
  obtain ⟨hx, hb, hml, hown, hret, hlk, hini, hy, hRf, hRl⟩ := F
  unfold stp at hst
  dsimp only at hst
  split at hst
  · rename_i n st
    cases hbb : (Nat.blt (aty t) 3 && !(decide (n < 0)) && Nat.ble n.toNatClampNeg 8000 && Nat.blt h.1.1 nmN) with
    | false => rw [hbb] at hst; cases hst
    | true =>
      rw [hbb] at hst
      simp only [Bool.and_eq_true, Bool.not_eq_true', decide_eq_false_iff_not] at hbb
      obtain ⟨⟨⟨g1, g3⟩, g4⟩, g5⟩ := hbb
      obtain ⟨rfl, rfl, rfl, rfl⟩ := sNx_inj hst
      have hlt : h.1.1 < 256 := Nat.blt_eq.mp g5
      have hsm := Nat.le_of_ble_eq_true g4
      obtain ⟨kn, hnk⟩ : ∃ kn, n.toNatClampNeg = kn := ⟨_, rfl⟩
      rw [hnk] at hsm hcap kk
      intro L H locs cells slots ls a1 a2 a3 a4 a5 a6 a7 a8 a9 b1
      have hcap1 : h.1.2.1 + 1 ≤ R.cells + c0 := hcap.1
      have hcap2 : h.1.2.2 + kn ≤ R.slots + k0 := hcap.2
      have a6' := ok_tl a6
      have g0 : ∀ kd, hG (alc h kd kn) (nm h.1.1).1 (nm h.1.1).2 = fun _ => 0 := fun kd => funext fun j => by rw [hG_alc, u2_at]
      have fin : ∀ (q : Nat), aty t = q → q < 3 → ∀ (q9 : Nat) (cA : ClassId) (H1 : Heap), va_K D cls9 (tys9 tc ++ [(cA, tyT q)]) s → va_P D cls9 (wsE tc L h ++ [(q9, .inl (cA, (kn, .inl (fun _ => 0))))]) H1 → va_D (fun q => base ≤ q) (wsE tc L h ++ [(q9, .inl (cA, (kn, .inl (fun _ => 0))))]) → va_S (fun q => base ≤ q) s.heap H1 locs →
          W p l e R s m args below meth c H1 locs (cells + 1) (slots + kn) Q (F0 m (pc + 2) ls (.ref q9 :: st.map (avV L))) := by
        intro q hqt hq3 q9 cA H1 hK2 hP hD hS
        rw [hqt] at kk
        have e9 : cA = tc q := ra_find (hK2.2 4 (cA, tyT q) rfl).2 (W0.1.2.2 q (tc q, tyT q) (tys_at (by omega))).2
        subst e9
        refine go_new kk hlt (RL.push a1 hlt ?_ hP hD) hS a3 a4 a5 a6' a7 a8 a9 b1
        refine (celE_arr (by rw [hK_alc]; exact KD_arr (by omega))).trans ?_
        rw [arV_i hq3, g0]
      cases t with
      | int =>
        refine va_newa (atype := .int) (ty := .int) (a0 := (kn, .inl (fun _ => 0))) hx hb (W0.1.w w_arr.1) rfl W0.1.2 a1.1 a1.2.1 a2 (va_hA W0.2.2.2.1) (fun _ => rfl) g3 hnk ?_ (by omega) (by omega) dec (fun q9 cA H1 => fin 0 rfl (by decide) q9 cA H1)
        show kn * 4 ≤ _; omega
      | byte =>
        refine va_newa (atype := .byte) (ty := .byte) (a0 := (kn, .inl (fun _ => 0))) hx hb (W0.1.w w_arr.2.1) rfl W0.1.2 a1.1 a1.2.1 a2 (va_hA W0.2.2.2.1) (fun _ => rfl) g3 hnk ?_ (by omega) (by omega) dec (fun q9 cA H1 => fin 1 rfl (by decide) q9 cA H1)
        show kn * 1 ≤ _; omega
      | boolean =>
        refine va_newa (atype := .boolean) (ty := .boolean) (a0 := (kn, .inl (fun _ => 0))) hx hb (W0.1.w w_arr.2.2) rfl W0.1.2 a1.1 a1.2.1 a2 (va_hA W0.2.2.2.1) (fun _ => rfl) g3 hnk ?_ (by omega) (by omega) dec (fun q9 cA H1 => fin 2 rfl (by decide) q9 cA H1)
        show kn * 1 ≤ _; omega
      | _ => exact absurd (Nat.blt_eq.mp g1) (by simp only [aty]; omega)
  · cases hst
theorem cap_now {cells slots : Nat} (a7 : cells + c0 = h.1.2.1) (a8 : slots + k0 = h.1.2.2) (hcap : h.1.2.1 ≤ R.cells + c0 ∧ h.1.2.2 ≤ R.slots + k0) : cells ≤ R.cells ∧ slots ≤ R.slots := by omega
theorem go_cpy (F : FX p R s m meth c y) (W0 : WX s args D tc base b0 sc adK) {mm : Nat × Nat} (hf : fnd (mTL.getD (mcx y) []) k = some (505, mm)) (dec : decode (mByt y) pc = .ok (.invokestatic k, 3))
    (hst : (match st with
        | .inl n :: .inl dp :: .inr (.inr (.inl (i, c))) :: .inl sp :: .inr (.inr (.inl (j, d))) :: st => match isA (hK h j d), isA (hK h i c) with
          | some (q0, n0), some (q1, n1) => bif Nat.beq q0 q1 && Nat.blt q0 2 && (Nat.beq q0 0 || byF (hG h j d) sp.toNatClampNeg n.toNatClampNeg) && Nat.ble (cats st) 8 && !(decide (sp < 0)) && !(decide (dp < 0)) && !(decide (n < 0)) && Nat.ble (sp.toNatClampNeg + n.toNatClampNeg) n0 && Nat.ble (dp.toNatClampNeg + n.toNatClampNeg) n1 then
              sNx (pc + 3) lo st (sW h i c (va_cpy (hG h j d) (hG h i c) sp.toNatClampNeg dp.toNatClampNeg n.toNatClampNeg)) else none
          | _, _ => none
        | _ => none) = some (.inl (pc', lo', st', h'))) (kk : GO p l e R s m args below meth c base D tc adK b0 y L0 n0 c0 k0 Q pc' lo' st' h') : GO p l e R s m args below meth c base D tc adK b0 y L0 n0 c0 k0 Q pc lo st h := by
  obtain ⟨hx, hb, hml, hown, hret, hlk, hini, hy, hRf, hRl⟩ := F
  split at hst
  · rename_i n dp i cc sp j d st
    split at hst
    · rename_i t0 m0 t1 m1 hq0 hq1
      cases hbb : (Nat.beq t0 t1 && Nat.blt t0 2 && (Nat.beq t0 0 || byF (hG h j d) sp.toNatClampNeg n.toNatClampNeg) && Nat.ble (cats st) 8 && !(decide (sp < 0)) && !(decide (dp < 0)) && !(decide (n < 0)) && Nat.ble (sp.toNatClampNeg + n.toNatClampNeg) m0 && Nat.ble (dp.toNatClampNeg + n.toNatClampNeg) m1) with
      | false => rw [hbb] at hst; cases hst
      | true =>
        rw [hbb] at hst
        simp only [Bool.and_eq_true, Bool.or_eq_true, Bool.not_eq_true', decide_eq_false_iff_not] at hbb
        obtain ⟨⟨⟨⟨⟨⟨⟨⟨x1, x2⟩, x3⟩, g1⟩, g2⟩, g3⟩, g4⟩, g5⟩, g6⟩ := hbb
        obtain ⟨rfl, rfl, rfl, rfl⟩ := sNx_inj hst
        have et := Nat.eq_of_beq_eq_true x1
        subst et
        have ht2 : t0 < 2 := Nat.blt_eq.mp x2
        have hlink : (Cond.methodLink (cnm (mcx y)) k arraycopyName).before args s = true := by
          rcases mk_all (mcx y) (mcx_lt hy) _ (fnd_mem hf) with ⟨q, -⟩ | ⟨q, -⟩ | ⟨-, -, -, q⟩ | ⟨q, -⟩ | ⟨q, -⟩
          · exact absurd q (show ¬ 505 < 131 by decide)
          · exact absurd q (show ¬ 505 < 131 by decide)
          · exact W0.1.w q
          · exact absurd q (show ¬ 505 < 131 by decide)
          · exact absurd q (show ¬ 505 < 131 by decide)
        intro L H locs cells slots ls a1 a2 a3 a4 a5 a6 a7 a8 a9 b1
        obtain ⟨j1, hj1, hn1, hw1⟩ := arr_ws (tc := tc) (L := L) hq1 (arr_okP hq1 (ok_hd (ok_tl (ok_tl a6))))
        obtain ⟨j0, hj0, hn0, hw0⟩ := arr_ws (tc := tc) (L := L) hq0 (arr_okP hq0 (ok_hd (ok_tl (ok_tl (ok_tl (ok_tl a6))))))
        rw [arV_i (by omega)] at hw0 hw1
        have a6' := ok_tl (ok_tl (ok_tl (ok_tl (ok_tl a6))))
        have hsum := cats_le (L := L) g1
        have hty : refKind (tyT t0) = false ∧ ∀ q, q < n.toNatClampNeg → fits (tyT t0) (.int (hG h j d (sp.toNatClampNeg + q))) = true := by
          match t0, ht2, x3 with
          | 0, _, _ => exact ⟨rfl, fun _ _ => rfl⟩
          | 1, _, x3 =>
            refine ⟨rfl, fun q hq => ?_⟩
            rcases x3 with z | z
            · cases z
            · exact List.all_eq_true.mp z q (List.mem_range.mpr hq)
        refine va_copyi hx hb (hml.trans a3.1.symm) hown hlink (W0.1.w w_cpy.1) (W0.1.w w_cpy.2.1) (W0.1.w w_cpy.2.2) W0.1.2 a1.1 a1.2.1 a2 j0 j1 t0 t0 (n0 := m0) (n1 := m1) (f := hG h j d) (g := hG h i cc) (ty := tyT t0) hw0 hw1 (tys_at (by omega)) (tys_at (by omega)) hty.1 g2 g3 g4 (Nat.le_of_ble_eq_true g5) (Nat.le_of_ble_eq_true g6) hty.2 (by omega) (Nat.le_trans (Nat.add_le_add hsum (Nat.le_refl _)) (Nat.le_trans (show 8 + (nativeFrameWords "java/lang/System" "arraycopy" 5 + 11) ≤ 200 by decide +kernel) hRl)) dec (fun H1 locs1 hP hD hS => ?_)
        refine kk L H1 locs1 cells slots ls (RL.set a1 hj1 (h' := sW h i cc (va_cpy (hG h j d) (hG h i cc) sp.toNatClampNeg dp.toNatClampNeg n.toNatClampNeg)) rfl (ev := .inl (tc t0, m1, .inl (va_cpy (hG h j d) (hG h i cc) sp.toNatClampNeg dp.toNatClampNeg n.toNatClampNeg))) ?_ ?_ a1.2.2.2.1 (by rw [hn1]; exact hP) (by rw [hn1]; exact hD)) hS a3 a4 a5 a6' a7 a8 a9 b1
        · rw [hn1]
          refine (celE_arr (h := sW h i cc (va_cpy (hG h j d) (hG h i cc) sp.toNatClampNeg dp.toNatClampNeg n.toNatClampNeg)) (isA_KD hq1)).trans ?_
          have e1 : hG (sW h i cc (va_cpy (hG h j d) (hG h i cc) sp.toNatClampNeg dp.toNatClampNeg n.toNatClampNeg)) i cc = va_cpy (hG h j d) (hG h i cc) sp.toNatClampNeg dp.toNatClampNeg n.toNatClampNeg := funext fun k => u2_at k
          rw [arV_i (by omega), e1]
        · rw [hn1]
          intro i' c' hne
          exact celE_congr (fun k => u2_ne hne k) rfl (fun _ => rfl)
    · cases hst
  · cases hst
theorem go_newq (F : FX p R s m meth c y) (W0 : WX s args D tc base b0 sc adK) (dec : decode (mByt y) pc = .ok (.anewarray k, 3)) (hw : mcx y = 4 → Cond.classLink (cnm (mcx y)) k "MountSpaces$Mounts" ∈ lw_tbl) (hcap : h'.1.2.1 ≤ R.cells + c0 ∧ h'.1.2.2 ≤ R.slots + k0)
    (hst : stp sc y (.anewarray k) (pc + 3) lo st h = some (.inl (pc', lo', st', h'))) (kk : GO p l e R s m args below meth c base D tc adK b0 y L0 n0 c0 k0 Q pc' lo' st' h') : GO p l e R s m args below meth c base D tc adK b0 y L0 n0 c0 k0 Q pc lo st h := by
  obtain ⟨hx, hb, hml, hown, hret, hlk, hini, hy, hRf, hRl⟩ := F
  unfold stp at hst
  dsimp only at hst
  split at hst
  · rename_i n st
    cases hbb : (Nat.beq (mcx y) 4 && !(decide (n < 0)) && Nat.ble n.toNatClampNeg 8000 && Nat.blt h.1.1 nmN) with
    | false => rw [hbb] at hst; cases hst
    | true =>
      rw [hbb] at hst
      simp only [Bool.and_eq_true, Bool.not_eq_true', decide_eq_false_iff_not] at hbb
      obtain ⟨⟨⟨g2, g3⟩, g4⟩, g5⟩ := hbb
      obtain ⟨rfl, rfl, rfl, rfl⟩ := sNx_inj hst
      have hlt : h.1.1 < 256 := Nat.blt_eq.mp g5
      have hsm := Nat.le_of_ble_eq_true g4
      obtain ⟨kn, hnk⟩ : ∃ kn, n.toNatClampNeg = kn := ⟨_, rfl⟩
      rw [hnk] at hsm hcap kk
      intro L H locs cells slots ls a1 a2 a3 a4 a5 a6 a7 a8 a9 b1
      have hcap1 : h.1.2.1 + 1 ≤ R.cells + c0 := hcap.1
      have hcap2 : h.1.2.2 + kn ≤ R.slots + k0 := hcap.2
      have a6' := ok_tl a6
      have r0 : ∀ j, hR (alc h (53, kn) kn) (nm h.1.1).1 (nm h.1.1).2 j = none := fun j => by rw [hR_alc, u2_at]
      refine va_newq hx hb hown (W0.1.w (hw (Nat.eq_of_beq_eq_true g2))) W0.2.2.2.2.2 W0.1.2 a1.1 a1.2.1 a2 (va_hA W0.2.2.2.1) g3 hnk (by omega) (by omega) (by omega) dec (fun q9 cA H1 hK2 hP hD hS => ?_)
      have e9 : cA = tc 3 := ra_find (hK2.2 4 (cA, tyT 3) rfl).2 (W0.1.2.2 3 (tc 3, tyT 3) rfl).2
      subst e9
      refine go_new kk hlt (RL.push a1 hlt ?_ hP hD) hS a3 a4 a5 a6' a7 a8 a9 b1
      refine (celE_arr (by rw [hK_alc]; exact KD_arr (q := 3) (by omega))).trans ?_
      simp only [arV, r0]
      rfl
  · cases hst
end STP
