/-! ONE STEP, all instructions but calls, ends and throws -/
def isBr : Instr → Bool
  | .goto _ | .ifnull _ | .ifCond _ _ | .if_icmp _ _ | .tableswitch _ _ _ _ => true
  | _ => false
theorem absI_nb {pc : Nat} {i0 i : Instr} (h : absI pc i0 = i) (hb : isBr i = false) : i0 = i := by
  cases i0 <;> first | exact h | (subst h; cases hb)
theorem absI_goto {pc : Nat} {i0 : Instr} {t : Int} (h : absI pc i0 = .goto t) : ∃ t0, i0 = .goto t0 ∧ (pc : Int) + t0 = t := by
  cases i0 <;> first | exact ⟨_, rfl, Instr.goto.inj h⟩ | cases h
theorem absI_ifnull {pc : Nat} {i0 : Instr} {t : Int} (h : absI pc i0 = .ifnull t) : ∃ t0, i0 = .ifnull t0 ∧ (pc : Int) + t0 = t := by
  cases i0 <;> first | exact ⟨_, rfl, Instr.ifnull.inj h⟩ | cases h
theorem absI_if {pc : Nat} {i0 : Instr} {c} {t : Int} (h : absI pc i0 = .ifCond c t) : ∃ t0, i0 = .ifCond c t0 ∧ (pc : Int) + t0 = t := by
  cases i0 <;> first | (obtain ⟨h1, h2⟩ := Instr.ifCond.inj h; subst h1; exact ⟨_, rfl, h2⟩) | cases h
theorem absI_cmp {pc : Nat} {i0 : Instr} {c} {t : Int} (h : absI pc i0 = .if_icmp c t) : ∃ t0, i0 = .if_icmp c t0 ∧ (pc : Int) + t0 = t := by
  cases i0 <;> first | (obtain ⟨h1, h2⟩ := Instr.if_icmp.inj h; subst h1; exact ⟨_, rfl, h2⟩) | cases h
theorem absI_tsw {pc : Nat} {i0 : Instr} {d a b : Int} {os : Array Int} (h : absI pc i0 = .tableswitch d a b os) : ∃ d0 os0, i0 = .tableswitch d0 a b os0 ∧ (pc : Int) + d0 = d ∧ os0.map (fun z => (pc : Int) + z) = os := by
  cases i0 <;> first | (obtain ⟨h1, h2, h3, h4⟩ := Instr.tableswitch.inj h; subst h2; subst h3; exact ⟨_, _, rfl, h1, h4⟩) | cases h
def brPos : Instr → Bool
  | .goto t | .ifnull t | .ifCond _ t | .if_icmp _ t => decide (0 ≤ t)
  | .tableswitch d _ _ os => decide (0 ≤ d) && os.toList.all (fun z => decide (0 ≤ z))
  | _ => true
theorem br_all : (List.range 252).all (fun y => (code9 y).all (fun e => brPos e.2.1)) = true := by decide +kernel
theorem br_at {y pc : Nat} {i : Instr} {np : Nat} (hy : y < 252) (h : fnd (code9 y) pc = some (i, np)) : brPos i = true := List.all_eq_true.mp (List.all_eq_true.mp br_all y (List.mem_range.mpr hy)) _ (fnd_mem h)
theorem w_objI : Cond.instanceMethod objectInit ∈ lw_tbl ∧ Cond.code objectInit ⟨#[0xb1]⟩ 1 none ∈ lw_tbl := by decide +kernel
theorem w_max : Cond.static Lib.Math.max.name ∈ lw_tbl ∧ Cond.initialized "java/lang/Math" ∈ lw_tbl ∧ Cond.code Lib.Math.max.name Lib.Math.max.code 2 (some .int) ∈ lw_tbl := by decide +kernel
theorem w_min : Cond.static Lib.Math.min.name ∈ lw_tbl ∧ Cond.code Lib.Math.min.name Lib.Math.min.code 2 (some .int) ∈ lw_tbl := by decide +kernel
theorem w_cpy : Cond.native arraycopyName ∈ lw_tbl ∧ Cond.static arraycopyName ∈ lw_tbl ∧ Cond.initialized "java/lang/System" ∈ lw_tbl := by decide +kernel
theorem w_arr : Cond.arrayClass .int ∈ lw_tbl ∧ Cond.arrayClass .byte ∈ lw_tbl ∧ Cond.arrayClass .boolean ∈ lw_tbl ∧ Cond.arrayClass .long ∈ lw_tbl := by decide +kernel
def INTR (p : Program) (l : Launch) (e : Env) (R : Room) (s : State) (m : MethodId) (args : Array Value) (below : List Frame) (meth : Method) (c : Code) (base : Nat) (adK : Nat → Nat) (y : Nat) (Q : State → Prop) : Prop :=
  ∀ (H : Heap) (locs : List Loc) (cells slots : Nat) (ls : Array Slot) (pc k i : Nat) (rest : List Value), i < strN → va_S (fun q => base ≤ q) s.heap H locs → (rest.map fun v => v.category).sum ≤ 8 → cells ≤ R.cells → slots ≤ R.slots → ls.size = mmx y → decode (mByt y) pc = .ok (.invokevirtual k, 3) →
    ((Cond.methodLink (cnm (mcx y)) k (intN 501)).before args s = true → W p l e R s m args below meth c H locs cells slots Q (F0 m (pc + 3) ls (.int (Int32.ofNat (txt i).length) :: rest)) → W p l e R s m args below meth c H locs cells slots Q (F0 m pc ls (.ref (adK i) :: rest))) ∧
    ∀ j : Int32, inb j (txt i).length = true → (Cond.methodLink (cnm (mcx y)) k (intN 502)).before args s = true → W p l e R s m args below meth c H locs cells slots Q (F0 m (pc + 3) ls (.int ((txt i).getD j.toNatClampNeg 0) :: rest)) → W p l e R s m args below meth c H locs cells slots Q (F0 m pc ls (.int j :: .ref (adK i) :: rest))
section LDW
variable {p : Program} {l : Launch} {e : Env} {R : Room} {s : State} {m : MethodId} {args : Array Value} {below : List Frame} {meth : Method} {c : Code} {H : Heap} {locs : List Loc} {cells slots : Nat} {Q : State → Prop}
variable {cc : ByteArray} {pc : Nat} {ls : Array Slot} {rest : List Value}
theorem ldcSW (hexec : p.tables.exec = Jvm.exec) (hb : c.code = cc) {own tx : String} {index q : Nat} (hown : s.vm.findClass own = some m.cls) (hZ : vk_R own index tx q s) (hdg : decode cc pc = .ok (.ldc_w index, 3))
    (k : W p l e R s m args below meth c H locs cells slots Q (F0 m (pc + 3) ls (.ref q :: rest))) : W p l e R s m args below meth c H locs cells slots Q (F0 m pc ls rest) := by
  intro T hT X
  obtain ⟨t, a1, b1⟩ := k T hT X
  exact ⟨t, X.ldcStringW hexec hown (text := tx) (a := q) hZ.1 hZ.2 (g := F0 m pc ls rest) rfl (by rw [hb]; exact hdg) t a1, b1⟩
end LDW
section STP
variable {p : Program} {l : Launch} {e : Env} {R : Room} {s : State} {m : MethodId} {args : Array Value} {below : List Frame} {meth : Method} {c : Code} {base : Nat} {D : va_G} {tc : Nat → ClassId} {adK : Nat → Nat} {b0 y : Nat} {L0 : AD} {n0 c0 k0 : Nat} {Q : State → Prop} {pc np pc' k : Nat} {lo st lo' st' : List AV} {h h' : AH} {sc : SC}
theorem sTl_at {cx k s9 : Nat} (hc : cx < 13) (h : fnd (sTL.getD cx []) k = some s9) : s9 < strN ∧ ∃ tx, strL[s9]? = some (cnm cx, k, tx) := by
  have h1 := List.all_eq_true.mp (List.all_eq_true.mp sChk cx (List.mem_range.mpr hc)) _ (fnd_mem h)
  unfold sChk1 at h1
  simp only [Bool.and_eq_true, decide_eq_true_eq] at h1
  refine ⟨h1.1, ?_⟩
  have h2 := h1.2
  split at h2
  · rename_i o k' tx hs
    simp only [Bool.and_eq_true, decide_eq_true_eq] at h2
    refine ⟨tx, ?_⟩
    rw [hs, h2.1, Nat.eq_of_beq_eq_true h2.2]
  · cases h2
theorem cats_le {L : AD} {st : List AV} {n : Nat} (h : Nat.ble (cats st) n = true) : ((st.map (avV L)).map fun v => v.category).sum ≤ n := by
  rw [cats_map L st (fun _ _ => Or.inr trivial)]
  exact Nat.le_of_ble_eq_true h
theorem go_ldc (F : FX p R s m meth c y) (W0 : WX s args D tc base b0 sc adK) {s9 : Nat} (hf : fnd (sTL.getD (mcx y) []) k = some s9)
    (row : ∀ {H : Heap} {locs : List Loc} {cells slots : Nat} {ls : Array Slot} {rest : List Value} {tx : String} {a : Nat}, vk_R (cnm (mcx y)) k tx a s → W p l e R s m args below meth c H locs cells slots Q (F0 m np ls (.ref a :: rest)) → W p l e R s m args below meth c H locs cells slots Q (F0 m pc ls rest))
    (hst : sNx np lo (vR s9 900 :: st) h = some (.inl (pc', lo', st', h'))) (kk : GO p l e R s m args below meth c base D tc adK b0 y L0 n0 c0 k0 Q pc' lo' st' h') : GO p l e R s m args below meth c base D tc adK b0 y L0 n0 c0 k0 Q pc lo st h := by
  obtain ⟨h1, tx, h2⟩ := sTl_at (mcx_lt F.2.2.2.2.2.2.2.1) hf
  refine go_push (v := vR s9 900) (Or.inr (Or.inl ⟨rfl, h1⟩)) (fun hZ kw => ?_) hst kk
  have hr := W0.2.2.2.2.1 s9 _ h2
  refine row hr ?_
  rw [← hZ.2.2.2.2.1 s9 h1]
  exact kw
theorem go_newc (F : FX p R s m meth c y) (W0 : WX s args D tc base b0 sc adK) {ci w1 w2 w3 : Nat} (hf : fnd (cTL.getD (mcx y) []) k = some (0, ci, w1, w2, w3)) (dec : decode (mByt y) pc = .ok (.new k, 3)) (hcap : h'.1.2.1 ≤ R.cells + c0 ∧ h'.1.2.2 ≤ R.slots + k0)
    (hst : (bif isO (nm h.1.1).2 ci && Nat.blt h.1.1 nmN then sNx (pc + 3) lo (.inr (.inr (.inl (nm h.1.1))) :: st) (alc h (fcn ci)) else none) = some (.inl (pc', lo', st', h'))) (kk : GO p l e R s m args below meth c base D tc adK b0 y L0 n0 c0 k0 Q pc' lo' st' h') : GO p l e R s m args below meth c base D tc adK b0 y L0 n0 c0 k0 Q pc lo st h := by
  obtain ⟨hx, hb, hml, hown, hret, hlk, hini, hy, hRf, hRl⟩ := F
  cases hbb : (isO (nm h.1.1).2 ci && Nat.blt h.1.1 nmN) with
  | false => rw [hbb] at hst; cases hst
  | true =>
    rw [hbb] at hst
    simp only [Bool.and_eq_true] at hbb
    obtain ⟨rfl, rfl, rfl, rfl⟩ := sNx_inj hst
    have hlt : h.1.1 < 216 := Nat.le_of_ble_eq_true hbb.2
    rcases ck_all (mcx y) (mcx_lt hy) _ (fnd_mem hf) with ⟨-, f1, f2, f3, f4⟩ | ⟨q, -⟩
    · dsimp only at f1 f2 f3 f4
      obtain ⟨k1, k2, k3, k4, k5, k6, k7⟩ := kf_all ci f1
      intro L H locs cells slots ls a1 a2 a3 a4 a5 a6 a7 a8 a9 b1
      have hcap1 : h.1.2.1 + 1 ≤ R.cells + c0 := hcap.1
      have hcap2 : h.1.2.2 + fcn ci ≤ R.slots + k0 := hcap.2
      refine va_new (fs := (List.range (fcn ci)).map (fun j => defaultValue (tyf ci j))) hx hb (Ts := u_ws (cN9 ci) (cT9 ci) (cS9 ci)) (lays_good k1 W0.1) (fun _ h => h) (tyf ci) k2 hown (W0.1.w f2) (W0.1.w f3) (W0.1.w f4) W0.1.2 a1.1 a1.2.1 a2 (va_hA W0.2.2.2.1) k7 (fun j hj => ?_) (by omega) (by rw [k4]; omega) dec (fun q H1 hP hD hS => ?_)
      · rw [k4] at hj
        simp [vp_V, hj]
      · rw [k4]
        refine go_new kk hlt (RL.push a1 hlt ?_ hP hD) hS a3 a4 a5 a6 a7 a8 a9 b1
        rw [celE_obj (isO_KD hbb.1)]
        congr 2
        refine List.map_congr_left fun j hj => ?_
        have hj' : j < cS9 ci := by rw [k4]; exact List.mem_range.mp hj
        obtain ⟨e1, e2⟩ := k6 j hj'
        have g0 : hG (alc h (fcn ci)) (nm h.1.1).1 (nm h.1.1).2 j = 0 := by rw [hG_alc, u2_at]
        have q0 : hQ (alc h (fcn ci)) (nm h.1.1).1 (nm h.1.1).2 j = 0 := by rw [hQ_alc, u2_at]
        have r0 : hR (alc h (fcn ci)) (nm h.1.1).1 (nm h.1.1).2 j = none := by rw [hR_alc, u2_at]
        rcases (show ftc ci j = 0 ∨ ftc ci j = 1 ∨ ftc ci j = 2 by omega) with q | q | q
        · rw [fV_0 q, tc_int (ty := tyf ci j) (by rw [e1, q]), g0]; rfl
        · rw [fV_1 q, tc_long (ty := tyf ci j) (by rw [e1, q]), q0]; rfl
        · rw [fV_2 (by rw [q]; omega) (by rw [q]; omega), r0]
          have h2 : tcF (tyf ci j) = 2 := by rw [e1, q]
          cases hty : tyf ci j <;> rw [hty] at h2 <;> first | rfl | (cases h2)
    · cases q
theorem go_newa (F : FX p R s m meth c y) (W0 : WX s args D tc base b0 sc adK) {t : ArrayType} (dec : decode (mByt y) pc = .ok (.newarray t, 2)) (hcap : h'.1.2.1 ≤ R.cells + c0 ∧ h'.1.2.2 ≤ R.slots + k0) {K : List (Nat × Instr × Nat)} {i0 : Nat}
    (hst : stp sc y K (.newarray t) (pc + 2) i0 lo st h = some (.inl (pc', lo', st', h'))) (kk : GO p l e R s m args below meth c base D tc adK b0 y L0 n0 c0 k0 Q pc' lo' st' h') : GO p l e R s m args below meth c base D tc adK b0 y L0 n0 c0 k0 Q pc lo st h := by
  obtain ⟨hx, hb, hml, hown, hret, hlk, hini, hy, hRf, hRl⟩ := F
  unfold stp at hst
  dsimp only at hst
  split at hst
  · rename_i n st
    split at hst
    · rename_i q kn hq
      cases hbb : (Nat.beq q (aty t) && Nat.blt q 4 && !(decide (n < 0)) && Nat.beq n.toNatClampNeg kn && Nat.blt h.1.1 nmN) with
      | false => rw [hbb] at hst; cases hst
      | true =>
        rw [hbb] at hst
        simp only [Bool.and_eq_true, Bool.not_eq_true', decide_eq_false_iff_not] at hbb
        obtain ⟨⟨⟨⟨g1, g2⟩, g3⟩, g4⟩, g5⟩ := hbb
        obtain ⟨rfl, rfl, rfl, rfl⟩ := sNx_inj hst
        have hlt : h.1.1 < 216 := Nat.le_of_ble_eq_true g5
        have hq1 := Nat.eq_of_beq_eq_true g1
        have hq4 : q < 4 := Nat.le_of_ble_eq_true g2
        have hnk := Nat.eq_of_beq_eq_true g4
        have hsm := (KDA_small hq).2
        intro L H locs cells slots ls a1 a2 a3 a4 a5 a6 a7 a8 a9 b1
        have hcap1 : h.1.2.1 + 1 ≤ R.cells + c0 := hcap.1
        have hcap2 : h.1.2.2 + kn ≤ R.slots + k0 := hcap.2
        have a6' := ok_tl a6
        have g0 : hG (alc h kn) (nm h.1.1).1 (nm h.1.1).2 = fun _ => 0 := funext fun j => by rw [hG_alc, u2_at]
        have q0 : hQ (alc h kn) (nm h.1.1).1 (nm h.1.1).2 = fun _ => 0 := funext fun j => by rw [hQ_alc, u2_at]
        have fin : ∀ (q9 : Nat) (cA : ClassId) (H1 : Heap) (a0 : vp_A), arV (nxL L h.1.1 q9) (alc h kn) (nm h.1.1).1 (nm h.1.1).2 q kn = a0 → va_K D cls9 (tys9 tc ++ [(cA, tyT q)]) s → va_P D cls9 (wsE tc L h ++ [(q9, .inl (cA, a0))]) H1 → va_D (fun q => base ≤ q) (wsE tc L h ++ [(q9, .inl (cA, a0))]) → va_S (fun q => base ≤ q) s.heap H1 locs →
            W p l e R s m args below meth c H1 locs (cells + 1) (slots + kn) Q (F0 m (pc + 2) ls (.ref q9 :: st.map (avV L))) := by
          intro q9 cA H1 a0 ha hK2 hP hD hS
          have e9 : cA = tc q := ra_find (hK2.2 5 (cA, tyT q) rfl).2 (W0.1.2.2 q (tc q, tyT q) (tys_at (by omega))).2
          subst e9
          refine go_new kk hlt (RL.push a1 hlt ?_ hP hD) hS a3 a4 a5 a6' a7 a8 a9 b1
          rw [celE_arr (isA_KD hq), ha]
        cases t with
        | int =>
          have e0 : q = 0 := hq1
          subst e0
          refine va_newa (atype := .int) (ty := .int) (a0 := (kn, .inl (fun _ => 0))) hx hb (W0.1.w w_arr.1) rfl W0.1.2 a1.1 a1.2.1 a2 (va_hA W0.2.2.2.1) (fun _ => rfl) g3 hnk ?_ (by omega) (by omega) dec (fun q9 cA H1 => fin q9 cA H1 _ (by simp only [arV, g0]))
          show kn * 4 ≤ _; omega
        | byte =>
          have e0 : q = 1 := hq1
          subst e0
          refine va_newa (atype := .byte) (ty := .byte) (a0 := (kn, .inl (fun _ => 0))) hx hb (W0.1.w w_arr.2.1) rfl W0.1.2 a1.1 a1.2.1 a2 (va_hA W0.2.2.2.1) (fun _ => rfl) g3 hnk ?_ (by omega) (by omega) dec (fun q9 cA H1 => fin q9 cA H1 _ (by simp only [arV, g0]))
          show kn * 1 ≤ _; omega
        | boolean =>
          have e0 : q = 2 := hq1
          subst e0
          refine va_newa (atype := .boolean) (ty := .boolean) (a0 := (kn, .inl (fun _ => 0))) hx hb (W0.1.w w_arr.2.2.1) rfl W0.1.2 a1.1 a1.2.1 a2 (va_hA W0.2.2.2.1) (fun _ => rfl) g3 hnk ?_ (by omega) (by omega) dec (fun q9 cA H1 => fin q9 cA H1 _ (by simp only [arV, g0]))
          show kn * 1 ≤ _; omega
        | long =>
          have e0 : q = 3 := hq1
          subst e0
          refine va_newa (atype := .long) (ty := .long) (a0 := (kn, .inr (.inl (fun _ => 0)))) hx hb (W0.1.w w_arr.2.2.2) rfl W0.1.2 a1.1 a1.2.1 a2 (va_hA W0.2.2.2.1) (fun _ => rfl) g3 hnk ?_ (by omega) (by omega) dec (fun q9 cA H1 => fin q9 cA H1 _ (by simp only [arV, q0]))
          show kn * 8 ≤ _; omega
        | _ => exact absurd hq1 (by simp only [aty]; omega)
    · cases hst
  · cases hst
theorem cap_now {cells slots : Nat} (a7 : cells + c0 = h.1.2.1) (a8 : slots + k0 = h.1.2.2) (hcap : h.1.2.1 ≤ R.cells + c0 ∧ h.1.2.2 ≤ R.slots + k0) : cells ≤ R.cells ∧ slots ≤ R.slots := by omega
theorem go_cpy (F : FX p R s m meth c y) (W0 : WX s args D tc base b0 sc adK) {wi : Nat} {mm : Nat × Nat} (hf : fnd (mTL.getD (mcx y) []) k = some (505, mm)) (dec : decode (mByt y) pc = .ok (.invokestatic k, 3))
    (hst : (match st with
        | .inl n :: .inl dp :: .inr (.inr (.inl (i, c))) :: .inl sp :: .inr (.inr (.inl (j, d))) :: st => match isA d, isA c with
          | some (0, n0), some (0, n1) => bif Nat.ble (cats st) 8 && !(decide (sp < 0)) && !(decide (dp < 0)) && !(decide (n < 0)) && Nat.ble (sp.toNatClampNeg + n.toNatClampNeg) n0 && Nat.ble (dp.toNatClampNeg + n.toNatClampNeg) n1 then
              sNx (pc + 3) lo st (sW h i c (va_cpy (hG h j d) (hG h i c) sp.toNatClampNeg dp.toNatClampNeg n.toNatClampNeg)) else none
          | _, _ => none
        | _ => none) = some (.inl (pc', lo', st', h'))) (kk : GO p l e R s m args below meth c base D tc adK b0 y L0 n0 c0 k0 Q pc' lo' st' h') : GO p l e R s m args below meth c base D tc adK b0 y L0 n0 c0 k0 Q pc lo st h := by
  obtain ⟨hx, hb, hml, hown, hret, hlk, hini, hy, hRf, hRl⟩ := F
  split at hst
  · rename_i n dp i cc sp j d st
    split at hst
    · rename_i m0 m1 hq0 hq1
      cases hbb : (Nat.ble (cats st) 8 && !(decide (sp < 0)) && !(decide (dp < 0)) && !(decide (n < 0)) && Nat.ble (sp.toNatClampNeg + n.toNatClampNeg) m0 && Nat.ble (dp.toNatClampNeg + n.toNatClampNeg) m1) with
      | false => rw [hbb] at hst; cases hst
      | true =>
        rw [hbb] at hst
        simp only [Bool.and_eq_true, Bool.not_eq_true', decide_eq_false_iff_not] at hbb
        obtain ⟨⟨⟨⟨⟨g1, g2⟩, g3⟩, g4⟩, g5⟩, g6⟩ := hbb
        obtain ⟨rfl, rfl, rfl, rfl⟩ := sNx_inj hst
        have hlink : (Cond.methodLink (cnm (mcx y)) k arraycopyName).before args s = true := by
          rcases mk_all (mcx y) (mcx_lt hy) _ (fnd_mem hf) with ⟨q, -⟩ | ⟨q, -⟩ | ⟨-, -, q⟩ | q
          · exact absurd q (show ¬ 505 < 252 by decide)
          · exact absurd q (show ¬ 505 < 252 by decide)
          · exact W0.1.w q
          · exact absurd q (show ¬ 600 ≤ 505 by decide)
        intro L H locs cells slots ls a1 a2 a3 a4 a5 a6 a7 a8 a9 b1
        obtain ⟨j1, hj1, hn1, hw1⟩ := arr_ws (tc := tc) (L := L) hq1 (arr_okP (n0 := 0) hq1 (ok_hd (ok_tl (ok_tl a6))))
        obtain ⟨j0, hj0, hn0, hw0⟩ := arr_ws (tc := tc) (L := L) hq0 (arr_okP (n0 := 0) hq0 (ok_hd (ok_tl (ok_tl (ok_tl (ok_tl a6))))))
        have a6' := ok_tl (ok_tl (ok_tl (ok_tl (ok_tl a6))))
        have hsum := cats_le (L := L) g1
        refine va_copyi hx hb (hml.trans a3.1.symm) hown hlink (W0.1.w w_cpy.1) (W0.1.w w_cpy.2.1) (W0.1.w w_cpy.2.2) W0.1.2 a1.1 a1.2.1 a2 j0 j1 0 0 (n0 := m0) (n1 := m1) (f := hG h j d) (g := hG h i cc) (ty := .int) hw0 hw1 rfl rfl rfl g2 g3 g4 (Nat.le_of_ble_eq_true g5) (Nat.le_of_ble_eq_true g6) (fun _ _ => rfl) (by omega) (Nat.le_trans (Nat.add_le_add hsum (Nat.le_refl _)) (Nat.le_trans (show 8 + (nativeFrameWords "java/lang/System" "arraycopy" 5 + 11) ≤ 200 by decide +kernel) hRl)) dec (fun H1 locs1 hP hD hS => ?_)
        refine kk L H1 locs1 cells slots ls (RL.set a1 hj1 (h' := sW h i cc (va_cpy (hG h j d) (hG h i cc) sp.toNatClampNeg dp.toNatClampNeg n.toNatClampNeg)) rfl (ev := .inl (tc 0, m1, .inl (va_cpy (hG h j d) (hG h i cc) sp.toNatClampNeg dp.toNatClampNeg n.toNatClampNeg))) ?_ ?_ a1.2.2.2.1 (by rw [hn1]; exact hP) (by rw [hn1]; exact hD)) hS a3 a4 a5 a6' a7 a8 a9 b1
        · rw [hn1, celE_arr (isA_KD hq1)]
          have e1 : hG (sW h i cc (va_cpy (hG h j d) (hG h i cc) sp.toNatClampNeg dp.toNatClampNeg n.toNatClampNeg)) i cc = va_cpy (hG h j d) (hG h i cc) sp.toNatClampNeg dp.toNatClampNeg n.toNatClampNeg := funext fun k => u2_at k
          simp only [arV, e1]
        · rw [hn1]
          intro i' c' hne
          exact celE_congr (fun k => u2_ne hne k) (fun _ => rfl) (fun _ => rfl)
    · cases hst
  · cases hst
theorem go_newq (F : FX p R s m meth c y) (W0 : WX s args D tc base b0 sc adK) (dec : decode (mByt y) pc = .ok (.anewarray k, 3)) (hw : mcx y = 4 → Cond.classLink (cnm (mcx y)) k "MountSpaces$Mounts" ∈ lw_tbl) (hcap : h'.1.2.1 ≤ R.cells + c0 ∧ h'.1.2.2 ≤ R.slots + k0) {K : List (Nat × Instr × Nat)} {i0 : Nat}
    (hst : stp sc y K (.anewarray k) (pc + 3) i0 lo st h = some (.inl (pc', lo', st', h'))) (kk : GO p l e R s m args below meth c base D tc adK b0 y L0 n0 c0 k0 Q pc' lo' st' h') : GO p l e R s m args below meth c base D tc adK b0 y L0 n0 c0 k0 Q pc lo st h := by
  obtain ⟨hx, hb, hml, hown, hret, hlk, hini, hy, hRf, hRl⟩ := F
  unfold stp at hst
  dsimp only at hst
  split at hst
  · rename_i n st
    split at hst
    · rename_i q kn hq
      cases hbb : (Nat.beq q 4 && Nat.beq (mcx y) 4 && !(decide (n < 0)) && Nat.beq n.toNatClampNeg kn && Nat.blt h.1.1 nmN) with
      | false => rw [hbb] at hst; cases hst
      | true =>
        rw [hbb] at hst
        simp only [Bool.and_eq_true, Bool.not_eq_true', decide_eq_false_iff_not] at hbb
        obtain ⟨⟨⟨⟨g1, g2⟩, g3⟩, g4⟩, g5⟩ := hbb
        obtain ⟨rfl, rfl, rfl, rfl⟩ := sNx_inj hst
        have hlt : h.1.1 < 216 := Nat.le_of_ble_eq_true g5
        have hq1 := Nat.eq_of_beq_eq_true g1
        subst hq1
        have hnk := Nat.eq_of_beq_eq_true g4
        have hsm := (KDA_small hq).2
        intro L H locs cells slots ls a1 a2 a3 a4 a5 a6 a7 a8 a9 b1
        have hcap1 : h.1.2.1 + 1 ≤ R.cells + c0 := hcap.1
        have hcap2 : h.1.2.2 + kn ≤ R.slots + k0 := hcap.2
        have a6' := ok_tl a6
        have r0 : ∀ j, hR (alc h kn) (nm h.1.1).1 (nm h.1.1).2 j = none := fun j => by rw [hR_alc, u2_at]
        refine va_newq hx hb hown (W0.1.w (hw (Nat.eq_of_beq_eq_true g2))) W0.2.2.2.2.2 W0.1.2 a1.1 a1.2.1 a2 (va_hA W0.2.2.2.1) g3 hnk (by omega) (by omega) (by omega) dec (fun q9 cA H1 hK2 hP hD hS => ?_)
        have e9 : cA = tc 4 := ra_find (hK2.2 5 (cA, tyT 4) rfl).2 (W0.1.2.2 4 (tc 4, tyT 4) rfl).2
        subst e9
        refine go_new kk hlt (RL.push a1 hlt ?_ hP hD) hS a3 a4 a5 a6' a7 a8 a9 b1
        rw [celE_arr (isA_KD hq)]
        simp only [arV, r0]
        rfl
    · cases hst
  · cases hst
end STP
