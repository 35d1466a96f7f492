/-! EACH INSTRUCTION'S operation -/
def cix (kd m : Nat) : Nat := bif Nat.beq kd 0 then mcx m else bif Nat.beq kd 2 then (bif Nat.beq (mcx m) 13 then 11 else mcx m) else 11
noncomputable def calD (kd m : Nat) : ZFO := bif Nat.blt m 131 && Nat.beq (mkd m) (bif Nat.blt kd 3 then kd else 0) && Nat.blt (cix kd m) 50 && rcv kd m (cix kd m, 0) then oCal m (mna m) (cix kd m) else oNo
noncomputable def den (y : Nat) : Instr → ZFO
  | .aconst_null => oK 4294967296
  | .iconst n => oK (nuI (Int32.ofInt n))
  | .bipush n => oK (nuI (Int8.ofInt n).toInt32)
  | .sipush n => oK (nuI (Int16.ofInt n).toInt32)
  | .ldc k => match fnd (iTL.getD (mcx y) []) k with
    | some (v, _) => oK (nuI v)
    | none => match fnd (sTL.getD (mcx y) []) k with
      | some s => bif Nat.blt s 14 then oK (8589934592 + s) else oNo
      | none => oNo
  | .iload k => oLI k
  | .iload_n k => oLI k.val
  | .aload k => oLA k
  | .aload_n k => oLA k.val
  | .istore k => oSI k
  | .istore_n k => oSI k.val
  | .astore k => oSA k
  | .astore_n k => oSA k.val
  | .iinc k n => oInc k (nuI (Int32.ofInt n))
  | .iadd => oAdd
  | .isub => oSub
  | .imul => oMul
  | .iand => oAnd
  | .ior => oOr
  | .ishl => oShl
  | .ishr => oShr
  | .idiv => oDiv
  | .irem => oRem
  | .i2b => oI2b
  | .i2c => oI2c
  | .dup => oDup
  | .dup_x1 => oDx
  | .dup2 => oD2
  | .pop => oPop
  | .ifCond .eq t => oEq t.toNat
  | .ifCond .ne t => oNe t.toNat
  | .ifCond .lt t => oLt t.toNat
  | .ifCond .ge t => oGe t.toNat
  | .ifCond .gt t => oGt t.toNat
  | .ifCond .le t => oLe t.toNat
  | .if_icmp .eq t => oIeq t.toNat
  | .if_icmp .ne t => oIne t.toNat
  | .if_icmp .lt t => oIlt t.toNat
  | .if_icmp .ge t => oIge t.toNat
  | .if_icmp .gt t => oIgt t.toNat
  | .if_icmp .le t => oIle t.toNat
  | .goto t => oGo t.toNat
  | .ifnull _ => oNul
  | .ifnonnull t => oNn t.toNat
  | .tableswitch d a b os => bif decide (a = 0) && decide (((os.toList.map Int.toNat).length : Int) = b + 1) then oSw d.toNat (os.toList.map Int.toNat) else oNo
  | .getstatic k => match fnd (gTL.getD (mcx y) []) k with
    | some _ => oK 1
    | none => oNo
  | .getfield k => match fnd (fTL.getD (mcx y) []) k with
    | some (ci, f, ty, _) => bif Nat.blt ci 50 then (match ty with
      | 0 => oGf ci f
      | 1 => oGf ci f
      | 2 => oGr ci f
      | _ => oNo) else oNo
    | none => oNo
  | .putfield k => match fnd (fTL.getD (mcx y) []) k with
    | some (ci, f, ty, _) => bif Nat.blt ci 50 && (!((cls9.getD ci ("", jT0, 0)).2.1 f).2.2.2 || (Nat.beq (mkd y) 2 && Nat.beq ci (mcx y))) then (match ty with
      | 0 => oPf ci f
      | 1 => oPz ci f
      | 2 => oPr ci f
      | _ => oNo) else oNo
    | none => oNo
  | .iaload => oIal
  | .baload => oBal
  | .iastore => oIas
  | .bastore => oBas
  | .aaload => oAal
  | .aastore => oAas
  | .arraylength => oAln
  | .newarray t => bif Nat.blt (aty t) 3 then oNa (50 + aty t) else oNo
  | .anewarray _ => bif Nat.beq (mcx y) 4 then oNa 53 else oNo
  | .new k => match fnd (cTL.getD (mcx y) []) k with
    | some (ci, _, _, _) => oNew ci (fcn ci)
    | none => oNo
  | .invokespecial k => match fnd (mTL.getD (mcx y) []) k with
    | some (m, cd, _) => bif Nat.beq m 500 then oObj else bif Nat.beq cd 3 then calD 4 m else bif Nat.blt cd 2 then calD 2 m else oNo
    | none => oNo
  | .invokestatic k => match fnd (mTL.getD (mcx y) []) k with
    | some (m, cd, _) => bif Nat.beq m 503 then oMax else bif Nat.beq m 504 then oMin else bif Nat.beq m 505 then oCpy else bif Nat.beq m 508 then oChk else bif Nat.beq cd 0 && (Nat.blt m 131 && Nat.beq (mkd m) 1) then oCst m (mna m) else oNo
    | none => oNo
  | .invokevirtual k => match fnd (mTL.getD (mcx y) []) k with
    | some (m, cd, _) => bif Nat.beq m 507 then oGb else bif Nat.beq cd 2 then calD 3 m else bif Nat.beq cd 0 then (bif Nat.beq m 112 then oLen 112 else bif Nat.beq m 113 then oChr 113 else bif Nat.beq m 115 then oCod 115 else calD 0 m) else oNo
    | none => oNo
  | .ireturn => match mRt.getD y none with
    | some .int => oRI 4294967295
    | some .boolean => oRI 1
    | some .byte => oRI 127
    | some .char => oRI 127
    | _ => oNo
  | .areturn => match mRt.getD y none with
    | some (.object _) => oRA
    | some (.array _) => oRA
    | _ => oNo
  | .return_ => match mRt.getD y none with
    | none => oRV
    | _ => oNo
  | _ => oNo
section DEN
variable {sc : SC} {y : Nat} {np : Nat}
theorem dV_nuI (x : Int32) : dV (nuI x) = vI x := by rw [dV_i (by have := nuI_lt x; omega), nI_nuI]
theorem isO_n {ci n c : Nat} (h : ci < 50) : isO (ci, n) c = Nat.beq ci c := by
  unfold isO
  rw [KD_cls h]
theorem rcv_n {kd m ci n : Nat} (h : ci < 50) : rcv kd m (ci, n) = rcv kd m (ci, 0) := by
  unfold rcv
  split
  · rw [isO_n h, isO_n h]
  · rw [isO_n h, isO_n h, isO_n h, isO_n h]
  · rw [isO_n h, isO_n h]
theorem sm_if {i : Instr} {b : Bool} {f : ZFO} (h : b = true → SIM sc y i np f) : SIM sc y i np (bif b then f else oNo) := by
  cases b with
  | true => exact h rfl
  | false => exact sm_No
theorem sm_bif {i : Instr} {b : Bool} {f g : ZFO} (h : b = true → SIM sc y i np f) (h2 : b = false → SIM sc y i np g) : SIM sc y i np (bif b then f else g) := by
  cases b with
  | true => exact h rfl
  | false => exact h2 rfl
theorem sm_calD {kd m : Nat} {i : Instr} (hkd : Nat.beq kd 1 = false) (hs : ∀ lo st h, isK m st = false → stp sc y i np lo st h = ivk kd m lo st np h) : SIM sc y i np (calD kd m) := by
  refine sm_if fun h => ?_
  rw [Bool.and_eq_true, Bool.and_eq_true] at h
  obtain ⟨⟨h1, h2⟩, h3⟩ := h
  have hc := Nat.blt_eq.mp h2
  exact sm_Cal rfl hkd h1 hc (fun n => by rw [rcv_n hc]; exact h3) hs
theorem rty_of {t : Option FieldType} (h : mRt.getD y none = t) (x : Int32) : rty y x = (match (generalizing := false) t with
  | some .int => true
  | some .boolean => decide (x = 0) || decide (x = 1)
  | some .byte => inb x 128
  | some .char => inb x 128
  | _ => false) := by
  unfold rty
  rw [h]
  rfl
theorem sm_den : ∀ i, SIM sc y i np (den y i) := by
  intro i
  cases i
  case aconst_null => exact sm_K dV_u (fun _ _ _ => rfl)
  case iconst n => exact sm_K (dV_nuI _) (fun _ _ _ => rfl)
  case bipush n => exact sm_K (dV_nuI _) (fun _ _ _ => rfl)
  case sipush n => exact sm_K (dV_nuI _) (fun _ _ _ => rfl)
  case ldc k =>
    unfold den
    dsimp only
    split
    · rename_i v w e
      exact sm_K (dV_nuI _) (fun lo st h => by unfold stp; dsimp only; rw [e])
    · rename_i e
      split
      · rename_i s e2
        refine sm_if fun hb => ?_
        have := Nat.blt_eq.mp hb
        refine sm_K (w := vR s 900) (by rw [dV_s (by omega) (by omega), Nat.add_sub_cancel_left]) (fun lo st h => by unfold stp; dsimp only; rw [e, e2])
      · exact sm_No
  case iload k => exact sm_LI (fun _ _ _ => rfl)
  case iload_n k => exact sm_LI (fun _ _ _ => rfl)
  case aload k => exact sm_LA (fun _ _ _ => rfl)
  case aload_n k => exact sm_LA (fun _ _ _ => rfl)
  case istore k => exact sm_SI (fun _ _ _ => rfl)
  case istore_n k => exact sm_SI (fun _ _ _ => rfl)
  case astore k => exact sm_SA (fun _ _ _ => rfl)
  case astore_n k => exact sm_SA (fun _ _ _ => rfl)
  case iinc k n => exact sm_Inc (nI_nuI _).symm
  case iadd => exact sm_Add (fun _ _ _ => rfl)
  case isub => exact sm_Sub (fun _ _ _ => rfl)
  case imul => exact sm_Mul (fun _ _ _ => rfl)
  case iand => exact sm_And (fun _ _ _ => rfl)
  case ior => exact sm_Or (fun _ _ _ => rfl)
  case ishl => exact sm_Shl (fun _ _ _ => rfl)
  case ishr => exact sm_Shr (fun _ _ _ => rfl)
  case idiv => exact sm_Div (fun _ _ _ => rfl)
  case irem => exact sm_Rem (fun _ _ _ => rfl)
  case i2b => exact sm_I2b
  case i2c => exact sm_I2c
  case dup => exact sm_Dup
  case dup_x1 => exact sm_Dx
  case dup2 => exact sm_D2
  case pop => exact sm_Pop
  case ifCond c t =>
    cases c
    · exact sm_Eq (fun _ _ _ => rfl)
    · exact sm_Ne (fun _ _ _ => rfl)
    · exact sm_Lt (fun _ _ _ => rfl)
    · exact sm_Ge (fun _ _ _ => rfl)
    · exact sm_Gt (fun _ _ _ => rfl)
    · exact sm_Le (fun _ _ _ => rfl)
  case if_icmp c t =>
    cases c
    · exact sm_Ieq (fun _ _ _ => rfl)
    · exact sm_Ine (fun _ _ _ => rfl)
    · unfold den
      dsimp only
      exact sm_Ilt (t := t.toNat) (fun _ _ _ => rfl)
    · unfold den
      dsimp only
      exact sm_Ige (t := t.toNat) (fun _ _ _ => rfl)
    · unfold den
      dsimp only
      exact sm_Igt (t := t.toNat) (fun _ _ _ => rfl)
    · unfold den
      dsimp only
      exact sm_Ile (t := t.toNat) (fun _ _ _ => rfl)
  case goto t => exact sm_Go
  case ifnull t => exact sm_Nul
  case ifnonnull t => exact sm_Nn
  case tableswitch d a b os =>
    refine sm_if fun h => ?_
    rw [Bool.and_eq_true] at h
    have h1 := of_decide_eq_true h.1
    subst h1
    exact sm_Sw (of_decide_eq_true h.2) rfl
  case getstatic k =>
    unfold den
    dsimp only
    split
    · rename_i e
      exact sm_K (w := vI 1) (dV_i (v := 1) (by decide)) (fun lo st h => by unfold stp; dsimp only; rw [e])
    · exact sm_No
  case getfield k =>
    unfold den
    dsimp only
    split
    · rename_i ci f ty w e
      refine sm_if fun hb => ?_
      have hc := Nat.blt_eq.mp hb
      split
      · exact sm_Gf e (Or.inl rfl) hc
      · exact sm_Gf e (Or.inr rfl) hc
      · exact sm_Gr e hc
      · exact sm_No
    · exact sm_No
  case putfield k =>
    unfold den
    dsimp only
    split
    · rename_i ci f ty w e
      refine sm_if fun hb => ?_
      rw [Bool.and_eq_true] at hb
      have hc := Nat.blt_eq.mp hb.1
      split
      · exact sm_Pf e hc hb.2
      · exact sm_Pz e hc hb.2
      · exact sm_Pr e hc hb.2
      · exact sm_No
    · exact sm_No
  case iaload => exact sm_Ial
  case baload => exact sm_Bal
  case iastore => exact sm_Ias
  case bastore => exact sm_Bas
  case aaload => exact sm_Aal
  case aastore => exact sm_Aas
  case arraylength => exact sm_Aln
  case newarray t => exact sm_if fun h => sm_Na rfl h
  case anewarray k => exact sm_if fun h => sm_Ana h
  case new k =>
    unfold den
    dsimp only
    split
    · rename_i e
      exact sm_New e rfl
    · exact sm_No
  case invokespecial k =>
    unfold den
    dsimp only
    split
    · rename_i m cd w e
      refine sm_bif (fun h => ?_) (fun h => sm_bif (fun h2 => ?_) (fun h2 => sm_if fun h3 => ?_))
      · have := beq_t h
        subst this
        exact sm_Obj e
      · exact sm_calD rfl (fun lo st hh _ => by unfold stp; dsimp only; rw [e]; dsimp only; rw [h, h2]; rfl)
      · exact sm_calD rfl (fun lo st hh _ => by unfold stp; dsimp only; rw [e]; dsimp only; rw [h, h2, h3]; rfl)
    · exact sm_No
  case invokestatic k =>
    unfold den
    dsimp only
    split
    · rename_i m cd w e
      refine sm_bif (fun h => ?_) (fun h => sm_bif (fun h2 => ?_) (fun h2 => sm_bif (fun h3 => ?_) (fun h3 => sm_bif (fun h4 => ?_) (fun h4 => sm_if fun h5 => ?_))))
      · have := beq_t h
        subst this
        exact sm_Max e
      · have := beq_t h2
        subst this
        exact sm_Min e
      · have := beq_t h3
        subst this
        exact sm_Cpy e
      · have := beq_t h4
        subst this
        exact sm_Chk e
      · rw [Bool.and_eq_true] at h5
        exact sm_Cst rfl h5.2 (fun lo st hh => by unfold stp; dsimp only; rw [e]; dsimp only; rw [h, h2, h3, h4, h5.1]; rfl)
    · exact sm_No
  case invokevirtual k =>
    unfold den
    dsimp only
    split
    · rename_i m cd w e
      refine sm_bif (fun h => ?_) (fun h => sm_bif (fun h2 => ?_) (fun h2 => sm_if fun h3 => ?_))
      · have := beq_t h
        subst this
        exact sm_Gb e
      · have h9 : Nat.beq cd 0 = false := by rw [beq_t h2]; rfl
        exact sm_calD rfl (fun lo st hh _ => by unfold stp; dsimp only; rw [e]; dsimp only; rw [h, h9, h2]; rfl)
      · have hk : ∀ lo st hh, isK m st = true → stp sc y (.invokevirtual k) np lo st hh = strI m lo st np hh := fun lo st hh hk => by unfold stp; dsimp only; rw [e]; dsimp only; rw [h, h3, hk]; rfl
        have hn : ∀ lo st hh, isK m st = false → stp sc y (.invokevirtual k) np lo st hh = ivk 0 m lo st np hh := fun lo st hh hk => by unfold stp; dsimp only; rw [e]; dsimp only; rw [h, h3, hk, h2]; rfl
        refine sm_bif (fun h4 => ?_) (fun h4 => sm_bif (fun h5 => ?_) (fun h5 => sm_bif (fun h6 => ?_) (fun h6 => sm_calD rfl hn)))
        · have := beq_t h4
          subst this
          exact sm_Len (sm_Cal rfl rfl rfl (by decide) (fun n => (rcv_n (by decide)).trans rfl) hn) hk rfl
        · have := beq_t h5
          subst this
          exact sm_Chr (sm_Cal rfl rfl rfl (by decide) (fun n => (rcv_n (by decide)).trans rfl) hn) hk rfl
        · have := beq_t h6
          subst this
          exact sm_Cod (sm_Cal rfl rfl rfl (by decide) (fun n => (rcv_n (by decide)).trans rfl) hn) hk rfl
    · exact sm_No
  case ireturn =>
    unfold den
    dsimp only
    split
    · rename_i e
      exact sm_RI (by decide) (fun x hx => (rty_of e _).trans rfl)
    · rename_i e
      refine sm_RI (by decide) (fun x hx => (rty_of e _).trans ?_)
      have : x = 0 ∨ x = 1 := by omega
      rcases this with rfl | rfl <;> rfl
    · rename_i e
      exact sm_RI (by decide) (fun x hx => (rty_of e _).trans (n_inb (by omega) (by decide)))
    · rename_i e
      exact sm_RI (by decide) (fun x hx => (rty_of e _).trans (n_inb (by omega) (by decide)))
    · exact sm_No
  case areturn =>
    unfold den
    dsimp only
    split
    · rename_i e
      exact sm_RA (fun p lo h => by unfold stp; dsimp only; rw [e])
    · rename_i e
      exact sm_RA (fun p lo h => by unfold stp; dsimp only; rw [e])
    · exact sm_No
  case return_ =>
    unfold den
    dsimp only
    split
    · rename_i e
      exact sm_RV e
    · exact sm_No
  all_goals exact sm_No
end DEN
