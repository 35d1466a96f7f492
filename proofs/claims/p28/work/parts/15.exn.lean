/-! CALLS AND ENDS -/
section EXN
variable {p : Program} {l : Launch} {e : Env} {R : Room} {s : State} {m : MethodId} {args : Array Value} {below : List Frame} {meth : Method} {c : Code} {base : Nat} {D : va_G} {tc : Nat → ClassId} {adK : Nat → Nat} {b0 y : Nat} {L0 : AD} {n0 c0 k0 : Nat} {pc np k : Nat} {lo st : List AV} {h h1 hF : AH} {sc : SC} {N d : Nat} {v1 : Option AV} {L : AD}
abbrev QY (below : List Frame) (base : Nat) (D : va_G) (tc : Nat → ClassId) (adK : Nat → Nat) (b0 : Nat) (L0 : AD) (n0 c0 k0 : Nat) (v : Option AV) (hF : AH) (args : Array Value) (s : State) : State → Prop :=
  MQ below (qcY base D tc adK b0 L0 n0 v hF) args s (hF.1.2.1 - c0) (hF.1.2.2 - k0) (fun q => base ≤ q)
theorem nar_byte {x : Int32} (h : inb x 128 = true) : narrow .byte (.int x) = .int x ∧ narrow .char (.int x) = .int x := by
  obtain ⟨k, hk, rfl⟩ := inb_of h (by decide)
  have hh : ∀ k : Fin 128, narrow .byte (.int (nI k.1)) = .int (nI k.1) ∧ narrow .char (.int (nI k.1)) = .int (nI k.1) := by decide +kernel
  exact hh ⟨k, hk⟩
theorem go_ret {i : Instr} {v : Option AV} (F : FX p R s m meth c y) (hE : fnd (code9 y) pc = some (i, np)) (hst : stp sc y i np lo st h = some (.inr (.inl v))) :
    GO p l e R s m args below meth c base D tc adK b0 y L0 n0 c0 k0 (QY below base D tc adK b0 L0 n0 c0 k0 v h args s) pc lo st h := by
  have hx := F.1
  have hb := F.2.1
  have hr0 : meth.sig.returnType = mRet y := F.2.2.2.2.1
  have hlk : meth.locks = false := F.2.2.2.2.2.1
  have hy : y < 131 := F.2.2.2.2.2.2.2.1
  obtain ⟨i0, len, dec, habs, hnp, hlen⟩ := code_at hy hE
  rcases stp_ret hst with rfl | rfl | rfl
  · have e0 := absI_nb habs rfl; subst e0; have e1 := hlen rfl; subst e1
    unfold stp at hst
    dsimp only at hst
    split at hst
    · rename_i x
      cases hz : rty y x with
      | false => rw [hz] at hst; cases hst
      | true =>
      rw [hz] at hst
      cases hst
      intro L H locs cells slots ls a1 a2 a3 a4 a5 a6 a7 a8 a9 b1
      have ec : h.1.2.1 - c0 = cells := by omega
      have es : h.1.2.2 - k0 = slots := by omega
      unfold QY
      rw [ec, es]
      have hq : ∀ t : State, t.heap = H → s.WarmedH t.vm → qcY base D tc adK b0 L0 n0 (some (vI x)) h args s (.returned (some (.int x))) t := fun t ht hW => ⟨L, rfl, a9, by rw [ht]; exact a1, va_S.F a2 ht, fun w hw => by cases hw; trivial, b1⟩
      unfold rty at hz
      split at hz
      · rename_i hm
        exact W.iret hx hb (hr0.trans hm) hq (fun q hq => a2.2.2 q hq) dec hlk
      · rename_i hm
        refine W.zret (ty := .boolean) hx hb (hr0.trans hm) ?_ hq (fun q hq => a2.2.2 q hq) dec hlk
        simp only [Bool.or_eq_true, decide_eq_true_eq] at hz
        rcases hz with e | e <;> rw [e] <;> rfl
      · rename_i hm
        exact W.zret (ty := .byte) hx hb (hr0.trans hm) (nar_byte hz).1 hq (fun q hq => a2.2.2 q hq) dec hlk
      · rename_i hm
        exact W.zret (ty := .char) hx hb (hr0.trans hm) (nar_byte hz).2 hq (fun q hq => a2.2.2 q hq) dec hlk
      · cases hz
    · cases hst
  · have e0 := absI_nb habs rfl; subst e0; have e1 := hlen rfl; subst e1
    unfold stp at hst
    dsimp only at hst
    split at hst
    · rename_i q9
      intro L H locs cells slots ls a1 a2 a3 a4 a5 a6 a7 a8 a9 b1
      have ec : h.1.2.1 - c0 = cells := by omega
      have es : h.1.2.2 - k0 = slots := by omega
      unfold QY
      rw [ec, es]
      have hq : ∀ t : State, t.heap = H → s.WarmedH t.vm → qcY base D tc adK b0 L0 n0 (some (.inr (.inr (.inl q9)))) h args s (.returned (some (.ref (L q9.1 q9.2)))) t := fun t ht hW => ⟨L, rfl, a9, by rw [ht]; exact a1, va_S.F a2 ht, fun w hw => by cases hw; exact ok_hd a6, b1⟩
      split at hst
      · rename_i n9 hm
        cases hst
        exact W.aret hx hb (hr0.trans hm) (Or.inl ⟨_, rfl⟩) (Or.inr ⟨_, rfl⟩) hq (fun q hq => a2.2.2 q hq) dec hlk
      · rename_i n9 hm
        cases hst
        exact W.aret hx hb (hr0.trans hm) (Or.inr ⟨_, rfl⟩) (Or.inr ⟨_, rfl⟩) hq (fun q hq => a2.2.2 q hq) dec hlk
      · cases hst
    · cases hst
  · have e0 := absI_nb habs rfl; subst e0; have e1 := hlen rfl; subst e1
    unfold stp at hst
    dsimp only at hst
    split at hst
    · intro L H locs cells slots ls a1 a2 a3 a4 a5 a6 a7 a8 a9 b1
      have ec : h.1.2.1 - c0 = cells := by omega
      have es : h.1.2.2 - k0 = slots := by omega
      unfold QY
      rw [ec, es]
      split at hst
      · rename_i hm
        cases hst
        exact W.vret hx hb (hr0.trans hm) (fun t ht hW => ⟨L, rfl, a9, by rw [ht]; exact a1, va_S.F a2 ht, fun w hw => (by cases hw), b1⟩) (fun q hq => a2.2.2 q hq) dec hlk
      · cases hst
    · cases hst
/-- what a call gives back -/
theorem run_go {Q : State → Prop} {n mc ms : Nat} {ls : Array Slot} {stv restv : List Value} {H : Heap} {locs : List Loc} {cells slots : Nat} {a : Array Value}
    (hr : va_Run p l e R s m args below meth c H locs cells slots mc ms (F0 m pc ls stv) restv (qcY base D tc adK b0 L n v1 h1 a) (fun q => base ≤ q)) (hS : va_S (fun q => base ≤ q) s.heap H locs)
    (kr : ∀ (L' : AD) (H1 : Heap) (locs1 : List Loc), (∀ q, okA n q → L' q.1 q.2 = L q.1 q.2) → RL base D tc adK b0 L' h1 H1 → va_S (fun q => base ≤ q) s.heap H1 locs1 → (∀ w, v1 = some w → okV h1.1.1 w) → n ≤ h1.1.1 → W p l e R s m args below meth c H1 locs1 (cells + mc) (slots + ms) Q (F0 m (pc + 3) ls ((v1.map (avV L')).toList ++ restv))) :
    W p l e R s m args below meth c H locs cells slots Q (F0 m pc ls stv) := by
  intro T hT X
  obtain ⟨v, st₀, t, T', L9, h0, X', hL, e1, e2, ⟨L', ho, hag, hRL, hF, hok, hn⟩, stp9⟩ := hr T hT X
  cases ho
  obtain ⟨hz, hk⟩ := hF
  rw [h0] at hz hk
  have k3 : va_S (fun q => base ≤ q) s.heap T'.heap (locs ++ L9) := ⟨Nat.le_trans hS.1 (by rw [e1]; exact hz), fun q g1 g2 => by rw [e1, hk q (Nat.lt_of_lt_of_le g1 hS.1) g2]; exact hS.2.1 q g1 g2, fun q hq => by
    rcases List.mem_append.mp hq with h | h
    · exact hS.2.2 q h
    · exact hL q h⟩
  obtain ⟨t2, a1, b1⟩ := kr L' T'.heap (locs ++ L9) hag (by rw [e1]; exact hRL) k3 hok hn T' rfl X'
  exact ⟨t2, stp9 t2 a1, b1⟩
theorem pc_blind {as : List AV} : FrameBlind (pcY base D tc adK b0 sc L as h) := by
  intro a U g mk ⟨q1, q2, q3⟩
  exact ⟨q1, q2, WY.to q3 (State.WarmedH.refl U) (Nat.le_refl _) (fun _ _ _ => rfl)⟩
theorem pc_at {as : List AV} {H : Heap} {locs : List Loc} (Y0 : WY D tc base b0 sc adK s) (a1 : RL base D tc adK b0 L h H) (a2 : va_S (fun q => base ≤ q) s.heap H locs) (U : State) (hU : U.heap = H) (hW : s.WarmedH U.vm) : pcY base D tc adK b0 sc L as h (as.map (avV L)).toArray U :=
  ⟨rfl, by rw [hU]; exact a1, WY.to Y0 hW (by rw [hU]; exact a2.1) (fun q h1 h2 => by rw [hU]; exact a2.2.1 q h1 h2)⟩
theorem call_b {k mm mc ms : Nat} (F : FX p R s m meth c y) (W0 : WX s args D tc base b0 sc adK) (hm : mm < 130) (hl : (Cond.methodLink (cnm (mcx y)) k (mNam mm)).before args s = true) (hR : 8 + d + 1 ≤ R.frames ∧ 200 + 40 * (d + 1) ≤ R.locals) :
    CallB R s args (cnm (mcx y)) k (mNam mm) (mByt mm) (mmx mm) (mRet mm) (wsY mm) (rmY d mc ms) mc ms (mna mm) := by
  obtain ⟨f1, f2, f3, f4, f5⟩ := yf_all mm hm
  have hts : ∀ w ∈ lw_tbl.filter goodWord, w.before args s = true := fun w hw => W0.1.1 w (List.mem_filter.mp hw).1 (List.mem_filter.mp hw).2
  have hp := pn_all (mcx mm) (mcx_lt (by omega))
  refine callB_of (mna mm) hts (good_wsY hm) (show wsY mm = _ :: lw_tbl.filter goodWord from rfl) rfl rfl (by rw [f3]; exact W0.1.1 _ f2 rfl) hl ⟨by rw [f3]; exact hp.2.1, by rw [f3]; exact hp.2.2, f4⟩ ⟨hR.1, ?_⟩
  have := mmx_le (show mm < 131 by omega)
  show 8 + (mmx mm + 11) + (200 + 40 * d) ≤ R.locals
  omega
theorem map_rev (L : AD) (as rest : List AV) : (as.reverse ++ rest).map (avV L) = (as.map (avV L)).reverse ++ rest.map (avV L) := by
  rw [List.map_append, List.map_reverse]
/-- a private method selects itself, whatever class asks -/
theorem sel_priv {x : MethodName} {C owner : String} {n : Nat} (hy : x.cls ≠ "java/lang/invoke/MethodHandle" ∧ x.cls ≠ "java/lang/invoke/VarHandle") (hins : (Cond.instantiable C n).before args s = true) (hpriv : (Cond.privateMethod x).before args s = true) (hinst : (Cond.instanceMethod x).before args s = true) (hsame : (Cond.sameMethod x.cls owner x.name x.desc).before args s = true) :
    (Cond.selects C x x).before args s = true := by
  obtain ⟨c, k, hc, hk, -, hniab, -, -⟩ := Cond.instantiable_spec hins
  obtain ⟨mk, methM, hnamed, hmethM, -, -⟩ := Cond.instanceMethod_spec hinst
  obtain ⟨cn, ck, r1, hcn, hck, hni, hf, hn1⟩ := Cond.sameMethod_found hsame
  have hfound : s.methodFound? x.cls x.name x.desc = some mk := State.methodFound?_of_named hnamed hy
  have hcls : mk.cls = cn := Option.some.inj ((findClass_of_methodNamed hnamed).symm.trans hcn)
  have hsel : selectMethod {} s.vm c mk = .method mk := selectMethod_private hmethM (Cond.privateMethod_at hpriv mk methM hnamed hmethM)
  simp only [Cond.before, Cond.holds, Cond.value, hc, hfound, hnamed, hsel, hcls, hck]
  simp; exact hni
theorem asb_pn : asbN ≠ "java/lang/invoke/MethodHandle" ∧ asbN ≠ "java/lang/invoke/VarHandle" := by decide +kernel
theorem w_sbI : Cond.instantiable sbN 4 ∈ lw_tbl ∧ cN9 11 = sbN := by decide +kernel
/-- the receiver's class -/
theorem rec_at {i cc ci : Nat} {H : Heap} (W0 : WX s args D tc base b0 sc adK) (a1 : RL base D tc adK b0 L h H) (hO : isO (hK h i cc) ci = true) (hci : ci < 13) (hok : okA h.1.1 (i, cc)) : ∃ cell : Cell, H[L i cc]? = some cell ∧ cell.vm.isStatics = false ∧ s.vm.findClass (cN9 ci) = some cell.cls := by
  obtain ⟨k1, k2, k3, k4, k5, k6, k7, k8⟩ := kf_all ci hci
  obtain ⟨j, hj, hnm⟩ := hok.P (KD_lt hO (by omega))
  have hws := ws_at (tc := tc) (L := L) (h := h) hj
  rw [hnm, celE_obj (isO_KD hO)] at hws
  exact va_recv W0.1.2 a1.1 k7 hws
theorem msl_cx : (List.range 131).all (fun y => !(msl y) || Nat.blt (mcx y) 13) = true := by decide +kernel
theorem msl_lt {mm : Nat} (hm : mm < 131) (h : msl mm = true) : mcx mm < 13 := by
  have h1 := List.all_eq_true.mp msl_cx mm (List.mem_range.mpr hm)
  simp only [h, Bool.not_true, Bool.false_or] at h1
  exact Nat.blt_eq.mp h1
/-- a call of the small machine is a run of the machine -/
theorem call_run {i : Instr} {mm : Nat} {as rest : List AV} {H : Heap} {locs : List Loc} {cells slots : Nat} {ls : Array Slot} (F : FX p R s m meth c y) (W0 : WX s args D tc base b0 sc adK) (Y0 : WY D tc base b0 sc adK s) (IH : SND l base D tc adK b0 sc N d) (hE : fnd (code9 y) pc = some (i, np))
    (hst : stp sc y i np lo st h = some (.inr (.inr (mm, as, rest)))) (hcall : runM sc N d mm as h = some (v1, h1)) (hR : 8 + d + 1 ≤ R.frames ∧ 200 + 40 * (d + 1) ≤ R.locals)
    (a1 : RL base D tc adK b0 L h H) (a2 : va_S (fun q => base ≤ q) s.heap H locs) (a3 : lv_has ls (mmx y) (rlo L 0 lo)) (a6 : ∀ v ∈ st, okV h.1.1 v) (hf : cells + (h1.1.2.1 - h.1.2.1) ≤ R.cells ∧ slots + (h1.1.2.2 - h.1.2.2) ≤ R.slots) :
    np = pc + 3 ∧ (∀ v ∈ rest, okV h.1.1 v) ∧ va_Run p l e R s m args below meth c H locs cells slots (h1.1.2.1 - h.1.2.1) (h1.1.2.2 - h.1.2.2) (F0 m pc ls (st.map (avV L))) (rest.map (avV L)) (qcY base D tc adK b0 L h.1.1 v1 h1 (as.map (avV L)).toArray) (fun q => base ≤ q) := by
  have hx := F.1
  have hb := F.2.1
  have hml := F.2.2.1
  have hown := F.2.2.2.1
  have hy : y < 131 := F.2.2.2.2.2.2.2.1
  obtain ⟨i0, len, dec, habs, hnp, hlen⟩ := code_at hy hE
  have hts : ∀ w ∈ lw_tbl.filter goodWord, w.before args s = true := fun w hw => W0.1.1 w (List.mem_filter.mp hw).1 (List.mem_filter.mp hw).2
  have S : CallFix p m c (mByt y) (mmx y) s args (lw_tbl.filter goodWord) (cnm (mcx y)) := ⟨hx, hb, hml, hown, hts⟩
  obtain ⟨k, q, cd, w, hfq, hk⟩ := stp_cal hst
  have hMK := mk_all (mcx y) (mcx_lt hy) _ (fnd_mem hfq)
  rcases hk with ⟨rfl, hcd, hi⟩ | ⟨rfl, hcd, hi⟩ | ⟨rfl, hcd, hi⟩ | ⟨rfl, hcd, hi⟩ | ⟨rfl, hcd, hi⟩
  · -- the superclass's own
    have e0 := absI_nb habs rfl; subst e0; have e1 := hlen rfl; subst e1
    obtain ⟨rfl, hm, hkd, ⟨hk1, -⟩ | ⟨-, i, cc, as', rfl, rfl, hal, hO, hcat⟩⟩ := ivk_spec hi
    · exact absurd hk1 (by decide)
    have hm1 := m_lt hm hfq
    obtain ⟨f1, f2, f3, f4, f5⟩ := yf_all mm hm1
    have hok : ∀ v ∈ vR i cc :: as', okV h.1.1 v := fun v hv => a6 v (by
      rcases List.mem_cons.mp hv with e | e
      · rw [e]; exact List.mem_append_right _ List.mem_cons_self
      · exact List.mem_append_left _ (List.mem_reverse.mpr e))
    refine ⟨hnp, fun v hv => a6 v (List.mem_append_right _ (List.mem_cons_of_mem _ hv)), ?_⟩
    have hM := IH mm (vR i cc :: as') h h1 v1 L hm1 hcall hok
    have hstk : ((as'.reverse ++ vR i cc :: rest).map (avV L)) = (as'.map (avV L)).reverse ++ .ref (L i cc) :: rest.map (avV L) := map_rev L as' (vR i cc :: rest)
    subst hcd
    rcases hMK with ⟨-, r, -⟩ | ⟨-, r, -⟩ | ⟨r, -⟩ | ⟨-, r, -⟩ | ⟨-, -, g1, g2, g3, g4, g5⟩
    · exact absurd (show 3 = 0 from r) (by decide)
    · exact absurd (show 3 = 1 from r) (by decide)
    · exact absurd (show 500 ≤ mm from r) (by omega)
    · exact absurd (show 3 = 2 from r) (by decide)
    dsimp only at g1 g2 g3 g4 g5
    have hrec := rec_at W0 a1 (show isO (hK h i cc) 11 = true from hO) (by decide) (hok _ List.mem_cons_self)
    have hat : ClassAt s (cN9 11) (D.1 11) := (W0.1.2.1 11 _ (kf_all 11 (by decide)).2.2.2.2.2.2.1).2
    have := mmx_le hm
    exact va_runSU (C := cN9 11) hat S hM ⟨⟨rfl, rfl, hR.1, (by show 8 + (mmx mm + 11) + (200 + 40 * d) ≤ R.locals; omega), pay_in hts (good_wsY hm1), List.mem_cons_self⟩, W0.1.w g1, W0.1.w g2, W0.1.w g3, W0.1.w g4, (by rw [f3]; exact W0.1.w f2), W0.1.1 _ f1 (hw_good mm), g5, (fun sig hs => by
      rw [hs] at f4
      exact (Option.some.inj f4).symm)⟩ ⟨pc_blind, hrec, fun U hU hW => pc_at Y0 a1 a2 U hU hW⟩ rfl (by rw [List.length_map, hal]) (by exact a3.1) hstk (by show 2 * 0 + _ ≤ 8; have := cats_le (L := L) hcat; omega) dec hf
  · -- a constructor
    have e0 := absI_nb habs rfl; subst e0; have e1 := hlen rfl; subst e1
    obtain ⟨rfl, hm, hkd, ⟨hk1, -⟩ | ⟨-, i, cc, as', rfl, rfl, hal, hO, hcat⟩⟩ := ivk_spec hi
    · exact absurd hk1 (by decide)
    have hkd : mkd mm = 2 := hkd
    have hm1 := m_lt hm hfq
    obtain ⟨f1, f2, f3, f4, f5⟩ := yf_all mm hm1
    have hp := pn_all (mcx mm) (mcx_lt (by omega))
    have hok : ∀ v ∈ vR i cc :: as', okV h.1.1 v := fun v hv => a6 v (by
      rcases List.mem_cons.mp hv with e | e
      · rw [e]; exact List.mem_append_right _ List.mem_cons_self
      · exact List.mem_append_left _ (List.mem_reverse.mpr e))
    refine ⟨hnp, fun v hv => a6 v (List.mem_append_right _ (List.mem_cons_of_mem _ hv)), ?_⟩
    have hM := IH mm (vR i cc :: as') h h1 v1 L hm1 hcall hok
    rcases f5 with ⟨g, -⟩ | ⟨g, -⟩ | ⟨-, g2, g3, g4⟩
    · omega
    · omega
    have hstk : ((as'.reverse ++ vR i cc :: rest).map (avV L)) = (as'.map (avV L)).reverse ++ .ref (L i cc) :: rest.map (avV L) := map_rev L as' (vR i cc :: rest)
    have hpre : PreS s H (pcY base D tc adK b0 sc L (vR i cc :: as') h) (.ref (L i cc) :: as'.map (avV L)) := ⟨pc_blind, fun U hU hW => pc_at Y0 a1 a2 U hU hW⟩
    rcases hMK with ⟨-, -, hl⟩ | ⟨-, -, -, hl⟩ | ⟨r, -⟩ | ⟨-, r, -⟩ | ⟨-, r, -⟩
    · have cb := call_b (mc := h1.1.2.1 - h.1.2.1) (ms := h1.1.2.2 - h.1.2.2) F W0 hm1 (W0.1.w hl) hR
      rw [g3] at cb
      exact va_runI S hM ⟨cb, g2, W0.1.w g4⟩ hpre rfl (by rw [List.length_map, hal]) (by exact a3.1) hstk (by show 2 * 0 + _ ≤ 8; have := cats_le (L := L) hcat; omega) dec hf
    · refine va_runIN (host := "MountSpaces") (maxL := mmx mm) (bytes := mByt mm) S hM ⟨?_, g2, W0.1.w g4⟩ hpre rfl (by rw [List.length_map, hal]) (by exact a3.1) hstk (by show 2 * 0 + _ ≤ 8; have := cats_le (L := L) hcat; omega) dec hf
      have := mmx_le (show mm < 131 by omega)
      refine va_cnB (maxL := mmx mm) (ws' := lw_tbl.filter goodWord) (mna mm) hts (good_wsY hm1) (by show wsY mm = _; unfold wsY hWord; rw [g3]) rfl rfl (Y0.2.2.2.2.2.2.1.1 _ hl rfl) (by rw [f3]; exact W0.1.1 _ f2 rfl) ⟨by rw [f3]; exact hp.2.1, by rw [f3]; exact hp.2.2, f4⟩ ⟨hR.1, ?_⟩
      show 8 + (mmx mm + 11) + (200 + 40 * d) ≤ R.locals
      omega
    · exact absurd (show 500 ≤ mm from r) (by omega)
    · exact absurd (show cd = 2 from r) (by omega)
    · exact absurd (show cd = 3 from r) (by omega)
  · -- a static one
    have e0 := absI_nb habs rfl; subst e0; have e1 := hlen rfl; subst e1
    obtain ⟨rfl, hm, hkd, hiv⟩ := ivk_spec hi
    have hkd : mkd mm = 1 := hkd
    obtain ⟨rfl, hal, hcat⟩ : st = as.reverse ++ rest ∧ as.length = mna mm ∧ Nat.ble (cats rest) 8 = true := by
      rcases hiv with ⟨-, z⟩ | ⟨z, -⟩
      · exact z
      · exact absurd rfl z
    subst hcd
    have hm1 := m_lt hm hfq
    obtain ⟨f1, f2, f3, f4, f5⟩ := yf_all mm hm1
    have hok : ∀ v ∈ as, okV h.1.1 v := fun v hv => a6 v (List.mem_append_left _ (List.mem_reverse.mpr hv))
    refine ⟨hnp, fun v hv => a6 v (List.mem_append_right _ hv), ?_⟩
    have hM := IH mm as h h1 v1 L hm1 hcall hok
    have g4 : Cond.static (mNam mm) ∈ lw_tbl := by
      rcases f5 with ⟨g, -⟩ | ⟨-, g4⟩ | ⟨g, -⟩
      · omega
      · exact g4
      · omega
    have hpre : PreS s H (pcY base D tc adK b0 sc L as h) (as.map (avV L)) := ⟨pc_blind, fun U hU hW => pc_at Y0 a1 a2 U hU hW⟩
    exact va_runS S hM ⟨call_b F W0 hm1 (W0.1.w (mk_own (mcx_lt hy) hfq hm)) hR, W0.1.w g4⟩ hpre rfl (by rw [List.length_map, hal]) (by exact a3.1) (map_rev L as rest) (by show 2 * 0 + _ ≤ 8; have := cats_le (L := L) hcat; omega) dec hf
  · -- a StringBuilder asked by its superclass's name
    have e0 := absI_nb habs rfl; subst e0; have e1 := hlen rfl; subst e1
    obtain ⟨rfl, hm, hkd, ⟨hk1, -⟩ | ⟨-, i, cc, as', rfl, rfl, hal, hO, hcat⟩⟩ := ivk_spec hi
    · exact absurd hk1 (by decide)
    have hm1 := m_lt hm hfq
    obtain ⟨f1, f2, f3, f4, f5⟩ := yf_all mm hm1
    have hok : ∀ v ∈ vR i cc :: as', okV h.1.1 v := fun v hv => a6 v (by
      rcases List.mem_cons.mp hv with e | e
      · rw [e]; exact List.mem_append_right _ List.mem_cons_self
      · exact List.mem_append_left _ (List.mem_reverse.mpr e))
    refine ⟨hnp, fun v hv => a6 v (List.mem_append_right _ (List.mem_cons_of_mem _ hv)), ?_⟩
    have hM := IH mm (vR i cc :: as') h h1 v1 L hm1 hcall hok
    have hstk : ((as'.reverse ++ vR i cc :: rest).map (avV L)) = (as'.map (avV L)).reverse ++ .ref (L i cc) :: rest.map (avV L) := map_rev L as' (vR i cc :: rest)
    subst hcd
    rcases hMK with ⟨-, r, -⟩ | ⟨-, r, -⟩ | ⟨r, -⟩ | ⟨-, -, hU⟩ | ⟨-, r, -⟩
    · exact absurd (show 2 = 0 from r) (by decide)
    · exact absurd (show 2 = 1 from r) (by decide)
    · exact absurd (show 500 ≤ mm from r) (by omega)
    rotate_left
    · exact absurd (show 2 = 3 from r) (by decide)
    obtain ⟨g1, g2, g3, g4, ⟨b9, n9, r9, g5⟩, g6, g7, g8⟩ := hU
    dsimp only at g1 g2 g3 g4 g5 g6 g7 g8
    generalize uxN (mcx y) k = x at g1 g2 g3 g4 g5 g6 g7 g8
    have hrec := rec_at W0 a1 (show isO (hK h i cc) 11 = true from hO) (by decide) (hok _ List.mem_cons_self)
    rw [w_sbI.2] at hrec
    have hsame : (Cond.sameMethod x.cls asbN x.name x.desc).before args s = true := by rw [g2]; exact W0.1.w g3
    have hsel : (Cond.selects sbN x (mNam mm)).before args s = true := by
      rcases g6 with z | ⟨z1, z2⟩
      · exact W0.1.w z
      · rw [z1]
        exact va_Nw.use rfl (Y0.2.2.2.2.2.2.1.2 x z2)
    have := mmx_le hm
    exact va_runU (C := sbN) (owner := asbN) (x := x) S hM ⟨⟨rfl, rfl, hR.1, (by show 8 + (mmx mm + 11) + (200 + 40 * d) ≤ R.locals; omega), pay_in hts (good_wsY hm1), List.mem_cons_self⟩, W0.1.1 _ f1 (hw_good mm), (by rw [f3]; exact W0.1.w f2), asb_pn, (fun sig hs => by
      rw [g8] at hs
      rw [hs] at f4
      exact (Option.some.inj f4).symm), W0.1.w g1, hsame, va_Decl.of (W0.1.w g4) (W0.1.w g5), hsel, W0.1.w g7⟩ ⟨pc_blind, hrec, fun U hU hW => pc_at Y0 a1 a2 U hU hW⟩ rfl (by rw [List.length_map, hal]) (by exact a3.1) hstk (by show 2 * 0 + _ ≤ 8; have := cats_le (L := L) hcat; omega) dec hf
  · -- by its own class
    have e0 := absI_nb habs rfl; subst e0; have e1 := hlen rfl; subst e1
    obtain ⟨rfl, hm, hkd, ⟨hk1, -⟩ | ⟨-, i, cc, as', rfl, rfl, hal, hO, hcat⟩⟩ := ivk_spec hi
    · exact absurd hk1 (by decide)
    have hkd : mkd mm = 0 := hkd
    subst hcd
    have hm1 := m_lt hm hfq
    obtain ⟨f1, f2, f3, f4, f5⟩ := yf_all mm hm1
    have hok : ∀ v ∈ vR i cc :: as', okV h.1.1 v := fun v hv => a6 v (by
      rcases List.mem_cons.mp hv with e | e
      · rw [e]; exact List.mem_append_right _ List.mem_cons_self
      · exact List.mem_append_left _ (List.mem_reverse.mpr e))
    refine ⟨hnp, fun v hv => a6 v (List.mem_append_right _ (List.mem_cons_of_mem _ hv)), ?_⟩
    have hM := IH mm (vR i cc :: as') h h1 v1 L hm1 hcall hok
    have hO2 : msl mm = true ∧ isO (hK h i cc) (mcx mm) = true := by
      have z : (msl mm && isO (hK h i cc) (mcx mm)) = true := hO
      simpa only [Bool.and_eq_true] using z
    rcases f5 with ⟨-, g2, g3⟩ | ⟨g, -⟩ | ⟨g, -⟩
    · have hstk : ((as'.reverse ++ vR i cc :: rest).map (avV L)) = (as'.map (avV L)).reverse ++ .ref (L i cc) :: rest.map (avV L) := map_rev L as' (vR i cc :: rest)
      have hcx := msl_lt hm hO2.1
      have hrec := rec_at W0 a1 hO2.2 hcx (hok _ List.mem_cons_self)
      rw [(kf_all (mcx mm) hcx).2.2.2.2.1] at hrec
      exact va_runV (C := cnm (mcx mm)) S hM ⟨call_b F W0 hm1 (W0.1.w (mk_own (mcx_lt hy) hfq hm)) hR, W0.1.w g2, W0.1.w (g3 hO2.1)⟩ ⟨pc_blind, hrec, fun U hU hW => pc_at Y0 a1 a2 U hU hW⟩ rfl (by rw [List.length_map, hal]) (by exact a3.1) hstk (by show 2 * 0 + _ ≤ 8; have := cats_le (L := L) hcat; omega) dec hf
    · omega
    · omega
end EXN
