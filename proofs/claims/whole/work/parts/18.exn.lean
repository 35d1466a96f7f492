/-! CALLS, ENDS, THROWS -/
section EXN
variable {p : Program} {l : Launch} {e : Env} {R : Room} {s : State} {m : MethodId} {args : Array Value} {below : List Frame} {meth : Method} {c : Code} {base : Nat} {D : va_G} {tc : Nat → ClassId} {adK : Nat → Nat} {b0 y : Nat} {L0 : AD} {n0 c0 k0 : Nat} {pc np k : Nat} {lo st : List AV} {h h1 hF : AH} {sc : SC} {N d : Nat} {r r1 : RS} {L : AD}
abbrev QY (below : List Frame) (base : Nat) (D : va_G) (tc : Nat → ClassId) (adK : Nat → Nat) (b0 : Nat) (L0 : AD) (n0 c0 k0 : Nat) (r : RS) (hF : AH) (args : Array Value) (s : State) : State → Prop :=
  vx_MQ below (qcY base D tc adK b0 L0 n0 r hF) (xcY base D tc adK b0 L0 n0 r hF) args s (hF.1.2.1 - c0) (hF.1.2.2 - k0) (fun q => base ≤ q)
theorem go_ret {i : Instr} {v : Option AV} (F : FX p R s m meth c y) (hE : fnd (code9 y) pc = some (i, np)) (hst : stp sc y (code9 y) i np pc lo st h = some (.inr (.inl v))) :
    GO p l e R s m args below meth c base D tc adK b0 y L0 n0 c0 k0 (QY below base D tc adK b0 L0 n0 c0 k0 (.inl v) h args s) pc lo st h := by
  have hx := F.1
  have hb := F.2.1
  have hr0 : meth.sig.returnType = mRet y := F.2.2.2.2.1
  have hlk : meth.locks = false := F.2.2.2.2.2.1
  have hy : y < 252 := F.2.2.2.2.2.2.2.1
  obtain ⟨i0, len, dec, habs, hnp, hlen⟩ := code_at hy hE
  rcases stp_ret hst with rfl | rfl | rfl
  · have e0 := absI_nb habs rfl; subst e0; have e1 := hlen rfl; subst e1
    unfold stp at hst
    dsimp only at hst
    split at hst
    · rename_i x
      intro L H locs cells slots ls a1 a2 a3 a4 a5 a6 a7 a8 a9 b1
      have ec : h.1.2.1 - c0 = cells := by omega
      have es : h.1.2.2 - k0 = slots := by omega
      unfold QY
      rw [ec, es]
      split at hst
      · rename_i hm
        cases hst
        exact vx_ret (W.iret hx hb (hr0.trans hm) (fun t ht hW => ⟨some (vI x), L, rfl, rfl, a9, by rw [ht]; exact a1, va_S.F a2 ht, fun w hw => by cases hw; trivial, b1⟩) (fun q hq => a2.2.2 q hq) dec hlk)
      · rename_i hm
        split at hst
        · rename_i h01
          cases hst
          refine vx_ret (W.zret (ty := .boolean) hx hb (hr0.trans hm) ?_ (fun t ht hW => ⟨some (vI x), L, rfl, rfl, a9, by rw [ht]; exact a1, va_S.F a2 ht, fun w hw => by cases hw; trivial, b1⟩) (fun q hq => a2.2.2 q hq) dec hlk)
          rcases h01 with e | e <;> rw [e] <;> rfl
        · cases hst
      · cases hst
    · cases hst
  · have e0 := absI_nb habs rfl; subst e0; have e1 := hlen rfl; subst e1
    unfold stp at hst
    dsimp only at hst
    split at hst
    · rename_i x
      intro L H locs cells slots ls a1 a2 a3 a4 a5 a6 a7 a8 a9 b1
      have ec : h.1.2.1 - c0 = cells := by omega
      have es : h.1.2.2 - k0 = slots := by omega
      unfold QY
      rw [ec, es]
      split at hst
      · rename_i hm
        cases hst
        exact vx_ret (W.lret hx hb (hr0.trans hm) (fun t ht hW => ⟨some (vJ x), L, rfl, rfl, a9, by rw [ht]; exact a1, va_S.F a2 ht, fun w hw => by cases hw; trivial, b1⟩) (fun q hq => a2.2.2 q hq) dec hlk)
      · cases hst
    · cases hst
  · have e0 := absI_nb habs rfl; subst e0; have e1 := hlen rfl; subst e1
    unfold stp at hst
    dsimp only at hst
    split at hst
    · intro L H locs cells slots ls a1 a2 a3 a4 a5 a6 a7 a8 a9 b1
      have ec : h.1.2.1 - c0 = cells := by omega
      have es : h.1.2.2 - k0 = slots := by omega
      unfold QY
      rw [ec, es]
      split at hst
      · rename_i hm
        cases hst
        exact vx_ret (W.vret hx hb (hr0.trans hm) (fun t ht hW => ⟨none, L, rfl, rfl, a9, by rw [ht]; exact a1, va_S.F a2 ht, fun w hw => (by cases hw), b1⟩) (fun q hq => a2.2.2 q hq) dec hlk)
      · cases hst
    · cases hst
/-- what a call gives back -/
theorem run_go {Q : State → Prop} {n mc ms : Nat} {ls : Array Slot} {stv restv : List Value} {H : Heap} {locs : List Loc} {cells slots : Nat} {a : Array Value}
    (hr : vx_Run p l e R s m args below meth c H locs cells slots mc ms (F0 m pc ls stv) restv (qcY base D tc adK b0 L n r1 h1 a) (xcY base D tc adK b0 L n r1 h1) (fun q => base ≤ q)) (hS : va_S (fun q => base ≤ q) s.heap H locs)
    (kr : ∀ (v : Option AV) (L' : AD) (H1 : Heap) (locs1 : List Loc), r1 = .inl v → (∀ q, okA n q → L' q.1 q.2 = L q.1 q.2) → RL base D tc adK b0 L' h1 H1 → va_S (fun q => base ≤ q) s.heap H1 locs1 → (∀ w, v = some w → okV h1.1.1 w) → n ≤ h1.1.1 → W p l e R s m args below meth c H1 locs1 (cells + mc) (slots + ms) Q (F0 m (pc + 3) ls ((v.map (avV L')).toList ++ restv)))
    (kx : ∀ (e9 : Nat) (L' : AD) (H1 : Heap) (locs1 : List Loc) (q9 : Addr) (ce : Cell), r1 = .inr e9 → e9 < 4 → (∀ q, okA n q → L' q.1 q.2 = L q.1 q.2) → RL base D tc adK b0 L' h1 H1 → va_S (fun q => base ≤ q) s.heap H1 locs1 → n ≤ h1.1.1 → H1[q9]? = some ce → ce.vm = .none → s.vm.findClass (exN9 e9) = some ce.cls → vx_W p l e R s m args below meth c H1 locs1 (cells + mc) (slots + ms) Q (F0 m pc ls restv) q9) :
    W p l e R s m args below meth c H locs cells slots Q (F0 m pc ls stv) := by
  intro T hT X
  rcases hr T hT X with ⟨v, st₀, t, T', L9, h0, X', hL, e1, e2, ⟨v9, L', hv9, ho, hag, hRL, hF, hok, hn⟩, stp9⟩ | ⟨q, st₀, t, T', L9, E, ce, h0, X', hL, e1, e2, ⟨e9, L', he9, he4, hE, hag, hRL, hF, hn⟩, hce, hcv, hcl, stp9⟩
  · cases ho
    obtain ⟨k1, k2, k3⟩ := vx_keep (A1 := fun q => base ≤ q) (A0 := fun q => base ≤ q) h0 e1 hS (fun _ _ h => h) (fun _ h => h) hL hF
    obtain ⟨t2, a1, b1⟩ := kr v9 L' T'.heap (locs ++ L9) hv9 hag (by rw [e1]; exact hRL) k3 hok hn T' rfl X'
    exact ⟨t2, stp9 t2 a1, b1⟩
  · subst hE
    obtain ⟨k1, k2, k3⟩ := vx_keep (A1 := fun q => base ≤ q) (A0 := fun q => base ≤ q) h0 e1 hS (fun _ _ h => h) (fun _ h => h) hL hF
    obtain ⟨t2, a1, b1⟩ := kx e9 L' T'.heap (locs ++ L9) q ce he9 he4 hag (by rw [e1]; exact hRL) k3 hn (by rw [e1]; exact hce) hcv hcl T' rfl X'
    exact ⟨t2, stp9.trans a1, b1⟩
theorem pc_blind {as : List AV} : FrameBlind (pcY base D tc adK b0 sc L as h) := by
  intro a U g mk ⟨q1, q2, q3⟩
  exact ⟨q1, q2, WY.to q3 (State.WarmedH.refl U) (Nat.le_refl _) (fun _ _ _ => rfl)⟩
theorem pc_at {as : List AV} {H : Heap} {locs : List Loc} (Y0 : WY D tc base b0 sc adK s) (a1 : RL base D tc adK b0 L h H) (a2 : va_S (fun q => base ≤ q) s.heap H locs) (U : State) (hU : U.heap = H) (hW : s.WarmedH U.vm) : pcY base D tc adK b0 sc L as h (as.map (avV L)).toArray U :=
  ⟨rfl, by rw [hU]; exact a1, WY.to Y0 hW (by rw [hU]; exact a2.1) (fun q h1 h2 => by rw [hU]; exact a2.2.1 q h1 h2)⟩
theorem call_b {k mm mc ms : Nat} (F : FX p R s m meth c y) (W0 : WX s args D tc base b0 sc adK) (hm : mm < 251) (hcode : hWord mm = .code (mNam mm) (mByt mm) (mmx mm) (mRet mm)) (hl : (Cond.methodLink (cnm (mcx y)) k (mNam mm)).before args s = true) (hR : 8 + d + 1 ≤ R.frames ∧ 200 + 40 * (d + 1) ≤ R.locals) :
    CallB R s args (cnm (mcx y)) k (mNam mm) (mByt mm) (mmx mm) (mRet mm) (wsY mm) (rmY d mc ms) mc ms (mna mm) := by
  obtain ⟨f1, f2, f3, f4, f5⟩ := yf_all mm hm
  have hts : ∀ w ∈ lw_tbl.filter goodWord, w.before args s = true := fun w hw => W0.1.1 w (List.mem_filter.mp hw).1 (List.mem_filter.mp hw).2
  have hp := pn_all (mcx mm) (mcx_lt (by omega))
  refine callB_of (mna mm) hts (good_wsY hm) (show wsY mm = _ :: lw_tbl.filter goodWord by unfold wsY; rw [hcode]) rfl rfl (by rw [f3]; exact W0.1.1 _ f2 rfl) hl ⟨by rw [f3]; exact hp.2.1, by rw [f3]; exact hp.2.2, f4⟩ ⟨hR.1, ?_⟩
  have := mmx_le (show mm < 252 by omega)
  show 8 + (mmx mm + 11) + (200 + 40 * d) ≤ R.locals
  omega
theorem hcode_of {mm : Nat} (h : mHan mm = []) : hWord mm = .code (mNam mm) (mByt mm) (mmx mm) (mRet mm) := by
  unfold hWord
  rw [h]
theorem map_rev (L : AD) (as rest : List AV) : (as.reverse ++ rest).map (avV L) = (as.map (avV L)).reverse ++ rest.map (avV L) := by
  rw [List.map_append, List.map_reverse]
theorem mk_lk {q : Nat} {w : Nat × Nat} (F : FX p R s m meth c y) (W0 : WX s args D tc base b0 sc adK) (hq : q < 252) (hf : fnd (mTL.getD (mcx y) []) k = some (q, w)) :
    (Cond.methodLink (cnm (mcx y)) k (mNam q)).before args s = true ∨ (mkd q = 2 ∧ Cond.methodLinkNest (cnm (mcx y)) k (mNam q) "MountSpaces" ∈ lw_tbl) := by
  rcases mk_all (mcx y) (mcx_lt F.2.2.2.2.2.2.2.1) _ (fnd_mem hf) with ⟨-, -, r⟩ | ⟨-, -, r1, r2⟩ | ⟨r, -⟩ | r
  · exact Or.inl (W0.1.w r)
  · exact Or.inr ⟨r1, r2⟩
  · exact absurd (show 500 ≤ q from r) (by omega)
  · exact absurd (show 600 ≤ q from r) (by omega)
/-- a call of the small machine is a run of the machine -/
theorem call_run {i : Instr} {mm : Nat} {as rest : List AV} {H : Heap} {locs : List Loc} {cells slots : Nat} {ls : Array Slot} (F : FX p R s m meth c y) (W0 : WX s args D tc base b0 sc adK) (Y0 : WY D tc base b0 sc adK s) (IH : SND l base D tc adK b0 sc N d) (hE : fnd (code9 y) pc = some (i, np))
    (hst : stp sc y (code9 y) i np pc lo st h = some (.inr (.inr (.inl (mm, as, rest))))) (hcall : runM sc N d mm as h = some (r1, h1)) (hR : 8 + d + 1 ≤ R.frames ∧ 200 + 40 * (d + 1) ≤ R.locals)
    (a1 : RL base D tc adK b0 L h H) (a2 : va_S (fun q => base ≤ q) s.heap H locs) (a3 : lv_has ls (mmx y) (rlo L 0 lo)) (a6 : ∀ v ∈ st, okV h.1.1 v) (hf : cells + (h1.1.2.1 - h.1.2.1) ≤ R.cells ∧ slots + (h1.1.2.2 - h.1.2.2) ≤ R.slots) :
    np = pc + 3 ∧ (∀ v ∈ rest, okV h.1.1 v) ∧ vx_Run p l e R s m args below meth c H locs cells slots (h1.1.2.1 - h.1.2.1) (h1.1.2.2 - h.1.2.2) (F0 m pc ls (st.map (avV L))) (rest.map (avV L)) (qcY base D tc adK b0 L h.1.1 r1 h1 (as.map (avV L)).toArray) (xcY base D tc adK b0 L h.1.1 r1 h1) (fun q => base ≤ q) := by
  have hx := F.1
  have hb := F.2.1
  have hml := F.2.2.1
  have hown := F.2.2.2.1
  have hy : y < 252 := F.2.2.2.2.2.2.2.1
  obtain ⟨i0, len, dec, habs, hnp, hlen⟩ := code_at hy hE
  have hts : ∀ w ∈ lw_tbl.filter goodWord, w.before args s = true := fun w hw => W0.1.1 w (List.mem_filter.mp hw).1 (List.mem_filter.mp hw).2
  have S : CallFix p m c (mByt y) (mmx y) s args (lw_tbl.filter goodWord) (cnm (mcx y)) := ⟨hx, hb, hml, hown, hts⟩
  obtain ⟨k, q, w, hfq, hk⟩ := stp_cal hst
  rcases hk with ⟨rfl, hi⟩ | ⟨rfl, hi⟩ | ⟨rfl, hi⟩
  · -- invokespecial
    have e0 := absI_nb habs rfl; subst e0; have e1 := hlen rfl; subst e1
    obtain ⟨rfl, hm, hkd, ⟨hk1, -⟩ | ⟨-, i, cc, as', rfl, rfl, hal, hO, hcat⟩⟩ := ivk_spec hi
    · exact absurd hk1 (by decide)
    have hm1 := m_lt hm hfq
    obtain ⟨f1, f2, f3, f4, f5⟩ := yf_all mm hm1
    have hp := pn_all (mcx mm) (mcx_lt (by omega))
    have hok : ∀ v ∈ vR i cc :: as', okV h.1.1 v := fun v hv => a6 v (by
      rcases List.mem_cons.mp hv with e | e
      · rw [e]; exact List.mem_append_right _ List.mem_cons_self
      · exact List.mem_append_left _ (List.mem_reverse.mpr e))
    refine ⟨hnp, fun v hv => a6 v (List.mem_append_right _ (List.mem_cons_of_mem _ hv)), ?_⟩
    have hM := IH mm (vR i cc :: as') h h1 r1 L hm1 hcall hok
    rcases f5 with ⟨g, -⟩ | ⟨g, -⟩ | ⟨-, g1, g2, g3, g4⟩
    · omega
    · omega
    have hstk : ((as'.reverse ++ vR i cc :: rest).map (avV L)) = (as'.map (avV L)).reverse ++ .ref (L i cc) :: rest.map (avV L) := map_rev L as' (vR i cc :: rest)
    have hpre : PreS s H (pcY base D tc adK b0 sc L (vR i cc :: as') h) (.ref (L i cc) :: as'.map (avV L)) := ⟨pc_blind, fun U hU hW => pc_at Y0 a1 a2 U hU hW⟩
    rcases mk_lk F W0 hm hfq with hl | ⟨-, hl⟩
    · have cb := call_b (mc := h1.1.2.1 - h.1.2.1) (ms := h1.1.2.2 - h.1.2.2) F W0 hm1 (hcode_of g1) hl hR
      rw [g3] at cb
      exact vx_runI S hM ⟨cb, g2, W0.1.w g4⟩ hpre rfl (by rw [List.length_map, hal]) (by exact a3.1) hstk (by show 2 * 0 + _ ≤ 8; have := cats_le (L := L) hcat; omega) dec hf
    · refine vx_runIN (host := "MountSpaces") (maxL := mmx mm) (bytes := mByt mm) S hM ⟨?_, g2, W0.1.w g4⟩ hpre rfl (by rw [List.length_map, hal]) (by exact a3.1) hstk (by show 2 * 0 + _ ≤ 8; have := cats_le (L := L) hcat; omega) dec hf
      have := mmx_le (show mm < 252 by omega)
      refine va_cnB (maxL := mmx mm) (ws' := lw_tbl.filter goodWord) (mna mm) hts (good_wsY hm1) (by unfold wsY; rw [hcode_of g1, g3]) rfl rfl (Y0.WE.1 _ hl rfl) (by rw [f3]; exact W0.1.1 _ f2 rfl) ⟨by rw [f3]; exact hp.2.1, by rw [f3]; exact hp.2.2, f4⟩ ⟨hR.1, ?_⟩
      show 8 + (mmx mm + 11) + (200 + 40 * d) ≤ R.locals
      omega
  · -- invokestatic
    have e0 := absI_nb habs rfl; subst e0; have e1 := hlen rfl; subst e1
    obtain ⟨rfl, hm, hkd, hiv⟩ := ivk_spec hi
    obtain ⟨rfl, hal, hcat⟩ : st = as.reverse ++ rest ∧ as.length = mna mm ∧ Nat.ble (cats rest) 8 = true := by
      rcases hiv with ⟨-, z⟩ | ⟨z, -⟩
      · exact z
      · exact absurd rfl z
    have hm1 := m_lt hm hfq
    obtain ⟨f1, f2, f3, f4, f5⟩ := yf_all mm hm1
    have hp := pn_all (mcx mm) (mcx_lt (by omega))
    have hok : ∀ v ∈ as, okV h.1.1 v := fun v hv => a6 v (List.mem_append_left _ (List.mem_reverse.mpr hv))
    refine ⟨hnp, fun v hv => a6 v (List.mem_append_right _ hv), ?_⟩
    have hM := IH mm as h h1 r1 L hm1 hcall hok
    have g4 : Cond.static (mNam mm) ∈ lw_tbl := by
      rcases f5 with ⟨g, -⟩ | ⟨-, g4⟩ | ⟨g, -⟩
      · omega
      · exact g4
      · omega
    have hpre : PreS s H (pcY base D tc adK b0 sc L as h) (as.map (avV L)) := ⟨pc_blind, fun U hU hW => pc_at Y0 a1 a2 U hU hW⟩
    have hl : (Cond.methodLink (cnm (mcx y)) k (mNam mm)).before args s = true := by
      rcases mk_lk F W0 hm hfq with hl | ⟨g, -⟩
      · exact hl
      · omega
    have := mmx_le (show mm < 252 by omega)
    cases hh : mHan mm with
    | nil => exact vx_runS S hM ⟨call_b F W0 hm1 (hcode_of hh) hl hR, W0.1.w g4⟩ hpre rfl (by rw [List.length_map, hal]) (by exact a3.1) (map_rev L as rest) (by show 2 * 0 + _ ≤ 8; have := cats_le (L := L) hcat; omega) dec hf
    | cons z9 r9 =>
      have hcw : hWord mm = .codeWith (mNam mm) (mByt mm) (mmx mm) (mRet mm) (z9 :: r9) := by unfold hWord; rw [hh]
      refine vx_runSX (hh := z9 :: r9) S hM ⟨⟨rfl, rfl, hR.1, ?_, pay_in hts (good_wsY hm1), by unfold wsY; rw [hcw]; exact List.mem_cons_self⟩, ?_, ?_, ?_, ?_, hl, W0.1.w g4⟩ hpre rfl (by rw [List.length_map, hal]) (by exact a3.1) (map_rev L as rest) (by show 2 * 0 + _ ≤ 8; have := cats_le (L := L) hcat; omega) dec hf
      · show 8 + (mmx mm + 11) + (200 + 40 * d) ≤ R.locals
        omega
      · rw [← hcw]; exact W0.1.1 _ f1 (hw_good mm)
      · rw [f3]; exact W0.1.1 _ f2 rfl
      · rw [f3]; exact hp.2
      · intro sig hs
        rw [hs] at f4
        exact (Option.some.inj f4).symm
  · -- invokevirtual
    have e0 := absI_nb habs rfl; subst e0; have e1 := hlen rfl; subst e1
    obtain ⟨rfl, hm, hkd, ⟨hk1, -⟩ | ⟨-, i, cc, as', rfl, rfl, hal, hO, hcat⟩⟩ := ivk_spec hi
    · exact absurd hk1 (by decide)
    have hm1 := m_lt hm hfq
    obtain ⟨f1, f2, f3, f4, f5⟩ := yf_all mm hm1
    have hok : ∀ v ∈ vR i cc :: as', okV h.1.1 v := fun v hv => a6 v (by
      rcases List.mem_cons.mp hv with e | e
      · rw [e]; exact List.mem_append_right _ List.mem_cons_self
      · exact List.mem_append_left _ (List.mem_reverse.mpr e))
    refine ⟨hnp, fun v hv => a6 v (List.mem_append_right _ (List.mem_cons_of_mem _ hv)), ?_⟩
    have hM := IH mm (vR i cc :: as') h h1 r1 L hm1 hcall hok
    rcases f5 with ⟨-, g1, g2, g3⟩ | ⟨g, -⟩ | ⟨g, -⟩
    · have hstk : ((as'.reverse ++ vR i cc :: rest).map (avV L)) = (as'.map (avV L)).reverse ++ .ref (L i cc) :: rest.map (avV L) := map_rev L as' (vR i cc :: rest)
      have hl : (Cond.methodLink (cnm (mcx y)) k (mNam mm)).before args s = true := by
        rcases mk_lk F W0 hm hfq with hl | ⟨g, -⟩
        · exact hl
        · omega
      have hcx : mcx mm < 12 := by
        have h9 : mcx mm < 91 := by
          have := mcx_lt (show mm < 252 by omega)
          omega
        have h8 := KD_lt hO (by omega)
        have := mcx_lt (show mm < 252 by omega)
        rcases Nat.lt_or_ge (mcx mm) 12 with z | z
        · exact z
        · exfalso
          have e12 : mcx mm = 12 := by omega
          rw [e12] at hO
          have hall : (List.range 91).all (fun c9 => !(isO c9 12)) = true := by decide +kernel
          have h7 := List.all_eq_true.mp hall cc (List.mem_range.mpr h8)
          rw [hO] at h7
          cases h7
      obtain ⟨k1, k2, k3, k4, k5, k6, k7⟩ := kf_all (mcx mm) hcx
      have hpk : okP h.1.1 (i, cc) := (show okA h.1.1 (i, cc) from hok _ List.mem_cons_self).P (KD_lt hO (by omega))
      obtain ⟨j, hj, hnm⟩ := hpk
      have hws := ws_at (tc := tc) (L := L) (h := h) hj
      rw [hnm, celE_obj (isO_KD hO)] at hws
      have hrec := va_recv W0.1.2 a1.1 k7 hws
      dsimp only at hrec
      rw [k5] at hrec
      exact vx_runV (C := cnm (mcx mm)) S hM ⟨call_b F W0 hm1 (hcode_of g1) hl hR, W0.1.w g2, W0.1.w g3⟩ ⟨pc_blind, hrec, fun U hU hW => pc_at Y0 a1 a2 U hU hW⟩ rfl (by rw [List.length_map, hal]) (by exact a3.1) hstk (by show 2 * 0 + _ ≤ 8; have := cats_le (L := L) hcat; omega) dec hf
    · omega
    · omega
end EXN
