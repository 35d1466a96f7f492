/-! A RUN OF THE SMALL MACHINE IS A RUN OF THE MACHINE -/
theorem exN_le {sc : SC} {call : Nat → List AV → AH → Option (RS × AH)} {y : Nat} {K : List (Nat × Instr × Nat)} (hcall : ∀ mm as h r h', call mm as h = some (r, h') → leH h h') :
    ∀ (n pc : Nat) (lo st : List AV) (h : AH) (r : RS) (h' : AH), exN sc call y K n pc lo st h = some (r, h') → leH h h' := by
  intro n
  induction n with
  | zero => intro pc lo st h r h' q; cases q
  | succ n ih =>
    intro pc lo st h r h' q
    unfold exN at q
    split at q
    · cases q
    · split at q
      · cases q
      · rename_i hst
        exact (stp_le hst).tr (ih _ _ _ _ _ _ q)
      · cases q; exact leH.rf _
      · split at q
        · cases q
        · rename_i hc
          exact (hcall _ _ _ _ _ hc).tr (ih _ _ _ _ _ _ q)
        · rename_i hc
          split at q
          · cases q; exact hcall _ _ _ _ _ hc
          · split at q
            · exact (hcall _ _ _ _ _ hc).tr (ih _ _ _ _ _ _ q)
            · cases q
      · cases q; exact leH.bp _
theorem runM_le {sc : SC} {N : Nat} : ∀ (d y : Nat) (as : List AV) (h : AH) (r : RS) (h' : AH), runM sc N d y as h = some (r, h') → leH h h' := by
  intro d
  induction d with
  | zero => intro y as h r h' q; cases q
  | succ d ih =>
    intro y as h r h' q
    unfold runM at q
    cases hb : Nat.ble (elo as).length (mmx y) with
    | false => rw [hb] at q; cases q
    | true => rw [hb] at q; exact exN_le ih _ _ _ _ _ _ _ q
section EXG2
variable {p : Program} {l : Launch} {e : Env} {R : Room} {s : State} {m : MethodId} {args : Array Value} {below : List Frame} {meth : Method} {c : Code} {base : Nat} {D : va_G} {tc : Nat → ClassId} {adK : Nat → Nat} {b0 y : Nat} {L0 : AD} {n0 c0 k0 : Nat} {hF : AH} {sc : SC} {N d : Nat} {r : RS}
theorem rlo_unset {L : AD} {lo : List AV} {k : Nat} {v : Value} (hn : nlo lo k = true) : ∀ q ∈ rlo L 0 (lo.set k vU), q ∈ (k, v) :: (rlo L 0 lo).filter (fun q => !(q.1 == k) && !(q.1 + 1 == k && q.2.category == 2)) := by
  intro q hq
  rcases List.mem_cons.mp (rlo_set1 (v := vU) hn q hq) with e | e
  · exfalso
    subst e
    obtain ⟨j, x, h1, h2, h3, -⟩ := rlo_mem.mp hq
    rw [Nat.zero_add] at h1
    subst h1
    rw [List.getElem?_set, if_pos rfl] at h2
    split at h2
    · exact h3 (Option.some.inj h2).symm
    · cases h2
  · exact List.mem_cons_of_mem _ e
theorem hnd_in {hp np' : Nat} {lo lo' : List AV} {Q : State → Prop} {H : Heap} {locs : List Loc} {cells slots : Nat} {ls : Array Slot} {L : AD} {q9 : Nat} (F : FX p R s m meth c y) (hin : hnIn (code9 y) lo hp = some (np', lo')) (a3 : lv_has ls (mmx y) (rlo L 0 lo)) (a4 : lo.length = mmx y)
    (kk : ∀ ls' : Array Slot, lv_has ls' (mmx y) (rlo L 0 lo') → lo'.length = mmx y → (∀ n, (∀ v ∈ lo, okV n v) → ∀ v ∈ lo', okV n v) → W p l e R s m args below meth c H locs cells slots Q (F0 m np' ls' [])) : W p l e R s m args below meth c H locs cells slots Q (F0 m hp ls [.ref q9]) := by
  have hx := F.1
  have hb := F.2.1
  have hy : y < 252 := F.2.2.2.2.2.2.2.1
  unfold hnIn at hin
  split at hin
  · rename_i k np9 hf
    obtain ⟨i0, len, dec, habs, hnp, hlen⟩ := code_at hy hf
    have e0 := absI_nb habs rfl; subst e0; have e1 := hlen rfl; subst e1
    cases hbb : (nlo lo k && Nat.blt k lo.length) with
    | false => rw [hbb] at hin; cases hin
    | true =>
      rw [hbb] at hin
      cases hin
      simp only [Bool.and_eq_true] at hbb
      refine lv_astore hx hb dec a3 (by rw [← a4]; exact Nat.le_of_ble_eq_true hbb.2) rfl (fun ls' hl' => ?_)
      rw [hnp] at kk
      exact kk ls' (lv_mono hl' (rlo_unset hbb.1)) (by rw [List.length_set]; exact a4) (fun n hv => ok_set trivial hv)
  · rename_i k np9 hf
    obtain ⟨i0, len, dec, habs, hnp, hlen⟩ := code_at hy hf
    have e0 := absI_nb habs rfl; subst e0; have e1 := hlen rfl; subst e1
    cases hbb : (nlo lo k.val && Nat.blt k.val lo.length) with
    | false => rw [hbb] at hin; cases hin
    | true =>
      rw [hbb] at hin
      cases hin
      simp only [Bool.and_eq_true] at hbb
      refine lv_astore_n hx hb dec rfl a3 (by rw [← a4]; exact Nat.le_of_ble_eq_true hbb.2) rfl (fun ls' hl' => ?_)
      rw [hnp] at kk
      exact kk ls' (lv_mono hl' (rlo_unset hbb.1)) (by rw [List.length_set]; exact a4) (fun n hv => ok_set trivial hv)
  · cases hin
set_option maxHeartbeats 1000000 in
theorem exN_go (F : FX p R s m meth c y) (W0 : WX s args D tc base b0 sc adK) (Y0 : WY D tc base b0 sc adK s) (hl : l.stackTraces = false) (ht : c.exceptionTable.toList = tableOf (mHan y)) (IH : SND l base D tc adK b0 sc N d) (hR : 8 + d + 1 ≤ R.frames ∧ 200 + 40 * (d + 1) ≤ R.locals)
    (hRc : hF.1.2.1 - c0 ≤ R.cells) (hRs : hF.1.2.2 - k0 ≤ R.slots)
    (I0 : INTR p l e R s m args below meth c base adK y (QY below base D tc adK b0 L0 n0 c0 k0 r hF args s)) :
    ∀ (n pc : Nat) (lo st : List AV) (h : AH), exN sc (runM sc N d) y (code9 y) n pc lo st h = some (r, hF) → c0 ≤ h.1.2.1 → k0 ≤ h.1.2.2 →
      GO p l e R s m args below meth c base D tc adK b0 y L0 n0 c0 k0 (QY below base D tc adK b0 L0 n0 c0 k0 r hF args s) pc lo st h := by
  have hown := F.2.2.2.1
  have hlk : meth.locks = false := F.2.2.2.2.2.1
  have hy : y < 252 := F.2.2.2.2.2.2.2.1
  intro n
  induction n with
  | zero => intro pc lo st h q; cases q
  | succ n ih =>
    intro pc lo st h q hc0 hk0
    have hle := exN_le (fun mm as h r h' => runM_le d mm as h r h') _ _ _ _ _ _ _ q
    unfold exN at q
    split at q
    · cases q
    · rename_i i np hE
      split at q
      · cases q
      · rename_i pc' lo' st' h' hst
        have hl1 := stp_le hst
        have hl2 := exN_le (fun mm as h r h' => runM_le d mm as h r h') _ _ _ _ _ _ _ q
        refine stp_go F W0 I0 hE ?_ hst (ih pc' lo' st' h' q (Nat.le_trans hc0 hl1.2.1) (Nat.le_trans hk0 hl1.2.2))
        have := hl2.2.1; have := hl2.2.2; have := hl1.2.1; have := hl1.2.2
        omega
      · rename_i v hst
        cases q
        exact go_ret F hE hst
      · rename_i mm as rest hst
        cases hcall : runM sc N d mm as h with
        | none => rw [hcall] at q; cases q
        | some rr =>
          obtain ⟨r1, h1⟩ := rr
          rw [hcall] at q
          have hl1 := runM_le d mm as h r1 h1 hcall
          have hl2 : leH h1 hF := by
            match r1, q with
            | .inl v, q => exact exN_le (fun mm as h r h' => runM_le d mm as h r h') _ _ _ _ _ _ _ q
            | .inr e9, q =>
              dsimp only at q
              split at q
              · cases q; exact leH.rf _
              · split at q
                · exact exN_le (fun mm as h r h' => runM_le d mm as h r h') _ _ _ _ _ _ _ q
                · cases q
          have g1 := hl1.2.1; have g2 := hl1.2.2; have g3 := hl2.2.1; have g4 := hl2.2.2; have g5 := hl1.1
          intro L H locs cells slots ls a1 a2 a3 a4 a5 a6 a7 a8 a9 b1
          obtain ⟨hnp, hrok, hrun⟩ := call_run (cells := cells) (slots := slots) F W0 Y0 IH hE hst hcall hR a1 a2 a3 a6 (by omega)
          refine run_go hrun a2 ?_ ?_
          · intro v L' H1 locs1 hr1 hag hRL hS hok hn
            subst hr1
            dsimp only at q
            have hag2 : ∀ q, okA n0 q → L' q.1 q.2 = L0 q.1 q.2 := fun q hq => by rw [hag q (hq.mono b1)]; exact a9 q hq
            have key := ih np lo (v.toList ++ rest) h1 q (by omega) (by omega) L' H1 locs1 (cells + (h1.1.2.1 - h.1.2.1)) (slots + (h1.1.2.2 - h.1.2.2)) ls hRL hS (lv_mono a3 (rlo_congr hag a5)) a4 (fun w hw => (a5 w hw).mono g5) (fun w hw => by
              rcases List.mem_append.mp hw with z | z
              · cases v with
                | none => cases z
                | some w9 => rw [List.mem_singleton.mp z]; exact hok w9 rfl
              · exact (hrok w z).mono g5) (by omega) (by omega) hag2 (Nat.le_trans b1 g5)
            rw [List.map_append, map_congr9 hag hrok, hnp] at key
            cases v with
            | none => exact key
            | some w9 => exact key
          · intro e9 L' H1 locs1 q9 ce hr1 he4 hag hRL hS hn hce hcv hcl
            subst hr1
            dsimp only at q
            have hag2 : ∀ q, okA n0 q → L' q.1 q.2 = L0 q.1 q.2 := fun q hq => by rw [hag q (hq.mono b1)]; exact a9 q hq
            split at q
            · rename_i hh
              cases q
              rw [hnd_eq hy] at hh
              refine vx_outP hown hlk (fun z hz => ?_) hce hcv hcl (fun t ht9 hal => ⟨e9, L', rfl, he4, rfl, hag2, by rw [ht9]; exact hRL, va_S.F hS ht9, Nat.le_trans b1 g5⟩) (fun z hz => hS.2.2 z hz) (by omega) (by omega)
              rw [ht] at hz
              obtain ⟨w, hw, rfl⟩ := List.mem_map.mp hz
              rcases hnd3_none hh w hw with g | g
              · exact Or.inl (cov_no g)
              · exact Or.inr (nc_of Y0 W0 hy hw he4 g)
            · rename_i hp hh
              rw [hnd_eq hy] at hh
              split at q
              · rename_i np' lo' hin
                obtain ⟨pre, z, suf, hZ, hzp, hze, hzr, hpre⟩ := hnd3_some hh
                have hzm : z ∈ mHan y := by rw [hZ]; exact List.mem_append_right _ List.mem_cons_self
                obtain ⟨gz1, gz2, gz3⟩ := han_at hy hzm
                have hcast : (Cond.castable (exN9 e9) (exN9 (clsOf z.2.2.2))).before args s = true := by
                  rw [hze]
                  exact va_Nw.use rfl (Y0.WE.1 _ (xw_cast e9 he4) rfl)
                refine vx_catch (own := cnm (mcx y)) (E := exN9 e9) (name := exN9 (clsOf z.2.2.2)) hown (tableOf pre) ⟨z.1, z.2.1, z.2.2.1, z.2.2.2⟩ (tableOf suf) (by rw [ht, hZ]; unfold tableOf; rw [List.map_append, List.map_cons]) (fun z9 hz9 => ?_) ?_ gz2 (by rw [gz3]; exact W0.1.w (ct_link gz1)) hcast hce hcv hcl ?_
                · obtain ⟨w, hw, rfl⟩ := List.mem_map.mp hz9
                  have hwm : w ∈ mHan y := by rw [hZ]; exact List.mem_append_left _ hw
                  rcases hpre w hw with g | g
                  · exact Or.inl (cov_no g)
                  · exact Or.inr (nc_of Y0 W0 hy hwm he4 g)
                · unfold covers
                  show (decide (z.1 ≤ pc) && decide (pc < z.2.1)) = true
                  rw [decide_eq_true hzr.1, decide_eq_true hzr.2]
                  rfl
                · dsimp only
                  rw [hzp]
                  refine hnd_in F hin (lv_mono a3 (rlo_congr hag a5)) a4 (fun ls' b2 b3 b4 => ?_)
                  exact ih np' lo' [] h1 q (by omega) (by omega) L' H1 locs1 _ _ ls' hRL hS b2 b3 (b4 _ (fun w hw => (a5 w hw).mono g5)) (fun w hw => nomatch hw) (by omega) (by omega) hag2 (Nat.le_trans b1 g5)
              · cases q
      · rename_i e9 hst
        cases q
        exact go_thr F W0 Y0 hl ht hE hst hc0 hk0 hRc hRs
end EXG2
/-- String.length() and charAt(int), wherever they are called: proved in a later part -/
def INTA (l : Launch) (base : Nat) (D : va_G) (tc : Nat → ClassId) (adK : Nat → Nat) (b0 : Nat) (sc : SC) : Prop :=
  ∀ (p : Program) (e : Env) (R : Room) (s : State) (m : MethodId) (args : Array Value) (below : List Frame) (meth : Method) (c : Code) (y : Nat) (Q : State → Prop), FX p R s m meth c y → WX s args D tc base b0 sc adK → WY D tc base b0 sc adK s → INTR p l e R s m args below meth c base adK y Q
theorem snd {l : Launch} {base : Nat} {D : va_G} {tc : Nat → ClassId} {adK : Nat → Nat} {b0 : Nat} {sc : SC} {N : Nat} (hl : l.stackTraces = false) (I : INTA l base D tc adK b0 sc) : ∀ d, SND l base D tc adK b0 sc N d := by
  intro d
  induction d with
  | zero => intro y as h h' r L hy q; cases q
  | succ d IH =>
    intro y as h h' r L hy q hok
    unfold runM at q
    cases hb : Nat.ble (elo as).length (mmx y) with
    | false => rw [hb] at q; cases q
    | true =>
      rw [hb] at q
      have q' : exN sc (runM sc N d) y (code9 y) N 0 (lo0 as (mmx y)) [] h = some (r, h') := q
      have hle := exN_le (fun mm as h r h' => runM_le d mm as h r h') _ _ _ _ _ _ _ q'
      have hlen := Nat.le_of_ble_eq_true hb
      obtain ⟨f1, f2, f3, f4, f5⟩ := yf_all y hy
      have hp := pn_all (mcx y) (mcx_lt (by omega))
      have body : ∀ (p : Program) (e : Env) (s : State) (m : MethodId) (args : Array Value) (below : List Frame) (meth : Method) (c : Code) (s₁ : State), BodyLoose p l (mNam y) (headSpec (wsY y) (rmY (d + 1) (h'.1.2.1 - h.1.2.1) (h'.1.2.2 - h.1.2.2))) (mByt y) (mmx y) (mRet y) e s m args below meth c s₁ → c.maxLocals = mmx y → c.exceptionTable.toList = tableOf (mHan y) → pcY base D tc adK b0 sc L as h args s →
          W p l e (headSpec (wsY y) (rmY (d + 1) (h'.1.2.1 - h.1.2.1) (h'.1.2.2 - h.1.2.2))).room s m args below meth c s.heap [] 0 0 (vx_MQ below (qcY base D tc adK b0 L h.1.1 r h') (xcY base D tc adK b0 L h.1.1 r h') args s (h'.1.2.1 - h.1.2.1) (h'.1.2.2 - h.1.2.2) (fun q => base ≤ q)) (entryFrame m args (mmx y)) := by
        intro p e s m args below meth c s₁ B hml ht hv
        obtain ⟨rfl, hRL, hY⟩ := hv
        have hw0 := atoms_spec (ws := wsY y) B.pre
        have hW : WX s (as.map (avV L)).toArray D tc base b0 sc adK := hY.X fun w hw hg => hw0 w (List.mem_cons_of_mem _ (List.mem_filter.mpr ⟨hw, hg⟩))
        have hown : s.vm.findClass (cnm (mcx y)) = some m.cls := by rw [← f3]; exact findClass_of_methodNamed B.named
        have FF : FX p (headSpec (wsY y) (rmY (d + 1) (h'.1.2.1 - h.1.2.1) (h'.1.2.2 - h.1.2.2))).room s m meth c y := by
          refine ⟨B.exec, B.bytes, hml, hown, B.returns, B.notSynchronized, fun hk => ?_, by omega, ?_, ?_⟩
          · have h9 := (name_of_methodNamed B.named B.method).1
            rcases f5 with ⟨g, -⟩ | ⟨g, -⟩ | ⟨-, -, g, -⟩
            · omega
            · omega
            · exact h9.trans g
          · show 8 ≤ 8 + (d + 1); omega
          · show 200 ≤ 200 + 40 * (d + 1); omega
        rw [lg_entry_eq]
        have hlv := lv_entry (as.map (avV L)) (n := mmx y) (by rw [sl_len]; exact hlen)
        have key := exN_go (L0 := L) (n0 := h.1.1) (c0 := h.1.2.1) (k0 := h.1.2.2) (below := below) (e := e) FF hW hY hl ht IH ⟨by show 8 + d + 1 ≤ 8 + (d + 1); omega, by show 200 + 40 * (d + 1) ≤ 200 + 40 * (d + 1); omega⟩ (Nat.le_refl _) (Nat.le_refl _) (I p e _ s m _ below meth c y _ FF hW hY) N 0 (lo0 as (mmx y)) [] h q' (Nat.le_refl _) (Nat.le_refl _)
        exact key L s.heap [] 0 0 _ hRL va_S.rf (lv_mono hlv (rlo_entry L _ as 0)) (lo0_len hlen) (lo0_ok hok) (fun v hv => nomatch hv) (Nat.zero_add _) (Nat.zero_add _) (fun _ _ => rfl) (Nat.le_refl _)
      cases hh : mHan y with
      | nil =>
        refine vx_ofW (cc := mByt y) (maxL := mmx y) (ret := mRet y) (ws' := lw_tbl.filter goodWord) (by rw [f3]; exact hp.1) (by unfold wsY; rw [hcode_of hh]) ?_
        intro p e s m args below meth c s₁ B hml ht hv
        refine body p e s m args below meth c s₁ B hml ?_ hv
        rw [hh]
        cases hz : c.exceptionTable.toList with
        | nil => rfl
        | cons x9 r9 => exact (ht x9 (by rw [hz]; exact List.mem_cons_self)).elim
      | cons z9 r9 =>
        have hcw : hWord y = .codeWith (mNam y) (mByt y) (mmx y) (mRet y) (z9 :: r9) := by unfold hWord; rw [hh]
        refine vx_ofWH (cc := mByt y) (maxL := mmx y) (ret := mRet y) (hh := z9 :: r9) (ws' := lw_tbl.filter goodWord) (by rw [f3]; exact hp.1) (by unfold wsY; rw [hcw]) ?_
        intro p e s m args below meth c s₁ B hml hv
        refine body p e s m args below meth c s₁ B hml ?_ hv
        rw [hh]
        refine vx_table (x := mNam y) B (?_ : (Cond.codeWith (mNam y) (mByt y) (mmx y) (mRet y) (z9 :: r9)).before args s = true)
        rw [← hcw]
        exact atoms_spec (ws := wsY y) B.pre _ List.mem_cons_self
