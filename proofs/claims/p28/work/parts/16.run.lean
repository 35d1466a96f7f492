/-! A RUN OF THE SMALL MACHINE IS A RUN OF THE MACHINE -/
theorem exN_le {sc : SC} {call : Nat → List AV → AH → Option (Option AV × AH)} {y : Nat} {K : List (Nat × Instr × Nat)} (hcall : ∀ mm as h r h', call mm as h = some (r, h') → leH h h') :
    ∀ (n pc : Nat) (lo st : List AV) (h : AH) (r : Option AV) (h' : AH), exN sc call y K n pc lo st h = some (r, h') → leH h h' := by
  intro n
  induction n with
  | zero => intro pc lo st h r h' q; cases q
  | succ n ih =>
    intro pc lo st h r h' q
    unfold exN at q
    split at q
    · cases q
    · split at q
      · cases q
      · rename_i hst
        exact (stp_le hst).tr (ih _ _ _ _ _ _ q)
      · cases q; exact leH.rf _
      · split at q
        · cases q
        · rename_i hc
          exact (hcall _ _ _ _ _ hc).tr (ih _ _ _ _ _ _ q)
theorem runM_le {sc : SC} {N : Nat} : ∀ (d y : Nat) (as : List AV) (h : AH) (r : Option AV) (h' : AH), runM sc N d y as h = some (r, h') → leH h h' := by
  intro d
  induction d with
  | zero => intro y as h r h' q; cases q
  | succ d ih =>
    intro y as h r h' q
    unfold runM at q
    cases hb : Nat.ble (elo as).length (mmx y) with
    | false => rw [hb] at q; cases q
    | true => rw [hb] at q; exact exN_le ih _ _ _ _ _ _ _ q
section EXG2
variable {p : Program} {l : Launch} {e : Env} {R : Room} {s : State} {m : MethodId} {args : Array Value} {below : List Frame} {meth : Method} {c : Code} {base : Nat} {D : va_G} {tc : Nat → ClassId} {adK : Nat → Nat} {b0 y : Nat} {L0 : AD} {n0 c0 k0 : Nat} {hF : AH} {sc : SC} {N d : Nat} {v : Option AV} {Q : State → Prop}
theorem exN_go (F : FX p R s m meth c y) (W0 : WX s args D tc base b0 sc adK) (Y0 : WY D tc base b0 sc adK s) (IH : SND l base D tc adK b0 sc N d) (hR : 8 + d + 1 ≤ R.frames ∧ 200 + 40 * (d + 1) ≤ R.locals)
    (hcap : hF.1.2.1 ≤ R.cells + c0 ∧ hF.1.2.2 ≤ R.slots + k0) (I0 : INTR p l e R s m args below meth c base D tc adK y Q)
    (kEnd : ∀ (i : Instr) (pc np : Nat) (lo st : List AV), fnd (code9 y) pc = some (i, np) → stp sc y i np lo st hF = some (.inr (.inl v)) → GO p l e R s m args below meth c base D tc adK b0 y L0 n0 c0 k0 Q pc lo st hF) :
    ∀ (n pc : Nat) (lo st : List AV) (h : AH), exN sc (runM sc N d) y (code9 y) n pc lo st h = some (v, hF) →
      GO p l e R s m args below meth c base D tc adK b0 y L0 n0 c0 k0 Q pc lo st h := by
  intro n
  induction n with
  | zero => intro pc lo st h q; cases q
  | succ n ih =>
    intro pc lo st h q
    unfold exN at q
    split at q
    · cases q
    · rename_i i np hE
      split at q
      · cases q
      · rename_i pc' lo' st' h' hst
        have hl2 := exN_le (fun mm as h r h' => runM_le d mm as h r h') _ _ _ _ _ _ _ q
        refine stp_go F W0 I0 hE ?_ hst (ih pc' lo' st' h' q)
        have := hl2.2.1; have := hl2.2.2
        omega
      · rename_i v9 hst
        cases q
        exact kEnd i pc np lo st hE hst
      · rename_i mm as rest hst
        cases hcall : runM sc N d mm as h with
        | none => rw [hcall] at q; cases q
        | some rr =>
          obtain ⟨v1, h1⟩ := rr
          rw [hcall] at q
          dsimp only at q
          have hl1 := runM_le d mm as h v1 h1 hcall
          have hl2 := exN_le (fun mm as h r h' => runM_le d mm as h r h') _ _ _ _ _ _ _ q
          have g1 := hl1.2.1; have g2 := hl1.2.2; have g3 := hl2.2.1; have g4 := hl2.2.2; have g5 := hl1.1
          intro L H locs cells slots ls a1 a2 a3 a4 a5 a6 a7 a8 a9 b1
          obtain ⟨hnp, hrok, hrun⟩ := call_run (cells := cells) (slots := slots) F W0 Y0 IH hE hst hcall hR a1 a2 a3 a6 (by omega)
          refine run_go hrun a2 ?_
          intro L' H1 locs1 hag hRL hS hok hn
          have hag2 : ∀ q, okA n0 q → L' q.1 q.2 = L0 q.1 q.2 := fun q hq => by rw [hag q (hq.mono b1)]; exact a9 q hq
          have key := ih np lo (v1.toList ++ rest) h1 q L' H1 locs1 (cells + (h1.1.2.1 - h.1.2.1)) (slots + (h1.1.2.2 - h.1.2.2)) ls hRL hS (lv_mono a3 (rlo_congr hag a5)) a4 (fun w hw => (a5 w hw).mono g5) (fun w hw => by
            rcases List.mem_append.mp hw with z | z
            · cases v1 with
              | none => cases z
              | some w9 => rw [List.mem_singleton.mp z]; exact hok w9 rfl
            · exact (hrok w z).mono g5) (by omega) (by omega) hag2 (Nat.le_trans b1 g5)
          rw [List.map_append, map_congr9 hag hrok, hnp] at key
          cases v1 with
          | none => exact key
          | some w9 => exact key
end EXG2
/-- the intrinsics, wherever they are called: proved in a later part -/
def INTA (l : Launch) (base : Nat) (D : va_G) (tc : Nat → ClassId) (adK : Nat → Nat) (b0 : Nat) (sc : SC) : Prop :=
  ∀ (p : Program) (e : Env) (R : Room) (s : State) (m : MethodId) (args : Array Value) (below : List Frame) (meth : Method) (c : Code) (y : Nat) (Q : State → Prop), FX p R s m meth c y → WX s args D tc base b0 sc adK → WY D tc base b0 sc adK s → INTR p l e R s m args below meth c base D tc adK y Q
theorem snd {l : Launch} {base : Nat} {D : va_G} {tc : Nat → ClassId} {adK : Nat → Nat} {b0 : Nat} {sc : SC} {N : Nat} (I : INTA l base D tc adK b0 sc) : ∀ d, SND l base D tc adK b0 sc N d := by
  intro d
  induction d with
  | zero => intro y as h h' r L hy q; cases q
  | succ d IH =>
    intro y as h h' v L hy q hok
    unfold runM at q
    cases hb : Nat.ble (elo as).length (mmx y) with
    | false => rw [hb] at q; cases q
    | true =>
      rw [hb] at q
      have q' : exN sc (runM sc N d) y (code9 y) N 0 (lo0 as (mmx y)) [] h = some (v, h') := q
      have hle := exN_le (fun mm as h r h' => runM_le d mm as h r h') _ _ _ _ _ _ _ q'
      have hlen := Nat.le_of_ble_eq_true hb
      obtain ⟨f1, f2, f3, f4, f5⟩ := yf_all y hy
      have hp := pn_all (mcx y) (mcx_lt (by omega))
      refine Met.ofW (cc := mByt y) (maxL := mmx y) (ret := mRet y) (ws' := lw_tbl.filter goodWord) (by rw [f3]; exact hp.1) rfl ?_
      intro p e s m args below meth c s₁ B hml hv
      obtain ⟨rfl, hRL, hY⟩ := hv
      have hw0 := atoms_spec (ws := wsY y) B.pre
      have hW : WX s (as.map (avV L)).toArray D tc base b0 sc adK := hY.X fun w hw hg => hw0 w (List.mem_cons_of_mem _ (List.mem_filter.mpr ⟨hw, hg⟩))
      have hown : s.vm.findClass (cnm (mcx y)) = some m.cls := by rw [← f3]; exact findClass_of_methodNamed B.named
      have FF : FX p (headSpec (wsY y) (rmY (d + 1) (h'.1.2.1 - h.1.2.1) (h'.1.2.2 - h.1.2.2))).room s m meth c y := by
        refine ⟨B.exec, B.bytes, hml, hown, B.returns, B.notSynchronized, fun hk => ?_, by omega, ?_, ?_⟩
        · have h9 := (name_of_methodNamed B.named B.method).1
          rcases f5 with ⟨g, -⟩ | ⟨g, -⟩ | ⟨-, g, -⟩
          · omega
          · omega
          · exact h9.trans g
        · show 8 ≤ 8 + (d + 1); omega
        · show 200 ≤ 200 + 40 * (d + 1); omega
      rw [lg_entry_eq]
      have hlv := lv_entry (as.map (avV L)) (n := mmx y) (by rw [sl_len]; exact hlen)
      have c1 := hle.2.1
      have c2 := hle.2.2
      have key := exN_go (L0 := L) (n0 := h.1.1) (c0 := h.1.2.1) (k0 := h.1.2.2) (Q := QY below base D tc adK b0 L h.1.1 h.1.2.1 h.1.2.2 v h' (as.map (avV L)).toArray s) (below := below) (e := e) FF hW hY IH ⟨by show 8 + d + 1 ≤ 8 + (d + 1); omega, by show 200 + 40 * (d + 1) ≤ 200 + 40 * (d + 1); omega⟩
        ⟨by show h'.1.2.1 ≤ (h'.1.2.1 - h.1.2.1) + h.1.2.1; omega, by show h'.1.2.2 ≤ (h'.1.2.2 - h.1.2.2) + h.1.2.2; omega⟩ (I p e _ s m _ below meth c y _ FF hW hY) (fun i pc np lo st hE hst => go_ret FF hE hst) N 0 (lo0 as (mmx y)) [] h q'
      exact key L s.heap [] 0 0 _ hRL va_S.rf (lv_mono hlv (rlo_entry L _ as 0)) (lo0_len hlen) (lo0_ok hok) (fun v hv => nomatch hv) (Nat.zero_add _) (Nat.zero_add _) (fun _ _ => rfl) (Nat.le_refl _)
