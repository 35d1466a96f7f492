/-! THE CLAIM -/
theorem rw251 : rows9 251 = [] := by decide +kernel
theorem hnd251 (e9 pc : Nat) : hnd 251 e9 pc = none := by
  rw [hnd_eq (by decide), rw251]
  rfl
theorem by251 : mByt 251 = code := by first | rfl | decide +kernel
theorem mx251 : mmx 251 = 7 := by decide +kernel
theorem cn251 : cnm (mcx 251) = R_law := by decide +kernel
theorem rt251 : mRet 251 = ret := by decide +kernel
theorem kd251 : ¬ mkd 251 = 2 := by decide +kernel
theorem loop9 {L : Nat} {xs : Nat → Int32} (hL : L ≤ 3072) {h : AH} (h1 : h.1 = (216, 216, 22346)) (hg : fkG h = true) : ∃ (N n : Nat) (hF : AH), exN (L, xs) (runM (L, xs) N 1300) 251 (code9 251) n 23 lo23 [] (h.1, cutR R0, h.2.2) = some (.inl (some (vI (nI 1))), hF) ∧ hF.1.2.1 ≤ 60000 ∧ hF.1.2.2 ≤ 400000 := by
  obtain ⟨N, n, r, g', hr, rfl, hb⟩ : Xe (L, xs) (0 + 1300) 251 23 lo23 [] (h.2.2.2, h.2.2.1, 0) (fun r g' => r = .inl (some (vI (nI 1))) ∧ g'.2.2 ≤ 51200) := law_loop (sc := (L, xs)) (d := 0) hL (fun g' hb => ⟨rfl, hb⟩) 513 0 _ vU vU rfl (REL0 hg rfl)
  have hc := exN_cut (fun mm as h q => runM_cut (sc := (L, xs)) (N := N) (0 + 1300) mm as h q) _ _ _ _ _ _ hr
  refine ⟨N, n, cH (emb g'), ?_, ?_, ?_⟩
  · rw [h1]
    exact hc
  · show 216 + g'.2.2 ≤ 60000
    omega
  · show 22346 + 6 * g'.2.2 ≤ 400000
    omega
-- ===== YOUR PART BEGINS =====
theorem whole_start {p : Program} {e : Env} {s : State} {m : MethodId} {below : List Frame} {meth : Method} {c : Code} (l : Launch) (hflags : l.flags = flags0) {b L : Nat} {xs : Nat → Int32} (hL : L ≤ 3072) (C0 : lw_At p s m meth c b L xs) : W p l e room_1 s m #[Value.ref b] below meth c s.heap [] 0 0 (lw_Z below #[Value.ref b] s) (entryFrame m ([Value.ref b] : List Value).toArray 7) := by
  obtain ⟨hx, hb, hr, hml, hown, hts, hX, hbl, hlocks, hgv⟩ := id C0
  have hs : ∀ w ∈ nar9, w.before #[Value.ref b] s = true := flat_of_before _ hgv
  obtain ⟨D, tc, adK, Y0⟩ := WY0 hts hs hX hbl
  have W0 : WX s #[Value.ref b] D tc s.heap.size b (L, xs) adK := Y0.X fun w hw _ => hts w hw
  have hl0 : l.stackTraces = false := by
    unfold Launch.stackTraces
    rw [hflags]
    first
      | rfl
      | decide +kernel
  have F : FX p room_1 s m meth c 251 := ⟨hx, hb.trans by251.symm, hml.trans mx251.symm, by rw [cn251]; exact hown, hr.trans rt251.symm, hlocks, fun z => absurd z kd251, by decide, Nat.le_of_ble_eq_true rfl, Nat.le_of_ble_eq_true rfl⟩
  obtain ⟨h, e0, h1, hG, hR⟩ := start_h
  obtain ⟨N, n, hF, hrun, hc1, hc2⟩ := loop9 (xs := xs) hL h1 hG
  obtain ⟨LA, hLA⟩ : ∃ LA : AD, LA = fun i c => bif Nat.beq c 900 then adK i else b := ⟨_, rfl⟩
  have hn : h.1.1 = 216 := by rw [h1]
  have hcap : hF.1.2.1 ≤ room_1.cells + 0 ∧ hF.1.2.2 ≤ room_1.slots + 0 := by
    show hF.1.2.1 ≤ 601024 + 0 ∧ hF.1.2.2 ≤ 7293034 + 0
    omega
  have hle := exN_le (fun mm as h r h' => runM_le 1300 mm as h r h') _ _ _ _ _ _ _ hrun
  have kEnd : ∀ (pc np : Nat) (lo : List AV), fnd (code9 251) pc = some (.ireturn, np) → GO p l e room_1 s m #[Value.ref b] below meth c s.heap.size D tc adK b 251 LA 0 0 0 (lw_Z below #[Value.ref b] s) pc lo [vI (nI 1)] hF := by
    intro pc np lo hE L9 H locs cells slots ls a1 a2 a3 a4 a5 a6 a7 a8 a9 b1
    obtain ⟨i0, len, dec, habs, hnp, hlen⟩ := code_at (by decide) hE
    have z0 := absI_nb habs rfl; subst z0; have z1 := hlen rfl; subst z1
    rw [by251] at dec
    exact va_forget (fun q hq => a2.2.2 q hq) (W.widen (k := 601024) (n := 7293034) (by omega) (by omega) (lw_ret hx hb hr hlocks dec))
  have k23 : GO p l e room_1 s m #[Value.ref b] below meth c s.heap.size D tc adK b 251 LA 0 0 0 (lw_Z below #[Value.ref b] s) 23 lo23 [] h := by
    have k := exL_go (L0 := LA) (n0 := 0) (c0 := 0) (k0 := 0) (below := below) (e := e) F W0 Y0 (snd hl0 inta 1300) ⟨Nat.le_of_ble_eq_true rfl, Nat.le_of_ble_eq_true rfl⟩ (inta p e _ s m _ below meth c 251 _ F W0 Y0) hnd251 hcap kEnd n 23 lo23 [] _ hrun
    intro L9 H locs cells slots ls a1 a2 a3 a4 a5 a6 a7 a8 a9 b1
    exact k L9 H locs cells slots ls (RL_cut hn hR a1) a2 a3 a4 a5 a6 a7 a8 a9 b1
  have e1 : exS (L, xs) (runM (L, xs) 3000 20) 251 (code9 251) 23 100 0 (lo0 [vR 0 901] 7) [] hE = some (lo23, [], h) := exS0_ok (fun mm as h q => runM0_ok 20 mm as h q) _ _ _ _ _ _ e0
  have hcap2 : h.1.2.1 ≤ room_1.cells + 0 ∧ h.1.2.2 ≤ room_1.slots + 0 := by
    have q1 := hle.2.1
    have q2 := hle.2.2
    exact ⟨Nat.le_trans q1 hcap.1, Nat.le_trans q2 hcap.2⟩
  have k0 := exS_go (L0 := LA) (n0 := 0) (c0 := 0) (k0 := 0) (below := below) (e := e) F W0 Y0 (snd hl0 inta 20) ⟨Nat.le_of_ble_eq_true rfl, Nat.le_of_ble_eq_true rfl⟩ (inta p e _ s m _ below meth c 251 _ F W0 Y0) hcap2 k23 100 0 (lo0 [vR 0 901] 7) [] hE e1
  have hl := lv_entry ([.ref b]) (n := 7) (Nat.le_of_ble_eq_true rfl)
  rw [lg_entry_eq]
  generalize (lg_sl ([.ref b]) ++ List.replicate (7 - (lg_sl ([.ref b])).length) Slot.unset).toArray = ls at hl ⊢
  have hl : lv_has ls 7 [(0, .ref b)] := hl
  refine k0 LA s.heap [] 0 0 ls ?_ va_S.rf ?_ (by rw [mx251]; rfl) ?_ (fun v hv => nomatch hv) rfl rfl (fun _ _ => rfl) (Nat.le_refl _)
  · refine ⟨(fun k q hq => (by cases hq)), ⟨(fun i j p q hq => (by cases hq)), (fun k q hq => (by cases hq))⟩, Nat.zero_le _, (fun j hj => absurd hj (Nat.not_lt_zero _)), (fun i hi => (by rw [hLA]; rfl)), (by rw [hLA]; rfl)⟩
  · have hb9 : LA 0 901 = b := by rw [hLA]; rfl
    rw [mx251]
    show lv_has ls 7 [(0, Value.ref (LA 0 901))]
    rw [hb9]
    exact hl
  · refine lo0_ok fun v hv => ?_
    rw [List.mem_singleton.mp hv]
    exact Or.inr (Or.inr rfl)
-- ===== YOUR PART ENDS =====
set_option maxHeartbeats 4000000 in
theorem lw_walk (l : Launch) (hflags : l.flags = flags0) (b : Addr) (xs : List Int32) : MetFree l x (headSpec (Jvm.Cond.code x code maxLocals ret :: tables_1) room_1) (lw_P b xs) (fun _ _ _ _ _ => True) lw_Q := by
  refine MetFree.of_bodyS (code := code) (maxLocals := maxLocals) (ret := ret) (by decide) ?_ ?_
  · intro args s m h hn
    obtain ⟨meth, c, h1, h2, h3, h4, h5, h6, -, -⟩ := Cond.code_spec hn (atoms_spec (ws := Jvm.Cond.code x code maxLocals ret :: tables_1) h _ List.mem_cons_self)
    exact ⟨meth, c, h1, h2, h3, h4, h5, h6⟩
  · intro p e s m args below meth c s₁ B hml0 hP _
    obtain ⟨rfl, hx, hbd, hgv⟩ := hP
    obtain ⟨scr, harrAt, hlist, hof, hsmall⟩ := hx
    obtain ⟨hcb, hkn, -, -⟩ := State.arrayAt?_spec harrAt
    have hown : s.vm.findClass R_law = some m.cls := findClass_of_methodNamed B.named
    have hts0 : ∀ c ∈ (Jvm.Cond.code x code maxLocals ret :: tables_1), c.before #[Value.ref b] s = true := atoms_spec (ws := Jvm.Cond.code x code maxLocals ret :: tables_1) B.pre
    have hts : ∀ w ∈ lw_tbl, w.before #[Value.ref b] s = true := k2_hts_sels lw_privs (fun w hw => hts0 w (List.mem_cons_of_mem _ hw)) lw_privs_ok
    have hml : c.maxLocals = 7 := B.maxLocals_eq (hts0 _ List.mem_cons_self)
    have X₀ : Stand p l e room_1 s m #[Value.ref b] below meth c s₁ [] 0 0 := Stand.of_body B
    have hh0 : s₁.heap = s.heap := by rw [B.state]; rfl
    have hsz : scr.slots.size = xs.length := by rw [← Array.length_toList, hlist, List.length_map]
    have hval : ∀ j : Nat, j < xs.length → scr.slots[j]? = some (.int (xs.getD j 0)) := fun j hj => by
      rw [← Array.getElem?_toList, hlist]
      simp [hj]
    have hbl : b < s.heap.size := (Array.getElem?_eq_some_iff.mp hcb).1
    have hX : va_X b xs.length (fun j => xs.getD j 0) s s.heap := ⟨scr, hcb, hof, hkn, hsz, hval⟩
    have K : W p l e room_1 s m #[Value.ref b] below meth c s₁.heap [] 0 0 (lw_Z below #[Value.ref b] s) (entryFrame m ([Value.ref b] : List Value).toArray 7) := by
      rw [hh0]
      exact whole_start l hflags hbd ⟨B.exec, B.bytes, B.returns, hml, hown, hts, hX, hbl, B.notSynchronized, hgv⟩
    obtain ⟨t, a1, o, b1, b2, b3⟩ := K s₁ rfl X₀
    exact ⟨t, o, a1, b1, b2, b3⟩
theorem lw_pre_spec {args : Array Value} {s : State} (h : (Jvm.Cond.and given_1 narrow_1).before args s = true) (hr : rest_1_c.before args s = true) : ∃ (b : Addr) (xs : List Int32), lw_P b xs args s := by
  have hs := flat_of_before _ h
  have hq := flat_of_before _ hr
  have hc : (Cond.count 1).before args s = true := hs _ (by decide +kernel)
  have harr : (Cond.arrayOf (.arg 0) .int).before args s = true := hs _ (by decide +kernel)
  have hle : (Cond.le (.length (.arg 0)) (.int 3072)).before args s = true := hs _ (by decide +kernel)
  have hlen : (Cond.isInt (.length (.arg 0))).before args s = true := hq _ (by decide +kernel)
  have hall : (Cond.all (.arg 0) (.isInt (.elem (.arg 0) (.index 0)))).before args s = true := hq _ (by decide +kernel)
  obtain ⟨b, xs, hb, hx⟩ := State.ints_of_pre rfl harr hlen hall
  have hsm : xs.length < 2 ^ 31 := hx.choose_spec.2.2.2
  have hev : (Term.length (.arg 0)).eval args s none [] s = some (.int xs.length.toInt32) := hx.length_eval hb
  have hv := Cond.le_ints hev (show (Term.int 3072).eval args s none [] s = some (.int 3072) from rfl)
  have hd : xs.length.toInt32 ≤ 3072 := by
    simpa [Cond.before, Cond.holds, hv] using hle
  have hN : xs.length ≤ 3072 := (Int32.ofNat_le_ofNat hsm (by decide)).mp (show Int32.ofNat xs.length ≤ Int32.ofNat 3072 from hd)
  exact ⟨b, xs, Cond.one_arg hc (show args[0]? = some (.ref b) from hb), hx, hN, h⟩
theorem lw_comes (l : Launch) (hflags : l.flags = flags0) : Comes l x (Jvm.Cond.code x code maxLocals ret :: tables_1) room_1 (fun tb e args s => Calls_1 tb e args s ∧ rest_1 tb e args s ∧ Pre_1 tb e args s)
    (fun _ _ args s o t => lw_Q args s o t) := by
  intro p e ha hc hk s m args below hf hfit hheap happ hpre
  obtain ⟨b, xs, hP⟩ := lw_pre_spec hpre.2.2 hpre.2.1
  obtain ⟨k, o, h1, h2, h3, hQ⟩ := lw_walk l hflags b xs p e ha hc hk s m args below hf ((Spec.applies_iff_loose hf).mp happ).1 hP trivial
  exact ⟨k, o, h1, h2, h3, hQ⟩
theorem lw_frame {s t : State} {o : Outcome} {args : Array Value} (h : Framed s o t [] 601024 7293034) :
    Framed s o t (fieldLocs frame_1_writes args s ++ arrayLocs frame_1_arrays args s ++ staticLocs frame_1_statics s) 601024 7293034 := h
theorem lw_limb (L : Cond) (hL : ∀ (args : Array Value) (s t : State), L.after args s (.returned (some (.int 1))) t = true) :
    ArmFor flags0 classFile x code maxLocals ret World_1 tables_1 room_1 Calls_1 rest_1 Pre_1
      (fun tb e a s o t => postC L tb e a s o t ∧ Framed s o t (fieldLocs frame_1_writes a s ++ arrayLocs frame_1_arrays a s ++ staticLocs frame_1_statics s) 601024 7293034) := by
  intro l hflags _ _ p e ha hc hk s m args below hf hfit hheap happ hpre
  obtain ⟨k, o, h1, h2, h3, rfl, hF⟩ := lw_comes l hflags p e ha hc hk s m args below hf hfit hheap happ hpre
  exact ⟨k, _, h1, h2, h3, hL args s _, lw_frame hF⟩
theorem i_vc : Claimed_1_1 ∧ Claimed_1_2 := ⟨lw_limb limb_1_1 (fun args s t => by simp [limb_1_1, Cond.after, Cond.holds, Cond.value]), lw_limb limb_1_2 (fun args s t => Cond.after_iff.mpr (by
  first | (rw [show limb_1_2 = Cond.eq .result (.int 1) from rfl, Cond.eq_ints (x := 1) (y := 1) rfl rfl]; simp; done) | (simp [limb_1_2, Cond.value, Term.eval]; done)))⟩
