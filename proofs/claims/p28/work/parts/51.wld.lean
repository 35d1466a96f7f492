/-! THE CLAIM OUT OF ONE WALK OF THE LAW'S BODY. Your part is whole_start (and what it stands on); all else here is the same for every law, but numbers. -/
def R_law : String := "MountSpacesLaw"
def lw_P (b : Addr) (xs : List Int32) (args : Array Value) (s : State) : Prop := args = #[.ref b] ∧ s.IntsAt b xs ∧ xs.length ≤ 260 ∧ (Jvm.Cond.and given_1 narrow_1).before args s = true
def lw_Q (_ : Array Value) (s : State) (o : Outcome) (t : State) : Prop := o = .returned (some (.int 1)) ∧ Framed s o t [] 600086 7301442
def lw_Z (below : List Frame) (a : Array Value) (s : State) : State → Prop := fun t => ∃ o, t.status = .running ∧ Ended t below o ∧ lw_Q a s o t
/-- the law's own end, with 1 on the stack, nothing written that was there before, its room as the claim has it -/
theorem lw_ret {p : Program} {l : Launch} {e : Env} {s : State} {m : MethodId} {below : List Frame} {meth : Method} {c : Code} {b : Nat} (hx : p.tables.exec = Jvm.exec) (hb : c.code = code) (hr : meth.sig.returnType = ret) (hlocks : meth.locks = false) {pc : Nat} {H : Heap} {ls : Array Slot} (hdg : decode code pc = .ok (.ireturn, 1)) : W p l e room_1 s m #[Value.ref b] below meth c H [] 600086 7301442 (lw_Z below #[Value.ref b] s) (F0 m pc ls [.int 1]) := by
  intro T hT X
  obtain ⟨fs, hret, hrun, hended, hW, hframe⟩ := X.leave (v := some (.int 1)) (hlocks := hlocks) (fun h => by rw [hr] at h; cases h)
  have hmeth' : T.vm.method? m = some meth := X.method'
  refine ⟨T.setFrames fs, ?_, .returned (some (.int 1)), hrun, hended, rfl, ⟨_, rfl⟩, hW, hframe⟩
  jvm_step X.here [X.here.top, hx, hb, hdg, hmeth', hr, ret, narrow_b1]
  (try refine ⟨rfl, ?_⟩); (try refine ⟨rfl, ?_⟩)
  first | (intro acts; rw [hret _ acts rfl rfl rfl]) | rw [hret _ _ rfl rfl rfl]
  exact Steps.refl _
/-- what holds at the law's entry: the machine, the code, the tables' words (any of lw_tbl by 'hts w (by decide +kernel)'), the script of L ints xs at the cell b, what the Statement gives of the start (any of its parts by flat_of_before) -/
def lw_At (p : Program) (s : State) (m : MethodId) (meth : Method) (c : Code) (b L : Nat) (xs : Nat → Int32) : Prop :=
  p.tables.exec = Jvm.exec ∧ c.code = code ∧ meth.sig.returnType = ret ∧ c.maxLocals = 16 ∧ s.vm.findClass R_law = some m.cls ∧ (∀ w ∈ lw_tbl, w.before #[Value.ref b] s = true) ∧ va_X b L xs s s.heap ∧ b < s.heap.size ∧ meth.locks = false ∧ (Jvm.Cond.and given_1 narrow_1).before #[Value.ref b] s = true
/-! THE WORLD AT THE LAW'S ENTRY -/
def nar9 : List Cond := flatC (Jvm.Cond.and given_1 narrow_1)
def at9 : List Nat := [291, 309, 326, 346, 366, 386, 407, 432, 457, 482, 509, 620, 647, 682]
def tm9 (i : Nat) : Term := match strL[i]? with
  | some q => .string q.1 q.2.1
  | none => .null
theorem st9_all : (List.range 14).all (fun i => decide (nar9[at9.getD i 0]? = some (.exactly (tm9 i) "java/lang/String")) && decide (nar9[at9.getD i 0 + 1]? = some (.eq (.field (tm9 i) "java/lang/String" "coder" "B") (.int 0))) && decide (nar9[at9.getD i 0 + 2]? = some (.arrayOf (.field (tm9 i) "java/lang/String" "value" "[B") .byte)) &&
  decide (nar9[at9.getD i 0 + 3]? = some (.eq (.length (.field (tm9 i) "java/lang/String" "value" "[B")) (.int (Int32.ofNat (txt i).length)))) && (List.range (txt i).length).all (fun j => decide (nar9[at9.getD i 0 + 4 + j]? = some (.eq (.elem (.field (tm9 i) "java/lang/String" "value" "[B") (.int (Int32.ofNat j))) (.int ((txt i).getD j 0)))))) = true := by decide +kernel
theorem inst9 (ci : Nat) (h : ci < 13) : Cond.instantiable (cN9 ci) (fcn ci) ∈ lw_tbl := by
  match ci, h with
  | 0, _ => exact mt_1 (i := 176) (by first | rfl | decide +kernel)
  | 1, _ => exact mt_1 (i := 182) (by first | rfl | decide +kernel)
  | 2, _ => exact mt_1 (i := 37) (by first | rfl | decide +kernel)
  | 3, _ => exact mt_1 (i := 74) (by first | rfl | decide +kernel)
  | 4, _ => exact mt_2 (i := 90) (by first | rfl | decide +kernel)
  | 5, _ => exact mt_2 (i := 42) (by first | rfl | decide +kernel)
  | 6, _ => exact mt_2 (i := 64) (by first | rfl | decide +kernel)
  | 7, _ => exact mt_2 (i := 18) (by first | rfl | decide +kernel)
  | 8, _ => exact mt_1 (i := 80) (by first | rfl | decide +kernel)
  | 9, _ => exact mt_1 (i := 238) (by first | rfl | decide +kernel)
  | 10, _ => exact mt_1 (i := 29) (by first | rfl | decide +kernel)
  | 11, _ => exact mt_4 (i := 214) (by first | rfl | decide +kernel)
  | 12, _ => exact mt_5 (i := 123) (by first | rfl | decide +kernel)
theorem sof_tab {w : Cond} (h : sofW w = true) : w.onTables = true := by
  cases w <;> first | rfl | cases h
section WLD
variable {s : State} {b : Nat}
theorem str9 (hs : ∀ w ∈ nar9, w.before #[Value.ref b] s = true) {i : Nat} (hi : i < strN) : ∃ a : Nat, (tm9 i).eval #[Value.ref b] s none [] s = some (.ref a) ∧ va_O "java/lang/String" a (fun q => s.heap.size ≤ q) s s.heap ∧ va_OF "java/lang/String" "coder" "B" (.int 0) a (fun q => s.heap.size ≤ q) s s.heap ∧ ∃ v : Nat, va_OF "java/lang/String" "value" "[B" (.ref v) a (fun q => s.heap.size ≤ q) s s.heap ∧ va_T .byte v (txt i).length (fun j => .int ((txt i).getD j 0)) (fun q => s.heap.size ≤ q) s s.heap := by
  have h := List.all_eq_true.mp st9_all i (List.mem_range.mpr hi)
  simp only [Bool.and_eq_true, decide_eq_true_eq] at h
  obtain ⟨⟨⟨⟨h1, h2⟩, h3⟩, h4⟩, h5⟩ := h
  have hA : ∀ a : Nat, a < s.heap.size → ¬ (fun q : Nat => s.heap.size ≤ q) a := fun a ha => Nat.not_le.mpr ha
  have hex := hs _ (List.mem_of_getElem? h1)
  have hco := hs _ (List.mem_of_getElem? h2)
  have har := hs _ (List.mem_of_getElem? h3)
  have hle := hs _ (List.mem_of_getElem? h4)
  have hel : ∀ j : Nat, j < (txt i).length → (Cond.eq (.elem (.field (tm9 i) "java/lang/String" "value" "[B") (.int (Int32.ofNat j))) (.int ((txt i).getD j 0))).before #[Value.ref b] s = true := fun j hj => hs _ (List.mem_of_getElem? (of_decide_eq_true (List.all_eq_true.mp h5 j (List.mem_range.mpr hj))))
  obtain ⟨a, c, cA, kA, q1, q2, q3, q4, q5, q6, -⟩ := Cond.exactly_spec (args := #[Value.ref b]) (first := s) (o := none) (s := s) (idx := []) (t := tm9 i) (cls := "java/lang/String") hex
  obtain ⟨t, ht, hT⟩ := va_Tof (f := fun j => .int ((txt i).getD j 0)) (A := fun q => s.heap.size ≤ q) (tx_at hi).1 har (va_eqt hle) (fun j hj => va_eqt (hel j hj)) hA
  exact ⟨a, q1, va_Oof hex q1 hA, vk_OFof q1 (va_eqt hco) hA, t, vk_OFof q1 ht hA, hT⟩
theorem arr9 {ty : FieldType} (h : (Cond.arrayClass ty).before #[Value.ref b] s = true) (hr : ∀ c : ClassId, s.vm.findClass ("[" ++ ty.toString) = some c → va_RA s c ty) : ∃ c : ClassId, ArrOfT s c ty ∧ va_RA s c ty := by
  obtain ⟨c, k, comp, h1, h2, h3⟩ := Cond.arrayClass_spec h
  exact ⟨c, fun n z => ⟨(fun k h => by cases h), k, h2, comp, h3⟩, hr c h1⟩
theorem arrO9 (h : (Cond.arrayOver (.object "MountSpaces$Mounts")).before #[Value.ref b] s = true) : ∃ c : ClassId, ArrOfT s c (.object "MountSpaces$Mounts") ∧ va_RA s c (.object "MountSpaces$Mounts") := by
  obtain ⟨comp, c, k, h1, h2, h3, h4, h5⟩ := Cond.arrayOver_spec h
  exact ⟨c, fun n z => ⟨(fun k h => by cases h), k, h3, comp, h4⟩, k, comp, h3, h4, h1, h5⟩
theorem WY0 {L : Nat} {xs : Nat → Int32} (hts : ∀ w ∈ lw_tbl, w.before #[Value.ref b] s = true) (hs : ∀ w ∈ nar9, w.before #[Value.ref b] s = true) (hX : va_X b L xs s s.heap) (hbl : b < s.heap.size) : ∃ (D : va_G) (tc : Nat → ClassId) (adK : Nat → Nat), WY D tc s.heap.size b (L, xs) adK s := by
  have hA : ∀ a : Nat, a < s.heap.size → ¬ (fun q : Nat => s.heap.size ≤ q) a := fun a ha => Nat.not_le.mpr ha
  have hkn : ∀ ci : Nat, ∃ q : ClassId × (Nat → Nat), ci < 13 → u_Kn s (cN9 ci) (cT9 ci) (cS9 ci) q.1 q.2 := by
    intro ci
    by_cases h : ci < 13
    · obtain ⟨cC, iS, hk⟩ := u_known (ws := lw_tbl) hts (kf_all ci h).1 (hts _ (inst9 ci h))
      exact ⟨(cC, iS), fun _ => hk⟩
    · exact ⟨(0, fun _ => 0), fun z => absurd z h⟩
  obtain ⟨fD, hfD⟩ := Classical.axiomOfChoice hkn
  have hst : ∀ i : Nat, ∃ a : Nat, i < strN → (tm9 i).eval #[Value.ref b] s none [] s = some (.ref a) ∧ va_O "java/lang/String" a (fun q => s.heap.size ≤ q) s s.heap ∧ va_OF "java/lang/String" "coder" "B" (.int 0) a (fun q => s.heap.size ≤ q) s s.heap ∧ ∃ v : Nat, va_OF "java/lang/String" "value" "[B" (.ref v) a (fun q => s.heap.size ≤ q) s s.heap ∧ va_T .byte v (txt i).length (fun j => .int ((txt i).getD j 0)) (fun q => s.heap.size ≤ q) s s.heap := by
    intro i
    by_cases h : i < strN
    · obtain ⟨a, ha⟩ := str9 hs h
      exact ⟨a, fun _ => ha⟩
    · exact ⟨0, fun z => absurd z h⟩
  obtain ⟨adK, hK⟩ := Classical.axiomOfChoice hst
  obtain ⟨c0, i0, r0⟩ := arr9 (ty := .int) (hts _ w_arr.1) (fun c h => h)
  obtain ⟨c1, i1, r1⟩ := arr9 (ty := .byte) (hts _ w_arr.2.1) (fun c h => h)
  obtain ⟨c2, i2, r2⟩ := arr9 (ty := .boolean) (hts _ w_arr.2.2) (fun c h => h)
  have hao : (Cond.arrayOver (.object "MountSpaces$Mounts")).before #[Value.ref b] s = true := hts _ (mt_2 (i := 96) (by first | rfl | decide +kernel))
  obtain ⟨c3, i3, r3⟩ := arrO9 hao
  refine ⟨(fun c => (fD c).1, fun c => (fD c).2), (fun k => [c0, c1, c2, c3].getD k 0), adK, ⟨fun c q hq => ?_, fun k q hq => ?_⟩, hX, hbl, Nat.le_refl _, fun i q hq => ?_, va_AO.of hao, ⟨fun w hw hg => va_Nw.of (sof_tab hg) (hts w hw), fun x hx => ?_⟩, ?_, ?_, fun i hi => ?_⟩
  · have hc : c < 13 := (List.getElem?_eq_some_iff.mp hq).1
    rw [(kf_all c hc).2.2.2.2.2.2.1] at hq
    cases hq
    exact hfD c hc
  · match k, hq with
    | 0, hq => cases hq; exact ⟨i0, r0⟩
    | 1, hq => cases hq; exact ⟨i1, r1⟩
    | 2, hq => cases hq; exact ⟨i2, r2⟩
    | 3, hq => cases hq; exact ⟨i3, r3⟩
    | k + 4, hq => cases hq
  · have hi : i < strN := (List.getElem?_eq_some_iff.mp hq).1
    have e1 := (hK i hi).1
    unfold tm9 at e1
    rw [hq] at e1
    exact vk_R.of (hts _ (sk_all q (List.mem_of_getElem? hq))) e1
  · obtain ⟨g1, g2, g3, g4⟩ := xp_all x hx
    exact va_Nw.of rfl (sel_priv (C := sbN) (owner := asbN) (n := 4) (by rw [g1]; exact asb_pn) (hts _ w_sbI.1) (hts _ g2) (hts _ g3) (by rw [g1]; exact hts _ g4))
  · exact va_Zof (hts _ (mt_3 (i := 223) rfl)) (hts _ w_iniS) (va_eqi (hs _ (List.mem_of_getElem? (i := 6) (by decide +kernel)))) hA
  · exact va_Zqof (hts _ (mt_3 (i := 239) rfl)) (hts _ w_iniP) (hs _ (List.mem_of_getElem? (i := 7) (by decide +kernel))) hA
  · exact (hK i hi).2
end WLD
