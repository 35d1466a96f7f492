/-! STRING CONSTANTS READ: length() and charAt(int), by contract; nothing is written -/
theorem d_cod_0 : decode prog_25_method_152_code 0 = .ok (.getstatic 38, 3) := by decide +kernel
theorem d_cod_3 : decode prog_25_method_152_code 3 = .ok (.ifCond .eq 10, 3) := by decide +kernel
theorem d_cod_6 : decode prog_25_method_152_code 6 = .ok (.aload_n 0, 1) := by decide +kernel
theorem d_cod_7 : decode prog_25_method_152_code 7 = .ok (.getfield 15, 3) := by decide +kernel
theorem d_cod_10 : decode prog_25_method_152_code 10 = .ok (.goto 4, 3) := by decide +kernel
theorem d_cod_14 : decode prog_25_method_152_code 14 = .ok (.ireturn, 1) := by decide +kernel
theorem d_la_0 : decode prog_25_method_154_code 0 = .ok (.getstatic 38, 3) := by decide +kernel
theorem d_la_3 : decode prog_25_method_154_code 3 = .ok (.ifCond .eq 14, 3) := by decide +kernel
theorem d_la_6 : decode prog_25_method_154_code 6 = .ok (.aload_n 0, 1) := by decide +kernel
theorem d_la_7 : decode prog_25_method_154_code 7 = .ok (.getfield 15, 3) := by decide +kernel
theorem d_la_10 : decode prog_25_method_154_code 10 = .ok (.ifCond .ne 7, 3) := by decide +kernel
theorem d_la_13 : decode prog_25_method_154_code 13 = .ok (.iconst 1, 1) := by decide +kernel
theorem d_la_14 : decode prog_25_method_154_code 14 = .ok (.goto 4, 3) := by decide +kernel
theorem d_la_18 : decode prog_25_method_154_code 18 = .ok (.ireturn, 1) := by decide +kernel
theorem d_len_0 : decode prog_25_method_54_code 0 = .ok (.aload_n 0, 1) := by decide +kernel
theorem d_len_1 : decode prog_25_method_54_code 1 = .ok (.getfield 9, 3) := by decide +kernel
theorem d_len_4 : decode prog_25_method_54_code 4 = .ok (.arraylength, 1) := by decide +kernel
theorem d_len_5 : decode prog_25_method_54_code 5 = .ok (.aload_n 0, 1) := by decide +kernel
theorem d_len_6 : decode prog_25_method_54_code 6 = .ok (.invokevirtual 335, 3) := by decide +kernel
theorem d_len_9 : decode prog_25_method_54_code 9 = .ok (.ishr, 1) := by decide +kernel
theorem d_len_10 : decode prog_25_method_54_code 10 = .ok (.ireturn, 1) := by decide +kernel
theorem d_pci_0 : decode prog_36_method_11_code 0 = .ok (.iload_n 0, 1) := by decide +kernel
theorem d_pci_1 : decode prog_36_method_11_code 1 = .ok (.ifCond .lt 8, 3) := by decide +kernel
theorem d_pci_4 : decode prog_36_method_11_code 4 = .ok (.iload_n 0, 1) := by decide +kernel
theorem d_pci_5 : decode prog_36_method_11_code 5 = .ok (.iload_n 1, 1) := by decide +kernel
theorem d_pci_6 : decode prog_36_method_11_code 6 = .ok (.if_icmp .lt 10, 3) := by decide +kernel
theorem d_pci_16 : decode prog_36_method_11_code 16 = .ok (.iload_n 0, 1) := by decide +kernel
theorem d_pci_17 : decode prog_36_method_11_code 17 = .ok (.ireturn, 1) := by decide +kernel
theorem d_sci_0 : decode prog_25_method_155_code 0 = .ok (.iload_n 0, 1) := by decide +kernel
theorem d_sci_1 : decode prog_25_method_155_code 1 = .ok (.iload_n 1, 1) := by decide +kernel
theorem d_sci_2 : decode prog_25_method_155_code 2 = .ok (.getstatic 1053, 3) := by decide +kernel
theorem d_sci_5 : decode prog_25_method_155_code 5 = .ok (.invokestatic 1059, 3) := by decide +kernel
theorem d_sci_8 : decode prog_25_method_155_code 8 = .ok (.pop, 1) := by decide +kernel
theorem d_sci_9 : decode prog_25_method_155_code 9 = .ok (.return_, 1) := by decide +kernel
theorem d_lca_0 : decode prog_27_method_2_code 0 = .ok (.iload_n 1, 1) := by decide +kernel
theorem d_lca_1 : decode prog_27_method_2_code 1 = .ok (.aload_n 0, 1) := by decide +kernel
theorem d_lca_2 : decode prog_27_method_2_code 2 = .ok (.arraylength, 1) := by decide +kernel
theorem d_lca_3 : decode prog_27_method_2_code 3 = .ok (.invokestatic 9, 3) := by decide +kernel
theorem d_lca_6 : decode prog_27_method_2_code 6 = .ok (.aload_n 0, 1) := by decide +kernel
theorem d_lca_7 : decode prog_27_method_2_code 7 = .ok (.iload_n 1, 1) := by decide +kernel
theorem d_lca_8 : decode prog_27_method_2_code 8 = .ok (.baload, 1) := by decide +kernel
theorem d_lca_9 : decode prog_27_method_2_code 9 = .ok (.sipush 255, 3) := by decide +kernel
theorem d_lca_12 : decode prog_27_method_2_code 12 = .ok (.iand, 1) := by decide +kernel
theorem d_lca_13 : decode prog_27_method_2_code 13 = .ok (.i2c, 1) := by decide +kernel
theorem d_lca_14 : decode prog_27_method_2_code 14 = .ok (.ireturn, 1) := by decide +kernel
theorem d_ca_0 : decode prog_25_method_56_code 0 = .ok (.aload_n 0, 1) := by decide +kernel
theorem d_ca_1 : decode prog_25_method_56_code 1 = .ok (.invokevirtual 492, 3) := by decide +kernel
theorem d_ca_4 : decode prog_25_method_56_code 4 = .ok (.ifCond .eq 12, 3) := by decide +kernel
theorem d_ca_7 : decode prog_25_method_56_code 7 = .ok (.aload_n 0, 1) := by decide +kernel
theorem d_ca_8 : decode prog_25_method_56_code 8 = .ok (.getfield 9, 3) := by decide +kernel
theorem d_ca_11 : decode prog_25_method_56_code 11 = .ok (.iload_n 1, 1) := by decide +kernel
theorem d_ca_12 : decode prog_25_method_56_code 12 = .ok (.invokestatic 495, 3) := by decide +kernel
theorem d_ca_15 : decode prog_25_method_56_code 15 = .ok (.ireturn, 1) := by decide +kernel
def yyLen : MethodName := ⟨"java/lang/String", "length", "()I"⟩
def yyCod : MethodName := ⟨"java/lang/String", "coder", "()B"⟩
def yyCha : MethodName := ⟨"java/lang/String", "charAt", "(I)C"⟩
def yyLat : MethodName := ⟨"java/lang/String", "isLatin1", "()Z"⟩
def yyLca : MethodName := ⟨"java/lang/StringLatin1", "charAt", "([BI)C"⟩
def yySci : MethodName := ⟨"java/lang/String", "checkIndex", "(II)V"⟩
def yyPci : MethodName := ⟨"jdk/internal/util/Preconditions", "checkIndex", "(IILjava/util/function/BiFunction;)I"⟩
def tsG : List Cond := lw_tbl.filter goodWord
def wsT (y : MethodName) (b : ByteArray) (n : Nat) (r : Option FieldType) : List Cond := Cond.code y b n r :: tsG
theorem in_tsG {w : Cond} (h : w ∈ lw_tbl) (g : goodWord w = true) : w ∈ tsG := List.mem_filter.mpr ⟨h, g⟩
theorem in_wsT {y : MethodName} {b : ByteArray} {n : Nat} {r : Option FieldType} {w : Cond} (h : w ∈ lw_tbl) (g : goodWord w = true) : w ∈ wsT y b n r := List.mem_cons_of_mem _ (in_tsG h g)
theorem good_wsT {y : MethodName} {b : ByteArray} {n : Nat} {r : Option FieldType} (h : Cond.code y b n r ∈ lw_tbl) : GoodIn tsG (wsT y b n r) := by
  intro w hw
  have h1 : w ∈ tsG := by
    rcases List.mem_cons.mp hw with e | e
    · rw [e]; exact in_tsG h rfl
    · exact e
  exact ⟨h1, good_of_word (List.mem_filter.mp h1).2⟩
def TXS (base a v : Nat) (L : List Int32) (U : State) : Prop := va_Z "java/lang/String" "COMPACT_STRINGS" "Z" (.int 1) (fun q => base ≤ q) U U.heap ∧ va_Zq "jdk/internal/util/Preconditions" "SIOOBE_FORMATTER" "Ljava/util/function/BiFunction;" (fun q => base ≤ q) U U.heap ∧
  va_O "java/lang/String" a (fun q => base ≤ q) U U.heap ∧ va_OF "java/lang/String" "coder" "B" (.int 0) a (fun q => base ≤ q) U U.heap ∧ va_OF "java/lang/String" "value" "[B" (.ref v) a (fun q => base ≤ q) U U.heap ∧ va_T .byte v L.length (fun j => .int (L.getD j 0)) (fun q => base ≤ q) U U.heap
theorem TXS.to {base a v : Nat} {L : List Int32} {s U : State} {H : Heap} {locs : List Loc} (h : TXS base a v L s) (hW : s.WarmedH U.vm) (hS : va_S (fun q => base ≤ q) s.heap H locs) (hU : U.heap = H) : TXS base a v L U := by
  subst hU
  obtain ⟨h1, h2, h3, h4, h5, h6⟩ := h
  exact ⟨va_Z.moved hW.alike (h1.kept hS.2.1), va_Zq.moved hW.alike (h2.kept hS.2.1), va_O.moved hW.alike (h3.kept hS.2.1), va_OF.moved hW.alike (h4.kept hS.2.1), va_OF.moved hW.alike (h5.kept hS.2.1), va_T.moved hW.alike (h6.kept hS.2.1)⟩
theorem TXS.blind {base a v : Nat} {L : List Int32} {av : List Value} : FrameBlind (va_Pc av (TXS base a v L)) := fun _ U _ _ q => ⟨q.1, TXS.to q.2 (State.WarmedH.refl U) va_S.rf rfl⟩
def PQ9 (r : Option Value) : Array Value → State → Outcome → State → Prop := fun _ st o t => o = .returned r ∧ t.heap = st.heap
abbrev ff9 : Addr → Prop := fun _ => False
section PURE
variable {p : Program} {l : Launch} {e : Env} {R : Room} {s : State} {m : MethodId} {args : Array Value} {below : List Frame} {meth : Method} {c : Code} {H : Heap} {locs : List Loc} {cells slots : Nat} {Q : State → Prop}
variable {pc : Nat} {ls : Array Slot} {rest st0 : List Value} {a9 : Array Value}
theorem pure_go {r : Option Value} (hr : va_Run p l e R s m args below meth c H locs cells slots 0 0 (F0 m pc ls st0) rest (PQ9 r a9) ff9) (kk : W p l e R s m args below meth c H locs cells slots Q (F0 m (pc + 3) ls (r.toList ++ rest))) : W p l e R s m args below meth c H locs cells slots Q (F0 m pc ls st0) := by
  intro T hT X
  obtain ⟨v, st₀, t, T', L9, h0, X', hL, e1, e2, ⟨hv, hh⟩, st⟩ := hr T hT X
  cases hv
  have hL0 : L9 = [] := by
    cases L9 with
    | nil => rfl
    | cons q r9 => exact (hL q List.mem_cons_self).elim
  subst hL0
  rw [List.append_nil] at X'
  obtain ⟨t2, a1, b1⟩ := kk T' (by rw [e1, hh, h0]) X'
  exact ⟨t2, st t2 a1, b1⟩
end PURE
abbrev rm9 (f n : Nat) : Room := { frames := f, cells := 0, slots := 0, locals := n }
section CONT
variable {l : Launch} {base a v : Nat} {L : List Int32}
theorem w_cod : Cond.code yyCod prog_25_method_152_code 1 (some .byte) ∈ lw_tbl := mt_3 (i := 221) rfl
theorem w_lat : Cond.code yyLat prog_25_method_154_code 1 (some .boolean) ∈ lw_tbl := mt_3 (i := 231) rfl
theorem w_len : Cond.code yyLen prog_25_method_54_code 1 (some .int) ∈ lw_tbl := mt_3 (i := 217) rfl
theorem w_cha : Cond.code yyCha prog_25_method_56_code 2 (some .char) ∈ lw_tbl := mt_3 (i := 227) rfl
theorem w_lca : Cond.code yyLca prog_27_method_2_code 2 (some .char) ∈ lw_tbl := mt_3 (i := 234) rfl
theorem w_sci : Cond.code yySci prog_25_method_155_code 2 none ∈ lw_tbl := mt_3 (i := 237) rfl
theorem w_pci : Cond.code yyPci prog_36_method_11_code 3 (some .int) ∈ lw_tbl := mt_4 (i := 2) rfl
theorem w_iniS : Cond.initialized "java/lang/String" ∈ lw_tbl := mt_1 (i := 3) rfl
theorem w_iniL : Cond.initialized "java/lang/StringLatin1" ∈ lw_tbl := mt_1 (i := 10) rfl
theorem w_iniP : Cond.initialized "jdk/internal/util/Preconditions" ∈ lw_tbl := mt_1 (i := 9) rfl
theorem w_flV : Cond.fieldLink "java/lang/String" 9 "java/lang/String" "value" "[B" ∈ lw_tbl := mt_5 (i := 164) rfl
theorem w_flC : Cond.fieldLink "java/lang/String" 15 "java/lang/String" "coder" "B" ∈ lw_tbl := mt_5 (i := 165) rfl
theorem w_flK : Cond.fieldLink "java/lang/String" 38 "java/lang/String" "COMPACT_STRINGS" "Z" ∈ lw_tbl := mt_3 (i := 222) rfl
theorem w_flF : Cond.fieldLink "java/lang/String" 1053 "jdk/internal/util/Preconditions" "SIOOBE_FORMATTER" "Ljava/util/function/BiFunction;" ∈ lw_tbl := mt_3 (i := 238) rfl
/-- coder() -/
theorem m_cod : Met l yyCod (wsT yyCod prog_25_method_152_code 1 (some .byte)) (rm9 0 0) (va_Pc [.ref a] (TXS base a v L)) (PQ9 (some (.int 0))) 0 0 ff9 := by
  refine Met.ofW (cc := prog_25_method_152_code) (maxL := 1) (ret := some .byte) (by decide) rfl ?_
  intro p e s m args below meth c s₁ B hml hv
  obtain ⟨rfl, h1, h2, h3, h4, h5, h6⟩ := hv
  have hx := B.exec
  have hb := B.bytes
  have hr := B.returns
  have hts := atoms_spec (ws := wsT yyCod prog_25_method_152_code 1 (some .byte)) B.pre
  have hown : s.vm.findClass "java/lang/String" = some m.cls := findClass_of_methodNamed B.named
  have hlocks := B.notSynchronized
  have hS : va_S (fun q => base ≤ q) s.heap s.heap [] := va_S.rf
  have hl := lv_entry ([.ref a]) (n := 1) (Nat.le_of_ble_eq_true rfl)
  rw [lg_entry_eq]
  generalize (lg_sl ([.ref a]) ++ List.replicate (1 - (lg_sl ([.ref a])).length) Slot.unset).toArray = ls at hl ⊢
  have hl : lv_has ls 1 [(0, .ref a)] := hl
  refine va_gets hx hb h1 hS hown (hts _ (in_wsT w_flK rfl)) (fun _ h => h) d_cod_0 ?_
  refine lv_if_eq (tgt := 13) hx hb d_cod_3 (by decide) (fun z => absurd z (by decide)) (fun _ => ?_)
  refine lv_aload_n hx hb d_cod_6 rfl (lv_at hl 0 rfl) ?_
  refine vk_getf hx hb h4 hS hown (hts _ (in_wsT w_flC rfl)) (fun _ h => h) d_cod_7 ?_
  refine lv_goto (tgt := 14) hx hb d_cod_10 (by decide) ?_
  exact W.zret (v := 0) hx hb hr rfl (fun t ht hW => ⟨rfl, ht⟩) (fun q hq => nomatch hq) d_cod_14
/-- isLatin1() -/
theorem m_lat : Met l yyLat (wsT yyLat prog_25_method_154_code 1 (some .boolean)) (rm9 0 0) (va_Pc [.ref a] (TXS base a v L)) (PQ9 (some (.int 1))) 0 0 ff9 := by
  refine Met.ofW (cc := prog_25_method_154_code) (maxL := 1) (ret := some .boolean) (by decide) rfl ?_
  intro p e s m args below meth c s₁ B hml hv
  obtain ⟨rfl, h1, h2, h3, h4, h5, h6⟩ := hv
  have hx := B.exec
  have hb := B.bytes
  have hr := B.returns
  have hts := atoms_spec (ws := wsT yyLat prog_25_method_154_code 1 (some .boolean)) B.pre
  have hown : s.vm.findClass "java/lang/String" = some m.cls := findClass_of_methodNamed B.named
  have hlocks := B.notSynchronized
  have hS : va_S (fun q => base ≤ q) s.heap s.heap [] := va_S.rf
  have hl := lv_entry ([.ref a]) (n := 1) (Nat.le_of_ble_eq_true rfl)
  rw [lg_entry_eq]
  generalize (lg_sl ([.ref a]) ++ List.replicate (1 - (lg_sl ([.ref a])).length) Slot.unset).toArray = ls at hl ⊢
  have hl : lv_has ls 1 [(0, .ref a)] := hl
  refine va_gets hx hb h1 hS hown (hts _ (in_wsT w_flK rfl)) (fun _ h => h) d_la_0 ?_
  refine lv_if_eq (tgt := 17) hx hb d_la_3 (by decide) (fun z => absurd z (by decide)) (fun _ => ?_)
  refine lv_aload_n hx hb d_la_6 rfl (lv_at hl 0 rfl) ?_
  refine vk_getf hx hb h4 hS hown (hts _ (in_wsT w_flC rfl)) (fun _ h => h) d_la_7 ?_
  refine lv_if_ne (tgt := 17) hx hb d_la_10 (by decide) (fun z => absurd rfl z) (fun _ => ?_)
  refine lv_iconst (v := 1) hx hb d_la_13 (by decide) ?_
  refine lv_goto (tgt := 18) hx hb d_la_14 (by decide) ?_
  exact W.zret (v := 1) hx hb hr rfl (fun t ht hW => ⟨rfl, ht⟩) (fun q hq => nomatch hq) d_la_18
/-- length() -/
theorem m_len (hL : L.length < 2 ^ 31) : Met l yyLen (wsT yyLen prog_25_method_54_code 1 (some .int)) (rm9 1 20) (va_Pc [.ref a] (TXS base a v L)) (PQ9 (some (.int (Int32.ofNat L.length)))) 0 0 ff9 := by
  refine Met.ofW (cc := prog_25_method_54_code) (maxL := 1) (ret := some .int) (by decide) rfl ?_
  intro p e s m args below meth c s₁ B hml hv
  obtain ⟨rfl, hX⟩ := hv
  obtain ⟨h1, h2, h3, h4, h5, h6⟩ := id hX
  have hx := B.exec
  have hb := B.bytes
  have hr := B.returns
  have hts := atoms_spec (ws := wsT yyLen prog_25_method_54_code 1 (some .int)) B.pre
  have hts' : ∀ w ∈ tsG, w.before #[Value.ref a] s = true := fun w hw => hts w (List.mem_cons_of_mem _ hw)
  have hown : s.vm.findClass "java/lang/String" = some m.cls := findClass_of_methodNamed B.named
  have hlocks := B.notSynchronized
  have hS : va_S (fun q => base ≤ q) s.heap s.heap [] := va_S.rf
  have hl := lv_entry ([.ref a]) (n := 1) (Nat.le_of_ble_eq_true rfl)
  rw [lg_entry_eq]
  generalize (lg_sl ([.ref a]) ++ List.replicate (1 - (lg_sl ([.ref a])).length) Slot.unset).toArray = ls at hl ⊢
  have hl : lv_has ls 1 [(0, .ref a)] := hl
  refine lv_aload_n hx hb d_len_0 rfl (lv_at hl 0 rfl) ?_
  refine vk_getf hx hb h5 hS hown (hts _ (in_wsT w_flV rfl)) (fun _ h => h) d_len_1 ?_
  refine va_tlen hx hb h6 hS (v := nI L.length) rfl d_len_4 ?_
  refine lv_aload_n hx hb d_len_5 rfl (lv_at hl 0 rfl) ?_
  refine pure_go (va_runV (C := "java/lang/String") (b := a) (As := []) (rest := [.int (nI L.length)]) ⟨hx, hb, hml, hown, hts'⟩ (m_cod (l := l) (base := base) (a := a) (v := v) (L := L)) ⟨callB_of 0 hts' (good_wsT w_cod) rfl rfl rfl (hts' _ (in_tsG w_iniS rfl)) (hts' _ (in_tsG (mt_3 (i := 218) rfl) rfl)) ⟨by decide, by decide, by decide +kernel⟩ ⟨Nat.le_of_ble_eq_true rfl, Nat.le_of_ble_eq_true rfl⟩, hts' _ (in_tsG (mt_3 (i := 219) rfl) rfl), hts' _ (in_tsG (mt_3 (i := 220) rfl) rfl)⟩ ⟨TXS.blind, va_Orecv h3 hS, fun U hU hW => ⟨rfl, hX.to hW hS hU⟩⟩ rfl rfl hl.1 rfl (lv_room (Nat.le_of_ble_eq_true rfl)) d_len_6 ⟨Nat.le_of_ble_eq_true rfl, Nat.le_of_ble_eq_true rfl⟩) ?_
  refine lv_ishr (x := nI L.length) (y := 0) (rest := []) hx hb d_len_9 ?_
  rw [sc_shr0 hL]
  exact W.iret (v := nI L.length) hx hb hr (fun t ht hW => ⟨rfl, ht⟩) (fun q hq => nomatch hq) d_len_10
/-- Preconditions.checkIndex(i, n, f) -/
theorem m_pci {i n : Int32} {w : Value} (hw : w = .null ∨ ∃ t : Nat, w = .ref t) (hi : ¬ i < 0) (hn : i < n) : Met l yyPci (wsT yyPci prog_36_method_11_code 3 (some .int)) (rm9 0 0) (va_Pc [.int i, .int n, w] (TXS base a v L)) (PQ9 (some (.int i))) 0 0 ff9 := by
  refine Met.ofW (cc := prog_36_method_11_code) (maxL := 3) (ret := some .int) (by decide) rfl ?_
  intro p e s m args below meth c s₁ B hml hv
  obtain ⟨rfl, -⟩ := hv
  have hx := B.exec
  have hb := B.bytes
  have hr := B.returns
  have hlocks := B.notSynchronized
  have hlen : (lg_sl ([.int i, .int n, w])).length ≤ 3 := by rcases hw with rfl | ⟨t, rfl⟩ <;> exact Nat.le_of_ble_eq_true rfl
  have hl := lv_entry ([.int i, .int n, w]) (n := 3) hlen
  rw [lg_entry_eq]
  generalize (lg_sl ([.int i, .int n, w]) ++ List.replicate (3 - (lg_sl ([.int i, .int n, w])).length) Slot.unset).toArray = ls at hl ⊢
  have hl : lv_has ls 3 [(0, .int i), (1, .int n)] := by
    rcases hw with rfl | ⟨t, rfl⟩
    · exact lv_sub (l := [(0, .int i), (1, .int n), (2, .null)]) hl [0, 1] rfl
    · exact lv_sub (l := [(0, .int i), (1, .int n), (2, .ref t)]) hl [0, 1] rfl
  refine lv_iload_n hx hb d_pci_0 rfl (lv_at hl 0 rfl) ?_
  refine lv_if_lt (tgt := 9) hx hb d_pci_1 (by decide) (fun z => absurd z hi) (fun _ => ?_)
  refine lv_iload_n hx hb d_pci_4 rfl (lv_at hl 0 rfl) ?_
  refine lv_iload_n hx hb d_pci_5 rfl (lv_at hl 1 rfl) ?_
  refine lv_icmp_lt (tgt := 16) hx hb d_pci_6 (by decide) (fun _ => ?_) (fun z => absurd hn z)
  refine lv_iload_n hx hb d_pci_16 rfl (lv_at hl 0 rfl) ?_
  exact W.iret (v := i) hx hb hr (fun t ht hW => ⟨rfl, ht⟩) (fun q hq => nomatch hq) d_pci_17
/-- String.checkIndex(i, n) -/
theorem m_sci {i n : Int32} (hi : ¬ i < 0) (hn : i < n) : Met l yySci (wsT yySci prog_25_method_155_code 2 none) (rm9 1 22) (va_Pc [.int i, .int n] (TXS base a v L)) (PQ9 none) 0 0 ff9 := by
  refine Met.ofW (cc := prog_25_method_155_code) (maxL := 2) (ret := none) (by decide) rfl ?_
  intro p e s m args below meth c s₁ B hml hv
  obtain ⟨rfl, hX⟩ := hv
  obtain ⟨h1, h2, h3, h4, h5, h6⟩ := id hX
  have hx := B.exec
  have hb := B.bytes
  have hr := B.returns
  have hts := atoms_spec (ws := wsT yySci prog_25_method_155_code 2 none) B.pre
  have hts' : ∀ w ∈ tsG, w.before #[Value.int i, Value.int n] s = true := fun w hw => hts w (List.mem_cons_of_mem _ hw)
  have hown : s.vm.findClass "java/lang/String" = some m.cls := findClass_of_methodNamed B.named
  have hlocks := B.notSynchronized
  have hS : va_S (fun q => base ≤ q) s.heap s.heap [] := va_S.rf
  have hl := lv_entry ([.int i, .int n]) (n := 2) (Nat.le_of_ble_eq_true rfl)
  rw [lg_entry_eq]
  generalize (lg_sl ([.int i, .int n]) ++ List.replicate (2 - (lg_sl ([.int i, .int n])).length) Slot.unset).toArray = ls at hl ⊢
  have hl : lv_has ls 2 [(0, .int i), (1, .int n)] := hl
  obtain ⟨w, hw, hZ⟩ : ∃ w : Value, (w = .null ∨ ∃ t : Nat, w = .ref t) ∧ va_Z "jdk/internal/util/Preconditions" "SIOOBE_FORMATTER" "Ljava/util/function/BiFunction;" w (fun q => base ≤ q) s s.heap := by
    rcases h2 with h | ⟨t, h⟩
    · exact ⟨_, Or.inl rfl, h⟩
    · exact ⟨_, Or.inr ⟨t, rfl⟩, h⟩
  refine lv_iload_n hx hb d_sci_0 rfl (lv_at hl 0 rfl) ?_
  refine lv_iload_n hx hb d_sci_1 rfl (lv_at hl 1 rfl) ?_
  refine va_gets hx hb hZ hS hown (hts _ (in_wsT w_flF rfl)) (fun _ h => h) d_sci_2 ?_
  refine pure_go (va_runS (As := [.int i, .int n, w]) (rest := []) ⟨hx, hb, hml, hown, hts'⟩ (m_pci (l := l) (base := base) (a := a) (v := v) (L := L) hw hi hn) ⟨callB_of 3 hts' (good_wsT w_pci) rfl rfl rfl (hts' _ (in_tsG w_iniP rfl)) (hts' _ (in_tsG (mt_4 (i := 0) rfl) rfl)) ⟨by decide, by decide, by decide +kernel⟩ ⟨Nat.le_of_ble_eq_true rfl, Nat.le_of_ble_eq_true rfl⟩, hts' _ (in_tsG (mt_4 (i := 1) rfl) rfl)⟩ ⟨TXS.blind, fun U hU hW => ⟨rfl, hX.to hW hS hU⟩⟩ rfl rfl hl.1 rfl (lv_room (Nat.le_of_ble_eq_true rfl)) d_sci_5 ⟨Nat.le_of_ble_eq_true rfl, Nat.le_of_ble_eq_true rfl⟩) ?_
  refine lv_pop (va := .int i) (rest := []) hx hb d_sci_8 rfl ?_
  exact W.vret hx hb hr (fun t ht hW => ⟨rfl, ht⟩) (fun q hq => nomatch hq) d_sci_9
/-- StringLatin1.charAt(value, i) -/
theorem m_lca {i : Int32} (hi : inb i L.length = true) (hL : L.length < 2 ^ 31) (h255 : L.getD i.toNatClampNeg 0 &&& 255 = L.getD i.toNatClampNeg 0) : Met l yyLca (wsT yyLca prog_27_method_2_code 2 (some .char)) (rm9 2 43) (va_Pc [.ref v, .int i] (TXS base a v L)) (PQ9 (some (.int (L.getD i.toNatClampNeg 0)))) 0 0 ff9 := by
  refine Met.ofW (cc := prog_27_method_2_code) (maxL := 2) (ret := some .char) (by decide) rfl ?_
  intro p e s m args below meth c s₁ B hml hv
  obtain ⟨rfl, hX⟩ := hv
  obtain ⟨h1, h2, h3, h4, h5, h6⟩ := id hX
  have hx := B.exec
  have hb := B.bytes
  have hr := B.returns
  have hts := atoms_spec (ws := wsT yyLca prog_27_method_2_code 2 (some .char)) B.pre
  have hts' : ∀ w ∈ tsG, w.before #[Value.ref v, Value.int i] s = true := fun w hw => hts w (List.mem_cons_of_mem _ hw)
  have hown : s.vm.findClass "java/lang/StringLatin1" = some m.cls := findClass_of_methodNamed B.named
  have hlocks := B.notSynchronized
  have hS : va_S (fun q => base ≤ q) s.heap s.heap [] := va_S.rf
  have hl := lv_entry ([.ref v, .int i]) (n := 2) (Nat.le_of_ble_eq_true rfl)
  rw [lg_entry_eq]
  generalize (lg_sl ([.ref v, .int i]) ++ List.replicate (2 - (lg_sl ([.ref v, .int i])).length) Slot.unset).toArray = ls at hl ⊢
  have hl : lv_has ls 2 [(0, .ref v), (1, .int i)] := hl
  have hin : vp_in i L.length ∧ ¬ i < 0 ∧ i < nI L.length := by
    obtain ⟨k, hk, rfl⟩ := inb_of hi hL
    exact ⟨vp_in_nI hk hL, nI_pos (by omega), nI_lt hk hL⟩
  refine lv_iload_n hx hb d_lca_0 rfl (lv_at hl 1 rfl) ?_
  refine lv_aload_n hx hb d_lca_1 rfl (lv_at hl 0 rfl) ?_
  refine va_tlen hx hb h6 hS (v := nI L.length) rfl d_lca_2 ?_
  refine pure_go (va_runS (As := [.int i, .int (nI L.length)]) (rest := []) ⟨hx, hb, hml, hown, hts'⟩ (m_sci (l := l) (base := base) (a := a) (v := v) (L := L) hin.2.1 hin.2.2) ⟨callB_of 2 hts' (good_wsT w_sci) rfl rfl rfl (hts' _ (in_tsG w_iniS rfl)) (hts' _ (in_tsG (mt_3 (i := 235) rfl) rfl)) ⟨by decide, by decide, by decide +kernel⟩ ⟨Nat.le_of_ble_eq_true rfl, Nat.le_of_ble_eq_true rfl⟩, hts' _ (in_tsG (mt_3 (i := 236) rfl) rfl)⟩ ⟨TXS.blind, fun U hU hW => ⟨rfl, hX.to hW hS hU⟩⟩ rfl rfl hl.1 rfl (lv_room (Nat.le_of_ble_eq_true rfl)) d_lca_3 ⟨Nat.le_of_ble_eq_true rfl, Nat.le_of_ble_eq_true rfl⟩) ?_
  refine lv_aload_n hx hb d_lca_6 rfl (lv_at hl 0 rfl) ?_
  refine lv_iload_n hx hb d_lca_7 rfl (lv_at hl 1 rfl) ?_
  refine va_tb hx hb h6 hS hin.1 (v := .int (L.getD i.toNatClampNeg 0)) rfl d_lca_8 ?_
  refine lv_sipush (v := 255) hx hb d_lca_9 (by decide) ?_
  refine lv_iand hx hb d_lca_12 ?_
  refine lv_i2c (v := L.getD i.toNatClampNeg 0 &&& 255) hx hb d_lca_13 (sc_c2 _) ?_
  have hq := W.zret (cells := 0) (slots := 0) (locs := []) (free := ff9) (ls := ls) (Qc := PQ9 (some (.int (L.getD i.toNatClampNeg 0 &&& 255)))) (v := L.getD i.toNatClampNeg 0 &&& 255) (p := p) (l := l) (e := e) (R := (headSpec (wsT yyLca prog_27_method_2_code 2 (some .char)) (rm9 2 43)).room) (s := s) (m := m) (args := #[Value.ref v, Value.int i]) (below := below) (H := s.heap) hx hb hr (sc_nar _) (fun t ht hW => ⟨rfl, ht⟩) (fun q hq => nomatch hq) d_lca_14
  rw [h255] at hq ⊢
  exact hq
/-- charAt(i) -/
theorem m_cha {i : Int32} (hi : inb i L.length = true) (hL : L.length < 2 ^ 31) (h255 : L.getD i.toNatClampNeg 0 &&& 255 = L.getD i.toNatClampNeg 0) : Met l yyCha (wsT yyCha prog_25_method_56_code 2 (some .char)) (rm9 3 64) (va_Pc [.ref a, .int i] (TXS base a v L)) (PQ9 (some (.int (L.getD i.toNatClampNeg 0)))) 0 0 ff9 := by
  refine Met.ofW (cc := prog_25_method_56_code) (maxL := 2) (ret := some .char) (by decide) rfl ?_
  intro p e s m args below meth c s₁ B hml hv
  obtain ⟨rfl, hX⟩ := hv
  obtain ⟨h1, h2, h3, h4, h5, h6⟩ := id hX
  have hx := B.exec
  have hb := B.bytes
  have hr := B.returns
  have hts := atoms_spec (ws := wsT yyCha prog_25_method_56_code 2 (some .char)) B.pre
  have hts' : ∀ w ∈ tsG, w.before #[Value.ref a, Value.int i] s = true := fun w hw => hts w (List.mem_cons_of_mem _ hw)
  have hown : s.vm.findClass "java/lang/String" = some m.cls := findClass_of_methodNamed B.named
  have hlocks := B.notSynchronized
  have hS : va_S (fun q => base ≤ q) s.heap s.heap [] := va_S.rf
  have hl := lv_entry ([.ref a, .int i]) (n := 2) (Nat.le_of_ble_eq_true rfl)
  rw [lg_entry_eq]
  generalize (lg_sl ([.ref a, .int i]) ++ List.replicate (2 - (lg_sl ([.ref a, .int i])).length) Slot.unset).toArray = ls at hl ⊢
  have hl : lv_has ls 2 [(0, .ref a), (1, .int i)] := hl
  have hnar : narrow .char (.int (L.getD i.toNatClampNeg 0)) = .int (L.getD i.toNatClampNeg 0) := by
    have := sc_nar (L.getD i.toNatClampNeg 0)
    rw [h255] at this
    exact this
  refine lv_aload_n hx hb d_ca_0 rfl (lv_at hl 0 rfl) ?_
  refine pure_go (va_runV (C := "java/lang/String") (b := a) (As := []) (rest := []) ⟨hx, hb, hml, hown, hts'⟩ (m_lat (l := l) (base := base) (a := a) (v := v) (L := L)) ⟨callB_of 0 hts' (good_wsT w_lat) rfl rfl rfl (hts' _ (in_tsG w_iniS rfl)) (hts' _ (in_tsG (mt_3 (i := 228) rfl) rfl)) ⟨by decide, by decide, by decide +kernel⟩ ⟨Nat.le_of_ble_eq_true rfl, Nat.le_of_ble_eq_true rfl⟩, hts' _ (in_tsG (mt_3 (i := 229) rfl) rfl), hts' _ (in_tsG (mt_3 (i := 230) rfl) rfl)⟩ ⟨TXS.blind, va_Orecv h3 hS, fun U hU hW => ⟨rfl, hX.to hW hS hU⟩⟩ rfl rfl hl.1 rfl (lv_room (Nat.le_of_ble_eq_true rfl)) d_ca_1 ⟨Nat.le_of_ble_eq_true rfl, Nat.le_of_ble_eq_true rfl⟩) ?_
  refine lv_if_eq (tgt := 16) (x := 1) (rest := []) hx hb d_ca_4 (by decide) (fun z => absurd z (by decide)) (fun _ => ?_)
  refine lv_aload_n hx hb d_ca_7 rfl (lv_at hl 0 rfl) ?_
  refine vk_getf hx hb h5 hS hown (hts _ (in_wsT w_flV rfl)) (fun _ h => h) d_ca_8 ?_
  refine lv_iload_n hx hb d_ca_11 rfl (lv_at hl 1 rfl) ?_
  refine pure_go (va_runS (As := [.ref v, .int i]) (rest := []) ⟨hx, hb, hml, hown, hts'⟩ (m_lca (l := l) (base := base) (a := a) (v := v) (L := L) hi hL h255) ⟨callB_of 2 hts' (good_wsT w_lca) rfl rfl rfl (hts' _ (in_tsG w_iniL rfl)) (hts' _ (in_tsG (mt_3 (i := 232) rfl) rfl)) ⟨by decide, by decide, by decide +kernel⟩ ⟨Nat.le_of_ble_eq_true rfl, Nat.le_of_ble_eq_true rfl⟩, hts' _ (in_tsG (mt_3 (i := 233) rfl) rfl)⟩ ⟨TXS.blind, fun U hU hW => ⟨rfl, hX.to hW hS hU⟩⟩ rfl rfl hl.1 rfl (lv_room (Nat.le_of_ble_eq_true rfl)) d_ca_12 ⟨Nat.le_of_ble_eq_true rfl, Nat.le_of_ble_eq_true rfl⟩) ?_
  exact W.zret (v := L.getD i.toNatClampNeg 0) hx hb hr hnar (fun t ht hW => ⟨rfl, ht⟩) (fun q hq => nomatch hq) d_ca_15
def yyGb : MethodName := ⟨"java/lang/String", "getBytes", "([BIB)V"⟩
theorem d_gb_0 : decode prog_25_method_147_code 0 = .ok (.aload_n 0, 1) := by decide +kernel
theorem d_gb_1 : decode prog_25_method_147_code 1 = .ok (.invokevirtual 335, 3) := by decide +kernel
theorem d_gb_4 : decode prog_25_method_147_code 4 = .ok (.iload_n 3, 1) := by decide +kernel
theorem d_gb_5 : decode prog_25_method_147_code 5 = .ok (.if_icmp .ne 23, 3) := by decide +kernel
theorem d_gb_8 : decode prog_25_method_147_code 8 = .ok (.aload_n 0, 1) := by decide +kernel
theorem d_gb_9 : decode prog_25_method_147_code 9 = .ok (.getfield 9, 3) := by decide +kernel
theorem d_gb_12 : decode prog_25_method_147_code 12 = .ok (.iconst 0, 1) := by decide +kernel
theorem d_gb_13 : decode prog_25_method_147_code 13 = .ok (.aload_n 1, 1) := by decide +kernel
theorem d_gb_14 : decode prog_25_method_147_code 14 = .ok (.iload_n 2, 1) := by decide +kernel
theorem d_gb_15 : decode prog_25_method_147_code 15 = .ok (.iload_n 3, 1) := by decide +kernel
theorem d_gb_16 : decode prog_25_method_147_code 16 = .ok (.ishl, 1) := by decide +kernel
theorem d_gb_17 : decode prog_25_method_147_code 17 = .ok (.aload_n 0, 1) := by decide +kernel
theorem d_gb_18 : decode prog_25_method_147_code 18 = .ok (.getfield 9, 3) := by decide +kernel
theorem d_gb_21 : decode prog_25_method_147_code 21 = .ok (.arraylength, 1) := by decide +kernel
theorem d_gb_22 : decode prog_25_method_147_code 22 = .ok (.invokestatic 212, 3) := by decide +kernel
theorem d_gb_25 : decode prog_25_method_147_code 25 = .ok (.goto 18, 3) := by decide +kernel
theorem d_gb_43 : decode prog_25_method_147_code 43 = .ok (.return_, 1) := by decide +kernel
theorem w_gb : Cond.code yyGb prog_25_method_147_code 4 none ∈ lw_tbl := (mt_5 (i := 89) rfl)
theorem w_gbc : Cond.methodLink "java/lang/String" 212 arraycopyName ∈ lw_tbl := (mt_5 (i := 90) rfl)
theorem w_iniY : Cond.initialized "java/lang/System" ∈ lw_tbl := (mt_1 (i := 8) rfl)
theorem shl0 (x : Int32) : x <<< ((0 : Int32) &&& 31) = x := by
  have : (0 : Int32) &&& 31 = 0 := by decide
  rw [this]
  refine Int32.toBitVec_inj.mp ?_
  rw [Int32.toBitVec_shiftLeft]
  have e : ((0 : Int32).toBitVec.smod 32) = 0 := by decide
  rw [e]
  exact BitVec.eq_of_toNat_eq (by simp)
def gbW (ws : va_W) (q1 b : Nat) (c1 : ClassId) (n1 : Nat) (g : Nat → Int32) (L : List Int32) (dp : Int32) : va_W := ws.set q1 (b, .inl (c1, n1, .inl (va_cpy (fun k => L.getD k 0) g 0 dp.toNatClampNeg L.length)))
def PQB (D : va_G) (base : Nat) (ws : va_W) : Array Value → State → Outcome → State → Prop := fun _ st o t => o = .returned none ∧ va_P D cls9 ws t.heap ∧ va_D (fun q => base ≤ q) ws ∧ va_F (fun q => base ≤ q) st t
/-- getBytes(dst, dp, 0) -/
theorem m_gb {D : va_G} {tc : Nat → ClassId} {ws : va_W} {q1 b n1 : Nat} {g : Nat → Int32} {dp : Int32} (hD : va_D (fun q => base ≤ q) ws) (ha1 : ws[q1]? = some (b, .inl (tc 1, n1, .inl g))) (h0 : ¬ dp < 0) (hn : dp.toNatClampNeg + L.length ≤ n1) (hL : L.length < 2 ^ 31) (hfit : ∀ k, fits .byte (.int (L.getD k 0)) = true) :
    Met l yyGb (wsT yyGb prog_25_method_147_code 4 none) (rm9 1 40) (va_Pc [.ref a, .ref b, .int dp, .int 0] (fun U => TXS base a v L U ∧ va_K D cls9 (tys9 tc) U ∧ va_P D cls9 ws U.heap)) (PQB D base (gbW ws q1 b (tc 1) n1 g L dp)) 0 0 (fun q => base ≤ q) := by
  refine Met.ofW (cc := prog_25_method_147_code) (maxL := 4) (ret := none) (by decide) rfl ?_
  intro p e s m args below meth c s₁ B hml hv
  obtain ⟨rfl, hX, hK, hP⟩ := hv
  obtain ⟨h1, h2, h3, h4, h5, h6⟩ := id hX
  have hx := B.exec
  have hb := B.bytes
  have hr := B.returns
  have hts := atoms_spec (ws := wsT yyGb prog_25_method_147_code 4 none) B.pre
  have hts' : ∀ w ∈ tsG, w.before #[Value.ref a, Value.ref b, Value.int dp, Value.int 0] s = true := fun w hw => hts w (List.mem_cons_of_mem _ hw)
  have hown : s.vm.findClass "java/lang/String" = some m.cls := findClass_of_methodNamed B.named
  have hlocks := B.notSynchronized
  have hS : va_S (fun q => base ≤ q) s.heap s.heap [] := va_S.rf
  have hl := lv_entry ([.ref a, .ref b, .int dp, .int 0]) (n := 4) (Nat.le_of_ble_eq_true rfl)
  rw [lg_entry_eq]
  generalize (lg_sl ([.ref a, .ref b, .int dp, .int 0]) ++ List.replicate (4 - (lg_sl ([.ref a, .ref b, .int dp, .int 0])).length) Slot.unset).toArray = ls at hl ⊢
  have hl : lv_has ls 4 [(0, .ref a), (1, .ref b), (2, .int dp), (3, .int 0)] := hl
  refine lv_aload_n hx hb d_gb_0 rfl (lv_at hl 0 rfl) ?_
  refine pure_go (va_runV (C := "java/lang/String") (b := a) (As := []) (rest := []) ⟨hx, hb, hml, hown, hts'⟩ (m_cod (l := l) (base := base) (a := a) (v := v) (L := L)) ⟨callB_of 0 hts' (good_wsT w_cod) rfl rfl rfl (hts' _ (in_tsG w_iniS rfl)) (hts' _ (in_tsG (mt_3 (i := 218) rfl) rfl)) ⟨by decide, by decide, by decide +kernel⟩ ⟨Nat.le_of_ble_eq_true rfl, Nat.le_of_ble_eq_true rfl⟩, hts' _ (in_tsG (mt_3 (i := 219) rfl) rfl), hts' _ (in_tsG (mt_3 (i := 220) rfl) rfl)⟩ ⟨TXS.blind, va_Orecv h3 hS, fun U hU hW => ⟨rfl, hX.to hW hS hU⟩⟩ rfl rfl hl.1 rfl (lv_room (Nat.le_of_ble_eq_true rfl)) d_gb_1 ⟨Nat.le_of_ble_eq_true rfl, Nat.le_of_ble_eq_true rfl⟩) ?_
  refine lv_iload_n hx hb d_gb_4 rfl (lv_at hl 3 rfl) ?_
  refine lv_icmp_ne (x := 0) (y := 0) (rest := []) (tgt := 28) hx hb d_gb_5 (by decide) (fun z => absurd rfl z) (fun _ => ?_)
  refine lv_aload_n hx hb d_gb_8 rfl (lv_at hl 0 rfl) ?_
  refine vk_getf hx hb h5 hS hown (hts _ (in_wsT w_flV rfl)) (fun _ h => h) d_gb_9 ?_
  refine lv_iconst (v := 0) hx hb d_gb_12 (by decide) ?_
  refine lv_aload_n hx hb d_gb_13 rfl (lv_at hl 1 rfl) ?_
  refine lv_iload_n hx hb d_gb_14 rfl (lv_at hl 2 rfl) ?_
  refine lv_iload_n hx hb d_gb_15 rfl (lv_at hl 3 rfl) ?_
  refine lv_ishl hx hb d_gb_16 ?_
  rw [shl0]
  refine lv_aload_n hx hb d_gb_17 rfl (lv_at hl 0 rfl) ?_
  refine vk_getf hx hb h5 hS hown (hts _ (in_wsT w_flV rfl)) (fun _ h => h) d_gb_18 ?_
  refine va_tlen hx hb h6 hS (v := nI L.length) rfl d_gb_21 ?_
  have hc : (nI L.length).toNatClampNeg = L.length := nI_clamp hL
  refine vk_copyt (cl := cls9) (tys := tys9 tc) (ws := ws) (rest := []) (A := fun q => base ≤ q) (f := fun j => L.getD j 0) hx hb (hml.trans hl.1.symm) hown (hts _ (in_wsT w_gbc rfl)) (hts _ (in_wsT w_cpy.1 rfl)) (hts _ (in_wsT w_cpy.2.1 rfl)) (hts _ (in_wsT w_cpy.2.2 rfl)) hK hP hD hS h6 q1 1 ha1 rfl (by decide) h0 (nI_pos hL) (by rw [hc]; show 0 + L.length ≤ L.length; omega) (by rw [hc]; exact hn) (fun i _ => hfit _) (by decide) (Nat.le_of_ble_eq_true rfl) d_gb_22 ?_
  intro H1 locs1 hP1 hD1 hS1
  rw [hc] at hP1 hD1
  refine lv_goto (tgt := 43) hx hb d_gb_25 (by decide) ?_
  exact W.vret hx hb hr (fun t ht hW => ⟨rfl, by rw [ht]; exact hP1, hD1, by rw [ht]; exact hS1.1, fun q hq hA => by rw [ht]; exact hS1.2.1 q hq hA⟩) (fun q hq => hS1.2.2 q hq) d_gb_43
end CONT
section GBGO
variable {p : Program} {l : Launch} {e : Env} {R : Room} {s : State} {m : MethodId} {args : Array Value} {below : List Frame} {meth : Method} {c : Code} {H : Heap} {locs : List Loc} {cells slots : Nat} {Q : State → Prop}
variable {pc : Nat} {ls : Array Slot} {rest st0 : List Value} {a9 : Array Value}
theorem gb_go {D : va_G} {base : Nat} {ws : va_W} (hr : va_Run p l e R s m args below meth c H locs cells slots 0 0 (F0 m pc ls st0) rest (PQB D base ws a9) (fun q => base ≤ q)) (hS : va_S (fun q => base ≤ q) s.heap H locs)
    (kk : ∀ (H1 : Heap) (locs1 : List Loc), va_P D cls9 ws H1 → va_D (fun q => base ≤ q) ws → va_S (fun q => base ≤ q) s.heap H1 locs1 → W p l e R s m args below meth c H1 locs1 cells slots Q (F0 m (pc + 3) ls rest)) : W p l e R s m args below meth c H locs cells slots Q (F0 m pc ls st0) := by
  intro T hT X
  obtain ⟨v, st₀, t, T', L9, h0, X', hL, e1, e2, ⟨ho, hP, hD, hF⟩, stp9⟩ := hr T hT X
  cases ho
  obtain ⟨hz, hk⟩ := hF
  rw [h0] at hz hk
  have k3 : va_S (fun q => base ≤ q) s.heap T'.heap (locs ++ L9) := ⟨Nat.le_trans hS.1 (by rw [e1]; exact hz), fun q g1 g2 => by rw [e1, hk q (Nat.lt_of_lt_of_le g1 hS.1) g2]; exact hS.2.1 q g1 g2, fun q hq => by
    rcases List.mem_append.mp hq with h | h
    · exact hS.2.2 q h
    · exact hL q h⟩
  obtain ⟨t2, a1, b1⟩ := kk T'.heap (locs ++ L9) (by rw [e1]; exact hP) hD k3 T' rfl X'
  exact ⟨t2, stp9 t2 a1, b1⟩
end GBGO
theorem tx_all : (List.range 14).all (fun i => Nat.blt (txt i).length 100 && (txt i).all (fun b => decide (b &&& 255 = b) && fits .byte (.int b))) = true := by decide +kernel
theorem tx_at {i : Nat} (hi : i < strN) : (txt i).length < 2 ^ 31 ∧ (∀ k, (txt i).getD k 0 &&& 255 = (txt i).getD k 0) ∧ ∀ k, fits .byte (.int ((txt i).getD k 0)) = true := by
  have h := List.all_eq_true.mp tx_all i (List.mem_range.mpr hi)
  simp only [Bool.and_eq_true] at h
  refine ⟨?_, fun k => ?_, fun k => ?_⟩
  · have := Nat.le_of_ble_eq_true h.1
    omega
  · rw [List.getD_eq_getElem?_getD]
    cases hk : (txt i)[k]? with
    | none => decide
    | some b =>
      have z := List.all_eq_true.mp h.2 b (List.mem_of_getElem? hk)
      rw [Bool.and_eq_true] at z
      exact of_decide_eq_true z.1
  · rw [List.getD_eq_getElem?_getD]
    cases hk : (txt i)[k]? with
    | none => decide
    | some b =>
      have z := List.all_eq_true.mp h.2 b (List.mem_of_getElem? hk)
      rw [Bool.and_eq_true] at z
      exact z.2
theorem inta {l : Launch} {base : Nat} {D : va_G} {tc : Nat → ClassId} {adK : Nat → Nat} {b0 : Nat} {sc : SC} : INTA l base D tc adK b0 sc := by
  intro p e R s m args below meth c y Q F W0 Y0 H locs cells slots ls pc k rest hS hc hs hls
  obtain ⟨e1, e2, e3⟩ : WS base adK s := Y0.2.2.2.2.2.2.2
  have hts' : ∀ w ∈ tsG, w.before args s = true := fun w hw => W0.1.1 w (List.mem_filter.mp hw).1 (List.mem_filter.mp hw).2
  have S : CallFix p m c (mByt y) (mmx y) s args tsG (cnm (mcx y)) := ⟨F.1, F.2.1, F.2.2.1, F.2.2.2.1, hts'⟩
  have hf : 8 ≤ R.frames := F.2.2.2.2.2.2.2.2.1
  have hg : 200 ≤ R.locals := F.2.2.2.2.2.2.2.2.2
  refine ⟨fun i hi hcat dec => ?_, fun i n hcat dec hl hi hn kk => ?_, fun dec hl kk => ?_⟩
  · obtain ⟨f1, f2, v, f3, f4⟩ := e3 i hi
    have hX : TXS base (adK i) v (txt i) s := ⟨e1, e2, f1, f2, f3, f4⟩
    obtain ⟨tL, t255, tfit⟩ := tx_at hi
    refine ⟨fun hl kk => ?_, fun j hj hl kk => ?_, fun hl kk => ?_, fun ws q1 a n1 g dp hP hD ha1 h0 hn hl kk => ?_⟩
    · refine pure_go (va_runV (C := "java/lang/String") (b := adK i) (As := []) (rest := rest) S (m_len (l := l) (base := base) (a := adK i) (v := v) (L := txt i) tL) ⟨callB_of 0 hts' (good_wsT w_len) rfl rfl rfl (hts' _ (in_tsG w_iniS rfl)) hl ⟨by decide, by decide, by decide +kernel⟩ ⟨?_, ?_⟩, hts' _ (in_tsG (mt_3 (i := 215) rfl) rfl), hts' _ (in_tsG (mt_3 (i := 216) rfl) rfl)⟩ ⟨TXS.blind, va_Orecv f1 hS, fun U hU hW => ⟨rfl, hX.to hW hS hU⟩⟩ rfl rfl hls rfl ?_ dec ⟨hc, hs⟩) kk
      · show 1 + 1 ≤ R.frames; omega
      · show 8 + (1 + 11) + 20 ≤ R.locals; omega
      · show 2 * 0 + _ ≤ 8; omega
    · refine pure_go (va_runV (C := "java/lang/String") (b := adK i) (As := [.int j]) (rest := rest) S (m_cha (l := l) (base := base) (a := adK i) (v := v) (L := txt i) hj tL (t255 _)) ⟨callB_of 1 hts' (good_wsT w_cha) rfl rfl rfl (hts' _ (in_tsG w_iniS rfl)) hl ⟨by decide, by decide, by decide +kernel⟩ ⟨?_, ?_⟩, hts' _ (in_tsG (mt_3 (i := 225) rfl) rfl), hts' _ (in_tsG (mt_3 (i := 226) rfl) rfl)⟩ ⟨TXS.blind, va_Orecv f1 hS, fun U hU hW => ⟨rfl, hX.to hW hS hU⟩⟩ rfl rfl hls rfl ?_ dec ⟨hc, hs⟩) kk
      · show 3 + 1 ≤ R.frames; omega
      · show 8 + (2 + 11) + 64 ≤ R.locals; omega
      · show 2 * 0 + _ ≤ 8; omega
    · refine pure_go (va_runV (C := "java/lang/String") (b := adK i) (As := []) (rest := rest) S (m_cod (l := l) (base := base) (a := adK i) (v := v) (L := txt i)) ⟨callB_of 0 hts' (good_wsT w_cod) rfl rfl rfl (hts' _ (in_tsG w_iniS rfl)) hl ⟨by decide, by decide, by decide +kernel⟩ ⟨?_, ?_⟩, hts' _ (in_tsG (mt_3 (i := 219) rfl) rfl), hts' _ (in_tsG (mt_3 (i := 220) rfl) rfl)⟩ ⟨TXS.blind, va_Orecv f1 hS, fun U hU hW => ⟨rfl, hX.to hW hS hU⟩⟩ rfl rfl hls rfl ?_ dec ⟨hc, hs⟩) kk
      · show 0 + 1 ≤ R.frames; omega
      · show 8 + (1 + 11) + 0 ≤ R.locals; omega
      · show 2 * 0 + _ ≤ 8; omega
    · refine gb_go (va_runV (C := "java/lang/String") (b := adK i) (As := [.ref a, .int dp, .int 0]) (rest := rest) S (m_gb (l := l) (base := base) (a := adK i) (v := v) (L := txt i) (D := D) (tc := tc) (ws := ws) (q1 := q1) (b := a) (n1 := n1) (g := g) (dp := dp) hD ha1 h0 hn tL tfit) ⟨callB_of 3 hts' (good_wsT w_gb) rfl rfl rfl (hts' _ (in_tsG w_iniS rfl)) hl ⟨by decide, by decide, by decide +kernel⟩ ⟨?_, ?_⟩, hts' _ (in_tsG (mt_5 (i := 87) rfl) rfl), hts' _ (in_tsG (mt_5 (i := 88) rfl) rfl)⟩ ⟨fun _ U _ _ q => ⟨q.1, TXS.to q.2.1 (State.WarmedH.refl U) va_S.rf rfl, va_K.moved (State.WarmedH.refl U).alike q.2.2.1, q.2.2.2⟩, va_Orecv f1 hS, fun U hU hW => ⟨rfl, hX.to hW hS hU, va_K.moved hW.alike Y0.1, by rw [hU]; exact hP⟩⟩ rfl rfl hls rfl ?_ dec ⟨hc, hs⟩) hS kk
      · show 1 + 1 ≤ R.frames; omega
      · show 8 + (4 + 11) + 40 ≤ R.locals; omega
      · show 2 * 0 + _ ≤ 8; omega
  · obtain ⟨f1, f2, v, f3, f4⟩ := e3 0 (by decide)
    have hX : TXS base (adK 0) v (txt 0) s := ⟨e1, e2, f1, f2, f3, f4⟩
    refine pure_go (va_runS (As := [.int i, .int n]) (rest := rest) S (m_sci (l := l) (base := base) (a := adK 0) (v := v) (L := txt 0) hi hn) ⟨callB_of 2 hts' (good_wsT w_sci) rfl rfl rfl (hts' _ (in_tsG w_iniS rfl)) hl ⟨by decide, by decide, by decide +kernel⟩ ⟨?_, ?_⟩, hts' _ (in_tsG (mt_3 (i := 236) rfl) rfl)⟩ ⟨TXS.blind, fun U hU hW => ⟨rfl, hX.to hW hS hU⟩⟩ rfl rfl hls rfl ?_ dec ⟨hc, hs⟩) kk
    · show 1 + 1 ≤ R.frames; omega
    · show 8 + (2 + 11) + 22 ≤ R.locals; omega
    · show 2 * 0 + _ ≤ 8; omega
  · exact va_gets F.1 F.2.1 e1 hS F.2.2.2.1 hl (fun _ h => h) dec kk
