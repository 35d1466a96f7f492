/-! the tables of part 03 against the Statement's, entry by entry (written by wip/whole/gen_chk.py) -/
theorem mt_1 {w : Cond} {i : Nat} (hw : tables_1_1[i]? = some w) : w ∈ lw_tbl := by
  have h := List.mem_of_getElem? hw
  exact List.mem_append_right (k2_sels lw_privs) (List.mem_append_left _ h)
theorem mt_2 {w : Cond} {i : Nat} (hw : tables_1_2[i]? = some w) : w ∈ lw_tbl := by
  have h := List.mem_of_getElem? hw
  exact List.mem_append_right (k2_sels lw_privs) (List.mem_append_right _ (List.mem_append_left _ h))
theorem mt_3 {w : Cond} {i : Nat} (hw : tables_1_3[i]? = some w) : w ∈ lw_tbl := by
  have h := List.mem_of_getElem? hw
  exact List.mem_append_right (k2_sels lw_privs) (List.mem_append_right _ (List.mem_append_right _ (List.mem_append_left _ h)))
theorem mt_4 {w : Cond} {i : Nat} (hw : tables_1_4[i]? = some w) : w ∈ lw_tbl := by
  have h := List.mem_of_getElem? hw
  exact List.mem_append_right (k2_sels lw_privs) (List.mem_append_right _ (List.mem_append_right _ (List.mem_append_right _ (List.mem_append_left _ h))))
theorem mt_5 {w : Cond} {i : Nat} (hw : tables_1_5[i]? = some w) : w ∈ lw_tbl := by
  have h := List.mem_of_getElem? hw
  exact List.mem_append_right (k2_sels lw_privs) (List.mem_append_right _ (List.mem_append_right _ (List.mem_append_right _ (List.mem_append_right _ (List.mem_append_left _ h)))))
theorem mt_6 {w : Cond} {i : Nat} (hw : tables_1_6[i]? = some w) : w ∈ lw_tbl := by
  have h := List.mem_of_getElem? hw
  exact List.mem_append_right (k2_sels lw_privs) (List.mem_append_right _ (List.mem_append_right _ (List.mem_append_right _ (List.mem_append_right _ (List.mem_append_right _ (List.mem_append_left _ h))))))
theorem mt_7 {w : Cond} {i : Nat} (hw : tables_1_7[i]? = some w) : w ∈ lw_tbl := by
  have h := List.mem_of_getElem? hw
  exact List.mem_append_right (k2_sels lw_privs) (List.mem_append_right _ (List.mem_append_right _ (List.mem_append_right _ (List.mem_append_right _ (List.mem_append_right _ (List.mem_append_right _ (List.mem_append_left _ h)))))))
theorem mt_8 {w : Cond} {i : Nat} (hw : tables_1_8[i]? = some w) : w ∈ lw_tbl := by
  have h := List.mem_of_getElem? hw
  exact List.mem_append_right (k2_sels lw_privs) (List.mem_append_right _ (List.mem_append_right _ (List.mem_append_right _ (List.mem_append_right _ (List.mem_append_right _ (List.mem_append_right _ (List.mem_append_right _ (h))))))))
theorem ms_1 {q : MethodName × Nat} {i : Nat} (hw : lw_privs_1[i]? = some q) : q ∈ lw_privs := by
  have h := List.mem_of_getElem? hw
  exact List.mem_append_left _ h
theorem ms_2 {q : MethodName × Nat} {i : Nat} (hw : lw_privs_2[i]? = some q) : q ∈ lw_privs := by
  have h := List.mem_of_getElem? hw
  exact List.mem_append_right _ (List.mem_append_left _ h)
theorem ms_3 {q : MethodName × Nat} {i : Nat} (hw : lw_privs_3[i]? = some q) : q ∈ lw_privs := by
  have h := List.mem_of_getElem? hw
  exact List.mem_append_right _ (List.mem_append_right _ (List.mem_append_left _ h))
theorem ms_4 {q : MethodName × Nat} {i : Nat} (hw : lw_privs_4[i]? = some q) : q ∈ lw_privs := by
  have h := List.mem_of_getElem? hw
  exact List.mem_append_right _ (List.mem_append_right _ (List.mem_append_right _ (List.mem_append_left _ h)))
theorem ms_5 {q : MethodName × Nat} {i : Nat} (hw : lw_privs_5[i]? = some q) : q ∈ lw_privs := by
  have h := List.mem_of_getElem? hw
  exact List.mem_append_right _ (List.mem_append_right _ (List.mem_append_right _ (List.mem_append_right _ (List.mem_append_left _ h))))
theorem ms_6 {q : MethodName × Nat} {i : Nat} (hw : lw_privs_6[i]? = some q) : q ∈ lw_privs := by
  have h := List.mem_of_getElem? hw
  exact List.mem_append_right _ (List.mem_append_right _ (List.mem_append_right _ (List.mem_append_right _ (List.mem_append_right _ (List.mem_append_left _ h)))))
theorem ms_7 {q : MethodName × Nat} {i : Nat} (hw : lw_privs_7[i]? = some q) : q ∈ lw_privs := by
  have h := List.mem_of_getElem? hw
  exact List.mem_append_right _ (List.mem_append_right _ (List.mem_append_right _ (List.mem_append_right _ (List.mem_append_right _ (List.mem_append_right _ (h))))))
theorem ms_w {q : MethodName × Nat} {w : Cond} (h : q ∈ lw_privs) (e : k2_sels [q] = [w]) : w ∈ lw_tbl := by
  refine List.mem_append_left _ ?_
  have h2 : w ∈ k2_sels [q] := by rw [e]; exact List.mem_singleton.mpr rfl
  unfold k2_sels at h2 ⊢
  first
    | (simp only [List.map_cons, List.map_nil, List.mem_singleton] at h2; exact List.mem_map.mpr ⟨q, h, h2.symm⟩)
    | (simp only [List.mem_flatMap, List.mem_singleton] at h2 ⊢; obtain ⟨a, rfl, h3⟩ := h2; exact ⟨a, h, h3⟩)
def cN9 (ci : Nat) : String := (cls9.getD ci ("", jT0, 0)).1
def cT9 (ci : Nat) : u_T := (cls9.getD ci ("", jT0, 0)).2.1
def cS9 (ci : Nat) : Nat := (cls9.getD ci ("", jT0, 0)).2.2
def FK (cx : Nat) (e : Nat × Nat × Nat × Nat × Nat) : Prop := e.2.1 < 12 ∧ e.2.2.1 < cS9 e.2.1 ∧ Cond.fieldLink (cnm cx) e.1 (cN9 e.2.1) (cT9 e.2.1 e.2.2.1).2.1 (cT9 e.2.1 e.2.2.1).2.2.1 ∈ lw_tbl ∧ (cT9 e.2.1 e.2.2.1).1 = cN9 e.2.1 ∧ e.2.2.2.1 = ftc e.2.1 e.2.2.1
set_option maxRecDepth 20000 in
theorem fk_0_0 : FK 0 (9, 0, 2, 2, 336) := ⟨Nat.le_of_ble_eq_true rfl, Nat.le_of_ble_eq_true rfl, mt_1 (i := 225) rfl, rfl, rfl⟩
set_option maxRecDepth 20000 in
theorem fk_0_1 : FK 0 (15, 0, 3, 2, 337) := ⟨Nat.le_of_ble_eq_true rfl, Nat.le_of_ble_eq_true rfl, mt_1 (i := 226) rfl, rfl, rfl⟩
set_option maxRecDepth 20000 in
theorem fk_0_2 : FK 0 (18, 0, 4, 0, 338) := ⟨Nat.le_of_ble_eq_true rfl, Nat.le_of_ble_eq_true rfl, mt_1 (i := 227) rfl, rfl, rfl⟩
set_option maxRecDepth 20000 in
theorem fk_0_3 : FK 0 (22, 0, 5, 2, 339) := ⟨Nat.le_of_ble_eq_true rfl, Nat.le_of_ble_eq_true rfl, mt_1 (i := 228) rfl, rfl, rfl⟩
set_option maxRecDepth 20000 in
theorem fk_0_4 : FK 0 (25, 0, 0, 2, 334) := ⟨Nat.le_of_ble_eq_true rfl, Nat.le_of_ble_eq_true rfl, mt_1 (i := 223) rfl, rfl, rfl⟩
set_option maxRecDepth 20000 in
theorem fk_0_5 : FK 0 (34, 0, 1, 2, 335) := ⟨Nat.le_of_ble_eq_true rfl, Nat.le_of_ble_eq_true rfl, mt_1 (i := 224) rfl, rfl, rfl⟩
set_option maxRecDepth 20000 in
theorem fk_0_6 : FK 0 (48, 3, 11, 0, 253) := ⟨Nat.le_of_ble_eq_true rfl, Nat.le_of_ble_eq_true rfl, mt_1 (i := 142) rfl, rfl, rfl⟩
set_option maxRecDepth 20000 in
theorem fk_0_7 : FK 0 (51, 3, 2, 2, 225) := ⟨Nat.le_of_ble_eq_true rfl, Nat.le_of_ble_eq_true rfl, mt_1 (i := 114) rfl, rfl, rfl⟩
set_option maxRecDepth 20000 in
theorem fk_0_8 : FK 0 (61, 3, 9, 2, 248) := ⟨Nat.le_of_ble_eq_true rfl, Nat.le_of_ble_eq_true rfl, mt_1 (i := 137) rfl, rfl, rfl⟩
set_option maxRecDepth 20000 in
theorem fk_0_9 : FK 0 (64, 3, 3, 2, 229) := ⟨Nat.le_of_ble_eq_true rfl, Nat.le_of_ble_eq_true rfl, mt_1 (i := 118) rfl, rfl, rfl⟩
set_option maxRecDepth 20000 in
theorem fk_0_10 : FK 0 (67, 3, 7, 2, 243) := ⟨Nat.le_of_ble_eq_true rfl, Nat.le_of_ble_eq_true rfl, mt_1 (i := 132) rfl, rfl, rfl⟩
set_option maxRecDepth 20000 in
theorem fk_0_11 : FK 0 (70, 3, 8, 2, 246) := ⟨Nat.le_of_ble_eq_true rfl, Nat.le_of_ble_eq_true rfl, mt_1 (i := 135) rfl, rfl, rfl⟩
set_option maxRecDepth 20000 in
theorem fk_0_12 : FK 0 (76, 3, 10, 2, 250) := ⟨Nat.le_of_ble_eq_true rfl, Nat.le_of_ble_eq_true rfl, mt_1 (i := 139) rfl, rfl, rfl⟩
set_option maxRecDepth 20000 in
theorem fk_0_13 : FK 0 (95, 1, 7, 0, 314) := ⟨Nat.le_of_ble_eq_true rfl, Nat.le_of_ble_eq_true rfl, mt_1 (i := 203) rfl, rfl, rfl⟩
set_option maxRecDepth 20000 in
theorem fk_0_14 : FK 0 (98, 1, 4, 2, 308) := ⟨Nat.le_of_ble_eq_true rfl, Nat.le_of_ble_eq_true rfl, mt_1 (i := 197) rfl, rfl, rfl⟩
set_option maxRecDepth 20000 in
theorem fk_0_15 : FK 0 (107, 3, 5, 2, 237) := ⟨Nat.le_of_ble_eq_true rfl, Nat.le_of_ble_eq_true rfl, mt_1 (i := 126) rfl, rfl, rfl⟩
set_option maxRecDepth 20000 in
theorem fk_0_16 : FK 0 (110, 3, 1, 2, 222) := ⟨Nat.le_of_ble_eq_true rfl, Nat.le_of_ble_eq_true rfl, mt_1 (i := 111) rfl, rfl, rfl⟩
set_option maxRecDepth 20000 in
theorem fk_0_17 : FK 0 (111, 3, 6, 2, 240) := ⟨Nat.le_of_ble_eq_true rfl, Nat.le_of_ble_eq_true rfl, mt_1 (i := 129) rfl, rfl, rfl⟩
set_option maxRecDepth 20000 in
theorem fk_0_18 : FK 0 (122, 1, 5, 2, 310) := ⟨Nat.le_of_ble_eq_true rfl, Nat.le_of_ble_eq_true rfl, mt_1 (i := 199) rfl, rfl, rfl⟩
set_option maxRecDepth 20000 in
theorem fk_0_19 : FK 0 (130, 3, 4, 2, 235) := ⟨Nat.le_of_ble_eq_true rfl, Nat.le_of_ble_eq_true rfl, mt_1 (i := 124) rfl, rfl, rfl⟩
set_option maxRecDepth 20000 in
theorem fk_0_20 : FK 0 (136, 1, 6, 2, 312) := ⟨Nat.le_of_ble_eq_true rfl, Nat.le_of_ble_eq_true rfl, mt_1 (i := 201) rfl, rfl, rfl⟩
set_option maxRecDepth 20000 in
theorem fk_0_21 : FK 0 (147, 3, 12, 0, 257) := ⟨Nat.le_of_ble_eq_true rfl, Nat.le_of_ble_eq_true rfl, mt_1 (i := 146) rfl, rfl, rfl⟩
set_option maxRecDepth 20000 in
theorem fk_0 : ∀ e ∈ fTL.getD 0 [], FK 0 e := List.forall_mem_cons.mpr ⟨fk_0_0, List.forall_mem_cons.mpr ⟨fk_0_1, List.forall_mem_cons.mpr ⟨fk_0_2, List.forall_mem_cons.mpr ⟨fk_0_3, List.forall_mem_cons.mpr ⟨fk_0_4, List.forall_mem_cons.mpr ⟨fk_0_5, List.forall_mem_cons.mpr ⟨fk_0_6, List.forall_mem_cons.mpr ⟨fk_0_7, List.forall_mem_cons.mpr ⟨fk_0_8, List.forall_mem_cons.mpr ⟨fk_0_9, List.forall_mem_cons.mpr ⟨fk_0_10, List.forall_mem_cons.mpr ⟨fk_0_11, List.forall_mem_cons.mpr ⟨fk_0_12, List.forall_mem_cons.mpr ⟨fk_0_13, List.forall_mem_cons.mpr ⟨fk_0_14, List.forall_mem_cons.mpr ⟨fk_0_15, List.forall_mem_cons.mpr ⟨fk_0_16, List.forall_mem_cons.mpr ⟨fk_0_17, List.forall_mem_cons.mpr ⟨fk_0_18, List.forall_mem_cons.mpr ⟨fk_0_19, List.forall_mem_cons.mpr ⟨fk_0_20, List.forall_mem_cons.mpr ⟨fk_0_21, fun _ h => absurd h List.not_mem_nil⟩⟩⟩⟩⟩⟩⟩⟩⟩⟩⟩⟩⟩⟩⟩⟩⟩⟩⟩⟩⟩⟩
set_option maxRecDepth 20000 in
theorem fk_1_0 : FK 1 (9, 1, 1, 2, 304) := ⟨Nat.le_of_ble_eq_true rfl, Nat.le_of_ble_eq_true rfl, mt_1 (i := 193) rfl, rfl, rfl⟩
set_option maxRecDepth 20000 in
theorem fk_1_1 : FK 1 (15, 1, 2, 2, 305) := ⟨Nat.le_of_ble_eq_true rfl, Nat.le_of_ble_eq_true rfl, mt_1 (i := 194) rfl, rfl, rfl⟩
set_option maxRecDepth 20000 in
theorem fk_1_2 : FK 1 (19, 1, 3, 0, 306) := ⟨Nat.le_of_ble_eq_true rfl, Nat.le_of_ble_eq_true rfl, mt_1 (i := 195) rfl, rfl, rfl⟩
set_option maxRecDepth 20000 in
theorem fk_1_3 : FK 1 (23, 1, 4, 2, 307) := ⟨Nat.le_of_ble_eq_true rfl, Nat.le_of_ble_eq_true rfl, mt_1 (i := 196) rfl, rfl, rfl⟩
set_option maxRecDepth 20000 in
theorem fk_1_4 : FK 1 (26, 1, 5, 2, 309) := ⟨Nat.le_of_ble_eq_true rfl, Nat.le_of_ble_eq_true rfl, mt_1 (i := 198) rfl, rfl, rfl⟩
set_option maxRecDepth 20000 in
theorem fk_1_5 : FK 1 (29, 1, 6, 2, 311) := ⟨Nat.le_of_ble_eq_true rfl, Nat.le_of_ble_eq_true rfl, mt_1 (i := 200) rfl, rfl, rfl⟩
set_option maxRecDepth 20000 in
theorem fk_1_6 : FK 1 (32, 1, 7, 0, 313) := ⟨Nat.le_of_ble_eq_true rfl, Nat.le_of_ble_eq_true rfl, mt_1 (i := 202) rfl, rfl, rfl⟩
set_option maxRecDepth 20000 in
theorem fk_1_7 : FK 1 (35, 1, 0, 2, 303) := ⟨Nat.le_of_ble_eq_true rfl, Nat.le_of_ble_eq_true rfl, mt_1 (i := 192) rfl, rfl, rfl⟩
set_option maxRecDepth 20000 in
theorem fk_1_8 : FK 1 (39, 3, 7, 2, 242) := ⟨Nat.le_of_ble_eq_true rfl, Nat.le_of_ble_eq_true rfl, mt_1 (i := 131) rfl, rfl, rfl⟩
set_option maxRecDepth 20000 in
theorem fk_1_9 : FK 1 (42, 3, 11, 0, 252) := ⟨Nat.le_of_ble_eq_true rfl, Nat.le_of_ble_eq_true rfl, mt_1 (i := 141) rfl, rfl, rfl⟩
set_option maxRecDepth 20000 in
theorem fk_1_10 : FK 1 (52, 3, 8, 2, 245) := ⟨Nat.le_of_ble_eq_true rfl, Nat.le_of_ble_eq_true rfl, mt_1 (i := 134) rfl, rfl, rfl⟩
set_option maxRecDepth 20000 in
theorem fk_1_11 : FK 1 (53, 3, 1, 2, 221) := ⟨Nat.le_of_ble_eq_true rfl, Nat.le_of_ble_eq_true rfl, mt_1 (i := 110) rfl, rfl, rfl⟩
set_option maxRecDepth 20000 in
theorem fk_1 : ∀ e ∈ fTL.getD 1 [], FK 1 e := List.forall_mem_cons.mpr ⟨fk_1_0, List.forall_mem_cons.mpr ⟨fk_1_1, List.forall_mem_cons.mpr ⟨fk_1_2, List.forall_mem_cons.mpr ⟨fk_1_3, List.forall_mem_cons.mpr ⟨fk_1_4, List.forall_mem_cons.mpr ⟨fk_1_5, List.forall_mem_cons.mpr ⟨fk_1_6, List.forall_mem_cons.mpr ⟨fk_1_7, List.forall_mem_cons.mpr ⟨fk_1_8, List.forall_mem_cons.mpr ⟨fk_1_9, List.forall_mem_cons.mpr ⟨fk_1_10, List.forall_mem_cons.mpr ⟨fk_1_11, fun _ h => absurd h List.not_mem_nil⟩⟩⟩⟩⟩⟩⟩⟩⟩⟩⟩⟩
set_option maxRecDepth 20000 in
theorem fk_2_0 : FK 2 (9, 2, 0, 2, 151) := ⟨Nat.le_of_ble_eq_true rfl, Nat.le_of_ble_eq_true rfl, mt_1 (i := 40) rfl, rfl, rfl⟩
set_option maxRecDepth 20000 in
theorem fk_2_1 : FK 2 (15, 2, 1, 0, 152) := ⟨Nat.le_of_ble_eq_true rfl, Nat.le_of_ble_eq_true rfl, mt_1 (i := 41) rfl, rfl, rfl⟩
set_option maxRecDepth 20000 in
theorem fk_2_2 : FK 2 (19, 2, 2, 0, 154) := ⟨Nat.le_of_ble_eq_true rfl, Nat.le_of_ble_eq_true rfl, mt_1 (i := 43) rfl, rfl, rfl⟩
set_option maxRecDepth 20000 in
theorem fk_2_3 : FK 2 (22, 2, 3, 0, 157) := ⟨Nat.le_of_ble_eq_true rfl, Nat.le_of_ble_eq_true rfl, mt_1 (i := 46) rfl, rfl, rfl⟩
set_option maxRecDepth 20000 in
theorem fk_2_4 : FK 2 (25, 2, 4, 0, 158) := ⟨Nat.le_of_ble_eq_true rfl, Nat.le_of_ble_eq_true rfl, mt_1 (i := 47) rfl, rfl, rfl⟩
set_option maxRecDepth 20000 in
theorem fk_2_5 : FK 2 (28, 2, 5, 0, 159) := ⟨Nat.le_of_ble_eq_true rfl, Nat.le_of_ble_eq_true rfl, mt_1 (i := 48) rfl, rfl, rfl⟩
set_option maxRecDepth 20000 in
theorem fk_2_6 : FK 2 (31, 2, 6, 0, 160) := ⟨Nat.le_of_ble_eq_true rfl, Nat.le_of_ble_eq_true rfl, mt_1 (i := 49) rfl, rfl, rfl⟩
set_option maxRecDepth 20000 in
theorem fk_2_7 : FK 2 (34, 2, 7, 0, 162) := ⟨Nat.le_of_ble_eq_true rfl, Nat.le_of_ble_eq_true rfl, mt_1 (i := 51) rfl, rfl, rfl⟩
set_option maxRecDepth 20000 in
theorem fk_2 : ∀ e ∈ fTL.getD 2 [], FK 2 e := List.forall_mem_cons.mpr ⟨fk_2_0, List.forall_mem_cons.mpr ⟨fk_2_1, List.forall_mem_cons.mpr ⟨fk_2_2, List.forall_mem_cons.mpr ⟨fk_2_3, List.forall_mem_cons.mpr ⟨fk_2_4, List.forall_mem_cons.mpr ⟨fk_2_5, List.forall_mem_cons.mpr ⟨fk_2_6, List.forall_mem_cons.mpr ⟨fk_2_7, fun _ h => absurd h List.not_mem_nil⟩⟩⟩⟩⟩⟩⟩⟩
set_option maxRecDepth 20000 in
theorem fk_3_0 : FK 3 (12, 3, 0, 2, 214) := ⟨Nat.le_of_ble_eq_true rfl, Nat.le_of_ble_eq_true rfl, mt_1 (i := 103) rfl, rfl, rfl⟩
set_option maxRecDepth 20000 in
theorem fk_3_1 : FK 3 (18, 3, 1, 2, 220) := ⟨Nat.le_of_ble_eq_true rfl, Nat.le_of_ble_eq_true rfl, mt_1 (i := 109) rfl, rfl, rfl⟩
set_option maxRecDepth 20000 in
theorem fk_3_2 : FK 3 (22, 3, 2, 2, 224) := ⟨Nat.le_of_ble_eq_true rfl, Nat.le_of_ble_eq_true rfl, mt_1 (i := 113) rfl, rfl, rfl⟩
set_option maxRecDepth 20000 in
theorem fk_3_3 : FK 3 (25, 3, 3, 2, 227) := ⟨Nat.le_of_ble_eq_true rfl, Nat.le_of_ble_eq_true rfl, mt_1 (i := 116) rfl, rfl, rfl⟩
set_option maxRecDepth 20000 in
theorem fk_3_4 : FK 3 (28, 3, 4, 2, 232) := ⟨Nat.le_of_ble_eq_true rfl, Nat.le_of_ble_eq_true rfl, mt_1 (i := 121) rfl, rfl, rfl⟩
set_option maxRecDepth 20000 in
theorem fk_3_5 : FK 3 (31, 3, 5, 2, 236) := ⟨Nat.le_of_ble_eq_true rfl, Nat.le_of_ble_eq_true rfl, mt_1 (i := 125) rfl, rfl, rfl⟩
set_option maxRecDepth 20000 in
theorem fk_3_6 : FK 3 (34, 3, 6, 2, 238) := ⟨Nat.le_of_ble_eq_true rfl, Nat.le_of_ble_eq_true rfl, mt_1 (i := 127) rfl, rfl, rfl⟩
set_option maxRecDepth 20000 in
theorem fk_3_7 : FK 3 (37, 3, 7, 2, 241) := ⟨Nat.le_of_ble_eq_true rfl, Nat.le_of_ble_eq_true rfl, mt_1 (i := 130) rfl, rfl, rfl⟩
set_option maxRecDepth 20000 in
theorem fk_3_8 : FK 3 (40, 3, 8, 2, 244) := ⟨Nat.le_of_ble_eq_true rfl, Nat.le_of_ble_eq_true rfl, mt_1 (i := 133) rfl, rfl, rfl⟩
set_option maxRecDepth 20000 in
theorem fk_3_9 : FK 3 (43, 3, 9, 2, 247) := ⟨Nat.le_of_ble_eq_true rfl, Nat.le_of_ble_eq_true rfl, mt_1 (i := 136) rfl, rfl, rfl⟩
set_option maxRecDepth 20000 in
theorem fk_3_10 : FK 3 (46, 3, 10, 2, 249) := ⟨Nat.le_of_ble_eq_true rfl, Nat.le_of_ble_eq_true rfl, mt_1 (i := 138) rfl, rfl, rfl⟩
set_option maxRecDepth 20000 in
theorem fk_3_11 : FK 3 (49, 3, 11, 0, 251) := ⟨Nat.le_of_ble_eq_true rfl, Nat.le_of_ble_eq_true rfl, mt_1 (i := 140) rfl, rfl, rfl⟩
set_option maxRecDepth 20000 in
theorem fk_3_12 : FK 3 (53, 3, 12, 0, 255) := ⟨Nat.le_of_ble_eq_true rfl, Nat.le_of_ble_eq_true rfl, mt_1 (i := 144) rfl, rfl, rfl⟩
set_option maxRecDepth 20000 in
theorem fk_3_13 : FK 3 (56, 3, 13, 0, 258) := ⟨Nat.le_of_ble_eq_true rfl, Nat.le_of_ble_eq_true rfl, mt_1 (i := 147) rfl, rfl, rfl⟩
set_option maxRecDepth 20000 in
theorem fk_3_14 : FK 3 (59, 3, 14, 0, 259) := ⟨Nat.le_of_ble_eq_true rfl, Nat.le_of_ble_eq_true rfl, mt_1 (i := 148) rfl, rfl, rfl⟩
set_option maxRecDepth 20000 in
theorem fk_3_15 : FK 3 (81, 8, 4, 0, 201) := ⟨Nat.le_of_ble_eq_true rfl, Nat.le_of_ble_eq_true rfl, mt_1 (i := 90) rfl, rfl, rfl⟩
set_option maxRecDepth 20000 in
theorem fk_3 : ∀ e ∈ fTL.getD 3 [], FK 3 e := List.forall_mem_cons.mpr ⟨fk_3_0, List.forall_mem_cons.mpr ⟨fk_3_1, List.forall_mem_cons.mpr ⟨fk_3_2, List.forall_mem_cons.mpr ⟨fk_3_3, List.forall_mem_cons.mpr ⟨fk_3_4, List.forall_mem_cons.mpr ⟨fk_3_5, List.forall_mem_cons.mpr ⟨fk_3_6, List.forall_mem_cons.mpr ⟨fk_3_7, List.forall_mem_cons.mpr ⟨fk_3_8, List.forall_mem_cons.mpr ⟨fk_3_9, List.forall_mem_cons.mpr ⟨fk_3_10, List.forall_mem_cons.mpr ⟨fk_3_11, List.forall_mem_cons.mpr ⟨fk_3_12, List.forall_mem_cons.mpr ⟨fk_3_13, List.forall_mem_cons.mpr ⟨fk_3_14, List.forall_mem_cons.mpr ⟨fk_3_15, fun _ h => absurd h List.not_mem_nil⟩⟩⟩⟩⟩⟩⟩⟩⟩⟩⟩⟩⟩⟩⟩⟩
set_option maxRecDepth 20000 in
theorem fk_4_0 : FK 4 (11, 4, 0, 2, 460) := ⟨Nat.le_of_ble_eq_true rfl, Nat.le_of_ble_eq_true rfl, mt_2 (i := 109) rfl, rfl, rfl⟩
set_option maxRecDepth 20000 in
theorem fk_4_1 : FK 4 (17, 4, 1, 0, 461) := ⟨Nat.le_of_ble_eq_true rfl, Nat.le_of_ble_eq_true rfl, mt_2 (i := 110) rfl, rfl, rfl⟩
set_option maxRecDepth 20000 in
theorem fk_4_2 : FK 4 (21, 4, 2, 0, 462) := ⟨Nat.le_of_ble_eq_true rfl, Nat.le_of_ble_eq_true rfl, mt_2 (i := 111) rfl, rfl, rfl⟩
set_option maxRecDepth 20000 in
theorem fk_4 : ∀ e ∈ fTL.getD 4 [], FK 4 e := List.forall_mem_cons.mpr ⟨fk_4_0, List.forall_mem_cons.mpr ⟨fk_4_1, List.forall_mem_cons.mpr ⟨fk_4_2, fun _ h => absurd h List.not_mem_nil⟩⟩⟩
set_option maxRecDepth 20000 in
theorem fk_5_0 : FK 5 (9, 5, 1, 2, 408) := ⟨Nat.le_of_ble_eq_true rfl, Nat.le_of_ble_eq_true rfl, mt_2 (i := 57) rfl, rfl, rfl⟩
set_option maxRecDepth 20000 in
theorem fk_5_1 : FK 5 (15, 5, 2, 2, 409) := ⟨Nat.le_of_ble_eq_true rfl, Nat.le_of_ble_eq_true rfl, mt_2 (i := 58) rfl, rfl, rfl⟩
set_option maxRecDepth 20000 in
theorem fk_5_2 : FK 5 (18, 5, 3, 2, 410) := ⟨Nat.le_of_ble_eq_true rfl, Nat.le_of_ble_eq_true rfl, mt_2 (i := 59) rfl, rfl, rfl⟩
set_option maxRecDepth 20000 in
theorem fk_5_3 : FK 5 (22, 5, 4, 0, 412) := ⟨Nat.le_of_ble_eq_true rfl, Nat.le_of_ble_eq_true rfl, mt_2 (i := 61) rfl, rfl, rfl⟩
set_option maxRecDepth 20000 in
theorem fk_5_4 : FK 5 (26, 5, 0, 2, 407) := ⟨Nat.le_of_ble_eq_true rfl, Nat.le_of_ble_eq_true rfl, mt_2 (i := 56) rfl, rfl, rfl⟩
set_option maxRecDepth 20000 in
theorem fk_5_5 : FK 5 (43, 3, 3, 2, 228) := ⟨Nat.le_of_ble_eq_true rfl, Nat.le_of_ble_eq_true rfl, mt_1 (i := 117) rfl, rfl, rfl⟩
set_option maxRecDepth 20000 in
theorem fk_5_6 : FK 5 (46, 3, 6, 2, 239) := ⟨Nat.le_of_ble_eq_true rfl, Nat.le_of_ble_eq_true rfl, mt_1 (i := 128) rfl, rfl, rfl⟩
set_option maxRecDepth 20000 in
theorem fk_5_7 : FK 5 (49, 3, 4, 2, 234) := ⟨Nat.le_of_ble_eq_true rfl, Nat.le_of_ble_eq_true rfl, mt_1 (i := 123) rfl, rfl, rfl⟩
set_option maxRecDepth 20000 in
theorem fk_5_8 : FK 5 (52, 3, 0, 2, 217) := ⟨Nat.le_of_ble_eq_true rfl, Nat.le_of_ble_eq_true rfl, mt_1 (i := 106) rfl, rfl, rfl⟩
set_option maxRecDepth 20000 in
theorem fk_5 : ∀ e ∈ fTL.getD 5 [], FK 5 e := List.forall_mem_cons.mpr ⟨fk_5_0, List.forall_mem_cons.mpr ⟨fk_5_1, List.forall_mem_cons.mpr ⟨fk_5_2, List.forall_mem_cons.mpr ⟨fk_5_3, List.forall_mem_cons.mpr ⟨fk_5_4, List.forall_mem_cons.mpr ⟨fk_5_5, List.forall_mem_cons.mpr ⟨fk_5_6, List.forall_mem_cons.mpr ⟨fk_5_7, List.forall_mem_cons.mpr ⟨fk_5_8, fun _ h => absurd h List.not_mem_nil⟩⟩⟩⟩⟩⟩⟩⟩⟩
set_option maxRecDepth 20000 in
theorem fk_6_0 : FK 6 (9, 6, 0, 2, 435) := ⟨Nat.le_of_ble_eq_true rfl, Nat.le_of_ble_eq_true rfl, mt_2 (i := 84) rfl, rfl, rfl⟩
set_option maxRecDepth 20000 in
theorem fk_6_1 : FK 6 (15, 6, 1, 2, 436) := ⟨Nat.le_of_ble_eq_true rfl, Nat.le_of_ble_eq_true rfl, mt_2 (i := 85) rfl, rfl, rfl⟩
set_option maxRecDepth 20000 in
theorem fk_6_2 : FK 6 (19, 3, 0, 2, 215) := ⟨Nat.le_of_ble_eq_true rfl, Nat.le_of_ble_eq_true rfl, mt_1 (i := 104) rfl, rfl, rfl⟩
set_option maxRecDepth 20000 in
theorem fk_6_3 : FK 6 (25, 6, 2, 2, 437) := ⟨Nat.le_of_ble_eq_true rfl, Nat.le_of_ble_eq_true rfl, mt_2 (i := 86) rfl, rfl, rfl⟩
set_option maxRecDepth 20000 in
theorem fk_6_4 : FK 6 (31, 6, 3, 2, 438) := ⟨Nat.le_of_ble_eq_true rfl, Nat.le_of_ble_eq_true rfl, mt_2 (i := 87) rfl, rfl, rfl⟩
set_option maxRecDepth 20000 in
theorem fk_6_5 : FK 6 (38, 6, 4, 2, 439) := ⟨Nat.le_of_ble_eq_true rfl, Nat.le_of_ble_eq_true rfl, mt_2 (i := 88) rfl, rfl, rfl⟩
set_option maxRecDepth 20000 in
theorem fk_6_6 : FK 6 (42, 8, 4, 0, 199) := ⟨Nat.le_of_ble_eq_true rfl, Nat.le_of_ble_eq_true rfl, mt_1 (i := 88) rfl, rfl, rfl⟩
set_option maxRecDepth 20000 in
theorem fk_6_7 : FK 6 (102, 2, 2, 0, 156) := ⟨Nat.le_of_ble_eq_true rfl, Nat.le_of_ble_eq_true rfl, mt_1 (i := 45) rfl, rfl, rfl⟩
set_option maxRecDepth 20000 in
theorem fk_6_8 : FK 6 (141, 9, 1, 0, 362) := ⟨Nat.le_of_ble_eq_true rfl, Nat.le_of_ble_eq_true rfl, mt_2 (i := 11) rfl, rfl, rfl⟩
set_option maxRecDepth 20000 in
theorem fk_6_9 : FK 6 (144, 9, 2, 0, 366) := ⟨Nat.le_of_ble_eq_true rfl, Nat.le_of_ble_eq_true rfl, mt_2 (i := 15) rfl, rfl, rfl⟩
set_option maxRecDepth 20000 in
theorem fk_6 : ∀ e ∈ fTL.getD 6 [], FK 6 e := List.forall_mem_cons.mpr ⟨fk_6_0, List.forall_mem_cons.mpr ⟨fk_6_1, List.forall_mem_cons.mpr ⟨fk_6_2, List.forall_mem_cons.mpr ⟨fk_6_3, List.forall_mem_cons.mpr ⟨fk_6_4, List.forall_mem_cons.mpr ⟨fk_6_5, List.forall_mem_cons.mpr ⟨fk_6_6, List.forall_mem_cons.mpr ⟨fk_6_7, List.forall_mem_cons.mpr ⟨fk_6_8, List.forall_mem_cons.mpr ⟨fk_6_9, fun _ h => absurd h List.not_mem_nil⟩⟩⟩⟩⟩⟩⟩⟩⟩⟩
set_option maxRecDepth 20000 in
theorem fk_7_0 : FK 7 (9, 7, 2, 2, 387) := ⟨Nat.le_of_ble_eq_true rfl, Nat.le_of_ble_eq_true rfl, mt_2 (i := 36) rfl, rfl, rfl⟩
set_option maxRecDepth 20000 in
theorem fk_7_1 : FK 7 (15, 7, 3, 2, 388) := ⟨Nat.le_of_ble_eq_true rfl, Nat.le_of_ble_eq_true rfl, mt_2 (i := 37) rfl, rfl, rfl⟩
set_option maxRecDepth 20000 in
theorem fk_7_2 : FK 7 (18, 7, 4, 0, 389) := ⟨Nat.le_of_ble_eq_true rfl, Nat.le_of_ble_eq_true rfl, mt_2 (i := 38) rfl, rfl, rfl⟩
set_option maxRecDepth 20000 in
theorem fk_7_3 : FK 7 (22, 7, 0, 2, 385) := ⟨Nat.le_of_ble_eq_true rfl, Nat.le_of_ble_eq_true rfl, mt_2 (i := 34) rfl, rfl, rfl⟩
set_option maxRecDepth 20000 in
theorem fk_7_4 : FK 7 (31, 7, 1, 2, 386) := ⟨Nat.le_of_ble_eq_true rfl, Nat.le_of_ble_eq_true rfl, mt_2 (i := 35) rfl, rfl, rfl⟩
set_option maxRecDepth 20000 in
theorem fk_7_5 : FK 7 (46, 9, 1, 0, 361) := ⟨Nat.le_of_ble_eq_true rfl, Nat.le_of_ble_eq_true rfl, mt_2 (i := 10) rfl, rfl, rfl⟩
set_option maxRecDepth 20000 in
theorem fk_7_6 : FK 7 (49, 9, 2, 0, 365) := ⟨Nat.le_of_ble_eq_true rfl, Nat.le_of_ble_eq_true rfl, mt_2 (i := 14) rfl, rfl, rfl⟩
set_option maxRecDepth 20000 in
theorem fk_7_7 : FK 7 (52, 3, 3, 2, 230) := ⟨Nat.le_of_ble_eq_true rfl, Nat.le_of_ble_eq_true rfl, mt_1 (i := 119) rfl, rfl, rfl⟩
set_option maxRecDepth 20000 in
theorem fk_7_8 : FK 7 (57, 3, 0, 2, 218) := ⟨Nat.le_of_ble_eq_true rfl, Nat.le_of_ble_eq_true rfl, mt_1 (i := 107) rfl, rfl, rfl⟩
set_option maxRecDepth 20000 in
theorem fk_7 : ∀ e ∈ fTL.getD 7 [], FK 7 e := List.forall_mem_cons.mpr ⟨fk_7_0, List.forall_mem_cons.mpr ⟨fk_7_1, List.forall_mem_cons.mpr ⟨fk_7_2, List.forall_mem_cons.mpr ⟨fk_7_3, List.forall_mem_cons.mpr ⟨fk_7_4, List.forall_mem_cons.mpr ⟨fk_7_5, List.forall_mem_cons.mpr ⟨fk_7_6, List.forall_mem_cons.mpr ⟨fk_7_7, List.forall_mem_cons.mpr ⟨fk_7_8, fun _ h => absurd h List.not_mem_nil⟩⟩⟩⟩⟩⟩⟩⟩⟩
set_option maxRecDepth 20000 in
theorem fk_8_0 : FK 8 (9, 8, 0, 2, 194) := ⟨Nat.le_of_ble_eq_true rfl, Nat.le_of_ble_eq_true rfl, mt_1 (i := 83) rfl, rfl, rfl⟩
set_option maxRecDepth 20000 in
theorem fk_8_1 : FK 8 (15, 8, 1, 2, 195) := ⟨Nat.le_of_ble_eq_true rfl, Nat.le_of_ble_eq_true rfl, mt_1 (i := 84) rfl, rfl, rfl⟩
set_option maxRecDepth 20000 in
theorem fk_8_2 : FK 8 (18, 8, 2, 2, 196) := ⟨Nat.le_of_ble_eq_true rfl, Nat.le_of_ble_eq_true rfl, mt_1 (i := 85) rfl, rfl, rfl⟩
set_option maxRecDepth 20000 in
theorem fk_8_3 : FK 8 (21, 8, 3, 2, 197) := ⟨Nat.le_of_ble_eq_true rfl, Nat.le_of_ble_eq_true rfl, mt_1 (i := 86) rfl, rfl, rfl⟩
set_option maxRecDepth 20000 in
theorem fk_8_4 : FK 8 (24, 8, 4, 0, 198) := ⟨Nat.le_of_ble_eq_true rfl, Nat.le_of_ble_eq_true rfl, mt_1 (i := 87) rfl, rfl, rfl⟩
set_option maxRecDepth 20000 in
theorem fk_8 : ∀ e ∈ fTL.getD 8 [], FK 8 e := List.forall_mem_cons.mpr ⟨fk_8_0, List.forall_mem_cons.mpr ⟨fk_8_1, List.forall_mem_cons.mpr ⟨fk_8_2, List.forall_mem_cons.mpr ⟨fk_8_3, List.forall_mem_cons.mpr ⟨fk_8_4, fun _ h => absurd h List.not_mem_nil⟩⟩⟩⟩⟩
set_option maxRecDepth 20000 in
theorem fk_9_0 : FK 9 (9, 9, 1, 0, 360) := ⟨Nat.le_of_ble_eq_true rfl, Nat.le_of_ble_eq_true rfl, mt_2 (i := 9) rfl, rfl, rfl⟩
set_option maxRecDepth 20000 in
theorem fk_9_1 : FK 9 (15, 9, 2, 0, 364) := ⟨Nat.le_of_ble_eq_true rfl, Nat.le_of_ble_eq_true rfl, mt_2 (i := 13) rfl, rfl, rfl⟩
set_option maxRecDepth 20000 in
theorem fk_9_2 : FK 9 (18, 9, 0, 2, 359) := ⟨Nat.le_of_ble_eq_true rfl, Nat.le_of_ble_eq_true rfl, mt_2 (i := 8) rfl, rfl, rfl⟩
set_option maxRecDepth 20000 in
theorem fk_9_3 : FK 9 (28, 3, 4, 2, 233) := ⟨Nat.le_of_ble_eq_true rfl, Nat.le_of_ble_eq_true rfl, mt_1 (i := 122) rfl, rfl, rfl⟩
set_option maxRecDepth 20000 in
theorem fk_9_4 : FK 9 (50, 2, 2, 0, 155) := ⟨Nat.le_of_ble_eq_true rfl, Nat.le_of_ble_eq_true rfl, mt_1 (i := 44) rfl, rfl, rfl⟩
set_option maxRecDepth 20000 in
theorem fk_9_5 : FK 9 (67, 3, 0, 2, 219) := ⟨Nat.le_of_ble_eq_true rfl, Nat.le_of_ble_eq_true rfl, mt_1 (i := 108) rfl, rfl, rfl⟩
set_option maxRecDepth 20000 in
theorem fk_9_6 : FK 9 (71, 3, 3, 2, 231) := ⟨Nat.le_of_ble_eq_true rfl, Nat.le_of_ble_eq_true rfl, mt_1 (i := 120) rfl, rfl, rfl⟩
set_option maxRecDepth 20000 in
theorem fk_9 : ∀ e ∈ fTL.getD 9 [], FK 9 e := List.forall_mem_cons.mpr ⟨fk_9_0, List.forall_mem_cons.mpr ⟨fk_9_1, List.forall_mem_cons.mpr ⟨fk_9_2, List.forall_mem_cons.mpr ⟨fk_9_3, List.forall_mem_cons.mpr ⟨fk_9_4, List.forall_mem_cons.mpr ⟨fk_9_5, List.forall_mem_cons.mpr ⟨fk_9_6, fun _ h => absurd h List.not_mem_nil⟩⟩⟩⟩⟩⟩⟩
set_option maxRecDepth 20000 in
theorem fk_10_0 : FK 10 (12, 10, 0, 2, 487) := ⟨Nat.le_of_ble_eq_true rfl, Nat.le_of_ble_eq_true rfl, mt_2 (i := 136) rfl, rfl, rfl⟩
set_option maxRecDepth 20000 in
theorem fk_10_1 : FK 10 (16, 10, 1, 0, 488) := ⟨Nat.le_of_ble_eq_true rfl, Nat.le_of_ble_eq_true rfl, mt_2 (i := 137) rfl, rfl, rfl⟩
set_option maxRecDepth 20000 in
theorem fk_10_2 : FK 10 (23, 10, 2, 2, 489) := ⟨Nat.le_of_ble_eq_true rfl, Nat.le_of_ble_eq_true rfl, mt_2 (i := 138) rfl, rfl, rfl⟩
set_option maxRecDepth 20000 in
theorem fk_10_3 : FK 10 (32, 10, 3, 2, 490) := ⟨Nat.le_of_ble_eq_true rfl, Nat.le_of_ble_eq_true rfl, mt_2 (i := 139) rfl, rfl, rfl⟩
set_option maxRecDepth 20000 in
theorem fk_10_4 : FK 10 (39, 10, 4, 2, 491) := ⟨Nat.le_of_ble_eq_true rfl, Nat.le_of_ble_eq_true rfl, mt_2 (i := 140) rfl, rfl, rfl⟩
set_option maxRecDepth 20000 in
theorem fk_10_5 : FK 10 (46, 10, 5, 2, 492) := ⟨Nat.le_of_ble_eq_true rfl, Nat.le_of_ble_eq_true rfl, mt_2 (i := 141) rfl, rfl, rfl⟩
set_option maxRecDepth 20000 in
theorem fk_10_6 : FK 10 (53, 10, 6, 2, 493) := ⟨Nat.le_of_ble_eq_true rfl, Nat.le_of_ble_eq_true rfl, mt_2 (i := 142) rfl, rfl, rfl⟩
set_option maxRecDepth 20000 in
theorem fk_10_7 : FK 10 (60, 10, 7, 2, 494) := ⟨Nat.le_of_ble_eq_true rfl, Nat.le_of_ble_eq_true rfl, mt_2 (i := 143) rfl, rfl, rfl⟩
set_option maxRecDepth 20000 in
theorem fk_10_8 : FK 10 (64, 10, 8, 2, 495) := ⟨Nat.le_of_ble_eq_true rfl, Nat.le_of_ble_eq_true rfl, mt_2 (i := 144) rfl, rfl, rfl⟩
set_option maxRecDepth 20000 in
theorem fk_10_9 : FK 10 (72, 10, 9, 2, 496) := ⟨Nat.le_of_ble_eq_true rfl, Nat.le_of_ble_eq_true rfl, mt_2 (i := 145) rfl, rfl, rfl⟩
set_option maxRecDepth 20000 in
theorem fk_10_10 : FK 10 (79, 10, 10, 2, 497) := ⟨Nat.le_of_ble_eq_true rfl, Nat.le_of_ble_eq_true rfl, mt_2 (i := 146) rfl, rfl, rfl⟩
set_option maxRecDepth 20000 in
theorem fk_10_11 : FK 10 (83, 3, 0, 2, 216) := ⟨Nat.le_of_ble_eq_true rfl, Nat.le_of_ble_eq_true rfl, mt_1 (i := 105) rfl, rfl, rfl⟩
set_option maxRecDepth 20000 in
theorem fk_10_12 : FK 10 (103, 2, 1, 0, 153) := ⟨Nat.le_of_ble_eq_true rfl, Nat.le_of_ble_eq_true rfl, mt_1 (i := 42) rfl, rfl, rfl⟩
set_option maxRecDepth 20000 in
theorem fk_10_13 : FK 10 (119, 2, 7, 0, 163) := ⟨Nat.le_of_ble_eq_true rfl, Nat.le_of_ble_eq_true rfl, mt_1 (i := 52) rfl, rfl, rfl⟩
set_option maxRecDepth 20000 in
theorem fk_10_14 : FK 10 (120, 2, 6, 0, 161) := ⟨Nat.le_of_ble_eq_true rfl, Nat.le_of_ble_eq_true rfl, mt_1 (i := 50) rfl, rfl, rfl⟩
set_option maxRecDepth 20000 in
theorem fk_10_15 : FK 10 (129, 3, 11, 0, 254) := ⟨Nat.le_of_ble_eq_true rfl, Nat.le_of_ble_eq_true rfl, mt_1 (i := 143) rfl, rfl, rfl⟩
set_option maxRecDepth 20000 in
theorem fk_10_16 : FK 10 (160, 8, 4, 0, 200) := ⟨Nat.le_of_ble_eq_true rfl, Nat.le_of_ble_eq_true rfl, mt_1 (i := 89) rfl, rfl, rfl⟩
set_option maxRecDepth 20000 in
theorem fk_10_17 : FK 10 (187, 3, 1, 2, 223) := ⟨Nat.le_of_ble_eq_true rfl, Nat.le_of_ble_eq_true rfl, mt_1 (i := 112) rfl, rfl, rfl⟩
set_option maxRecDepth 20000 in
theorem fk_10_18 : FK 10 (207, 9, 1, 0, 363) := ⟨Nat.le_of_ble_eq_true rfl, Nat.le_of_ble_eq_true rfl, mt_2 (i := 12) rfl, rfl, rfl⟩
set_option maxRecDepth 20000 in
theorem fk_10_19 : FK 10 (210, 9, 2, 0, 367) := ⟨Nat.le_of_ble_eq_true rfl, Nat.le_of_ble_eq_true rfl, mt_2 (i := 16) rfl, rfl, rfl⟩
set_option maxRecDepth 20000 in
theorem fk_10_20 : FK 10 (213, 3, 12, 0, 256) := ⟨Nat.le_of_ble_eq_true rfl, Nat.le_of_ble_eq_true rfl, mt_1 (i := 145) rfl, rfl, rfl⟩
set_option maxRecDepth 20000 in
theorem fk_10_21 : FK 10 (221, 3, 2, 2, 226) := ⟨Nat.le_of_ble_eq_true rfl, Nat.le_of_ble_eq_true rfl, mt_1 (i := 115) rfl, rfl, rfl⟩
set_option maxRecDepth 20000 in
theorem fk_10_22 : FK 10 (230, 1, 7, 0, 315) := ⟨Nat.le_of_ble_eq_true rfl, Nat.le_of_ble_eq_true rfl, mt_1 (i := 204) rfl, rfl, rfl⟩
set_option maxRecDepth 20000 in
theorem fk_10_23 : FK 10 (238, 5, 4, 0, 413) := ⟨Nat.le_of_ble_eq_true rfl, Nat.le_of_ble_eq_true rfl, mt_2 (i := 62) rfl, rfl, rfl⟩
set_option maxRecDepth 20000 in
theorem fk_10_24 : FK 10 (243, 5, 3, 2, 411) := ⟨Nat.le_of_ble_eq_true rfl, Nat.le_of_ble_eq_true rfl, mt_2 (i := 60) rfl, rfl, rfl⟩
set_option maxRecDepth 20000 in
theorem fk_10_25 : FK 10 (278, 4, 2, 0, 463) := ⟨Nat.le_of_ble_eq_true rfl, Nat.le_of_ble_eq_true rfl, mt_2 (i := 112) rfl, rfl, rfl⟩
set_option maxRecDepth 20000 in
theorem fk_10 : ∀ e ∈ fTL.getD 10 [], FK 10 e := List.forall_mem_cons.mpr ⟨fk_10_0, List.forall_mem_cons.mpr ⟨fk_10_1, List.forall_mem_cons.mpr ⟨fk_10_2, List.forall_mem_cons.mpr ⟨fk_10_3, List.forall_mem_cons.mpr ⟨fk_10_4, List.forall_mem_cons.mpr ⟨fk_10_5, List.forall_mem_cons.mpr ⟨fk_10_6, List.forall_mem_cons.mpr ⟨fk_10_7, List.forall_mem_cons.mpr ⟨fk_10_8, List.forall_mem_cons.mpr ⟨fk_10_9, List.forall_mem_cons.mpr ⟨fk_10_10, List.forall_mem_cons.mpr ⟨fk_10_11, List.forall_mem_cons.mpr ⟨fk_10_12, List.forall_mem_cons.mpr ⟨fk_10_13, List.forall_mem_cons.mpr ⟨fk_10_14, List.forall_mem_cons.mpr ⟨fk_10_15, List.forall_mem_cons.mpr ⟨fk_10_16, List.forall_mem_cons.mpr ⟨fk_10_17, List.forall_mem_cons.mpr ⟨fk_10_18, List.forall_mem_cons.mpr ⟨fk_10_19, List.forall_mem_cons.mpr ⟨fk_10_20, List.forall_mem_cons.mpr ⟨fk_10_21, List.forall_mem_cons.mpr ⟨fk_10_22, List.forall_mem_cons.mpr ⟨fk_10_23, List.forall_mem_cons.mpr ⟨fk_10_24, List.forall_mem_cons.mpr ⟨fk_10_25, fun _ h => absurd h List.not_mem_nil⟩⟩⟩⟩⟩⟩⟩⟩⟩⟩⟩⟩⟩⟩⟩⟩⟩⟩⟩⟩⟩⟩⟩⟩⟩⟩
set_option maxRecDepth 20000 in
theorem fk_11_0 : FK 11 (7, 11, 1, 2, 1298) := ⟨Nat.le_of_ble_eq_true rfl, Nat.le_of_ble_eq_true rfl, mt_5 (i := 227) rfl, rfl, rfl⟩
set_option maxRecDepth 20000 in
theorem fk_11_1 : FK 11 (13, 11, 4, 2, 1301) := ⟨Nat.le_of_ble_eq_true rfl, Nat.le_of_ble_eq_true rfl, mt_5 (i := 230) rfl, rfl, rfl⟩
set_option maxRecDepth 20000 in
theorem fk_11_2 : FK 11 (17, 11, 5, 2, 1302) := ⟨Nat.le_of_ble_eq_true rfl, Nat.le_of_ble_eq_true rfl, mt_5 (i := 231) rfl, rfl, rfl⟩
set_option maxRecDepth 20000 in
theorem fk_11_3 : FK 11 (20, 11, 6, 2, 1303) := ⟨Nat.le_of_ble_eq_true rfl, Nat.le_of_ble_eq_true rfl, mt_5 (i := 232) rfl, rfl, rfl⟩
set_option maxRecDepth 20000 in
theorem fk_11_4 : FK 11 (23, 11, 7, 2, 1304) := ⟨Nat.le_of_ble_eq_true rfl, Nat.le_of_ble_eq_true rfl, mt_5 (i := 233) rfl, rfl, rfl⟩
set_option maxRecDepth 20000 in
theorem fk_11_5 : FK 11 (26, 11, 9, 2, 1306) := ⟨Nat.le_of_ble_eq_true rfl, Nat.le_of_ble_eq_true rfl, mt_5 (i := 235) rfl, rfl, rfl⟩
set_option maxRecDepth 20000 in
theorem fk_11_6 : FK 11 (29, 11, 10, 2, 1307) := ⟨Nat.le_of_ble_eq_true rfl, Nat.le_of_ble_eq_true rfl, mt_5 (i := 236) rfl, rfl, rfl⟩
set_option maxRecDepth 20000 in
theorem fk_11_7 : FK 11 (32, 11, 13, 2, 1310) := ⟨Nat.le_of_ble_eq_true rfl, Nat.le_of_ble_eq_true rfl, mt_5 (i := 239) rfl, rfl, rfl⟩
set_option maxRecDepth 20000 in
theorem fk_11_8 : FK 11 (35, 11, 15, 0, 1312) := ⟨Nat.le_of_ble_eq_true rfl, Nat.le_of_ble_eq_true rfl, mt_6 (i := 1) rfl, rfl, rfl⟩
set_option maxRecDepth 20000 in
theorem fk_11_9 : FK 11 (39, 11, 23, 2, 1320) := ⟨Nat.le_of_ble_eq_true rfl, Nat.le_of_ble_eq_true rfl, mt_6 (i := 9) rfl, rfl, rfl⟩
set_option maxRecDepth 20000 in
theorem fk_11_10 : FK 11 (42, 11, 24, 2, 1321) := ⟨Nat.le_of_ble_eq_true rfl, Nat.le_of_ble_eq_true rfl, mt_6 (i := 10) rfl, rfl, rfl⟩
set_option maxRecDepth 20000 in
theorem fk_11_11 : FK 11 (45, 11, 25, 2, 1322) := ⟨Nat.le_of_ble_eq_true rfl, Nat.le_of_ble_eq_true rfl, mt_6 (i := 11) rfl, rfl, rfl⟩
set_option maxRecDepth 20000 in
theorem fk_11_12 : FK 11 (48, 11, 26, 2, 1323) := ⟨Nat.le_of_ble_eq_true rfl, Nat.le_of_ble_eq_true rfl, mt_6 (i := 12) rfl, rfl, rfl⟩
set_option maxRecDepth 20000 in
theorem fk_11_13 : FK 11 (62, 11, 0, 0, 1297) := ⟨Nat.le_of_ble_eq_true rfl, Nat.le_of_ble_eq_true rfl, mt_5 (i := 226) rfl, rfl, rfl⟩
set_option maxRecDepth 20000 in
theorem fk_11_14 : FK 11 (65, 11, 2, 0, 1299) := ⟨Nat.le_of_ble_eq_true rfl, Nat.le_of_ble_eq_true rfl, mt_5 (i := 228) rfl, rfl, rfl⟩
set_option maxRecDepth 20000 in
theorem fk_11_15 : FK 11 (71, 11, 3, 0, 1300) := ⟨Nat.le_of_ble_eq_true rfl, Nat.le_of_ble_eq_true rfl, mt_5 (i := 229) rfl, rfl, rfl⟩
set_option maxRecDepth 20000 in
theorem fk_11_16 : FK 11 (129, 11, 8, 0, 1305) := ⟨Nat.le_of_ble_eq_true rfl, Nat.le_of_ble_eq_true rfl, mt_5 (i := 234) rfl, rfl, rfl⟩
set_option maxRecDepth 20000 in
theorem fk_11_17 : FK 11 (187, 11, 11, 0, 1308) := ⟨Nat.le_of_ble_eq_true rfl, Nat.le_of_ble_eq_true rfl, mt_5 (i := 237) rfl, rfl, rfl⟩
set_option maxRecDepth 20000 in
theorem fk_11_18 : FK 11 (190, 11, 12, 0, 1309) := ⟨Nat.le_of_ble_eq_true rfl, Nat.le_of_ble_eq_true rfl, mt_5 (i := 238) rfl, rfl, rfl⟩
set_option maxRecDepth 20000 in
theorem fk_11_19 : FK 11 (196, 11, 14, 0, 1311) := ⟨Nat.le_of_ble_eq_true rfl, Nat.le_of_ble_eq_true rfl, mt_6 (i := 0) rfl, rfl, rfl⟩
set_option maxRecDepth 20000 in
theorem fk_11_20 : FK 11 (199, 11, 18, 0, 1315) := ⟨Nat.le_of_ble_eq_true rfl, Nat.le_of_ble_eq_true rfl, mt_6 (i := 4) rfl, rfl, rfl⟩
set_option maxRecDepth 20000 in
theorem fk_11_21 : FK 11 (202, 11, 19, 0, 1316) := ⟨Nat.le_of_ble_eq_true rfl, Nat.le_of_ble_eq_true rfl, mt_6 (i := 5) rfl, rfl, rfl⟩
set_option maxRecDepth 20000 in
theorem fk_11_22 : FK 11 (205, 11, 17, 0, 1314) := ⟨Nat.le_of_ble_eq_true rfl, Nat.le_of_ble_eq_true rfl, mt_6 (i := 3) rfl, rfl, rfl⟩
set_option maxRecDepth 20000 in
theorem fk_11_23 : FK 11 (208, 11, 16, 0, 1313) := ⟨Nat.le_of_ble_eq_true rfl, Nat.le_of_ble_eq_true rfl, mt_6 (i := 2) rfl, rfl, rfl⟩
set_option maxRecDepth 20000 in
theorem fk_11_24 : FK 11 (229, 11, 21, 0, 1318) := ⟨Nat.le_of_ble_eq_true rfl, Nat.le_of_ble_eq_true rfl, mt_6 (i := 7) rfl, rfl, rfl⟩
set_option maxRecDepth 20000 in
theorem fk_11_25 : FK 11 (232, 11, 22, 0, 1319) := ⟨Nat.le_of_ble_eq_true rfl, Nat.le_of_ble_eq_true rfl, mt_6 (i := 8) rfl, rfl, rfl⟩
set_option maxRecDepth 20000 in
theorem fk_11_26 : FK 11 (251, 11, 20, 0, 1317) := ⟨Nat.le_of_ble_eq_true rfl, Nat.le_of_ble_eq_true rfl, mt_6 (i := 6) rfl, rfl, rfl⟩
set_option maxRecDepth 20000 in
theorem fk_11_27 : FK 11 (353, 11, 27, 0, 1324) := ⟨Nat.le_of_ble_eq_true rfl, Nat.le_of_ble_eq_true rfl, mt_6 (i := 13) rfl, rfl, rfl⟩
set_option maxRecDepth 20000 in
theorem fk_11_28 : FK 11 (376, 11, 28, 1, 1325) := ⟨Nat.le_of_ble_eq_true rfl, Nat.le_of_ble_eq_true rfl, mt_6 (i := 14) rfl, rfl, rfl⟩
set_option maxRecDepth 20000 in
theorem fk_11 : ∀ e ∈ fTL.getD 11 [], FK 11 e := List.forall_mem_cons.mpr ⟨fk_11_0, List.forall_mem_cons.mpr ⟨fk_11_1, List.forall_mem_cons.mpr ⟨fk_11_2, List.forall_mem_cons.mpr ⟨fk_11_3, List.forall_mem_cons.mpr ⟨fk_11_4, List.forall_mem_cons.mpr ⟨fk_11_5, List.forall_mem_cons.mpr ⟨fk_11_6, List.forall_mem_cons.mpr ⟨fk_11_7, List.forall_mem_cons.mpr ⟨fk_11_8, List.forall_mem_cons.mpr ⟨fk_11_9, List.forall_mem_cons.mpr ⟨fk_11_10, List.forall_mem_cons.mpr ⟨fk_11_11, List.forall_mem_cons.mpr ⟨fk_11_12, List.forall_mem_cons.mpr ⟨fk_11_13, List.forall_mem_cons.mpr ⟨fk_11_14, List.forall_mem_cons.mpr ⟨fk_11_15, List.forall_mem_cons.mpr ⟨fk_11_16, List.forall_mem_cons.mpr ⟨fk_11_17, List.forall_mem_cons.mpr ⟨fk_11_18, List.forall_mem_cons.mpr ⟨fk_11_19, List.forall_mem_cons.mpr ⟨fk_11_20, List.forall_mem_cons.mpr ⟨fk_11_21, List.forall_mem_cons.mpr ⟨fk_11_22, List.forall_mem_cons.mpr ⟨fk_11_23, List.forall_mem_cons.mpr ⟨fk_11_24, List.forall_mem_cons.mpr ⟨fk_11_25, List.forall_mem_cons.mpr ⟨fk_11_26, List.forall_mem_cons.mpr ⟨fk_11_27, List.forall_mem_cons.mpr ⟨fk_11_28, fun _ h => absurd h List.not_mem_nil⟩⟩⟩⟩⟩⟩⟩⟩⟩⟩⟩⟩⟩⟩⟩⟩⟩⟩⟩⟩⟩⟩⟩⟩⟩⟩⟩⟩⟩
set_option maxRecDepth 20000 in
theorem fk_12 : ∀ e ∈ fTL.getD 12 [], FK 12 e := fun _ h => absurd h List.not_mem_nil
set_option maxRecDepth 20000 in
theorem fk_all (cx : Nat) (hc : cx < 13) : ∀ e ∈ fTL.getD cx [], FK cx e := by
  match cx, hc with
  | 0, _ => exact fk_0
  | 1, _ => exact fk_1
  | 2, _ => exact fk_2
  | 3, _ => exact fk_3
  | 4, _ => exact fk_4
  | 5, _ => exact fk_5
  | 6, _ => exact fk_6
  | 7, _ => exact fk_7
  | 8, _ => exact fk_8
  | 9, _ => exact fk_9
  | 10, _ => exact fk_10
  | 11, _ => exact fk_11
  | 12, _ => exact fk_12
def CK (cx : Nat) (e : Nat × Nat × Nat × Nat × Nat × Nat) : Prop := (e.2.1 = 0 ∧ e.2.2.1 < 12 ∧ Cond.classLink (cnm cx) e.1 (cN9 e.2.2.1) ∈ lw_tbl ∧ Cond.instantiable (cN9 e.2.2.1) (cS9 e.2.2.1) ∈ lw_tbl ∧ Cond.initialized (cN9 e.2.2.1) ∈ lw_tbl) ∨
  (e.2.1 = 1 ∧ e.2.2.1 < 4 ∧ Cond.classLink (cnm cx) e.1 (EXL.getD e.2.2.1 "") ∈ lw_tbl ∧ (cx = 12 ∨ Cond.initialized (EXL.getD e.2.2.1 "") ∈ lw_tbl))
set_option maxRecDepth 20000 in
theorem ck_0_0 : CK 0 (29, 0, 1, 297, 298, 117) := Or.inl ⟨rfl, Nat.le_of_ble_eq_true rfl, mt_1 (i := 186) rfl, mt_1 (i := 187) rfl, mt_1 (i := 6) rfl⟩
set_option maxRecDepth 20000 in
theorem ck_0 : ∀ e ∈ cTL.getD 0 [], CK 0 e := List.forall_mem_cons.mpr ⟨ck_0_0, fun _ h => absurd h List.not_mem_nil⟩
set_option maxRecDepth 20000 in
theorem ck_1 : ∀ e ∈ cTL.getD 1 [], CK 1 e := fun _ h => absurd h List.not_mem_nil
set_option maxRecDepth 20000 in
theorem ck_2 : ∀ e ∈ cTL.getD 2 [], CK 2 e := fun _ h => absurd h List.not_mem_nil
set_option maxRecDepth 20000 in
theorem ck_3_0 : CK 3 (9, 0, 8, 188, 189, 115) := Or.inl ⟨rfl, Nat.le_of_ble_eq_true rfl, mt_1 (i := 77) rfl, mt_1 (i := 78) rfl, mt_1 (i := 4) rfl⟩
set_option maxRecDepth 20000 in
theorem ck_3 : ∀ e ∈ cTL.getD 3 [], CK 3 e := List.forall_mem_cons.mpr ⟨ck_3_0, fun _ h => absurd h List.not_mem_nil⟩
set_option maxRecDepth 20000 in
theorem ck_4_0 : CK 4 (9, 0, 3, 457, 183, 114) := Or.inl ⟨rfl, Nat.le_of_ble_eq_true rfl, mt_2 (i := 106) rfl, mt_1 (i := 72) rfl, mt_1 (i := 3) rfl⟩
set_option maxRecDepth 20000 in
theorem ck_4 : ∀ e ∈ cTL.getD 4 [], CK 4 e := List.forall_mem_cons.mpr ⟨ck_4_0, fun _ h => absurd h List.not_mem_nil⟩
set_option maxRecDepth 20000 in
theorem ck_5 : ∀ e ∈ cTL.getD 5 [], CK 5 e := fun _ h => absurd h List.not_mem_nil
set_option maxRecDepth 20000 in
theorem ck_6_0 : CK 6 (26, 0, 0, 431, 292, 116) := Or.inl ⟨rfl, Nat.le_of_ble_eq_true rfl, mt_2 (i := 80) rfl, mt_1 (i := 181) rfl, mt_1 (i := 5) rfl⟩
set_option maxRecDepth 20000 in
theorem ck_6_1 : CK 6 (35, 0, 9, 433, 354, 118) := Or.inl ⟨rfl, Nat.le_of_ble_eq_true rfl, mt_2 (i := 82) rfl, mt_2 (i := 3) rfl, mt_1 (i := 7) rfl⟩
set_option maxRecDepth 20000 in
theorem ck_6 : ∀ e ∈ cTL.getD 6 [], CK 6 e := List.forall_mem_cons.mpr ⟨ck_6_0, List.forall_mem_cons.mpr ⟨ck_6_1, fun _ h => absurd h List.not_mem_nil⟩⟩
set_option maxRecDepth 20000 in
theorem ck_7_0 : CK 7 (26, 0, 9, 383, 354, 118) := Or.inl ⟨rfl, Nat.le_of_ble_eq_true rfl, mt_2 (i := 32) rfl, mt_2 (i := 3) rfl, mt_1 (i := 7) rfl⟩
set_option maxRecDepth 20000 in
theorem ck_7 : ∀ e ∈ cTL.getD 7 [], CK 7 e := List.forall_mem_cons.mpr ⟨ck_7_0, fun _ h => absurd h List.not_mem_nil⟩
set_option maxRecDepth 20000 in
theorem ck_8 : ∀ e ∈ cTL.getD 8 [], CK 8 e := fun _ h => absurd h List.not_mem_nil
set_option maxRecDepth 20000 in
theorem ck_9 : ∀ e ∈ cTL.getD 9 [], CK 9 e := fun _ h => absurd h List.not_mem_nil
set_option maxRecDepth 20000 in
theorem ck_10_0 : CK 10 (9, 0, 2, 145, 146, 113) := Or.inl ⟨rfl, Nat.le_of_ble_eq_true rfl, mt_1 (i := 34) rfl, mt_1 (i := 35) rfl, mt_1 (i := 2) rfl⟩
set_option maxRecDepth 20000 in
theorem ck_10_1 : CK 10 (20, 0, 3, 182, 183, 114) := Or.inl ⟨rfl, Nat.le_of_ble_eq_true rfl, mt_1 (i := 71) rfl, mt_1 (i := 72) rfl, mt_1 (i := 3) rfl⟩
set_option maxRecDepth 20000 in
theorem ck_10_2 : CK 10 (27, 0, 0, 291, 292, 116) := Or.inl ⟨rfl, Nat.le_of_ble_eq_true rfl, mt_1 (i := 180) rfl, mt_1 (i := 181) rfl, mt_1 (i := 5) rfl⟩
set_option maxRecDepth 20000 in
theorem ck_10_3 : CK 10 (36, 0, 9, 353, 354, 118) := Or.inl ⟨rfl, Nat.le_of_ble_eq_true rfl, mt_2 (i := 2) rfl, mt_2 (i := 3) rfl, mt_1 (i := 7) rfl⟩
set_option maxRecDepth 20000 in
theorem ck_10_4 : CK 10 (43, 0, 1, 375, 298, 117) := Or.inl ⟨rfl, Nat.le_of_ble_eq_true rfl, mt_2 (i := 24) rfl, mt_1 (i := 187) rfl, mt_1 (i := 6) rfl⟩
set_option maxRecDepth 20000 in
theorem ck_10_5 : CK 10 (50, 0, 7, 377, 378, 119) := Or.inl ⟨rfl, Nat.le_of_ble_eq_true rfl, mt_2 (i := 26) rfl, mt_2 (i := 27) rfl, mt_1 (i := 8) rfl⟩
set_option maxRecDepth 20000 in
theorem ck_10_6 : CK 10 (57, 0, 5, 401, 402, 120) := Or.inl ⟨rfl, Nat.le_of_ble_eq_true rfl, mt_2 (i := 50) rfl, mt_2 (i := 51) rfl, mt_1 (i := 9) rfl⟩
set_option maxRecDepth 20000 in
theorem ck_10_7 : CK 10 (67, 0, 6, 425, 426, 121) := Or.inl ⟨rfl, Nat.le_of_ble_eq_true rfl, mt_2 (i := 74) rfl, mt_2 (i := 75) rfl, mt_1 (i := 10) rfl⟩
set_option maxRecDepth 20000 in
theorem ck_10_8 : CK 10 (76, 0, 4, 451, 452, 122) := Or.inl ⟨rfl, Nat.le_of_ble_eq_true rfl, mt_2 (i := 100) rfl, mt_2 (i := 101) rfl, mt_1 (i := 11) rfl⟩
set_option maxRecDepth 20000 in
theorem ck_10_9 : CK 10 (132, 1, 0, 645, 0, 127) := Or.inr ⟨rfl, Nat.le_of_ble_eq_true rfl, mt_3 (i := 54) rfl, Or.inr (mt_1 (i := 16) rfl)⟩
set_option maxRecDepth 20000 in
theorem ck_10_10 : CK 10 (151, 1, 2, 979, 0, 134) := Or.inr ⟨rfl, Nat.le_of_ble_eq_true rfl, mt_4 (i := 148) rfl, Or.inr (mt_1 (i := 23) rfl)⟩
set_option maxRecDepth 20000 in
theorem ck_10_11 : CK 10 (174, 1, 3, 1016, 0, 135) := Or.inr ⟨rfl, Nat.le_of_ble_eq_true rfl, mt_4 (i := 185) rfl, Or.inr (mt_1 (i := 24) rfl)⟩
set_option maxRecDepth 20000 in
theorem ck_10_12 : CK 10 (269, 1, 1, 1238, 0, 136) := Or.inr ⟨rfl, Nat.le_of_ble_eq_true rfl, mt_5 (i := 167) rfl, Or.inr (mt_1 (i := 25) rfl)⟩
set_option maxRecDepth 20000 in
theorem ck_10 : ∀ e ∈ cTL.getD 10 [], CK 10 e := List.forall_mem_cons.mpr ⟨ck_10_0, List.forall_mem_cons.mpr ⟨ck_10_1, List.forall_mem_cons.mpr ⟨ck_10_2, List.forall_mem_cons.mpr ⟨ck_10_3, List.forall_mem_cons.mpr ⟨ck_10_4, List.forall_mem_cons.mpr ⟨ck_10_5, List.forall_mem_cons.mpr ⟨ck_10_6, List.forall_mem_cons.mpr ⟨ck_10_7, List.forall_mem_cons.mpr ⟨ck_10_8, List.forall_mem_cons.mpr ⟨ck_10_9, List.forall_mem_cons.mpr ⟨ck_10_10, List.forall_mem_cons.mpr ⟨ck_10_11, List.forall_mem_cons.mpr ⟨ck_10_12, fun _ h => absurd h List.not_mem_nil⟩⟩⟩⟩⟩⟩⟩⟩⟩⟩⟩⟩⟩
set_option maxRecDepth 20000 in
theorem ck_11 : ∀ e ∈ cTL.getD 11 [], CK 11 e := fun _ h => absurd h List.not_mem_nil
set_option maxRecDepth 20000 in
theorem ck_12_0 : CK 12 (8, 0, 10, 137, 138, 112) := Or.inl ⟨rfl, Nat.le_of_ble_eq_true rfl, mt_1 (i := 26) rfl, mt_1 (i := 27) rfl, mt_1 (i := 1) rfl⟩
set_option maxRecDepth 20000 in
theorem ck_12_1 : CK 12 (13, 1, 0, 636, 0, 127) := Or.inr ⟨rfl, Nat.le_of_ble_eq_true rfl, mt_3 (i := 45) rfl, Or.inl rfl⟩
set_option maxRecDepth 20000 in
theorem ck_12_2 : CK 12 (21, 1, 2, 970, 0, 134) := Or.inr ⟨rfl, Nat.le_of_ble_eq_true rfl, mt_4 (i := 139) rfl, Or.inl rfl⟩
set_option maxRecDepth 20000 in
theorem ck_12_3 : CK 12 (30, 1, 3, 1006, 0, 135) := Or.inr ⟨rfl, Nat.le_of_ble_eq_true rfl, mt_4 (i := 175) rfl, Or.inl rfl⟩
set_option maxRecDepth 20000 in
theorem ck_12_4 : CK 12 (85, 1, 1, 1233, 0, 136) := Or.inr ⟨rfl, Nat.le_of_ble_eq_true rfl, mt_5 (i := 162) rfl, Or.inl rfl⟩
set_option maxRecDepth 20000 in
theorem ck_12_5 : CK 12 (88, 0, 11, 1258, 1259, 123) := Or.inl ⟨rfl, Nat.le_of_ble_eq_true rfl, mt_5 (i := 187) rfl, mt_5 (i := 188) rfl, mt_1 (i := 12) rfl⟩
set_option maxRecDepth 20000 in
theorem ck_12 : ∀ e ∈ cTL.getD 12 [], CK 12 e := List.forall_mem_cons.mpr ⟨ck_12_0, List.forall_mem_cons.mpr ⟨ck_12_1, List.forall_mem_cons.mpr ⟨ck_12_2, List.forall_mem_cons.mpr ⟨ck_12_3, List.forall_mem_cons.mpr ⟨ck_12_4, List.forall_mem_cons.mpr ⟨ck_12_5, fun _ h => absurd h List.not_mem_nil⟩⟩⟩⟩⟩⟩
set_option maxRecDepth 20000 in
theorem ck_all (cx : Nat) (hc : cx < 13) : ∀ e ∈ cTL.getD cx [], CK cx e := by
  match cx, hc with
  | 0, _ => exact ck_0
  | 1, _ => exact ck_1
  | 2, _ => exact ck_2
  | 3, _ => exact ck_3
  | 4, _ => exact ck_4
  | 5, _ => exact ck_5
  | 6, _ => exact ck_6
  | 7, _ => exact ck_7
  | 8, _ => exact ck_8
  | 9, _ => exact ck_9
  | 10, _ => exact ck_10
  | 11, _ => exact ck_11
  | 12, _ => exact ck_12
def intN (m : Nat) : MethodName := match m with
  | 500 => objectInit
  | 501 => ⟨"java/lang/String", "length", "()I"⟩
  | 502 => ⟨"java/lang/String", "charAt", "(I)C"⟩
  | 503 => Lib.Math.max.name
  | 504 => Lib.Math.min.name
  | _ => arraycopyName
def mNam (y : Nat) : MethodName := mNm.getD y ⟨"", "", ""⟩
def MK (cx : Nat) (e : Nat × Nat × Nat × Nat) : Prop := (e.2.1 < 252 ∧ e.2.2.1 = 0 ∧ Cond.methodLink (cnm cx) e.1 (mNam e.2.1) ∈ lw_tbl) ∨ (e.2.1 < 252 ∧ e.2.2.1 = 1 ∧ mkd e.2.1 = 2 ∧ Cond.methodLinkNest (cnm cx) e.1 (mNam e.2.1) "MountSpaces" ∈ lw_tbl) ∨ (500 ≤ e.2.1 ∧ e.2.1 < 506 ∧ Cond.methodLink (cnm cx) e.1 (intN e.2.1) ∈ lw_tbl) ∨ 600 ≤ e.2.1
set_option maxRecDepth 20000 in
theorem mk_0_0 : MK 0 (3, 500, 0, 296) := Or.inr (Or.inr (Or.inl ⟨Nat.le_of_ble_eq_true rfl, Nat.le_of_ble_eq_true rfl, mt_1 (i := 185) rfl⟩))
set_option maxRecDepth 20000 in
theorem mk_0_1 : MK 0 (31, 18, 0, 299) := Or.inl ⟨Nat.le_of_ble_eq_true rfl, rfl, mt_1 (i := 188) rfl⟩
set_option maxRecDepth 20000 in
theorem mk_0_2 : MK 0 (38, 42, 0, 875) := Or.inl ⟨Nat.le_of_ble_eq_true rfl, rfl, mt_4 (i := 44) rfl⟩
set_option maxRecDepth 20000 in
theorem mk_0_3 : MK 0 (44, 6, 0, 876) := Or.inl ⟨Nat.le_of_ble_eq_true rfl, rfl, mt_4 (i := 45) rfl⟩
set_option maxRecDepth 20000 in
theorem mk_0_4 : MK 0 (54, 37, 0, 891) := Or.inl ⟨Nat.le_of_ble_eq_true rfl, rfl, mt_4 (i := 60) rfl⟩
set_option maxRecDepth 20000 in
theorem mk_0_5 : MK 0 (57, 7, 0, 892) := Or.inl ⟨Nat.le_of_ble_eq_true rfl, rfl, mt_4 (i := 61) rfl⟩
set_option maxRecDepth 20000 in
theorem mk_0_6 : MK 0 (73, 4, 0, 1170) := Or.inl ⟨Nat.le_of_ble_eq_true rfl, rfl, mt_5 (i := 99) rfl⟩
set_option maxRecDepth 20000 in
theorem mk_0_7 : MK 0 (79, 43, 0, 1174) := Or.inl ⟨Nat.le_of_ble_eq_true rfl, rfl, mt_5 (i := 103) rfl⟩
set_option maxRecDepth 20000 in
theorem mk_0_8 : MK 0 (83, 44, 0, 1175) := Or.inl ⟨Nat.le_of_ble_eq_true rfl, rfl, mt_5 (i := 104) rfl⟩
set_option maxRecDepth 20000 in
theorem mk_0_9 : MK 0 (87, 5, 0, 1179) := Or.inl ⟨Nat.le_of_ble_eq_true rfl, rfl, mt_5 (i := 108) rfl⟩
set_option maxRecDepth 20000 in
theorem mk_0_10 : MK 0 (91, 19, 0, 880) := Or.inl ⟨Nat.le_of_ble_eq_true rfl, rfl, mt_4 (i := 49) rfl⟩
set_option maxRecDepth 20000 in
theorem mk_0_11 : MK 0 (101, 41, 0, 881) := Or.inl ⟨Nat.le_of_ble_eq_true rfl, rfl, mt_4 (i := 50) rfl⟩
set_option maxRecDepth 20000 in
theorem mk_0_12 : MK 0 (104, 46, 0, 885) := Or.inl ⟨Nat.le_of_ble_eq_true rfl, rfl, mt_4 (i := 54) rfl⟩
set_option maxRecDepth 20000 in
theorem mk_0_13 : MK 0 (114, 40, 0, 896) := Or.inl ⟨Nat.le_of_ble_eq_true rfl, rfl, mt_4 (i := 65) rfl⟩
set_option maxRecDepth 20000 in
theorem mk_0_14 : MK 0 (118, 8, 0, 900) := Or.inl ⟨Nat.le_of_ble_eq_true rfl, rfl, mt_4 (i := 69) rfl⟩
set_option maxRecDepth 20000 in
theorem mk_0_15 : MK 0 (123, 10, 0, 908) := Or.inl ⟨Nat.le_of_ble_eq_true rfl, rfl, mt_4 (i := 77) rfl⟩
set_option maxRecDepth 20000 in
theorem mk_0_16 : MK 0 (127, 22, 0, 904) := Or.inl ⟨Nat.le_of_ble_eq_true rfl, rfl, mt_4 (i := 73) rfl⟩
set_option maxRecDepth 20000 in
theorem mk_0_17 : MK 0 (133, 9, 0, 912) := Or.inl ⟨Nat.le_of_ble_eq_true rfl, rfl, mt_4 (i := 81) rfl⟩
set_option maxRecDepth 20000 in
theorem mk_0_18 : MK 0 (137, 38, 0, 1194) := Or.inl ⟨Nat.le_of_ble_eq_true rfl, rfl, mt_5 (i := 123) rfl⟩
set_option maxRecDepth 20000 in
theorem mk_0_19 : MK 0 (140, 12, 0, 1202) := Or.inl ⟨Nat.le_of_ble_eq_true rfl, rfl, mt_5 (i := 131) rfl⟩
set_option maxRecDepth 20000 in
theorem mk_0_20 : MK 0 (144, 14, 0, 946) := Or.inl ⟨Nat.le_of_ble_eq_true rfl, rfl, mt_4 (i := 115) rfl⟩
set_option maxRecDepth 20000 in
theorem mk_0_21 : MK 0 (150, 16, 0, 1226) := Or.inl ⟨Nat.le_of_ble_eq_true rfl, rfl, mt_5 (i := 155) rfl⟩
set_option maxRecDepth 20000 in
theorem mk_0 : ∀ e ∈ mTL.getD 0 [], MK 0 e := List.forall_mem_cons.mpr ⟨mk_0_0, List.forall_mem_cons.mpr ⟨mk_0_1, List.forall_mem_cons.mpr ⟨mk_0_2, List.forall_mem_cons.mpr ⟨mk_0_3, List.forall_mem_cons.mpr ⟨mk_0_4, List.forall_mem_cons.mpr ⟨mk_0_5, List.forall_mem_cons.mpr ⟨mk_0_6, List.forall_mem_cons.mpr ⟨mk_0_7, List.forall_mem_cons.mpr ⟨mk_0_8, List.forall_mem_cons.mpr ⟨mk_0_9, List.forall_mem_cons.mpr ⟨mk_0_10, List.forall_mem_cons.mpr ⟨mk_0_11, List.forall_mem_cons.mpr ⟨mk_0_12, List.forall_mem_cons.mpr ⟨mk_0_13, List.forall_mem_cons.mpr ⟨mk_0_14, List.forall_mem_cons.mpr ⟨mk_0_15, List.forall_mem_cons.mpr ⟨mk_0_16, List.forall_mem_cons.mpr ⟨mk_0_17, List.forall_mem_cons.mpr ⟨mk_0_18, List.forall_mem_cons.mpr ⟨mk_0_19, List.forall_mem_cons.mpr ⟨mk_0_20, List.forall_mem_cons.mpr ⟨mk_0_21, fun _ h => absurd h List.not_mem_nil⟩⟩⟩⟩⟩⟩⟩⟩⟩⟩⟩⟩⟩⟩⟩⟩⟩⟩⟩⟩⟩⟩
set_option maxRecDepth 20000 in
theorem mk_1_0 : MK 1 (3, 500, 0, 302) := Or.inr (Or.inr (Or.inl ⟨Nat.le_of_ble_eq_true rfl, Nat.le_of_ble_eq_true rfl, mt_1 (i := 191) rfl⟩))
set_option maxRecDepth 20000 in
theorem mk_1_1 : MK 1 (45, 20, 0, 594) := Or.inl ⟨Nat.le_of_ble_eq_true rfl, rfl, mt_3 (i := 3) rfl⟩
set_option maxRecDepth 20000 in
theorem mk_1_2 : MK 1 (49, 21, 0, 598) := Or.inl ⟨Nat.le_of_ble_eq_true rfl, rfl, mt_3 (i := 7) rfl⟩
set_option maxRecDepth 20000 in
theorem mk_1 : ∀ e ∈ mTL.getD 1 [], MK 1 e := List.forall_mem_cons.mpr ⟨mk_1_0, List.forall_mem_cons.mpr ⟨mk_1_1, List.forall_mem_cons.mpr ⟨mk_1_2, fun _ h => absurd h List.not_mem_nil⟩⟩⟩
set_option maxRecDepth 20000 in
theorem mk_2_0 : MK 2 (3, 500, 0, 150) := Or.inr (Or.inr (Or.inl ⟨Nat.le_of_ble_eq_true rfl, Nat.le_of_ble_eq_true rfl, mt_1 (i := 39) rfl⟩))
set_option maxRecDepth 20000 in
theorem mk_2_1 : MK 2 (37, 504, 0, 717) := Or.inr (Or.inr (Or.inl ⟨Nat.le_of_ble_eq_true rfl, Nat.le_of_ble_eq_true rfl, mt_3 (i := 126) rfl⟩))
set_option maxRecDepth 20000 in
theorem mk_2_2 : MK 2 (43, 503, 0, 720) := Or.inr (Or.inr (Or.inl ⟨Nat.le_of_ble_eq_true rfl, Nat.le_of_ble_eq_true rfl, mt_3 (i := 129) rfl⟩))
set_option maxRecDepth 20000 in
theorem mk_2_3 : MK 2 (46, 27, 0, 723) := Or.inl ⟨Nat.le_of_ble_eq_true rfl, rfl, mt_3 (i := 132) rfl⟩
set_option maxRecDepth 20000 in
theorem mk_2_4 : MK 2 (49, 28, 0, 727) := Or.inl ⟨Nat.le_of_ble_eq_true rfl, rfl, mt_3 (i := 136) rfl⟩
set_option maxRecDepth 20000 in
theorem mk_2_5 : MK 2 (53, 29, 0, 792) := Or.inl ⟨Nat.le_of_ble_eq_true rfl, rfl, mt_3 (i := 201) rfl⟩
set_option maxRecDepth 20000 in
theorem mk_2_6 : MK 2 (57, 33, 0, 740) := Or.inl ⟨Nat.le_of_ble_eq_true rfl, rfl, mt_3 (i := 149) rfl⟩
set_option maxRecDepth 20000 in
theorem mk_2_7 : MK 2 (61, 501, 0, 744) := Or.inr (Or.inr (Or.inl ⟨Nat.le_of_ble_eq_true rfl, Nat.le_of_ble_eq_true rfl, mt_3 (i := 153) rfl⟩))
set_option maxRecDepth 20000 in
theorem mk_2_8 : MK 2 (67, 502, 0, 754) := Or.inr (Or.inr (Or.inl ⟨Nat.le_of_ble_eq_true rfl, Nat.le_of_ble_eq_true rfl, mt_3 (i := 163) rfl⟩))
set_option maxRecDepth 20000 in
theorem mk_2 : ∀ e ∈ mTL.getD 2 [], MK 2 e := List.forall_mem_cons.mpr ⟨mk_2_0, List.forall_mem_cons.mpr ⟨mk_2_1, List.forall_mem_cons.mpr ⟨mk_2_2, List.forall_mem_cons.mpr ⟨mk_2_3, List.forall_mem_cons.mpr ⟨mk_2_4, List.forall_mem_cons.mpr ⟨mk_2_5, List.forall_mem_cons.mpr ⟨mk_2_6, List.forall_mem_cons.mpr ⟨mk_2_7, List.forall_mem_cons.mpr ⟨mk_2_8, fun _ h => absurd h List.not_mem_nil⟩⟩⟩⟩⟩⟩⟩⟩⟩
set_option maxRecDepth 20000 in
theorem mk_3_0 : MK 3 (3, 500, 0, 187) := Or.inr (Or.inr (Or.inl ⟨Nat.le_of_ble_eq_true rfl, Nat.le_of_ble_eq_true rfl, mt_1 (i := 76) rfl⟩))
set_option maxRecDepth 20000 in
theorem mk_3_1 : MK 3 (11, 78, 1, 190) := Or.inr (Or.inl ⟨Nat.le_of_ble_eq_true rfl, rfl, rfl, mt_1 (i := 79) rfl⟩)
set_option maxRecDepth 20000 in
theorem mk_3_2 : MK 3 (62, 37, 0, 483) := Or.inl ⟨Nat.le_of_ble_eq_true rfl, rfl, mt_2 (i := 132) rfl⟩
set_option maxRecDepth 20000 in
theorem mk_3_3 : MK 3 (66, 39, 0, 1198) := Or.inl ⟨Nat.le_of_ble_eq_true rfl, rfl, mt_5 (i := 127) rfl⟩
set_option maxRecDepth 20000 in
theorem mk_3_4 : MK 3 (70, 41, 0, 1117) := Or.inl ⟨Nat.le_of_ble_eq_true rfl, rfl, mt_5 (i := 46) rfl⟩
set_option maxRecDepth 20000 in
theorem mk_3_5 : MK 3 (74, 82, 0, 889) := Or.inl ⟨Nat.le_of_ble_eq_true rfl, rfl, mt_4 (i := 58) rfl⟩
set_option maxRecDepth 20000 in
theorem mk_3_6 : MK 3 (77, 83, 0, 890) := Or.inl ⟨Nat.le_of_ble_eq_true rfl, rfl, mt_4 (i := 59) rfl⟩
set_option maxRecDepth 20000 in
theorem mk_3_7 : MK 3 (84, 48, 0, 566) := Or.inl ⟨Nat.le_of_ble_eq_true rfl, rfl, mt_2 (i := 215) rfl⟩
set_option maxRecDepth 20000 in
theorem mk_3_8 : MK 3 (88, 87, 0, 549) := Or.inl ⟨Nat.le_of_ble_eq_true rfl, rfl, mt_2 (i := 198) rfl⟩
set_option maxRecDepth 20000 in
theorem mk_3_9 : MK 3 (92, 505, 0, 556) := Or.inr (Or.inr (Or.inl ⟨Nat.le_of_ble_eq_true rfl, Nat.le_of_ble_eq_true rfl, mt_2 (i := 205) rfl⟩))
set_option maxRecDepth 20000 in
theorem mk_3 : ∀ e ∈ mTL.getD 3 [], MK 3 e := List.forall_mem_cons.mpr ⟨mk_3_0, List.forall_mem_cons.mpr ⟨mk_3_1, List.forall_mem_cons.mpr ⟨mk_3_2, List.forall_mem_cons.mpr ⟨mk_3_3, List.forall_mem_cons.mpr ⟨mk_3_4, List.forall_mem_cons.mpr ⟨mk_3_5, List.forall_mem_cons.mpr ⟨mk_3_6, List.forall_mem_cons.mpr ⟨mk_3_7, List.forall_mem_cons.mpr ⟨mk_3_8, List.forall_mem_cons.mpr ⟨mk_3_9, fun _ h => absurd h List.not_mem_nil⟩⟩⟩⟩⟩⟩⟩⟩⟩⟩
set_option maxRecDepth 20000 in
theorem mk_4_0 : MK 4 (3, 500, 0, 456) := Or.inr (Or.inr (Or.inl ⟨Nat.le_of_ble_eq_true rfl, Nat.le_of_ble_eq_true rfl, mt_2 (i := 105) rfl⟩))
set_option maxRecDepth 20000 in
theorem mk_4_1 : MK 4 (24, 35, 1, 459) := Or.inr (Or.inl ⟨Nat.le_of_ble_eq_true rfl, rfl, rfl, mt_2 (i := 108) rfl⟩)
set_option maxRecDepth 20000 in
theorem mk_4_2 : MK 4 (25, 50, 0, 545) := Or.inl ⟨Nat.le_of_ble_eq_true rfl, rfl, mt_2 (i := 194) rfl⟩
set_option maxRecDepth 20000 in
theorem mk_4 : ∀ e ∈ mTL.getD 4 [], MK 4 e := List.forall_mem_cons.mpr ⟨mk_4_0, List.forall_mem_cons.mpr ⟨mk_4_1, List.forall_mem_cons.mpr ⟨mk_4_2, fun _ h => absurd h List.not_mem_nil⟩⟩⟩
set_option maxRecDepth 20000 in
theorem mk_5_0 : MK 5 (3, 500, 0, 406) := Or.inr (Or.inr (Or.inl ⟨Nat.le_of_ble_eq_true rfl, Nat.le_of_ble_eq_true rfl, mt_2 (i := 55) rfl⟩))
set_option maxRecDepth 20000 in
theorem mk_5_1 : MK 5 (30, 43, 0, 1113) := Or.inl ⟨Nat.le_of_ble_eq_true rfl, rfl, mt_5 (i := 42) rfl⟩
set_option maxRecDepth 20000 in
theorem mk_5_2 : MK 5 (36, 56, 0, 1118) := Or.inl ⟨Nat.le_of_ble_eq_true rfl, rfl, mt_5 (i := 47) rfl⟩
set_option maxRecDepth 20000 in
theorem mk_5_3 : MK 5 (40, 58, 0, 1127) := Or.inl ⟨Nat.le_of_ble_eq_true rfl, rfl, mt_5 (i := 56) rfl⟩
set_option maxRecDepth 20000 in
theorem mk_5_4 : MK 5 (56, 84, 0, 1122) := Or.inl ⟨Nat.le_of_ble_eq_true rfl, rfl, mt_5 (i := 51) rfl⟩
set_option maxRecDepth 20000 in
theorem mk_5_5 : MK 5 (62, 83, 0, 1126) := Or.inl ⟨Nat.le_of_ble_eq_true rfl, rfl, mt_5 (i := 55) rfl⟩
set_option maxRecDepth 20000 in
theorem mk_5_6 : MK 5 (65, 57, 0, 1131) := Or.inl ⟨Nat.le_of_ble_eq_true rfl, rfl, mt_5 (i := 60) rfl⟩
set_option maxRecDepth 20000 in
theorem mk_5 : ∀ e ∈ mTL.getD 5 [], MK 5 e := List.forall_mem_cons.mpr ⟨mk_5_0, List.forall_mem_cons.mpr ⟨mk_5_1, List.forall_mem_cons.mpr ⟨mk_5_2, List.forall_mem_cons.mpr ⟨mk_5_3, List.forall_mem_cons.mpr ⟨mk_5_4, List.forall_mem_cons.mpr ⟨mk_5_5, List.forall_mem_cons.mpr ⟨mk_5_6, fun _ h => absurd h List.not_mem_nil⟩⟩⟩⟩⟩⟩⟩
set_option maxRecDepth 20000 in
theorem mk_6_0 : MK 6 (3, 500, 0, 430) := Or.inr (Or.inr (Or.inl ⟨Nat.le_of_ble_eq_true rfl, Nat.le_of_ble_eq_true rfl, mt_2 (i := 79) rfl⟩))
set_option maxRecDepth 20000 in
theorem mk_6_1 : MK 6 (28, 0, 0, 432) := Or.inl ⟨Nat.le_of_ble_eq_true rfl, rfl, mt_2 (i := 81) rfl⟩
set_option maxRecDepth 20000 in
theorem mk_6_2 : MK 6 (37, 88, 0, 434) := Or.inl ⟨Nat.le_of_ble_eq_true rfl, rfl, mt_2 (i := 83) rfl⟩
set_option maxRecDepth 20000 in
theorem mk_6_3 : MK 6 (50, 32, 0, 736) := Or.inl ⟨Nat.le_of_ble_eq_true rfl, rfl, mt_3 (i := 145) rfl⟩
set_option maxRecDepth 20000 in
theorem mk_6_4 : MK 6 (56, 31, 0, 796) := Or.inl ⟨Nat.le_of_ble_eq_true rfl, rfl, mt_3 (i := 205) rfl⟩
set_option maxRecDepth 20000 in
theorem mk_6_5 : MK 6 (60, 61, 0, 800) := Or.inl ⟨Nat.le_of_ble_eq_true rfl, rfl, mt_3 (i := 209) rfl⟩
set_option maxRecDepth 20000 in
theorem mk_6_6 : MK 6 (64, 65, 0, 839) := Or.inl ⟨Nat.le_of_ble_eq_true rfl, rfl, mt_4 (i := 8) rfl⟩
set_option maxRecDepth 20000 in
theorem mk_6_7 : MK 6 (69, 33, 0, 805) := Or.inl ⟨Nat.le_of_ble_eq_true rfl, rfl, mt_3 (i := 214) rfl⟩
set_option maxRecDepth 20000 in
theorem mk_6_8 : MK 6 (74, 29, 0, 807) := Or.inl ⟨Nat.le_of_ble_eq_true rfl, rfl, mt_3 (i := 216) rfl⟩
set_option maxRecDepth 20000 in
theorem mk_6_9 : MK 6 (77, 79, 0, 808) := Or.inl ⟨Nat.le_of_ble_eq_true rfl, rfl, mt_3 (i := 217) rfl⟩
set_option maxRecDepth 20000 in
theorem mk_6_10 : MK 6 (80, 27, 0, 812) := Or.inl ⟨Nat.le_of_ble_eq_true rfl, rfl, mt_3 (i := 221) rfl⟩
set_option maxRecDepth 20000 in
theorem mk_6_11 : MK 6 (83, 62, 0, 813) := Or.inl ⟨Nat.le_of_ble_eq_true rfl, rfl, mt_3 (i := 222) rfl⟩
set_option maxRecDepth 20000 in
theorem mk_6_12 : MK 6 (86, 34, 0, 817) := Or.inl ⟨Nat.le_of_ble_eq_true rfl, rfl, mt_3 (i := 226) rfl⟩
set_option maxRecDepth 20000 in
theorem mk_6_13 : MK 6 (90, 85, 0, 821) := Or.inl ⟨Nat.le_of_ble_eq_true rfl, rfl, mt_3 (i := 230) rfl⟩
set_option maxRecDepth 20000 in
theorem mk_6_14 : MK 6 (94, 80, 0, 825) := Or.inl ⟨Nat.le_of_ble_eq_true rfl, rfl, mt_3 (i := 234) rfl⟩
set_option maxRecDepth 20000 in
theorem mk_6_15 : MK 6 (98, 63, 0, 826) := Or.inl ⟨Nat.le_of_ble_eq_true rfl, rfl, mt_3 (i := 235) rfl⟩
set_option maxRecDepth 20000 in
theorem mk_6_16 : MK 6 (105, 64, 0, 830) := Or.inl ⟨Nat.le_of_ble_eq_true rfl, rfl, mt_3 (i := 239) rfl⟩
set_option maxRecDepth 20000 in
theorem mk_6_17 : MK 6 (108, 86, 0, 834) := Or.inl ⟨Nat.le_of_ble_eq_true rfl, rfl, mt_4 (i := 3) rfl⟩
set_option maxRecDepth 20000 in
theorem mk_6_18 : MK 6 (112, 81, 0, 838) := Or.inl ⟨Nat.le_of_ble_eq_true rfl, rfl, mt_4 (i := 7) rfl⟩
set_option maxRecDepth 20000 in
theorem mk_6_19 : MK 6 (115, 66, 0, 843) := Or.inl ⟨Nat.le_of_ble_eq_true rfl, rfl, mt_4 (i := 12) rfl⟩
set_option maxRecDepth 20000 in
theorem mk_6_20 : MK 6 (118, 36, 0, 847) := Or.inl ⟨Nat.le_of_ble_eq_true rfl, rfl, mt_4 (i := 16) rfl⟩
set_option maxRecDepth 20000 in
theorem mk_6_21 : MK 6 (123, 68, 0, 853) := Or.inl ⟨Nat.le_of_ble_eq_true rfl, rfl, mt_4 (i := 22) rfl⟩
set_option maxRecDepth 20000 in
theorem mk_6_22 : MK 6 (128, 69, 0, 921) := Or.inl ⟨Nat.le_of_ble_eq_true rfl, rfl, mt_4 (i := 90) rfl⟩
set_option maxRecDepth 20000 in
theorem mk_6_23 : MK 6 (131, 71, 0, 929) := Or.inl ⟨Nat.le_of_ble_eq_true rfl, rfl, mt_4 (i := 98) rfl⟩
set_option maxRecDepth 20000 in
theorem mk_6_24 : MK 6 (134, 30, 0, 950) := Or.inl ⟨Nat.le_of_ble_eq_true rfl, rfl, mt_4 (i := 119) rfl⟩
set_option maxRecDepth 20000 in
theorem mk_6_25 : MK 6 (137, 91, 0, 857) := Or.inl ⟨Nat.le_of_ble_eq_true rfl, rfl, mt_4 (i := 26) rfl⟩
set_option maxRecDepth 20000 in
theorem mk_6_26 : MK 6 (147, 1, 0, 871) := Or.inl ⟨Nat.le_of_ble_eq_true rfl, rfl, mt_4 (i := 40) rfl⟩
set_option maxRecDepth 20000 in
theorem mk_6_27 : MK 6 (150, 70, 0, 916) := Or.inl ⟨Nat.le_of_ble_eq_true rfl, rfl, mt_4 (i := 85) rfl⟩
set_option maxRecDepth 20000 in
theorem mk_6_28 : MK 6 (153, 2, 0, 925) := Or.inl ⟨Nat.le_of_ble_eq_true rfl, rfl, mt_4 (i := 94) rfl⟩
set_option maxRecDepth 20000 in
theorem mk_6_29 : MK 6 (159, 72, 0, 934) := Or.inl ⟨Nat.le_of_ble_eq_true rfl, rfl, mt_4 (i := 103) rfl⟩
set_option maxRecDepth 20000 in
theorem mk_6_30 : MK 6 (162, 13, 0, 942) := Or.inl ⟨Nat.le_of_ble_eq_true rfl, rfl, mt_4 (i := 111) rfl⟩
set_option maxRecDepth 20000 in
theorem mk_6 : ∀ e ∈ mTL.getD 6 [], MK 6 e := List.forall_mem_cons.mpr ⟨mk_6_0, List.forall_mem_cons.mpr ⟨mk_6_1, List.forall_mem_cons.mpr ⟨mk_6_2, List.forall_mem_cons.mpr ⟨mk_6_3, List.forall_mem_cons.mpr ⟨mk_6_4, List.forall_mem_cons.mpr ⟨mk_6_5, List.forall_mem_cons.mpr ⟨mk_6_6, List.forall_mem_cons.mpr ⟨mk_6_7, List.forall_mem_cons.mpr ⟨mk_6_8, List.forall_mem_cons.mpr ⟨mk_6_9, List.forall_mem_cons.mpr ⟨mk_6_10, List.forall_mem_cons.mpr ⟨mk_6_11, List.forall_mem_cons.mpr ⟨mk_6_12, List.forall_mem_cons.mpr ⟨mk_6_13, List.forall_mem_cons.mpr ⟨mk_6_14, List.forall_mem_cons.mpr ⟨mk_6_15, List.forall_mem_cons.mpr ⟨mk_6_16, List.forall_mem_cons.mpr ⟨mk_6_17, List.forall_mem_cons.mpr ⟨mk_6_18, List.forall_mem_cons.mpr ⟨mk_6_19, List.forall_mem_cons.mpr ⟨mk_6_20, List.forall_mem_cons.mpr ⟨mk_6_21, List.forall_mem_cons.mpr ⟨mk_6_22, List.forall_mem_cons.mpr ⟨mk_6_23, List.forall_mem_cons.mpr ⟨mk_6_24, List.forall_mem_cons.mpr ⟨mk_6_25, List.forall_mem_cons.mpr ⟨mk_6_26, List.forall_mem_cons.mpr ⟨mk_6_27, List.forall_mem_cons.mpr ⟨mk_6_28, List.forall_mem_cons.mpr ⟨mk_6_29, List.forall_mem_cons.mpr ⟨mk_6_30, fun _ h => absurd h List.not_mem_nil⟩⟩⟩⟩⟩⟩⟩⟩⟩⟩⟩⟩⟩⟩⟩⟩⟩⟩⟩⟩⟩⟩⟩⟩⟩⟩⟩⟩⟩⟩⟩
set_option maxRecDepth 20000 in
theorem mk_7_0 : MK 7 (3, 500, 0, 382) := Or.inr (Or.inr (Or.inl ⟨Nat.le_of_ble_eq_true rfl, Nat.le_of_ble_eq_true rfl, mt_2 (i := 31) rfl⟩))
set_option maxRecDepth 20000 in
theorem mk_7_1 : MK 7 (28, 88, 0, 384) := Or.inl ⟨Nat.le_of_ble_eq_true rfl, rfl, mt_2 (i := 33) rfl⟩
set_option maxRecDepth 20000 in
theorem mk_7_2 : MK 7 (35, 90, 0, 606) := Or.inl ⟨Nat.le_of_ble_eq_true rfl, rfl, mt_3 (i := 15) rfl⟩
set_option maxRecDepth 20000 in
theorem mk_7_3 : MK 7 (39, 75, 0, 622) := Or.inl ⟨Nat.le_of_ble_eq_true rfl, rfl, mt_3 (i := 31) rfl⟩
set_option maxRecDepth 20000 in
theorem mk_7_4 : MK 7 (42, 76, 0, 626) := Or.inl ⟨Nat.le_of_ble_eq_true rfl, rfl, mt_3 (i := 35) rfl⟩
set_option maxRecDepth 20000 in
theorem mk_7_5 : MK 7 (61, 82, 0, 630) := Or.inl ⟨Nat.le_of_ble_eq_true rfl, rfl, mt_3 (i := 39) rfl⟩
set_option maxRecDepth 20000 in
theorem mk_7_6 : MK 7 (67, 83, 0, 631) := Or.inl ⟨Nat.le_of_ble_eq_true rfl, rfl, mt_3 (i := 40) rfl⟩
set_option maxRecDepth 20000 in
theorem mk_7_7 : MK 7 (71, 89, 0, 632) := Or.inl ⟨Nat.le_of_ble_eq_true rfl, rfl, mt_3 (i := 41) rfl⟩
set_option maxRecDepth 20000 in
theorem mk_7 : ∀ e ∈ mTL.getD 7 [], MK 7 e := List.forall_mem_cons.mpr ⟨mk_7_0, List.forall_mem_cons.mpr ⟨mk_7_1, List.forall_mem_cons.mpr ⟨mk_7_2, List.forall_mem_cons.mpr ⟨mk_7_3, List.forall_mem_cons.mpr ⟨mk_7_4, List.forall_mem_cons.mpr ⟨mk_7_5, List.forall_mem_cons.mpr ⟨mk_7_6, List.forall_mem_cons.mpr ⟨mk_7_7, fun _ h => absurd h List.not_mem_nil⟩⟩⟩⟩⟩⟩⟩⟩
set_option maxRecDepth 20000 in
theorem mk_8_0 : MK 8 (3, 500, 0, 193) := Or.inr (Or.inr (Or.inl ⟨Nat.le_of_ble_eq_true rfl, Nat.le_of_ble_eq_true rfl, mt_1 (i := 82) rfl⟩))
set_option maxRecDepth 20000 in
theorem mk_8_1 : MK 8 (28, 81, 0, 475) := Or.inl ⟨Nat.le_of_ble_eq_true rfl, rfl, mt_2 (i := 124) rfl⟩
set_option maxRecDepth 20000 in
theorem mk_8_2 : MK 8 (32, 505, 0, 553) := Or.inr (Or.inr (Or.inl ⟨Nat.le_of_ble_eq_true rfl, Nat.le_of_ble_eq_true rfl, mt_2 (i := 202) rfl⟩))
set_option maxRecDepth 20000 in
theorem mk_8 : ∀ e ∈ mTL.getD 8 [], MK 8 e := List.forall_mem_cons.mpr ⟨mk_8_0, List.forall_mem_cons.mpr ⟨mk_8_1, List.forall_mem_cons.mpr ⟨mk_8_2, fun _ h => absurd h List.not_mem_nil⟩⟩⟩
set_option maxRecDepth 20000 in
theorem mk_9_0 : MK 9 (3, 500, 0, 358) := Or.inr (Or.inr (Or.inl ⟨Nat.le_of_ble_eq_true rfl, Nat.le_of_ble_eq_true rfl, mt_2 (i := 7) rfl⟩))
set_option maxRecDepth 20000 in
theorem mk_9_1 : MK 9 (22, 42, 0, 618) := Or.inl ⟨Nat.le_of_ble_eq_true rfl, rfl, mt_3 (i := 27) rfl⟩
set_option maxRecDepth 20000 in
theorem mk_9_2 : MK 9 (32, 45, 0, 610) := Or.inl ⟨Nat.le_of_ble_eq_true rfl, rfl, mt_3 (i := 19) rfl⟩
set_option maxRecDepth 20000 in
theorem mk_9_3 : MK 9 (36, 89, 0, 614) := Or.inl ⟨Nat.le_of_ble_eq_true rfl, rfl, mt_3 (i := 23) rfl⟩
set_option maxRecDepth 20000 in
theorem mk_9_4 : MK 9 (40, 31, 0, 861) := Or.inl ⟨Nat.le_of_ble_eq_true rfl, rfl, mt_4 (i := 30) rfl⟩
set_option maxRecDepth 20000 in
theorem mk_9_5 : MK 9 (46, 90, 0, 862) := Or.inl ⟨Nat.le_of_ble_eq_true rfl, rfl, mt_4 (i := 31) rfl⟩
set_option maxRecDepth 20000 in
theorem mk_9_6 : MK 9 (53, 92, 0, 863) := Or.inl ⟨Nat.le_of_ble_eq_true rfl, rfl, mt_4 (i := 32) rfl⟩
set_option maxRecDepth 20000 in
theorem mk_9_7 : MK 9 (57, 27, 0, 870) := Or.inl ⟨Nat.le_of_ble_eq_true rfl, rfl, mt_4 (i := 39) rfl⟩
set_option maxRecDepth 20000 in
theorem mk_9_8 : MK 9 (60, 29, 0, 868) := Or.inl ⟨Nat.le_of_ble_eq_true rfl, rfl, mt_4 (i := 37) rfl⟩
set_option maxRecDepth 20000 in
theorem mk_9_9 : MK 9 (63, 34, 0, 867) := Or.inl ⟨Nat.le_of_ble_eq_true rfl, rfl, mt_4 (i := 36) rfl⟩
set_option maxRecDepth 20000 in
theorem mk_9_10 : MK 9 (74, 86, 0, 869) := Or.inl ⟨Nat.le_of_ble_eq_true rfl, rfl, mt_4 (i := 38) rfl⟩
set_option maxRecDepth 20000 in
theorem mk_9 : ∀ e ∈ mTL.getD 9 [], MK 9 e := List.forall_mem_cons.mpr ⟨mk_9_0, List.forall_mem_cons.mpr ⟨mk_9_1, List.forall_mem_cons.mpr ⟨mk_9_2, List.forall_mem_cons.mpr ⟨mk_9_3, List.forall_mem_cons.mpr ⟨mk_9_4, List.forall_mem_cons.mpr ⟨mk_9_5, List.forall_mem_cons.mpr ⟨mk_9_6, List.forall_mem_cons.mpr ⟨mk_9_7, List.forall_mem_cons.mpr ⟨mk_9_8, List.forall_mem_cons.mpr ⟨mk_9_9, List.forall_mem_cons.mpr ⟨mk_9_10, fun _ h => absurd h List.not_mem_nil⟩⟩⟩⟩⟩⟩⟩⟩⟩⟩⟩
set_option maxRecDepth 20000 in
theorem mk_10_0 : MK 10 (3, 500, 0, 142) := Or.inr (Or.inr (Or.inl ⟨Nat.le_of_ble_eq_true rfl, Nat.le_of_ble_eq_true rfl, mt_1 (i := 31) rfl⟩))
set_option maxRecDepth 20000 in
theorem mk_10_1 : MK 10 (11, 23, 1, 147) := Or.inr (Or.inl ⟨Nat.le_of_ble_eq_true rfl, rfl, rfl, mt_1 (i := 36) rfl⟩)
set_option maxRecDepth 20000 in
theorem mk_10_2 : MK 10 (22, 35, 1, 184) := Or.inr (Or.inl ⟨Nat.le_of_ble_eq_true rfl, rfl, rfl, mt_1 (i := 73) rfl⟩)
set_option maxRecDepth 20000 in
theorem mk_10_3 : MK 10 (29, 0, 0, 293) := Or.inl ⟨Nat.le_of_ble_eq_true rfl, rfl, mt_1 (i := 182) rfl⟩
set_option maxRecDepth 20000 in
theorem mk_10_4 : MK 10 (38, 88, 0, 355) := Or.inl ⟨Nat.le_of_ble_eq_true rfl, rfl, mt_2 (i := 4) rfl⟩
set_option maxRecDepth 20000 in
theorem mk_10_5 : MK 10 (45, 18, 0, 376) := Or.inl ⟨Nat.le_of_ble_eq_true rfl, rfl, mt_2 (i := 25) rfl⟩
set_option maxRecDepth 20000 in
theorem mk_10_6 : MK 10 (52, 73, 0, 379) := Or.inl ⟨Nat.le_of_ble_eq_true rfl, rfl, mt_2 (i := 28) rfl⟩
set_option maxRecDepth 20000 in
theorem mk_10_7 : MK 10 (59, 54, 0, 403) := Or.inl ⟨Nat.le_of_ble_eq_true rfl, rfl, mt_2 (i := 52) rfl⟩
set_option maxRecDepth 20000 in
theorem mk_10_8 : MK 10 (69, 59, 0, 427) := Or.inl ⟨Nat.le_of_ble_eq_true rfl, rfl, mt_2 (i := 76) rfl⟩
set_option maxRecDepth 20000 in
theorem mk_10_9 : MK 10 (78, 51, 0, 453) := Or.inl ⟨Nat.le_of_ble_eq_true rfl, rfl, mt_2 (i := 102) rfl⟩
set_option maxRecDepth 20000 in
theorem mk_10_10 : MK 10 (87, 80, 0, 471) := Or.inl ⟨Nat.le_of_ble_eq_true rfl, rfl, mt_2 (i := 120) rfl⟩
set_option maxRecDepth 20000 in
theorem mk_10_11 : MK 10 (93, 36, 0, 479) := Or.inl ⟨Nat.le_of_ble_eq_true rfl, rfl, mt_2 (i := 128) rfl⟩
set_option maxRecDepth 20000 in
theorem mk_10_12 : MK 10 (96, 24, 0, 525) := Or.inl ⟨Nat.le_of_ble_eq_true rfl, rfl, mt_2 (i := 174) rfl⟩
set_option maxRecDepth 20000 in
theorem mk_10_13 : MK 10 (100, 25, 0, 529) := Or.inl ⟨Nat.le_of_ble_eq_true rfl, rfl, mt_2 (i := 178) rfl⟩
set_option maxRecDepth 20000 in
theorem mk_10_14 : MK 10 (106, 96, 0, 641) := Or.inl ⟨Nat.le_of_ble_eq_true rfl, rfl, mt_3 (i := 50) rfl⟩
set_option maxRecDepth 20000 in
theorem mk_10_15 : MK 10 (109, 26, 0, 713) := Or.inl ⟨Nat.le_of_ble_eq_true rfl, rfl, mt_3 (i := 122) rfl⟩
set_option maxRecDepth 20000 in
theorem mk_10_16 : MK 10 (112, 60, 0, 731) := Or.inl ⟨Nat.le_of_ble_eq_true rfl, rfl, mt_3 (i := 140) rfl⟩
set_option maxRecDepth 20000 in
theorem mk_10_17 : MK 10 (116, 67, 0, 848) := Or.inl ⟨Nat.le_of_ble_eq_true rfl, rfl, mt_4 (i := 17) rfl⟩
set_option maxRecDepth 20000 in
theorem mk_10_18 : MK 10 (123, 52, 0, 954) := Or.inl ⟨Nat.le_of_ble_eq_true rfl, rfl, mt_4 (i := 123) rfl⟩
set_option maxRecDepth 20000 in
theorem mk_10_19 : MK 10 (126, 50, 0, 958) := Or.inl ⟨Nat.le_of_ble_eq_true rfl, rfl, mt_4 (i := 127) rfl⟩
set_option maxRecDepth 20000 in
theorem mk_10_20 : MK 10 (136, 600, 0, 688) := Or.inr (Or.inr (Or.inr (Nat.le_of_ble_eq_true rfl)))
set_option maxRecDepth 20000 in
theorem mk_10_21 : MK 10 (141, 47, 0, 562) := Or.inl ⟨Nat.le_of_ble_eq_true rfl, rfl, mt_2 (i := 211) rfl⟩
set_option maxRecDepth 20000 in
theorem mk_10_22 : MK 10 (145, 101, 0, 975) := Or.inl ⟨Nat.le_of_ble_eq_true rfl, rfl, mt_4 (i := 144) rfl⟩
set_option maxRecDepth 20000 in
theorem mk_10_23 : MK 10 (148, 82, 0, 574) := Or.inl ⟨Nat.le_of_ble_eq_true rfl, rfl, mt_2 (i := 223) rfl⟩
set_option maxRecDepth 20000 in
theorem mk_10_24 : MK 10 (155, 602, 0, 989) := Or.inr (Or.inr (Or.inr (Nat.le_of_ble_eq_true rfl)))
set_option maxRecDepth 20000 in
theorem mk_10_25 : MK 10 (156, 83, 0, 578) := Or.inl ⟨Nat.le_of_ble_eq_true rfl, rfl, mt_2 (i := 227) rfl⟩
set_option maxRecDepth 20000 in
theorem mk_10_26 : MK 10 (163, 103, 0, 1011) := Or.inl ⟨Nat.le_of_ble_eq_true rfl, rfl, mt_4 (i := 180) rfl⟩
set_option maxRecDepth 20000 in
theorem mk_10_27 : MK 10 (168, 49, 0, 586) := Or.inl ⟨Nat.le_of_ble_eq_true rfl, rfl, mt_2 (i := 235) rfl⟩
set_option maxRecDepth 20000 in
theorem mk_10_28 : MK 10 (171, 41, 0, 1015) := Or.inl ⟨Nat.le_of_ble_eq_true rfl, rfl, mt_4 (i := 184) rfl⟩
set_option maxRecDepth 20000 in
theorem mk_10_29 : MK 10 (178, 603, 0, 1026) := Or.inr (Or.inr (Or.inr (Nat.le_of_ble_eq_true rfl)))
set_option maxRecDepth 20000 in
theorem mk_10_30 : MK 10 (179, 46, 0, 1052) := Or.inl ⟨Nat.le_of_ble_eq_true rfl, rfl, mt_4 (i := 221) rfl⟩
set_option maxRecDepth 20000 in
theorem mk_10_31 : MK 10 (191, 104, 0, 1048) := Or.inl ⟨Nat.le_of_ble_eq_true rfl, rfl, mt_4 (i := 217) rfl⟩
set_option maxRecDepth 20000 in
theorem mk_10_32 : MK 10 (194, 42, 0, 1054) := Or.inl ⟨Nat.le_of_ble_eq_true rfl, rfl, mt_4 (i := 223) rfl⟩
set_option maxRecDepth 20000 in
theorem mk_10_33 : MK 10 (197, 108, 0, 1062) := Or.inl ⟨Nat.le_of_ble_eq_true rfl, rfl, mt_4 (i := 231) rfl⟩
set_option maxRecDepth 20000 in
theorem mk_10_34 : MK 10 (200, 91, 0, 1067) := Or.inl ⟨Nat.le_of_ble_eq_true rfl, rfl, mt_4 (i := 236) rfl⟩
set_option maxRecDepth 20000 in
theorem mk_10_35 : MK 10 (204, 30, 0, 1068) := Or.inl ⟨Nat.le_of_ble_eq_true rfl, rfl, mt_4 (i := 237) rfl⟩
set_option maxRecDepth 20000 in
theorem mk_10_36 : MK 10 (218, 74, 0, 602) := Or.inl ⟨Nat.le_of_ble_eq_true rfl, rfl, mt_3 (i := 11) rfl⟩
set_option maxRecDepth 20000 in
theorem mk_10_37 : MK 10 (224, 77, 0, 1083) := Or.inl ⟨Nat.le_of_ble_eq_true rfl, rfl, mt_5 (i := 12) rfl⟩
set_option maxRecDepth 20000 in
theorem mk_10_38 : MK 10 (227, 19, 0, 590) := Or.inl ⟨Nat.le_of_ble_eq_true rfl, rfl, mt_2 (i := 239) rfl⟩
set_option maxRecDepth 20000 in
theorem mk_10_39 : MK 10 (231, 6, 0, 1101) := Or.inl ⟨Nat.le_of_ble_eq_true rfl, rfl, mt_5 (i := 30) rfl⟩
set_option maxRecDepth 20000 in
theorem mk_10_40 : MK 10 (235, 55, 0, 1109) := Or.inl ⟨Nat.le_of_ble_eq_true rfl, rfl, mt_5 (i := 38) rfl⟩
set_option maxRecDepth 20000 in
theorem mk_10_41 : MK 10 (247, 1, 0, 1150) := Or.inl ⟨Nat.le_of_ble_eq_true rfl, rfl, mt_5 (i := 79) rfl⟩
set_option maxRecDepth 20000 in
theorem mk_10_42 : MK 10 (250, 2, 0, 1158) := Or.inl ⟨Nat.le_of_ble_eq_true rfl, rfl, mt_5 (i := 87) rfl⟩
set_option maxRecDepth 20000 in
theorem mk_10_43 : MK 10 (254, 3, 0, 1166) := Or.inl ⟨Nat.le_of_ble_eq_true rfl, rfl, mt_5 (i := 95) rfl⟩
set_option maxRecDepth 20000 in
theorem mk_10_44 : MK 10 (257, 11, 0, 1190) := Or.inl ⟨Nat.le_of_ble_eq_true rfl, rfl, mt_5 (i := 119) rfl⟩
set_option maxRecDepth 20000 in
theorem mk_10_45 : MK 10 (262, 13, 0, 1214) := Or.inl ⟨Nat.le_of_ble_eq_true rfl, rfl, mt_5 (i := 143) rfl⟩
set_option maxRecDepth 20000 in
theorem mk_10_46 : MK 10 (265, 15, 0, 1222) := Or.inl ⟨Nat.le_of_ble_eq_true rfl, rfl, mt_5 (i := 151) rfl⟩
set_option maxRecDepth 20000 in
theorem mk_10_47 : MK 10 (273, 601, 0, 1248) := Or.inr (Or.inr (Or.inr (Nat.le_of_ble_eq_true rfl)))
set_option maxRecDepth 20000 in
theorem mk_10_48 : MK 10 (274, 17, 0, 1254) := Or.inl ⟨Nat.le_of_ble_eq_true rfl, rfl, mt_5 (i := 183) rfl⟩
set_option maxRecDepth 20000 in
theorem mk_10_49 : MK 10 (279, 53, 0, 541) := Or.inl ⟨Nat.le_of_ble_eq_true rfl, rfl, mt_2 (i := 190) rfl⟩
set_option maxRecDepth 20000 in
theorem mk_10_50 : MK 10 (284, 124, 0, 570) := Or.inl ⟨Nat.le_of_ble_eq_true rfl, rfl, mt_2 (i := 219) rfl⟩
set_option maxRecDepth 20000 in
theorem mk_10_51 : MK 10 (288, 125, 0, 582) := Or.inl ⟨Nat.le_of_ble_eq_true rfl, rfl, mt_2 (i := 231) rfl⟩
set_option maxRecDepth 20000 in
theorem mk_10 : ∀ e ∈ mTL.getD 10 [], MK 10 e := List.forall_mem_cons.mpr ⟨mk_10_0, List.forall_mem_cons.mpr ⟨mk_10_1, List.forall_mem_cons.mpr ⟨mk_10_2, List.forall_mem_cons.mpr ⟨mk_10_3, List.forall_mem_cons.mpr ⟨mk_10_4, List.forall_mem_cons.mpr ⟨mk_10_5, List.forall_mem_cons.mpr ⟨mk_10_6, List.forall_mem_cons.mpr ⟨mk_10_7, List.forall_mem_cons.mpr ⟨mk_10_8, List.forall_mem_cons.mpr ⟨mk_10_9, List.forall_mem_cons.mpr ⟨mk_10_10, List.forall_mem_cons.mpr ⟨mk_10_11, List.forall_mem_cons.mpr ⟨mk_10_12, List.forall_mem_cons.mpr ⟨mk_10_13, List.forall_mem_cons.mpr ⟨mk_10_14, List.forall_mem_cons.mpr ⟨mk_10_15, List.forall_mem_cons.mpr ⟨mk_10_16, List.forall_mem_cons.mpr ⟨mk_10_17, List.forall_mem_cons.mpr ⟨mk_10_18, List.forall_mem_cons.mpr ⟨mk_10_19, List.forall_mem_cons.mpr ⟨mk_10_20, List.forall_mem_cons.mpr ⟨mk_10_21, List.forall_mem_cons.mpr ⟨mk_10_22, List.forall_mem_cons.mpr ⟨mk_10_23, List.forall_mem_cons.mpr ⟨mk_10_24, List.forall_mem_cons.mpr ⟨mk_10_25, List.forall_mem_cons.mpr ⟨mk_10_26, List.forall_mem_cons.mpr ⟨mk_10_27, List.forall_mem_cons.mpr ⟨mk_10_28, List.forall_mem_cons.mpr ⟨mk_10_29, List.forall_mem_cons.mpr ⟨mk_10_30, List.forall_mem_cons.mpr ⟨mk_10_31, List.forall_mem_cons.mpr ⟨mk_10_32, List.forall_mem_cons.mpr ⟨mk_10_33, List.forall_mem_cons.mpr ⟨mk_10_34, List.forall_mem_cons.mpr ⟨mk_10_35, List.forall_mem_cons.mpr ⟨mk_10_36, List.forall_mem_cons.mpr ⟨mk_10_37, List.forall_mem_cons.mpr ⟨mk_10_38, List.forall_mem_cons.mpr ⟨mk_10_39, List.forall_mem_cons.mpr ⟨mk_10_40, List.forall_mem_cons.mpr ⟨mk_10_41, List.forall_mem_cons.mpr ⟨mk_10_42, List.forall_mem_cons.mpr ⟨mk_10_43, List.forall_mem_cons.mpr ⟨mk_10_44, List.forall_mem_cons.mpr ⟨mk_10_45, List.forall_mem_cons.mpr ⟨mk_10_46, List.forall_mem_cons.mpr ⟨mk_10_47, List.forall_mem_cons.mpr ⟨mk_10_48, List.forall_mem_cons.mpr ⟨mk_10_49, List.forall_mem_cons.mpr ⟨mk_10_50, List.forall_mem_cons.mpr ⟨mk_10_51, fun _ h => absurd h List.not_mem_nil⟩⟩⟩⟩⟩⟩⟩⟩⟩⟩⟩⟩⟩⟩⟩⟩⟩⟩⟩⟩⟩⟩⟩⟩⟩⟩⟩⟩⟩⟩⟩⟩⟩⟩⟩⟩⟩⟩⟩⟩⟩⟩⟩⟩⟩⟩⟩⟩⟩⟩⟩⟩
set_option maxRecDepth 20000 in
theorem mk_11_0 : MK 11 (1, 500, 0, 1263) := Or.inr (Or.inr (Or.inl ⟨Nat.le_of_ble_eq_true rfl, Nat.le_of_ble_eq_true rfl, mt_5 (i := 192) rfl⟩))
set_option maxRecDepth 20000 in
theorem mk_11_1 : MK 11 (51, 130, 0, 1264) := Or.inl ⟨Nat.le_of_ble_eq_true rfl, rfl, mt_5 (i := 193) rfl⟩
set_option maxRecDepth 20000 in
theorem mk_11_2 : MK 11 (55, 141, 0, 1268) := Or.inl ⟨Nat.le_of_ble_eq_true rfl, rfl, mt_5 (i := 197) rfl⟩
set_option maxRecDepth 20000 in
theorem mk_11_3 : MK 11 (59, 142, 0, 1278) := Or.inl ⟨Nat.le_of_ble_eq_true rfl, rfl, mt_5 (i := 207) rfl⟩
set_option maxRecDepth 20000 in
theorem mk_11_4 : MK 11 (68, 132, 0, 1587) := Or.inl ⟨Nat.le_of_ble_eq_true rfl, rfl, mt_7 (i := 36) rfl⟩
set_option maxRecDepth 20000 in
theorem mk_11_5 : MK 11 (74, 137, 0, 1290) := Or.inl ⟨Nat.le_of_ble_eq_true rfl, rfl, mt_5 (i := 219) rfl⟩
set_option maxRecDepth 20000 in
theorem mk_11_6 : MK 11 (78, 129, 0, 1286) := Or.inl ⟨Nat.le_of_ble_eq_true rfl, rfl, mt_5 (i := 215) rfl⟩
set_option maxRecDepth 20000 in
theorem mk_11_7 : MK 11 (82, 135, 0, 1272) := Or.inl ⟨Nat.le_of_ble_eq_true rfl, rfl, mt_5 (i := 201) rfl⟩
set_option maxRecDepth 20000 in
theorem mk_11_8 : MK 11 (85, 136, 0, 1275) := Or.inl ⟨Nat.le_of_ble_eq_true rfl, rfl, mt_5 (i := 204) rfl⟩
set_option maxRecDepth 20000 in
theorem mk_11_9 : MK 11 (89, 143, 0, 1282) := Or.inl ⟨Nat.le_of_ble_eq_true rfl, rfl, mt_5 (i := 211) rfl⟩
set_option maxRecDepth 20000 in
theorem mk_11_10 : MK 11 (92, 131, 0, 1293) := Or.inl ⟨Nat.le_of_ble_eq_true rfl, rfl, mt_5 (i := 222) rfl⟩
set_option maxRecDepth 20000 in
theorem mk_11_11 : MK 11 (95, 138, 0, 1489) := Or.inl ⟨Nat.le_of_ble_eq_true rfl, rfl, mt_6 (i := 178) rfl⟩
set_option maxRecDepth 20000 in
theorem mk_11_12 : MK 11 (98, 140, 0, 1467) := Or.inl ⟨Nat.le_of_ble_eq_true rfl, rfl, mt_6 (i := 156) rfl⟩
set_option maxRecDepth 20000 in
theorem mk_11_13 : MK 11 (101, 139, 0, 1463) := Or.inl ⟨Nat.le_of_ble_eq_true rfl, rfl, mt_6 (i := 152) rfl⟩
set_option maxRecDepth 20000 in
theorem mk_11_14 : MK 11 (104, 128, 0, 1397) := Or.inl ⟨Nat.le_of_ble_eq_true rfl, rfl, mt_6 (i := 86) rfl⟩
set_option maxRecDepth 20000 in
theorem mk_11_15 : MK 11 (108, 145, 0, 1533) := Or.inl ⟨Nat.le_of_ble_eq_true rfl, rfl, mt_6 (i := 222) rfl⟩
set_option maxRecDepth 20000 in
theorem mk_11_16 : MK 11 (112, 144, 0, 1628) := Or.inl ⟨Nat.le_of_ble_eq_true rfl, rfl, mt_7 (i := 77) rfl⟩
set_option maxRecDepth 20000 in
theorem mk_11_17 : MK 11 (115, 151, 0, 1517) := Or.inl ⟨Nat.le_of_ble_eq_true rfl, rfl, mt_6 (i := 206) rfl⟩
set_option maxRecDepth 20000 in
theorem mk_11_18 : MK 11 (119, 146, 0, 1529) := Or.inl ⟨Nat.le_of_ble_eq_true rfl, rfl, mt_6 (i := 218) rfl⟩
set_option maxRecDepth 20000 in
theorem mk_11_19 : MK 11 (123, 147, 0, 1497) := Or.inl ⟨Nat.le_of_ble_eq_true rfl, rfl, mt_6 (i := 186) rfl⟩
set_option maxRecDepth 20000 in
theorem mk_11_20 : MK 11 (126, 153, 0, 1525) := Or.inl ⟨Nat.le_of_ble_eq_true rfl, rfl, mt_6 (i := 214) rfl⟩
set_option maxRecDepth 20000 in
theorem mk_11_21 : MK 11 (132, 156, 0, 1553) := Or.inl ⟨Nat.le_of_ble_eq_true rfl, rfl, mt_7 (i := 2) rfl⟩
set_option maxRecDepth 20000 in
theorem mk_11_22 : MK 11 (135, 155, 0, 1545) := Or.inl ⟨Nat.le_of_ble_eq_true rfl, rfl, mt_6 (i := 234) rfl⟩
set_option maxRecDepth 20000 in
theorem mk_11_23 : MK 11 (139, 158, 0, 1561) := Or.inl ⟨Nat.le_of_ble_eq_true rfl, rfl, mt_7 (i := 10) rfl⟩
set_option maxRecDepth 20000 in
theorem mk_11_24 : MK 11 (142, 157, 0, 1549) := Or.inl ⟨Nat.le_of_ble_eq_true rfl, rfl, mt_6 (i := 238) rfl⟩
set_option maxRecDepth 20000 in
theorem mk_11_25 : MK 11 (145, 159, 0, 1557) := Or.inl ⟨Nat.le_of_ble_eq_true rfl, rfl, mt_7 (i := 6) rfl⟩
set_option maxRecDepth 20000 in
theorem mk_11_26 : MK 11 (149, 152, 0, 1513) := Or.inl ⟨Nat.le_of_ble_eq_true rfl, rfl, mt_6 (i := 202) rfl⟩
set_option maxRecDepth 20000 in
theorem mk_11_27 : MK 11 (152, 154, 0, 1521) := Or.inl ⟨Nat.le_of_ble_eq_true rfl, rfl, mt_6 (i := 210) rfl⟩
set_option maxRecDepth 20000 in
theorem mk_11_28 : MK 11 (155, 161, 0, 1537) := Or.inl ⟨Nat.le_of_ble_eq_true rfl, rfl, mt_6 (i := 226) rfl⟩
set_option maxRecDepth 20000 in
theorem mk_11_29 : MK 11 (159, 160, 0, 1541) := Or.inl ⟨Nat.le_of_ble_eq_true rfl, rfl, mt_6 (i := 230) rfl⟩
set_option maxRecDepth 20000 in
theorem mk_11_30 : MK 11 (162, 148, 0, 1712) := Or.inl ⟨Nat.le_of_ble_eq_true rfl, rfl, mt_7 (i := 161) rfl⟩
set_option maxRecDepth 20000 in
theorem mk_11_31 : MK 11 (165, 149, 0, 1716) := Or.inl ⟨Nat.le_of_ble_eq_true rfl, rfl, mt_7 (i := 165) rfl⟩
set_option maxRecDepth 20000 in
theorem mk_11_32 : MK 11 (168, 164, 0, 1708) := Or.inl ⟨Nat.le_of_ble_eq_true rfl, rfl, mt_7 (i := 157) rfl⟩
set_option maxRecDepth 20000 in
theorem mk_11_33 : MK 11 (171, 150, 0, 1728) := Or.inl ⟨Nat.le_of_ble_eq_true rfl, rfl, mt_7 (i := 177) rfl⟩
set_option maxRecDepth 20000 in
theorem mk_11_34 : MK 11 (174, 166, 0, 1732) := Or.inl ⟨Nat.le_of_ble_eq_true rfl, rfl, mt_7 (i := 181) rfl⟩
set_option maxRecDepth 20000 in
theorem mk_11_35 : MK 11 (177, 168, 0, 1579) := Or.inl ⟨Nat.le_of_ble_eq_true rfl, rfl, mt_7 (i := 28) rfl⟩
set_option maxRecDepth 20000 in
theorem mk_11_36 : MK 11 (180, 170, 0, 1749) := Or.inl ⟨Nat.le_of_ble_eq_true rfl, rfl, mt_7 (i := 198) rfl⟩
set_option maxRecDepth 20000 in
theorem mk_11_37 : MK 11 (183, 171, 0, 1753) := Or.inl ⟨Nat.le_of_ble_eq_true rfl, rfl, mt_7 (i := 202) rfl⟩
set_option maxRecDepth 20000 in
theorem mk_11_38 : MK 11 (193, 173, 0, 1493) := Or.inl ⟨Nat.le_of_ble_eq_true rfl, rfl, mt_6 (i := 182) rfl⟩
set_option maxRecDepth 20000 in
theorem mk_11_39 : MK 11 (211, 177, 0, 1413) := Or.inl ⟨Nat.le_of_ble_eq_true rfl, rfl, mt_6 (i := 102) rfl⟩
set_option maxRecDepth 20000 in
theorem mk_11_40 : MK 11 (214, 178, 0, 1417) := Or.inl ⟨Nat.le_of_ble_eq_true rfl, rfl, mt_6 (i := 106) rfl⟩
set_option maxRecDepth 20000 in
theorem mk_11_41 : MK 11 (217, 501, 0, 1420) := Or.inr (Or.inr (Or.inl ⟨Nat.le_of_ble_eq_true rfl, Nat.le_of_ble_eq_true rfl, mt_6 (i := 109) rfl⟩))
set_option maxRecDepth 20000 in
theorem mk_11_42 : MK 11 (222, 502, 0, 1421) := Or.inr (Or.inr (Or.inl ⟨Nat.le_of_ble_eq_true rfl, Nat.le_of_ble_eq_true rfl, mt_6 (i := 110) rfl⟩))
set_option maxRecDepth 20000 in
theorem mk_11_43 : MK 11 (226, 176, 0, 1422) := Or.inl ⟨Nat.le_of_ble_eq_true rfl, rfl, mt_6 (i := 111) rfl⟩
set_option maxRecDepth 20000 in
theorem mk_11_44 : MK 11 (235, 182, 0, 1443) := Or.inl ⟨Nat.le_of_ble_eq_true rfl, rfl, mt_6 (i := 132) rfl⟩
set_option maxRecDepth 20000 in
theorem mk_11_45 : MK 11 (238, 181, 0, 1435) := Or.inl ⟨Nat.le_of_ble_eq_true rfl, rfl, mt_6 (i := 124) rfl⟩
set_option maxRecDepth 20000 in
theorem mk_11_46 : MK 11 (242, 185, 0, 1459) := Or.inl ⟨Nat.le_of_ble_eq_true rfl, rfl, mt_6 (i := 148) rfl⟩
set_option maxRecDepth 20000 in
theorem mk_11_47 : MK 11 (245, 183, 0, 1447) := Or.inl ⟨Nat.le_of_ble_eq_true rfl, rfl, mt_6 (i := 136) rfl⟩
set_option maxRecDepth 20000 in
theorem mk_11_48 : MK 11 (248, 187, 0, 1451) := Or.inl ⟨Nat.le_of_ble_eq_true rfl, rfl, mt_6 (i := 140) rfl⟩
set_option maxRecDepth 20000 in
theorem mk_11_49 : MK 11 (254, 186, 0, 1455) := Or.inl ⟨Nat.le_of_ble_eq_true rfl, rfl, mt_6 (i := 144) rfl⟩
set_option maxRecDepth 20000 in
theorem mk_11_50 : MK 11 (257, 180, 0, 1426) := Or.inl ⟨Nat.le_of_ble_eq_true rfl, rfl, mt_6 (i := 115) rfl⟩
set_option maxRecDepth 20000 in
theorem mk_11_51 : MK 11 (262, 179, 0, 1409) := Or.inl ⟨Nat.le_of_ble_eq_true rfl, rfl, mt_6 (i := 98) rfl⟩
set_option maxRecDepth 20000 in
theorem mk_11_52 : MK 11 (266, 184, 0, 1439) := Or.inl ⟨Nat.le_of_ble_eq_true rfl, rfl, mt_6 (i := 128) rfl⟩
set_option maxRecDepth 20000 in
theorem mk_11_53 : MK 11 (269, 174, 0, 1485) := Or.inl ⟨Nat.le_of_ble_eq_true rfl, rfl, mt_6 (i := 174) rfl⟩
set_option maxRecDepth 20000 in
theorem mk_11_54 : MK 11 (272, 190, 0, 1501) := Or.inl ⟨Nat.le_of_ble_eq_true rfl, rfl, mt_6 (i := 190) rfl⟩
set_option maxRecDepth 20000 in
theorem mk_11_55 : MK 11 (277, 189, 0, 1472) := Or.inl ⟨Nat.le_of_ble_eq_true rfl, rfl, mt_6 (i := 161) rfl⟩
set_option maxRecDepth 20000 in
theorem mk_11_56 : MK 11 (280, 191, 0, 1481) := Or.inl ⟨Nat.le_of_ble_eq_true rfl, rfl, mt_6 (i := 170) rfl⟩
set_option maxRecDepth 20000 in
theorem mk_11_57 : MK 11 (283, 193, 0, 1505) := Or.inl ⟨Nat.le_of_ble_eq_true rfl, rfl, mt_6 (i := 194) rfl⟩
set_option maxRecDepth 20000 in
theorem mk_11_58 : MK 11 (286, 162, 0, 1509) := Or.inl ⟨Nat.le_of_ble_eq_true rfl, rfl, mt_6 (i := 198) rfl⟩
set_option maxRecDepth 20000 in
theorem mk_11_59 : MK 11 (291, 163, 0, 1566) := Or.inl ⟨Nat.le_of_ble_eq_true rfl, rfl, mt_7 (i := 15) rfl⟩
set_option maxRecDepth 20000 in
theorem mk_11_60 : MK 11 (305, 169, 0, 1575) := Or.inl ⟨Nat.le_of_ble_eq_true rfl, rfl, mt_7 (i := 24) rfl⟩
set_option maxRecDepth 20000 in
theorem mk_11_61 : MK 11 (310, 188, 0, 1430) := Or.inl ⟨Nat.le_of_ble_eq_true rfl, rfl, mt_6 (i := 119) rfl⟩
set_option maxRecDepth 20000 in
theorem mk_11_62 : MK 11 (314, 192, 0, 1476) := Or.inl ⟨Nat.le_of_ble_eq_true rfl, rfl, mt_6 (i := 165) rfl⟩
set_option maxRecDepth 20000 in
theorem mk_11_63 : MK 11 (317, 134, 0, 1400) := Or.inl ⟨Nat.le_of_ble_eq_true rfl, rfl, mt_6 (i := 89) rfl⟩
set_option maxRecDepth 20000 in
theorem mk_11_64 : MK 11 (321, 194, 0, 1404) := Or.inl ⟨Nat.le_of_ble_eq_true rfl, rfl, mt_6 (i := 93) rfl⟩
set_option maxRecDepth 20000 in
theorem mk_11_65 : MK 11 (324, 133, 0, 1583) := Or.inl ⟨Nat.le_of_ble_eq_true rfl, rfl, mt_7 (i := 32) rfl⟩
set_option maxRecDepth 20000 in
theorem mk_11_66 : MK 11 (327, 197, 0, 1604) := Or.inl ⟨Nat.le_of_ble_eq_true rfl, rfl, mt_7 (i := 53) rfl⟩
set_option maxRecDepth 20000 in
theorem mk_11_67 : MK 11 (332, 198, 0, 1600) := Or.inl ⟨Nat.le_of_ble_eq_true rfl, rfl, mt_7 (i := 49) rfl⟩
set_option maxRecDepth 20000 in
theorem mk_11_68 : MK 11 (335, 200, 0, 1612) := Or.inl ⟨Nat.le_of_ble_eq_true rfl, rfl, mt_7 (i := 61) rfl⟩
set_option maxRecDepth 20000 in
theorem mk_11_69 : MK 11 (338, 203, 0, 1624) := Or.inl ⟨Nat.le_of_ble_eq_true rfl, rfl, mt_7 (i := 73) rfl⟩
set_option maxRecDepth 20000 in
theorem mk_11_70 : MK 11 (341, 204, 0, 1640) := Or.inl ⟨Nat.le_of_ble_eq_true rfl, rfl, mt_7 (i := 89) rfl⟩
set_option maxRecDepth 20000 in
theorem mk_11_71 : MK 11 (344, 209, 0, 1656) := Or.inl ⟨Nat.le_of_ble_eq_true rfl, rfl, mt_7 (i := 105) rfl⟩
set_option maxRecDepth 20000 in
theorem mk_11_72 : MK 11 (347, 210, 0, 1660) := Or.inl ⟨Nat.le_of_ble_eq_true rfl, rfl, mt_7 (i := 109) rfl⟩
set_option maxRecDepth 20000 in
theorem mk_11_73 : MK 11 (350, 211, 0, 1652) := Or.inl ⟨Nat.le_of_ble_eq_true rfl, rfl, mt_7 (i := 101) rfl⟩
set_option maxRecDepth 20000 in
theorem mk_11_74 : MK 11 (356, 216, 0, 1684) := Or.inl ⟨Nat.le_of_ble_eq_true rfl, rfl, mt_7 (i := 133) rfl⟩
set_option maxRecDepth 20000 in
theorem mk_11_75 : MK 11 (359, 217, 0, 1680) := Or.inl ⟨Nat.le_of_ble_eq_true rfl, rfl, mt_7 (i := 129) rfl⟩
set_option maxRecDepth 20000 in
theorem mk_11_76 : MK 11 (362, 165, 0, 1704) := Or.inl ⟨Nat.le_of_ble_eq_true rfl, rfl, mt_7 (i := 153) rfl⟩
set_option maxRecDepth 20000 in
theorem mk_11_77 : MK 11 (365, 167, 0, 1724) := Or.inl ⟨Nat.le_of_ble_eq_true rfl, rfl, mt_7 (i := 173) rfl⟩
set_option maxRecDepth 20000 in
theorem mk_11_78 : MK 11 (370, 172, 0, 1745) := Or.inl ⟨Nat.le_of_ble_eq_true rfl, rfl, mt_7 (i := 194) rfl⟩
set_option maxRecDepth 20000 in
theorem mk_11_79 : MK 11 (380, 228, 0, 1769) := Or.inl ⟨Nat.le_of_ble_eq_true rfl, rfl, mt_7 (i := 218) rfl⟩
set_option maxRecDepth 20000 in
theorem mk_11 : ∀ e ∈ mTL.getD 11 [], MK 11 e := List.forall_mem_cons.mpr ⟨mk_11_0, List.forall_mem_cons.mpr ⟨mk_11_1, List.forall_mem_cons.mpr ⟨mk_11_2, List.forall_mem_cons.mpr ⟨mk_11_3, List.forall_mem_cons.mpr ⟨mk_11_4, List.forall_mem_cons.mpr ⟨mk_11_5, List.forall_mem_cons.mpr ⟨mk_11_6, List.forall_mem_cons.mpr ⟨mk_11_7, List.forall_mem_cons.mpr ⟨mk_11_8, List.forall_mem_cons.mpr ⟨mk_11_9, List.forall_mem_cons.mpr ⟨mk_11_10, List.forall_mem_cons.mpr ⟨mk_11_11, List.forall_mem_cons.mpr ⟨mk_11_12, List.forall_mem_cons.mpr ⟨mk_11_13, List.forall_mem_cons.mpr ⟨mk_11_14, List.forall_mem_cons.mpr ⟨mk_11_15, List.forall_mem_cons.mpr ⟨mk_11_16, List.forall_mem_cons.mpr ⟨mk_11_17, List.forall_mem_cons.mpr ⟨mk_11_18, List.forall_mem_cons.mpr ⟨mk_11_19, List.forall_mem_cons.mpr ⟨mk_11_20, List.forall_mem_cons.mpr ⟨mk_11_21, List.forall_mem_cons.mpr ⟨mk_11_22, List.forall_mem_cons.mpr ⟨mk_11_23, List.forall_mem_cons.mpr ⟨mk_11_24, List.forall_mem_cons.mpr ⟨mk_11_25, List.forall_mem_cons.mpr ⟨mk_11_26, List.forall_mem_cons.mpr ⟨mk_11_27, List.forall_mem_cons.mpr ⟨mk_11_28, List.forall_mem_cons.mpr ⟨mk_11_29, List.forall_mem_cons.mpr ⟨mk_11_30, List.forall_mem_cons.mpr ⟨mk_11_31, List.forall_mem_cons.mpr ⟨mk_11_32, List.forall_mem_cons.mpr ⟨mk_11_33, List.forall_mem_cons.mpr ⟨mk_11_34, List.forall_mem_cons.mpr ⟨mk_11_35, List.forall_mem_cons.mpr ⟨mk_11_36, List.forall_mem_cons.mpr ⟨mk_11_37, List.forall_mem_cons.mpr ⟨mk_11_38, List.forall_mem_cons.mpr ⟨mk_11_39, List.forall_mem_cons.mpr ⟨mk_11_40, List.forall_mem_cons.mpr ⟨mk_11_41, List.forall_mem_cons.mpr ⟨mk_11_42, List.forall_mem_cons.mpr ⟨mk_11_43, List.forall_mem_cons.mpr ⟨mk_11_44, List.forall_mem_cons.mpr ⟨mk_11_45, List.forall_mem_cons.mpr ⟨mk_11_46, List.forall_mem_cons.mpr ⟨mk_11_47, List.forall_mem_cons.mpr ⟨mk_11_48, List.forall_mem_cons.mpr ⟨mk_11_49, List.forall_mem_cons.mpr ⟨mk_11_50, List.forall_mem_cons.mpr ⟨mk_11_51, List.forall_mem_cons.mpr ⟨mk_11_52, List.forall_mem_cons.mpr ⟨mk_11_53, List.forall_mem_cons.mpr ⟨mk_11_54, List.forall_mem_cons.mpr ⟨mk_11_55, List.forall_mem_cons.mpr ⟨mk_11_56, List.forall_mem_cons.mpr ⟨mk_11_57, List.forall_mem_cons.mpr ⟨mk_11_58, List.forall_mem_cons.mpr ⟨mk_11_59, List.forall_mem_cons.mpr ⟨mk_11_60, List.forall_mem_cons.mpr ⟨mk_11_61, List.forall_mem_cons.mpr ⟨mk_11_62, List.forall_mem_cons.mpr ⟨mk_11_63, List.forall_mem_cons.mpr ⟨mk_11_64, List.forall_mem_cons.mpr ⟨mk_11_65, List.forall_mem_cons.mpr ⟨mk_11_66, List.forall_mem_cons.mpr ⟨mk_11_67, List.forall_mem_cons.mpr ⟨mk_11_68, List.forall_mem_cons.mpr ⟨mk_11_69, List.forall_mem_cons.mpr ⟨mk_11_70, List.forall_mem_cons.mpr ⟨mk_11_71, List.forall_mem_cons.mpr ⟨mk_11_72, List.forall_mem_cons.mpr ⟨mk_11_73, List.forall_mem_cons.mpr ⟨mk_11_74, List.forall_mem_cons.mpr ⟨mk_11_75, List.forall_mem_cons.mpr ⟨mk_11_76, List.forall_mem_cons.mpr ⟨mk_11_77, List.forall_mem_cons.mpr ⟨mk_11_78, List.forall_mem_cons.mpr ⟨mk_11_79, fun _ h => absurd h List.not_mem_nil⟩⟩⟩⟩⟩⟩⟩⟩⟩⟩⟩⟩⟩⟩⟩⟩⟩⟩⟩⟩⟩⟩⟩⟩⟩⟩⟩⟩⟩⟩⟩⟩⟩⟩⟩⟩⟩⟩⟩⟩⟩⟩⟩⟩⟩⟩⟩⟩⟩⟩⟩⟩⟩⟩⟩⟩⟩⟩⟩⟩⟩⟩⟩⟩⟩⟩⟩⟩⟩⟩⟩⟩⟩⟩⟩⟩⟩⟩⟩⟩
set_option maxRecDepth 20000 in
theorem mk_12_0 : MK 12 (7, 95, 0, 637) := Or.inl ⟨Nat.le_of_ble_eq_true rfl, rfl, mt_3 (i := 46) rfl⟩
set_option maxRecDepth 20000 in
theorem mk_12_1 : MK 12 (15, 98, 0, 962) := Or.inl ⟨Nat.le_of_ble_eq_true rfl, rfl, mt_4 (i := 131) rfl⟩
set_option maxRecDepth 20000 in
theorem mk_12_2 : MK 12 (18, 99, 0, 971) := Or.inl ⟨Nat.le_of_ble_eq_true rfl, rfl, mt_4 (i := 140) rfl⟩
set_option maxRecDepth 20000 in
theorem mk_12_3 : MK 12 (23, 100, 0, 998) := Or.inl ⟨Nat.le_of_ble_eq_true rfl, rfl, mt_4 (i := 167) rfl⟩
set_option maxRecDepth 20000 in
theorem mk_12_4 : MK 12 (27, 102, 0, 1007) := Or.inl ⟨Nat.le_of_ble_eq_true rfl, rfl, mt_4 (i := 176) rfl⟩
set_option maxRecDepth 20000 in
theorem mk_12_5 : MK 12 (32, 105, 0, 1036) := Or.inl ⟨Nat.le_of_ble_eq_true rfl, rfl, mt_4 (i := 205) rfl⟩
set_option maxRecDepth 20000 in
theorem mk_12_6 : MK 12 (35, 106, 0, 1044) := Or.inl ⟨Nat.le_of_ble_eq_true rfl, rfl, mt_4 (i := 213) rfl⟩
set_option maxRecDepth 20000 in
theorem mk_12_7 : MK 12 (38, 107, 0, 1058) := Or.inl ⟨Nat.le_of_ble_eq_true rfl, rfl, mt_4 (i := 227) rfl⟩
set_option maxRecDepth 20000 in
theorem mk_12_8 : MK 12 (41, 109, 0, 1072) := Or.inl ⟨Nat.le_of_ble_eq_true rfl, rfl, mt_5 (i := 1) rfl⟩
set_option maxRecDepth 20000 in
theorem mk_12_9 : MK 12 (44, 110, 0, 1079) := Or.inl ⟨Nat.le_of_ble_eq_true rfl, rfl, mt_5 (i := 8) rfl⟩
set_option maxRecDepth 20000 in
theorem mk_12_10 : MK 12 (48, 111, 0, 1090) := Or.inl ⟨Nat.le_of_ble_eq_true rfl, rfl, mt_5 (i := 19) rfl⟩
set_option maxRecDepth 20000 in
theorem mk_12_11 : MK 12 (51, 112, 0, 1097) := Or.inl ⟨Nat.le_of_ble_eq_true rfl, rfl, mt_5 (i := 26) rfl⟩
set_option maxRecDepth 20000 in
theorem mk_12_12 : MK 12 (54, 113, 0, 1105) := Or.inl ⟨Nat.le_of_ble_eq_true rfl, rfl, mt_5 (i := 34) rfl⟩
set_option maxRecDepth 20000 in
theorem mk_12_13 : MK 12 (57, 114, 0, 1138) := Or.inl ⟨Nat.le_of_ble_eq_true rfl, rfl, mt_5 (i := 67) rfl⟩
set_option maxRecDepth 20000 in
theorem mk_12_14 : MK 12 (60, 115, 0, 1146) := Or.inl ⟨Nat.le_of_ble_eq_true rfl, rfl, mt_5 (i := 75) rfl⟩
set_option maxRecDepth 20000 in
theorem mk_12_15 : MK 12 (64, 116, 0, 1154) := Or.inl ⟨Nat.le_of_ble_eq_true rfl, rfl, mt_5 (i := 83) rfl⟩
set_option maxRecDepth 20000 in
theorem mk_12_16 : MK 12 (68, 117, 0, 1162) := Or.inl ⟨Nat.le_of_ble_eq_true rfl, rfl, mt_5 (i := 91) rfl⟩
set_option maxRecDepth 20000 in
theorem mk_12_17 : MK 12 (71, 118, 0, 1186) := Or.inl ⟨Nat.le_of_ble_eq_true rfl, rfl, mt_5 (i := 115) rfl⟩
set_option maxRecDepth 20000 in
theorem mk_12_18 : MK 12 (74, 119, 0, 1209) := Or.inl ⟨Nat.le_of_ble_eq_true rfl, rfl, mt_5 (i := 138) rfl⟩
set_option maxRecDepth 20000 in
theorem mk_12_19 : MK 12 (77, 120, 0, 1218) := Or.inl ⟨Nat.le_of_ble_eq_true rfl, rfl, mt_5 (i := 147) rfl⟩
set_option maxRecDepth 20000 in
theorem mk_12_20 : MK 12 (81, 121, 0, 1234) := Or.inl ⟨Nat.le_of_ble_eq_true rfl, rfl, mt_5 (i := 163) rfl⟩
set_option maxRecDepth 20000 in
theorem mk_12_21 : MK 12 (87, 93, 0, 139) := Or.inl ⟨Nat.le_of_ble_eq_true rfl, rfl, mt_1 (i := 28) rfl⟩
set_option maxRecDepth 20000 in
theorem mk_12_22 : MK 12 (90, 126, 0, 1260) := Or.inl ⟨Nat.le_of_ble_eq_true rfl, rfl, mt_5 (i := 189) rfl⟩
set_option maxRecDepth 20000 in
theorem mk_12_23 : MK 12 (91, 94, 0, 521) := Or.inl ⟨Nat.le_of_ble_eq_true rfl, rfl, mt_2 (i := 170) rfl⟩
set_option maxRecDepth 20000 in
theorem mk_12_24 : MK 12 (95, 175, 0, 1389) := Or.inl ⟨Nat.le_of_ble_eq_true rfl, rfl, mt_6 (i := 78) rfl⟩
set_option maxRecDepth 20000 in
theorem mk_12_25 : MK 12 (96, 230, 0, 633) := Or.inl ⟨Nat.le_of_ble_eq_true rfl, rfl, mt_3 (i := 42) rfl⟩
set_option maxRecDepth 20000 in
theorem mk_12_26 : MK 12 (101, 195, 0, 1393) := Or.inl ⟨Nat.le_of_ble_eq_true rfl, rfl, mt_6 (i := 82) rfl⟩
set_option maxRecDepth 20000 in
theorem mk_12_27 : MK 12 (102, 127, 0, 1385) := Or.inl ⟨Nat.le_of_ble_eq_true rfl, rfl, mt_6 (i := 74) rfl⟩
set_option maxRecDepth 20000 in
theorem mk_12_28 : MK 12 (105, 97, 0, 533) := Or.inl ⟨Nat.le_of_ble_eq_true rfl, rfl, mt_2 (i := 182) rfl⟩
set_option maxRecDepth 20000 in
theorem mk_12_29 : MK 12 (108, 196, 0, 1591) := Or.inl ⟨Nat.le_of_ble_eq_true rfl, rfl, mt_7 (i := 40) rfl⟩
set_option maxRecDepth 20000 in
theorem mk_12_30 : MK 12 (109, 231, 0, 959) := Or.inl ⟨Nat.le_of_ble_eq_true rfl, rfl, mt_4 (i := 128) rfl⟩
set_option maxRecDepth 20000 in
theorem mk_12_31 : MK 12 (111, 199, 0, 1595) := Or.inl ⟨Nat.le_of_ble_eq_true rfl, rfl, mt_7 (i := 44) rfl⟩
set_option maxRecDepth 20000 in
theorem mk_12_32 : MK 12 (112, 232, 0, 967) := Or.inl ⟨Nat.le_of_ble_eq_true rfl, rfl, mt_4 (i := 136) rfl⟩
set_option maxRecDepth 20000 in
theorem mk_12_33 : MK 12 (114, 201, 0, 1608) := Or.inl ⟨Nat.le_of_ble_eq_true rfl, rfl, mt_7 (i := 57) rfl⟩
set_option maxRecDepth 20000 in
theorem mk_12_34 : MK 12 (115, 233, 0, 995) := Or.inl ⟨Nat.le_of_ble_eq_true rfl, rfl, mt_4 (i := 164) rfl⟩
set_option maxRecDepth 20000 in
theorem mk_12_35 : MK 12 (118, 202, 0, 1616) := Or.inl ⟨Nat.le_of_ble_eq_true rfl, rfl, mt_7 (i := 65) rfl⟩
set_option maxRecDepth 20000 in
theorem mk_12_36 : MK 12 (119, 234, 0, 1003) := Or.inl ⟨Nat.le_of_ble_eq_true rfl, rfl, mt_4 (i := 172) rfl⟩
set_option maxRecDepth 20000 in
theorem mk_12_37 : MK 12 (121, 205, 0, 1620) := Or.inl ⟨Nat.le_of_ble_eq_true rfl, rfl, mt_7 (i := 69) rfl⟩
set_option maxRecDepth 20000 in
theorem mk_12_38 : MK 12 (122, 235, 0, 1033) := Or.inl ⟨Nat.le_of_ble_eq_true rfl, rfl, mt_4 (i := 202) rfl⟩
set_option maxRecDepth 20000 in
theorem mk_12_39 : MK 12 (124, 206, 0, 1632) := Or.inl ⟨Nat.le_of_ble_eq_true rfl, rfl, mt_7 (i := 81) rfl⟩
set_option maxRecDepth 20000 in
theorem mk_12_40 : MK 12 (125, 236, 0, 1041) := Or.inl ⟨Nat.le_of_ble_eq_true rfl, rfl, mt_4 (i := 210) rfl⟩
set_option maxRecDepth 20000 in
theorem mk_12_41 : MK 12 (127, 207, 0, 1636) := Or.inl ⟨Nat.le_of_ble_eq_true rfl, rfl, mt_7 (i := 85) rfl⟩
set_option maxRecDepth 20000 in
theorem mk_12_42 : MK 12 (128, 237, 0, 1055) := Or.inl ⟨Nat.le_of_ble_eq_true rfl, rfl, mt_4 (i := 224) rfl⟩
set_option maxRecDepth 20000 in
theorem mk_12_43 : MK 12 (130, 208, 0, 1644) := Or.inl ⟨Nat.le_of_ble_eq_true rfl, rfl, mt_7 (i := 93) rfl⟩
set_option maxRecDepth 20000 in
theorem mk_12_44 : MK 12 (131, 238, 0, 1069) := Or.inl ⟨Nat.le_of_ble_eq_true rfl, rfl, mt_4 (i := 238) rfl⟩
set_option maxRecDepth 20000 in
theorem mk_12_45 : MK 12 (133, 212, 0, 1648) := Or.inl ⟨Nat.le_of_ble_eq_true rfl, rfl, mt_7 (i := 97) rfl⟩
set_option maxRecDepth 20000 in
theorem mk_12_46 : MK 12 (134, 239, 0, 1076) := Or.inl ⟨Nat.le_of_ble_eq_true rfl, rfl, mt_5 (i := 5) rfl⟩
set_option maxRecDepth 20000 in
theorem mk_12_47 : MK 12 (136, 213, 0, 1664) := Or.inl ⟨Nat.le_of_ble_eq_true rfl, rfl, mt_7 (i := 113) rfl⟩
set_option maxRecDepth 20000 in
theorem mk_12_48 : MK 12 (137, 240, 0, 1087) := Or.inl ⟨Nat.le_of_ble_eq_true rfl, rfl, mt_5 (i := 16) rfl⟩
set_option maxRecDepth 20000 in
theorem mk_12_49 : MK 12 (139, 214, 0, 1668) := Or.inl ⟨Nat.le_of_ble_eq_true rfl, rfl, mt_7 (i := 117) rfl⟩
set_option maxRecDepth 20000 in
theorem mk_12_50 : MK 12 (140, 241, 0, 1094) := Or.inl ⟨Nat.le_of_ble_eq_true rfl, rfl, mt_5 (i := 23) rfl⟩
set_option maxRecDepth 20000 in
theorem mk_12_51 : MK 12 (142, 215, 0, 1672) := Or.inl ⟨Nat.le_of_ble_eq_true rfl, rfl, mt_7 (i := 121) rfl⟩
set_option maxRecDepth 20000 in
theorem mk_12_52 : MK 12 (143, 242, 0, 1102) := Or.inl ⟨Nat.le_of_ble_eq_true rfl, rfl, mt_5 (i := 31) rfl⟩
set_option maxRecDepth 20000 in
theorem mk_12_53 : MK 12 (145, 218, 0, 1676) := Or.inl ⟨Nat.le_of_ble_eq_true rfl, rfl, mt_7 (i := 125) rfl⟩
set_option maxRecDepth 20000 in
theorem mk_12_54 : MK 12 (146, 243, 0, 1135) := Or.inl ⟨Nat.le_of_ble_eq_true rfl, rfl, mt_5 (i := 64) rfl⟩
set_option maxRecDepth 20000 in
theorem mk_12_55 : MK 12 (148, 219, 0, 1688) := Or.inl ⟨Nat.le_of_ble_eq_true rfl, rfl, mt_7 (i := 137) rfl⟩
set_option maxRecDepth 20000 in
theorem mk_12_56 : MK 12 (149, 244, 0, 1143) := Or.inl ⟨Nat.le_of_ble_eq_true rfl, rfl, mt_5 (i := 72) rfl⟩
set_option maxRecDepth 20000 in
theorem mk_12_57 : MK 12 (152, 220, 0, 1692) := Or.inl ⟨Nat.le_of_ble_eq_true rfl, rfl, mt_7 (i := 141) rfl⟩
set_option maxRecDepth 20000 in
theorem mk_12_58 : MK 12 (153, 245, 0, 1151) := Or.inl ⟨Nat.le_of_ble_eq_true rfl, rfl, mt_5 (i := 80) rfl⟩
set_option maxRecDepth 20000 in
theorem mk_12_59 : MK 12 (156, 221, 0, 1696) := Or.inl ⟨Nat.le_of_ble_eq_true rfl, rfl, mt_7 (i := 145) rfl⟩
set_option maxRecDepth 20000 in
theorem mk_12_60 : MK 12 (157, 246, 0, 1159) := Or.inl ⟨Nat.le_of_ble_eq_true rfl, rfl, mt_5 (i := 88) rfl⟩
set_option maxRecDepth 20000 in
theorem mk_12_61 : MK 12 (159, 222, 0, 1700) := Or.inl ⟨Nat.le_of_ble_eq_true rfl, rfl, mt_7 (i := 149) rfl⟩
set_option maxRecDepth 20000 in
theorem mk_12_62 : MK 12 (160, 247, 0, 1183) := Or.inl ⟨Nat.le_of_ble_eq_true rfl, rfl, mt_5 (i := 112) rfl⟩
set_option maxRecDepth 20000 in
theorem mk_12_63 : MK 12 (162, 223, 0, 1720) := Or.inl ⟨Nat.le_of_ble_eq_true rfl, rfl, mt_7 (i := 169) rfl⟩
set_option maxRecDepth 20000 in
theorem mk_12_64 : MK 12 (163, 248, 0, 1206) := Or.inl ⟨Nat.le_of_ble_eq_true rfl, rfl, mt_5 (i := 135) rfl⟩
set_option maxRecDepth 20000 in
theorem mk_12_65 : MK 12 (165, 224, 0, 1736) := Or.inl ⟨Nat.le_of_ble_eq_true rfl, rfl, mt_7 (i := 185) rfl⟩
set_option maxRecDepth 20000 in
theorem mk_12_66 : MK 12 (166, 249, 0, 1215) := Or.inl ⟨Nat.le_of_ble_eq_true rfl, rfl, mt_5 (i := 144) rfl⟩
set_option maxRecDepth 20000 in
theorem mk_12_67 : MK 12 (169, 225, 0, 1741) := Or.inl ⟨Nat.le_of_ble_eq_true rfl, rfl, mt_7 (i := 190) rfl⟩
set_option maxRecDepth 20000 in
theorem mk_12_68 : MK 12 (170, 250, 0, 1230) := Or.inl ⟨Nat.le_of_ble_eq_true rfl, rfl, mt_5 (i := 159) rfl⟩
set_option maxRecDepth 20000 in
theorem mk_12_69 : MK 12 (173, 226, 0, 1757) := Or.inl ⟨Nat.le_of_ble_eq_true rfl, rfl, mt_7 (i := 206) rfl⟩
set_option maxRecDepth 20000 in
theorem mk_12_70 : MK 12 (174, 122, 0, 537) := Or.inl ⟨Nat.le_of_ble_eq_true rfl, rfl, mt_2 (i := 186) rfl⟩
set_option maxRecDepth 20000 in
theorem mk_12_71 : MK 12 (177, 227, 0, 1761) := Or.inl ⟨Nat.le_of_ble_eq_true rfl, rfl, mt_7 (i := 210) rfl⟩
set_option maxRecDepth 20000 in
theorem mk_12_72 : MK 12 (178, 123, 0, 557) := Or.inl ⟨Nat.le_of_ble_eq_true rfl, rfl, mt_2 (i := 206) rfl⟩
set_option maxRecDepth 20000 in
theorem mk_12_73 : MK 12 (182, 229, 0, 1765) := Or.inl ⟨Nat.le_of_ble_eq_true rfl, rfl, mt_7 (i := 214) rfl⟩
set_option maxRecDepth 20000 in
theorem mk_12 : ∀ e ∈ mTL.getD 12 [], MK 12 e := List.forall_mem_cons.mpr ⟨mk_12_0, List.forall_mem_cons.mpr ⟨mk_12_1, List.forall_mem_cons.mpr ⟨mk_12_2, List.forall_mem_cons.mpr ⟨mk_12_3, List.forall_mem_cons.mpr ⟨mk_12_4, List.forall_mem_cons.mpr ⟨mk_12_5, List.forall_mem_cons.mpr ⟨mk_12_6, List.forall_mem_cons.mpr ⟨mk_12_7, List.forall_mem_cons.mpr ⟨mk_12_8, List.forall_mem_cons.mpr ⟨mk_12_9, List.forall_mem_cons.mpr ⟨mk_12_10, List.forall_mem_cons.mpr ⟨mk_12_11, List.forall_mem_cons.mpr ⟨mk_12_12, List.forall_mem_cons.mpr ⟨mk_12_13, List.forall_mem_cons.mpr ⟨mk_12_14, List.forall_mem_cons.mpr ⟨mk_12_15, List.forall_mem_cons.mpr ⟨mk_12_16, List.forall_mem_cons.mpr ⟨mk_12_17, List.forall_mem_cons.mpr ⟨mk_12_18, List.forall_mem_cons.mpr ⟨mk_12_19, List.forall_mem_cons.mpr ⟨mk_12_20, List.forall_mem_cons.mpr ⟨mk_12_21, List.forall_mem_cons.mpr ⟨mk_12_22, List.forall_mem_cons.mpr ⟨mk_12_23, List.forall_mem_cons.mpr ⟨mk_12_24, List.forall_mem_cons.mpr ⟨mk_12_25, List.forall_mem_cons.mpr ⟨mk_12_26, List.forall_mem_cons.mpr ⟨mk_12_27, List.forall_mem_cons.mpr ⟨mk_12_28, List.forall_mem_cons.mpr ⟨mk_12_29, List.forall_mem_cons.mpr ⟨mk_12_30, List.forall_mem_cons.mpr ⟨mk_12_31, List.forall_mem_cons.mpr ⟨mk_12_32, List.forall_mem_cons.mpr ⟨mk_12_33, List.forall_mem_cons.mpr ⟨mk_12_34, List.forall_mem_cons.mpr ⟨mk_12_35, List.forall_mem_cons.mpr ⟨mk_12_36, List.forall_mem_cons.mpr ⟨mk_12_37, List.forall_mem_cons.mpr ⟨mk_12_38, List.forall_mem_cons.mpr ⟨mk_12_39, List.forall_mem_cons.mpr ⟨mk_12_40, List.forall_mem_cons.mpr ⟨mk_12_41, List.forall_mem_cons.mpr ⟨mk_12_42, List.forall_mem_cons.mpr ⟨mk_12_43, List.forall_mem_cons.mpr ⟨mk_12_44, List.forall_mem_cons.mpr ⟨mk_12_45, List.forall_mem_cons.mpr ⟨mk_12_46, List.forall_mem_cons.mpr ⟨mk_12_47, List.forall_mem_cons.mpr ⟨mk_12_48, List.forall_mem_cons.mpr ⟨mk_12_49, List.forall_mem_cons.mpr ⟨mk_12_50, List.forall_mem_cons.mpr ⟨mk_12_51, List.forall_mem_cons.mpr ⟨mk_12_52, List.forall_mem_cons.mpr ⟨mk_12_53, List.forall_mem_cons.mpr ⟨mk_12_54, List.forall_mem_cons.mpr ⟨mk_12_55, List.forall_mem_cons.mpr ⟨mk_12_56, List.forall_mem_cons.mpr ⟨mk_12_57, List.forall_mem_cons.mpr ⟨mk_12_58, List.forall_mem_cons.mpr ⟨mk_12_59, List.forall_mem_cons.mpr ⟨mk_12_60, List.forall_mem_cons.mpr ⟨mk_12_61, List.forall_mem_cons.mpr ⟨mk_12_62, List.forall_mem_cons.mpr ⟨mk_12_63, List.forall_mem_cons.mpr ⟨mk_12_64, List.forall_mem_cons.mpr ⟨mk_12_65, List.forall_mem_cons.mpr ⟨mk_12_66, List.forall_mem_cons.mpr ⟨mk_12_67, List.forall_mem_cons.mpr ⟨mk_12_68, List.forall_mem_cons.mpr ⟨mk_12_69, List.forall_mem_cons.mpr ⟨mk_12_70, List.forall_mem_cons.mpr ⟨mk_12_71, List.forall_mem_cons.mpr ⟨mk_12_72, List.forall_mem_cons.mpr ⟨mk_12_73, fun _ h => absurd h List.not_mem_nil⟩⟩⟩⟩⟩⟩⟩⟩⟩⟩⟩⟩⟩⟩⟩⟩⟩⟩⟩⟩⟩⟩⟩⟩⟩⟩⟩⟩⟩⟩⟩⟩⟩⟩⟩⟩⟩⟩⟩⟩⟩⟩⟩⟩⟩⟩⟩⟩⟩⟩⟩⟩⟩⟩⟩⟩⟩⟩⟩⟩⟩⟩⟩⟩⟩⟩⟩⟩⟩⟩⟩⟩⟩⟩
set_option maxRecDepth 20000 in
theorem mk_all (cx : Nat) (hc : cx < 13) : ∀ e ∈ mTL.getD cx [], MK cx e := by
  match cx, hc with
  | 0, _ => exact mk_0
  | 1, _ => exact mk_1
  | 2, _ => exact mk_2
  | 3, _ => exact mk_3
  | 4, _ => exact mk_4
  | 5, _ => exact mk_5
  | 6, _ => exact mk_6
  | 7, _ => exact mk_7
  | 8, _ => exact mk_8
  | 9, _ => exact mk_9
  | 10, _ => exact mk_10
  | 11, _ => exact mk_11
  | 12, _ => exact mk_12
def LK (cx : Nat) (e : Nat × Int64 × Nat) : Prop := Cond.constantLong (cnm cx) e.1 e.2.1 ∈ lw_tbl
set_option maxRecDepth 20000 in
theorem lk_0 : ∀ e ∈ lTL.getD 0 [], LK 0 e := fun _ h => absurd h List.not_mem_nil
set_option maxRecDepth 20000 in
theorem lk_1 : ∀ e ∈ lTL.getD 1 [], LK 1 e := fun _ h => absurd h List.not_mem_nil
set_option maxRecDepth 20000 in
theorem lk_2 : ∀ e ∈ lTL.getD 2 [], LK 2 e := fun _ h => absurd h List.not_mem_nil
set_option maxRecDepth 20000 in
theorem lk_3 : ∀ e ∈ lTL.getD 3 [], LK 3 e := fun _ h => absurd h List.not_mem_nil
set_option maxRecDepth 20000 in
theorem lk_4 : ∀ e ∈ lTL.getD 4 [], LK 4 e := fun _ h => absurd h List.not_mem_nil
set_option maxRecDepth 20000 in
theorem lk_5 : ∀ e ∈ lTL.getD 5 [], LK 5 e := fun _ h => absurd h List.not_mem_nil
set_option maxRecDepth 20000 in
theorem lk_6 : ∀ e ∈ lTL.getD 6 [], LK 6 e := fun _ h => absurd h List.not_mem_nil
set_option maxRecDepth 20000 in
theorem lk_7 : ∀ e ∈ lTL.getD 7 [], LK 7 e := fun _ h => absurd h List.not_mem_nil
set_option maxRecDepth 20000 in
theorem lk_8 : ∀ e ∈ lTL.getD 8 [], LK 8 e := fun _ h => absurd h List.not_mem_nil
set_option maxRecDepth 20000 in
theorem lk_9 : ∀ e ∈ lTL.getD 9 [], LK 9 e := fun _ h => absurd h List.not_mem_nil
set_option maxRecDepth 20000 in
theorem lk_10_0 : LK 10 (282, 31, 561) := mt_2 (i := 210) rfl
set_option maxRecDepth 20000 in
theorem lk_10 : ∀ e ∈ lTL.getD 10 [], LK 10 e := List.forall_mem_cons.mpr ⟨lk_10_0, fun _ h => absurd h List.not_mem_nil⟩
set_option maxRecDepth 20000 in
theorem lk_11_0 : LK 11 (330, 8, 1599) := mt_7 (i := 48) rfl
set_option maxRecDepth 20000 in
theorem lk_11_1 : LK 11 (368, 3, 1740) := mt_7 (i := 189) rfl
set_option maxRecDepth 20000 in
theorem lk_11_2 : LK 11 (374, 31, 1773) := mt_7 (i := 222) rfl
set_option maxRecDepth 20000 in
theorem lk_11 : ∀ e ∈ lTL.getD 11 [], LK 11 e := List.forall_mem_cons.mpr ⟨lk_11_0, List.forall_mem_cons.mpr ⟨lk_11_1, List.forall_mem_cons.mpr ⟨lk_11_2, fun _ h => absurd h List.not_mem_nil⟩⟩⟩
set_option maxRecDepth 20000 in
theorem lk_12 : ∀ e ∈ lTL.getD 12 [], LK 12 e := fun _ h => absurd h List.not_mem_nil
set_option maxRecDepth 20000 in
theorem lk_all (cx : Nat) (hc : cx < 13) : ∀ e ∈ lTL.getD cx [], LK cx e := by
  match cx, hc with
  | 0, _ => exact lk_0
  | 1, _ => exact lk_1
  | 2, _ => exact lk_2
  | 3, _ => exact lk_3
  | 4, _ => exact lk_4
  | 5, _ => exact lk_5
  | 6, _ => exact lk_6
  | 7, _ => exact lk_7
  | 8, _ => exact lk_8
  | 9, _ => exact lk_9
  | 10, _ => exact lk_10
  | 11, _ => exact lk_11
  | 12, _ => exact lk_12
def sChk1 (cx : Nat) (e : Nat × Nat) : Bool := decide (e.2 < strN) && (match strL[e.2]? with
  | some (o, k, _) => decide (o = cnm cx) && Nat.beq k e.1
  | none => false)
theorem sChk : (List.range 13).all (fun cx => (sTL.getD cx []).all (sChk1 cx)) = true := by decide +kernel
def SK (e : String × Nat × String) : Prop := Cond.stringRef e.1 e.2.1 e.2.2 ∈ lw_tbl
set_option maxRecDepth 20000 in
theorem sk_all : ∀ e ∈ strL, SK e := List.forall_mem_cons.mpr ⟨mt_3 (i := 144) rfl, List.forall_mem_cons.mpr ⟨mt_3 (i := 213) rfl, List.forall_mem_cons.mpr ⟨mt_3 (i := 215) rfl, List.forall_mem_cons.mpr ⟨mt_4 (i := 21) rfl, List.forall_mem_cons.mpr ⟨mt_4 (i := 89) rfl, List.forall_mem_cons.mpr ⟨mt_4 (i := 102) rfl, List.forall_mem_cons.mpr ⟨mt_4 (i := 107) rfl, List.forall_mem_cons.mpr ⟨mt_4 (i := 108) rfl, List.forall_mem_cons.mpr ⟨mt_4 (i := 109) rfl, List.forall_mem_cons.mpr ⟨mt_4 (i := 110) rfl, List.forall_mem_cons.mpr ⟨mt_6 (i := 123) rfl, List.forall_mem_cons.mpr ⟨mt_6 (i := 169) rfl, List.forall_mem_cons.mpr ⟨mt_7 (i := 14) rfl, List.forall_mem_cons.mpr ⟨mt_7 (i := 19) rfl, List.forall_mem_cons.mpr ⟨mt_7 (i := 20) rfl, List.forall_mem_cons.mpr ⟨mt_7 (i := 21) rfl, List.forall_mem_cons.mpr ⟨mt_7 (i := 22) rfl, List.forall_mem_cons.mpr ⟨mt_7 (i := 23) rfl, List.forall_mem_cons.mpr ⟨mt_6 (i := 97) rfl, List.forall_mem_cons.mpr ⟨mt_6 (i := 160) rfl, fun _ h => absurd h List.not_mem_nil⟩⟩⟩⟩⟩⟩⟩⟩⟩⟩⟩⟩⟩⟩⟩⟩⟩⟩⟩⟩
def hWord (y : Nat) : Cond := match mHan y with
  | [] => .code (mNam y) (mByt y) (mmx y) (mRet y)
  | q :: r => .codeWith (mNam y) (mByt y) (mmx y) (mRet y) (q :: r)
def YF (y : Nat) : Prop := hWord y ∈ lw_tbl ∧ Cond.initialized (cnm (mcx y)) ∈ lw_tbl ∧ (mNam y).cls = cnm (mcx y) ∧ (parseMethodDescriptor (mNam y).desc).map (fun d => d.parameters.length) = some (mna y) ∧
  ((mkd y = 0 ∧ mHan y = [] ∧ Cond.instanceMethod (mNam y) ∈ lw_tbl ∧ Cond.selects (cnm (mcx y)) (mNam y) (mNam y) ∈ lw_tbl) ∨ (mkd y = 1 ∧ Cond.static (mNam y) ∈ lw_tbl) ∨ (mkd y = 2 ∧ mHan y = [] ∧ (mNam y).name = "<init>" ∧ mRet y = none ∧ Cond.instanceMethod (mNam y) ∈ lw_tbl))
set_option maxRecDepth 20000 in
theorem yf_0 : YF 0 := ⟨mt_1 (i := 184) rfl, mt_1 (i := 5) rfl, rfl, by decide +kernel, Or.inr (Or.inr ⟨rfl, rfl, rfl, rfl, mt_1 (i := 183) rfl⟩)⟩
set_option maxRecDepth 20000 in
theorem yf_1 : YF 1 := ⟨mt_4 (i := 43) rfl, mt_1 (i := 5) rfl, rfl, by decide +kernel, Or.inl ⟨rfl, rfl, mt_4 (i := 41) rfl, mt_4 (i := 42) rfl⟩⟩
set_option maxRecDepth 20000 in
theorem yf_2 : YF 2 := ⟨mt_4 (i := 97) rfl, mt_1 (i := 5) rfl, rfl, by decide +kernel, Or.inl ⟨rfl, rfl, mt_4 (i := 95) rfl, mt_4 (i := 96) rfl⟩⟩
set_option maxRecDepth 20000 in
theorem yf_3 : YF 3 := ⟨mt_5 (i := 98) rfl, mt_1 (i := 5) rfl, rfl, by decide +kernel, Or.inl ⟨rfl, rfl, mt_5 (i := 96) rfl, mt_5 (i := 97) rfl⟩⟩
set_option maxRecDepth 20000 in
theorem yf_4 : YF 4 := ⟨mt_5 (i := 102) rfl, mt_1 (i := 5) rfl, rfl, by decide +kernel, Or.inl ⟨rfl, rfl, mt_5 (i := 101) rfl, ms_w (ms_3 (i := 2) rfl) rfl⟩⟩
set_option maxRecDepth 20000 in
theorem yf_5 : YF 5 := ⟨mt_5 (i := 111) rfl, mt_1 (i := 5) rfl, rfl, by decide +kernel, Or.inl ⟨rfl, rfl, mt_5 (i := 110) rfl, ms_w (ms_3 (i := 3) rfl) rfl⟩⟩
set_option maxRecDepth 20000 in
theorem yf_6 : YF 6 := ⟨mt_4 (i := 48) rfl, mt_1 (i := 5) rfl, rfl, by decide +kernel, Or.inl ⟨rfl, rfl, mt_4 (i := 46) rfl, mt_4 (i := 47) rfl⟩⟩
set_option maxRecDepth 20000 in
theorem yf_7 : YF 7 := ⟨mt_4 (i := 64) rfl, mt_1 (i := 5) rfl, rfl, by decide +kernel, Or.inl ⟨rfl, rfl, mt_4 (i := 63) rfl, ms_w (ms_2 (i := 2) rfl) rfl⟩⟩
set_option maxRecDepth 20000 in
theorem yf_8 : YF 8 := ⟨mt_4 (i := 72) rfl, mt_1 (i := 5) rfl, rfl, by decide +kernel, Or.inl ⟨rfl, rfl, mt_4 (i := 71) rfl, ms_w (ms_2 (i := 3) rfl) rfl⟩⟩
set_option maxRecDepth 20000 in
theorem yf_9 : YF 9 := ⟨mt_4 (i := 84) rfl, mt_1 (i := 5) rfl, rfl, by decide +kernel, Or.inl ⟨rfl, rfl, mt_4 (i := 83) rfl, ms_w (ms_2 (i := 5) rfl) rfl⟩⟩
set_option maxRecDepth 20000 in
theorem yf_10 : YF 10 := ⟨mt_4 (i := 80) rfl, mt_1 (i := 5) rfl, rfl, by decide +kernel, Or.inl ⟨rfl, rfl, mt_4 (i := 79) rfl, ms_w (ms_2 (i := 4) rfl) rfl⟩⟩
set_option maxRecDepth 20000 in
theorem yf_11 : YF 11 := ⟨mt_5 (i := 122) rfl, mt_1 (i := 5) rfl, rfl, by decide +kernel, Or.inl ⟨rfl, rfl, mt_5 (i := 120) rfl, mt_5 (i := 121) rfl⟩⟩
set_option maxRecDepth 20000 in
theorem yf_12 : YF 12 := ⟨mt_5 (i := 134) rfl, mt_1 (i := 5) rfl, rfl, by decide +kernel, Or.inl ⟨rfl, rfl, mt_5 (i := 133) rfl, ms_w (ms_3 (i := 5) rfl) rfl⟩⟩
set_option maxRecDepth 20000 in
theorem yf_13 : YF 13 := ⟨mt_4 (i := 114) rfl, mt_1 (i := 5) rfl, rfl, by decide +kernel, Or.inl ⟨rfl, rfl, mt_4 (i := 112) rfl, mt_4 (i := 113) rfl⟩⟩
set_option maxRecDepth 20000 in
theorem yf_14 : YF 14 := ⟨mt_4 (i := 118) rfl, mt_1 (i := 5) rfl, rfl, by decide +kernel, Or.inl ⟨rfl, rfl, mt_4 (i := 117) rfl, ms_w (ms_2 (i := 10) rfl) rfl⟩⟩
set_option maxRecDepth 20000 in
theorem yf_15 : YF 15 := ⟨mt_5 (i := 154) rfl, mt_1 (i := 5) rfl, rfl, by decide +kernel, Or.inl ⟨rfl, rfl, mt_5 (i := 152) rfl, mt_5 (i := 153) rfl⟩⟩
set_option maxRecDepth 20000 in
theorem yf_16 : YF 16 := ⟨mt_5 (i := 158) rfl, mt_1 (i := 5) rfl, rfl, by decide +kernel, Or.inl ⟨rfl, rfl, mt_5 (i := 157) rfl, ms_w (ms_3 (i := 6) rfl) rfl⟩⟩
set_option maxRecDepth 20000 in
theorem yf_17 : YF 17 := ⟨mt_5 (i := 186) rfl, mt_1 (i := 5) rfl, rfl, by decide +kernel, Or.inl ⟨rfl, rfl, mt_5 (i := 184) rfl, mt_5 (i := 185) rfl⟩⟩
set_option maxRecDepth 20000 in
theorem yf_18 : YF 18 := ⟨mt_1 (i := 190) rfl, mt_1 (i := 6) rfl, rfl, by decide +kernel, Or.inr (Or.inr ⟨rfl, rfl, rfl, rfl, mt_1 (i := 189) rfl⟩)⟩
set_option maxRecDepth 20000 in
theorem yf_19 : YF 19 := ⟨mt_3 (i := 2) rfl, mt_1 (i := 6) rfl, rfl, by decide +kernel, Or.inl ⟨rfl, rfl, mt_3 (i := 0) rfl, mt_3 (i := 1) rfl⟩⟩
set_option maxRecDepth 20000 in
theorem yf_20 : YF 20 := ⟨mt_3 (i := 6) rfl, mt_1 (i := 6) rfl, rfl, by decide +kernel, Or.inl ⟨rfl, rfl, mt_3 (i := 5) rfl, ms_w (ms_1 (i := 3) rfl) rfl⟩⟩
set_option maxRecDepth 20000 in
theorem yf_21 : YF 21 := ⟨mt_3 (i := 10) rfl, mt_1 (i := 6) rfl, rfl, by decide +kernel, Or.inl ⟨rfl, rfl, mt_3 (i := 9) rfl, ms_w (ms_1 (i := 4) rfl) rfl⟩⟩
set_option maxRecDepth 20000 in
theorem yf_22 : YF 22 := ⟨mt_4 (i := 76) rfl, mt_1 (i := 6) rfl, rfl, by decide +kernel, Or.inl ⟨rfl, rfl, mt_4 (i := 74) rfl, mt_4 (i := 75) rfl⟩⟩
set_option maxRecDepth 20000 in
theorem yf_23 : YF 23 := ⟨mt_1 (i := 38) rfl, mt_1 (i := 2) rfl, rfl, by decide +kernel, Or.inr (Or.inr ⟨rfl, rfl, rfl, rfl, mt_1 (i := 37) rfl⟩)⟩
set_option maxRecDepth 20000 in
theorem yf_24 : YF 24 := ⟨mt_2 (i := 177) rfl, mt_1 (i := 2) rfl, rfl, by decide +kernel, Or.inl ⟨rfl, rfl, mt_2 (i := 175) rfl, mt_2 (i := 176) rfl⟩⟩
set_option maxRecDepth 20000 in
theorem yf_25 : YF 25 := ⟨mt_2 (i := 181) rfl, mt_1 (i := 2) rfl, rfl, by decide +kernel, Or.inl ⟨rfl, rfl, mt_2 (i := 179) rfl, mt_2 (i := 180) rfl⟩⟩
set_option maxRecDepth 20000 in
theorem yf_26 : YF 26 := ⟨mt_3 (i := 125) rfl, mt_1 (i := 2) rfl, rfl, by decide +kernel, Or.inl ⟨rfl, rfl, mt_3 (i := 123) rfl, mt_3 (i := 124) rfl⟩⟩
set_option maxRecDepth 20000 in
theorem yf_27 : YF 27 := ⟨mt_3 (i := 135) rfl, mt_1 (i := 2) rfl, rfl, by decide +kernel, Or.inl ⟨rfl, rfl, mt_3 (i := 133) rfl, mt_3 (i := 134) rfl⟩⟩
set_option maxRecDepth 20000 in
theorem yf_28 : YF 28 := ⟨mt_3 (i := 139) rfl, mt_1 (i := 2) rfl, rfl, by decide +kernel, Or.inl ⟨rfl, rfl, mt_3 (i := 138) rfl, ms_w (ms_1 (i := 9) rfl) rfl⟩⟩
set_option maxRecDepth 20000 in
theorem yf_29 : YF 29 := ⟨mt_3 (i := 204) rfl, mt_1 (i := 2) rfl, rfl, by decide +kernel, Or.inl ⟨rfl, rfl, mt_3 (i := 202) rfl, mt_3 (i := 203) rfl⟩⟩
set_option maxRecDepth 20000 in
theorem yf_30 : YF 30 := ⟨mt_4 (i := 122) rfl, mt_1 (i := 2) rfl, rfl, by decide +kernel, Or.inl ⟨rfl, rfl, mt_4 (i := 120) rfl, mt_4 (i := 121) rfl⟩⟩
set_option maxRecDepth 20000 in
theorem yf_31 : YF 31 := ⟨mt_3 (i := 208) rfl, mt_1 (i := 2) rfl, rfl, by decide +kernel, Or.inl ⟨rfl, rfl, mt_3 (i := 206) rfl, mt_3 (i := 207) rfl⟩⟩
set_option maxRecDepth 20000 in
theorem yf_32 : YF 32 := ⟨mt_3 (i := 148) rfl, mt_1 (i := 2) rfl, rfl, by decide +kernel, Or.inl ⟨rfl, rfl, mt_3 (i := 146) rfl, mt_3 (i := 147) rfl⟩⟩
set_option maxRecDepth 20000 in
theorem yf_33 : YF 33 := ⟨mt_3 (i := 152) rfl, mt_1 (i := 2) rfl, rfl, by decide +kernel, Or.inl ⟨rfl, rfl, mt_3 (i := 150) rfl, mt_3 (i := 151) rfl⟩⟩
set_option maxRecDepth 20000 in
theorem yf_34 : YF 34 := ⟨mt_3 (i := 229) rfl, mt_1 (i := 2) rfl, rfl, by decide +kernel, Or.inl ⟨rfl, rfl, mt_3 (i := 227) rfl, mt_3 (i := 228) rfl⟩⟩
set_option maxRecDepth 20000 in
theorem yf_35 : YF 35 := ⟨mt_1 (i := 75) rfl, mt_1 (i := 3) rfl, rfl, by decide +kernel, Or.inr (Or.inr ⟨rfl, rfl, rfl, rfl, mt_1 (i := 74) rfl⟩)⟩
set_option maxRecDepth 20000 in
theorem yf_36 : YF 36 := ⟨mt_2 (i := 131) rfl, mt_1 (i := 3) rfl, rfl, by decide +kernel, Or.inl ⟨rfl, rfl, mt_2 (i := 129) rfl, mt_2 (i := 130) rfl⟩⟩
set_option maxRecDepth 20000 in
theorem yf_37 : YF 37 := ⟨mt_2 (i := 135) rfl, mt_1 (i := 3) rfl, rfl, by decide +kernel, Or.inl ⟨rfl, rfl, mt_2 (i := 133) rfl, mt_2 (i := 134) rfl⟩⟩
set_option maxRecDepth 20000 in
theorem yf_38 : YF 38 := ⟨mt_5 (i := 126) rfl, mt_1 (i := 3) rfl, rfl, by decide +kernel, Or.inl ⟨rfl, rfl, mt_5 (i := 124) rfl, mt_5 (i := 125) rfl⟩⟩
set_option maxRecDepth 20000 in
theorem yf_39 : YF 39 := ⟨mt_5 (i := 130) rfl, mt_1 (i := 3) rfl, rfl, by decide +kernel, Or.inl ⟨rfl, rfl, mt_5 (i := 129) rfl, ms_w (ms_3 (i := 4) rfl) rfl⟩⟩
set_option maxRecDepth 20000 in
theorem yf_40 : YF 40 := ⟨mt_4 (i := 68) rfl, mt_1 (i := 3) rfl, rfl, by decide +kernel, Or.inl ⟨rfl, rfl, mt_4 (i := 66) rfl, mt_4 (i := 67) rfl⟩⟩
set_option maxRecDepth 20000 in
theorem yf_41 : YF 41 := ⟨mt_4 (i := 53) rfl, mt_1 (i := 3) rfl, rfl, by decide +kernel, Or.inl ⟨rfl, rfl, mt_4 (i := 51) rfl, mt_4 (i := 52) rfl⟩⟩
set_option maxRecDepth 20000 in
theorem yf_42 : YF 42 := ⟨mt_3 (i := 30) rfl, mt_1 (i := 3) rfl, rfl, by decide +kernel, Or.inl ⟨rfl, rfl, mt_3 (i := 28) rfl, mt_3 (i := 29) rfl⟩⟩
set_option maxRecDepth 20000 in
theorem yf_43 : YF 43 := ⟨mt_5 (i := 45) rfl, mt_1 (i := 3) rfl, rfl, by decide +kernel, Or.inl ⟨rfl, rfl, mt_5 (i := 43) rfl, mt_5 (i := 44) rfl⟩⟩
set_option maxRecDepth 20000 in
theorem yf_44 : YF 44 := ⟨mt_5 (i := 107) rfl, mt_1 (i := 3) rfl, rfl, by decide +kernel, Or.inl ⟨rfl, rfl, mt_5 (i := 105) rfl, mt_5 (i := 106) rfl⟩⟩
set_option maxRecDepth 20000 in
theorem yf_45 : YF 45 := ⟨mt_3 (i := 22) rfl, mt_1 (i := 3) rfl, rfl, by decide +kernel, Or.inl ⟨rfl, rfl, mt_3 (i := 20) rfl, mt_3 (i := 21) rfl⟩⟩
set_option maxRecDepth 20000 in
theorem yf_46 : YF 46 := ⟨mt_4 (i := 57) rfl, mt_1 (i := 3) rfl, rfl, by decide +kernel, Or.inl ⟨rfl, rfl, mt_4 (i := 55) rfl, mt_4 (i := 56) rfl⟩⟩
set_option maxRecDepth 20000 in
theorem yf_47 : YF 47 := ⟨mt_2 (i := 214) rfl, mt_1 (i := 3) rfl, rfl, by decide +kernel, Or.inl ⟨rfl, rfl, mt_2 (i := 212) rfl, mt_2 (i := 213) rfl⟩⟩
set_option maxRecDepth 20000 in
theorem yf_48 : YF 48 := ⟨mt_2 (i := 218) rfl, mt_1 (i := 3) rfl, rfl, by decide +kernel, Or.inl ⟨rfl, rfl, mt_2 (i := 217) rfl, ms_w (ms_1 (i := 0) rfl) rfl⟩⟩
set_option maxRecDepth 20000 in
theorem yf_49 : YF 49 := ⟨mt_2 (i := 238) rfl, mt_1 (i := 3) rfl, rfl, by decide +kernel, Or.inl ⟨rfl, rfl, mt_2 (i := 236) rfl, mt_2 (i := 237) rfl⟩⟩
set_option maxRecDepth 20000 in
theorem yf_50 : YF 50 := ⟨mt_2 (i := 197) rfl, mt_1 (i := 3) rfl, rfl, by decide +kernel, Or.inl ⟨rfl, rfl, mt_2 (i := 195) rfl, mt_2 (i := 196) rfl⟩⟩
set_option maxRecDepth 20000 in
theorem yf_51 : YF 51 := ⟨mt_2 (i := 104) rfl, mt_1 (i := 11) rfl, rfl, by decide +kernel, Or.inr (Or.inr ⟨rfl, rfl, rfl, rfl, mt_2 (i := 103) rfl⟩)⟩
set_option maxRecDepth 20000 in
theorem yf_52 : YF 52 := ⟨mt_4 (i := 126) rfl, mt_1 (i := 11) rfl, rfl, by decide +kernel, Or.inl ⟨rfl, rfl, mt_4 (i := 124) rfl, mt_4 (i := 125) rfl⟩⟩
set_option maxRecDepth 20000 in
theorem yf_53 : YF 53 := ⟨mt_2 (i := 193) rfl, mt_1 (i := 11) rfl, rfl, by decide +kernel, Or.inl ⟨rfl, rfl, mt_2 (i := 191) rfl, mt_2 (i := 192) rfl⟩⟩
set_option maxRecDepth 20000 in
theorem yf_54 : YF 54 := ⟨mt_2 (i := 54) rfl, mt_1 (i := 9) rfl, rfl, by decide +kernel, Or.inr (Or.inr ⟨rfl, rfl, rfl, rfl, mt_2 (i := 53) rfl⟩)⟩
set_option maxRecDepth 20000 in
theorem yf_55 : YF 55 := ⟨mt_5 (i := 41) rfl, mt_1 (i := 9) rfl, rfl, by decide +kernel, Or.inl ⟨rfl, rfl, mt_5 (i := 39) rfl, mt_5 (i := 40) rfl⟩⟩
set_option maxRecDepth 20000 in
theorem yf_56 : YF 56 := ⟨mt_5 (i := 50) rfl, mt_1 (i := 9) rfl, rfl, by decide +kernel, Or.inl ⟨rfl, rfl, mt_5 (i := 49) rfl, ms_w (ms_2 (i := 15) rfl) rfl⟩⟩
set_option maxRecDepth 20000 in
theorem yf_57 : YF 57 := ⟨mt_5 (i := 63) rfl, mt_1 (i := 9) rfl, rfl, by decide +kernel, Or.inl ⟨rfl, rfl, mt_5 (i := 62) rfl, ms_w (ms_3 (i := 1) rfl) rfl⟩⟩
set_option maxRecDepth 20000 in
theorem yf_58 : YF 58 := ⟨mt_5 (i := 59) rfl, mt_1 (i := 9) rfl, rfl, by decide +kernel, Or.inl ⟨rfl, rfl, mt_5 (i := 58) rfl, ms_w (ms_3 (i := 0) rfl) rfl⟩⟩
set_option maxRecDepth 20000 in
theorem yf_59 : YF 59 := ⟨mt_2 (i := 78) rfl, mt_1 (i := 10) rfl, rfl, by decide +kernel, Or.inr (Or.inr ⟨rfl, rfl, rfl, rfl, mt_2 (i := 77) rfl⟩)⟩
set_option maxRecDepth 20000 in
theorem yf_60 : YF 60 := ⟨mt_3 (i := 143) rfl, mt_1 (i := 10) rfl, rfl, by decide +kernel, Or.inl ⟨rfl, rfl, mt_3 (i := 141) rfl, mt_3 (i := 142) rfl⟩⟩
set_option maxRecDepth 20000 in
theorem yf_61 : YF 61 := ⟨mt_3 (i := 212) rfl, mt_1 (i := 10) rfl, rfl, by decide +kernel, Or.inl ⟨rfl, rfl, mt_3 (i := 211) rfl, ms_w (ms_1 (i := 10) rfl) rfl⟩⟩
set_option maxRecDepth 20000 in
theorem yf_62 : YF 62 := ⟨mt_3 (i := 225) rfl, mt_1 (i := 10) rfl, rfl, by decide +kernel, Or.inl ⟨rfl, rfl, mt_3 (i := 224) rfl, ms_w (ms_1 (i := 11) rfl) rfl⟩⟩
set_option maxRecDepth 20000 in
theorem yf_63 : YF 63 := ⟨mt_3 (i := 238) rfl, mt_1 (i := 10) rfl, rfl, by decide +kernel, Or.inl ⟨rfl, rfl, mt_3 (i := 237) rfl, ms_w (ms_1 (i := 12) rfl) rfl⟩⟩
set_option maxRecDepth 20000 in
theorem yf_64 : YF 64 := ⟨mt_4 (i := 2) rfl, mt_1 (i := 10) rfl, rfl, by decide +kernel, Or.inl ⟨rfl, rfl, mt_4 (i := 1) rfl, ms_w (ms_1 (i := 13) rfl) rfl⟩⟩
set_option maxRecDepth 20000 in
theorem yf_65 : YF 65 := ⟨mt_4 (i := 11) rfl, mt_1 (i := 10) rfl, rfl, by decide +kernel, Or.inl ⟨rfl, rfl, mt_4 (i := 10) rfl, ms_w (ms_1 (i := 14) rfl) rfl⟩⟩
set_option maxRecDepth 20000 in
theorem yf_66 : YF 66 := ⟨mt_4 (i := 15) rfl, mt_1 (i := 10) rfl, rfl, by decide +kernel, Or.inl ⟨rfl, rfl, mt_4 (i := 14) rfl, ms_w (ms_1 (i := 15) rfl) rfl⟩⟩
set_option maxRecDepth 20000 in
theorem yf_67 : YF 67 := ⟨mt_4 (i := 20) rfl, mt_1 (i := 10) rfl, rfl, by decide +kernel, Or.inl ⟨rfl, rfl, mt_4 (i := 18) rfl, mt_4 (i := 19) rfl⟩⟩
set_option maxRecDepth 20000 in
theorem yf_68 : YF 68 := ⟨mt_4 (i := 25) rfl, mt_1 (i := 10) rfl, rfl, by decide +kernel, Or.inl ⟨rfl, rfl, mt_4 (i := 24) rfl, ms_w (ms_2 (i := 0) rfl) rfl⟩⟩
set_option maxRecDepth 20000 in
theorem yf_69 : YF 69 := ⟨mt_4 (i := 93) rfl, mt_1 (i := 10) rfl, rfl, by decide +kernel, Or.inl ⟨rfl, rfl, mt_4 (i := 92) rfl, ms_w (ms_2 (i := 7) rfl) rfl⟩⟩
set_option maxRecDepth 20000 in
theorem yf_70 : YF 70 := ⟨mt_4 (i := 88) rfl, mt_1 (i := 10) rfl, rfl, by decide +kernel, Or.inl ⟨rfl, rfl, mt_4 (i := 87) rfl, ms_w (ms_2 (i := 6) rfl) rfl⟩⟩
set_option maxRecDepth 20000 in
theorem yf_71 : YF 71 := ⟨mt_4 (i := 101) rfl, mt_1 (i := 10) rfl, rfl, by decide +kernel, Or.inl ⟨rfl, rfl, mt_4 (i := 100) rfl, ms_w (ms_2 (i := 8) rfl) rfl⟩⟩
set_option maxRecDepth 20000 in
theorem yf_72 : YF 72 := ⟨mt_4 (i := 106) rfl, mt_1 (i := 10) rfl, rfl, by decide +kernel, Or.inl ⟨rfl, rfl, mt_4 (i := 105) rfl, ms_w (ms_2 (i := 9) rfl) rfl⟩⟩
set_option maxRecDepth 20000 in
theorem yf_73 : YF 73 := ⟨mt_2 (i := 30) rfl, mt_1 (i := 8) rfl, rfl, by decide +kernel, Or.inr (Or.inr ⟨rfl, rfl, rfl, rfl, mt_2 (i := 29) rfl⟩)⟩
set_option maxRecDepth 20000 in
theorem yf_74 : YF 74 := ⟨mt_3 (i := 14) rfl, mt_1 (i := 8) rfl, rfl, by decide +kernel, Or.inl ⟨rfl, rfl, mt_3 (i := 12) rfl, mt_3 (i := 13) rfl⟩⟩
set_option maxRecDepth 20000 in
theorem yf_75 : YF 75 := ⟨mt_3 (i := 34) rfl, mt_1 (i := 8) rfl, rfl, by decide +kernel, Or.inl ⟨rfl, rfl, mt_3 (i := 33) rfl, ms_w (ms_1 (i := 5) rfl) rfl⟩⟩
set_option maxRecDepth 20000 in
theorem yf_76 : YF 76 := ⟨mt_3 (i := 38) rfl, mt_1 (i := 8) rfl, rfl, by decide +kernel, Or.inl ⟨rfl, rfl, mt_3 (i := 37) rfl, ms_w (ms_1 (i := 6) rfl) rfl⟩⟩
set_option maxRecDepth 20000 in
theorem yf_77 : YF 77 := ⟨mt_5 (i := 15) rfl, mt_1 (i := 8) rfl, rfl, by decide +kernel, Or.inl ⟨rfl, rfl, mt_5 (i := 13) rfl, mt_5 (i := 14) rfl⟩⟩
set_option maxRecDepth 20000 in
theorem yf_78 : YF 78 := ⟨mt_1 (i := 81) rfl, mt_1 (i := 4) rfl, rfl, by decide +kernel, Or.inr (Or.inr ⟨rfl, rfl, rfl, rfl, mt_1 (i := 80) rfl⟩)⟩
set_option maxRecDepth 20000 in
theorem yf_79 : YF 79 := ⟨mt_3 (i := 220) rfl, mt_1 (i := 4) rfl, rfl, by decide +kernel, Or.inl ⟨rfl, rfl, mt_3 (i := 218) rfl, mt_3 (i := 219) rfl⟩⟩
set_option maxRecDepth 20000 in
theorem yf_80 : YF 80 := ⟨mt_2 (i := 123) rfl, mt_1 (i := 4) rfl, rfl, by decide +kernel, Or.inl ⟨rfl, rfl, mt_2 (i := 121) rfl, mt_2 (i := 122) rfl⟩⟩
set_option maxRecDepth 20000 in
theorem yf_81 : YF 81 := ⟨mt_2 (i := 127) rfl, mt_1 (i := 4) rfl, rfl, by decide +kernel, Or.inl ⟨rfl, rfl, mt_2 (i := 125) rfl, mt_2 (i := 126) rfl⟩⟩
set_option maxRecDepth 20000 in
theorem yf_82 : YF 82 := ⟨mt_2 (i := 226) rfl, mt_1 (i := 4) rfl, rfl, by decide +kernel, Or.inl ⟨rfl, rfl, mt_2 (i := 224) rfl, mt_2 (i := 225) rfl⟩⟩
set_option maxRecDepth 20000 in
theorem yf_83 : YF 83 := ⟨mt_2 (i := 230) rfl, mt_1 (i := 4) rfl, rfl, by decide +kernel, Or.inl ⟨rfl, rfl, mt_2 (i := 228) rfl, mt_2 (i := 229) rfl⟩⟩
set_option maxRecDepth 20000 in
theorem yf_84 : YF 84 := ⟨mt_5 (i := 54) rfl, mt_1 (i := 4) rfl, rfl, by decide +kernel, Or.inl ⟨rfl, rfl, mt_5 (i := 52) rfl, mt_5 (i := 53) rfl⟩⟩
set_option maxRecDepth 20000 in
theorem yf_85 : YF 85 := ⟨mt_3 (i := 233) rfl, mt_1 (i := 4) rfl, rfl, by decide +kernel, Or.inl ⟨rfl, rfl, mt_3 (i := 231) rfl, mt_3 (i := 232) rfl⟩⟩
set_option maxRecDepth 20000 in
theorem yf_86 : YF 86 := ⟨mt_4 (i := 6) rfl, mt_1 (i := 4) rfl, rfl, by decide +kernel, Or.inl ⟨rfl, rfl, mt_4 (i := 4) rfl, mt_4 (i := 5) rfl⟩⟩
set_option maxRecDepth 20000 in
theorem yf_87 : YF 87 := ⟨mt_2 (i := 201) rfl, mt_1 (i := 4) rfl, rfl, by decide +kernel, Or.inl ⟨rfl, rfl, mt_2 (i := 199) rfl, mt_2 (i := 200) rfl⟩⟩
set_option maxRecDepth 20000 in
theorem yf_88 : YF 88 := ⟨mt_2 (i := 6) rfl, mt_1 (i := 7) rfl, rfl, by decide +kernel, Or.inr (Or.inr ⟨rfl, rfl, rfl, rfl, mt_2 (i := 5) rfl⟩)⟩
set_option maxRecDepth 20000 in
theorem yf_89 : YF 89 := ⟨mt_3 (i := 26) rfl, mt_1 (i := 7) rfl, rfl, by decide +kernel, Or.inl ⟨rfl, rfl, mt_3 (i := 24) rfl, mt_3 (i := 25) rfl⟩⟩
set_option maxRecDepth 20000 in
theorem yf_90 : YF 90 := ⟨mt_3 (i := 18) rfl, mt_1 (i := 7) rfl, rfl, by decide +kernel, Or.inl ⟨rfl, rfl, mt_3 (i := 16) rfl, mt_3 (i := 17) rfl⟩⟩
set_option maxRecDepth 20000 in
theorem yf_91 : YF 91 := ⟨mt_4 (i := 29) rfl, mt_1 (i := 7) rfl, rfl, by decide +kernel, Or.inl ⟨rfl, rfl, mt_4 (i := 27) rfl, mt_4 (i := 28) rfl⟩⟩
set_option maxRecDepth 20000 in
theorem yf_92 : YF 92 := ⟨mt_4 (i := 35) rfl, mt_1 (i := 7) rfl, rfl, by decide +kernel, Or.inl ⟨rfl, rfl, mt_4 (i := 34) rfl, ms_w (ms_2 (i := 1) rfl) rfl⟩⟩
set_option maxRecDepth 20000 in
theorem yf_93 : YF 93 := ⟨mt_1 (i := 30) rfl, mt_1 (i := 1) rfl, rfl, by decide +kernel, Or.inr (Or.inr ⟨rfl, rfl, rfl, rfl, mt_1 (i := 29) rfl⟩)⟩
set_option maxRecDepth 20000 in
theorem yf_94 : YF 94 := ⟨mt_2 (i := 173) rfl, mt_1 (i := 1) rfl, rfl, by decide +kernel, Or.inl ⟨rfl, rfl, mt_2 (i := 171) rfl, mt_2 (i := 172) rfl⟩⟩
set_option maxRecDepth 20000 in
theorem yf_95 : YF 95 := ⟨mt_3 (i := 49) rfl, mt_1 (i := 1) rfl, rfl, by decide +kernel, Or.inl ⟨rfl, rfl, mt_3 (i := 47) rfl, mt_3 (i := 48) rfl⟩⟩
set_option maxRecDepth 20000 in
theorem yf_96 : YF 96 := ⟨mt_3 (i := 53) rfl, mt_1 (i := 1) rfl, rfl, by decide +kernel, Or.inl ⟨rfl, rfl, mt_3 (i := 52) rfl, ms_w (ms_1 (i := 7) rfl) rfl⟩⟩
set_option maxRecDepth 20000 in
theorem yf_97 : YF 97 := ⟨mt_2 (i := 185) rfl, mt_1 (i := 1) rfl, rfl, by decide +kernel, Or.inl ⟨rfl, rfl, mt_2 (i := 183) rfl, mt_2 (i := 184) rfl⟩⟩
set_option maxRecDepth 20000 in
theorem yf_98 : YF 98 := ⟨mt_4 (i := 134) rfl, mt_1 (i := 1) rfl, rfl, by decide +kernel, Or.inl ⟨rfl, rfl, mt_4 (i := 132) rfl, mt_4 (i := 133) rfl⟩⟩
set_option maxRecDepth 20000 in
theorem yf_99 : YF 99 := ⟨mt_4 (i := 143) rfl, mt_1 (i := 1) rfl, rfl, by decide +kernel, Or.inl ⟨rfl, rfl, mt_4 (i := 141) rfl, mt_4 (i := 142) rfl⟩⟩
set_option maxRecDepth 20000 in
theorem yf_100 : YF 100 := ⟨mt_4 (i := 170) rfl, mt_1 (i := 1) rfl, rfl, by decide +kernel, Or.inl ⟨rfl, rfl, mt_4 (i := 168) rfl, mt_4 (i := 169) rfl⟩⟩
set_option maxRecDepth 20000 in
theorem yf_101 : YF 101 := ⟨mt_4 (i := 147) rfl, mt_1 (i := 1) rfl, rfl, by decide +kernel, Or.inl ⟨rfl, rfl, mt_4 (i := 146) rfl, ms_w (ms_2 (i := 11) rfl) rfl⟩⟩
set_option maxRecDepth 20000 in
theorem yf_102 : YF 102 := ⟨mt_4 (i := 179) rfl, mt_1 (i := 1) rfl, rfl, by decide +kernel, Or.inl ⟨rfl, rfl, mt_4 (i := 177) rfl, mt_4 (i := 178) rfl⟩⟩
set_option maxRecDepth 20000 in
theorem yf_103 : YF 103 := ⟨mt_4 (i := 183) rfl, mt_1 (i := 1) rfl, rfl, by decide +kernel, Or.inl ⟨rfl, rfl, mt_4 (i := 182) rfl, ms_w (ms_2 (i := 12) rfl) rfl⟩⟩
set_option maxRecDepth 20000 in
theorem yf_104 : YF 104 := ⟨mt_4 (i := 220) rfl, mt_1 (i := 1) rfl, rfl, by decide +kernel, Or.inl ⟨rfl, rfl, mt_4 (i := 219) rfl, ms_w (ms_2 (i := 13) rfl) rfl⟩⟩
set_option maxRecDepth 20000 in
theorem yf_105 : YF 105 := ⟨mt_4 (i := 208) rfl, mt_1 (i := 1) rfl, rfl, by decide +kernel, Or.inl ⟨rfl, rfl, mt_4 (i := 206) rfl, mt_4 (i := 207) rfl⟩⟩
set_option maxRecDepth 20000 in
theorem yf_106 : YF 106 := ⟨mt_4 (i := 216) rfl, mt_1 (i := 1) rfl, rfl, by decide +kernel, Or.inl ⟨rfl, rfl, mt_4 (i := 214) rfl, mt_4 (i := 215) rfl⟩⟩
set_option maxRecDepth 20000 in
theorem yf_107 : YF 107 := ⟨mt_4 (i := 230) rfl, mt_1 (i := 1) rfl, rfl, by decide +kernel, Or.inl ⟨rfl, rfl, mt_4 (i := 228) rfl, mt_4 (i := 229) rfl⟩⟩
set_option maxRecDepth 20000 in
theorem yf_108 : YF 108 := ⟨mt_4 (i := 234) rfl, mt_1 (i := 1) rfl, rfl, by decide +kernel, Or.inl ⟨rfl, rfl, mt_4 (i := 233) rfl, ms_w (ms_2 (i := 14) rfl) rfl⟩⟩
set_option maxRecDepth 20000 in
theorem yf_109 : YF 109 := ⟨mt_5 (i := 4) rfl, mt_1 (i := 1) rfl, rfl, by decide +kernel, Or.inl ⟨rfl, rfl, mt_5 (i := 2) rfl, mt_5 (i := 3) rfl⟩⟩
set_option maxRecDepth 20000 in
theorem yf_110 : YF 110 := ⟨mt_5 (i := 11) rfl, mt_1 (i := 1) rfl, rfl, by decide +kernel, Or.inl ⟨rfl, rfl, mt_5 (i := 9) rfl, mt_5 (i := 10) rfl⟩⟩
set_option maxRecDepth 20000 in
theorem yf_111 : YF 111 := ⟨mt_5 (i := 22) rfl, mt_1 (i := 1) rfl, rfl, by decide +kernel, Or.inl ⟨rfl, rfl, mt_5 (i := 20) rfl, mt_5 (i := 21) rfl⟩⟩
set_option maxRecDepth 20000 in
theorem yf_112 : YF 112 := ⟨mt_5 (i := 29) rfl, mt_1 (i := 1) rfl, rfl, by decide +kernel, Or.inl ⟨rfl, rfl, mt_5 (i := 27) rfl, mt_5 (i := 28) rfl⟩⟩
set_option maxRecDepth 20000 in
theorem yf_113 : YF 113 := ⟨mt_5 (i := 37) rfl, mt_1 (i := 1) rfl, rfl, by decide +kernel, Or.inl ⟨rfl, rfl, mt_5 (i := 35) rfl, mt_5 (i := 36) rfl⟩⟩
set_option maxRecDepth 20000 in
theorem yf_114 : YF 114 := ⟨mt_5 (i := 70) rfl, mt_1 (i := 1) rfl, rfl, by decide +kernel, Or.inl ⟨rfl, rfl, mt_5 (i := 68) rfl, mt_5 (i := 69) rfl⟩⟩
set_option maxRecDepth 20000 in
theorem yf_115 : YF 115 := ⟨mt_5 (i := 78) rfl, mt_1 (i := 1) rfl, rfl, by decide +kernel, Or.inl ⟨rfl, rfl, mt_5 (i := 76) rfl, mt_5 (i := 77) rfl⟩⟩
set_option maxRecDepth 20000 in
theorem yf_116 : YF 116 := ⟨mt_5 (i := 86) rfl, mt_1 (i := 1) rfl, rfl, by decide +kernel, Or.inl ⟨rfl, rfl, mt_5 (i := 84) rfl, mt_5 (i := 85) rfl⟩⟩
set_option maxRecDepth 20000 in
theorem yf_117 : YF 117 := ⟨mt_5 (i := 94) rfl, mt_1 (i := 1) rfl, rfl, by decide +kernel, Or.inl ⟨rfl, rfl, mt_5 (i := 92) rfl, mt_5 (i := 93) rfl⟩⟩
set_option maxRecDepth 20000 in
theorem yf_118 : YF 118 := ⟨mt_5 (i := 118) rfl, mt_1 (i := 1) rfl, rfl, by decide +kernel, Or.inl ⟨rfl, rfl, mt_5 (i := 116) rfl, mt_5 (i := 117) rfl⟩⟩
set_option maxRecDepth 20000 in
theorem yf_119 : YF 119 := ⟨mt_5 (i := 141) rfl, mt_1 (i := 1) rfl, rfl, by decide +kernel, Or.inl ⟨rfl, rfl, mt_5 (i := 139) rfl, mt_5 (i := 140) rfl⟩⟩
set_option maxRecDepth 20000 in
theorem yf_120 : YF 120 := ⟨mt_5 (i := 150) rfl, mt_1 (i := 1) rfl, rfl, by decide +kernel, Or.inl ⟨rfl, rfl, mt_5 (i := 148) rfl, mt_5 (i := 149) rfl⟩⟩
set_option maxRecDepth 20000 in
theorem yf_121 : YF 121 := ⟨mt_5 (i := 166) rfl, mt_1 (i := 1) rfl, rfl, by decide +kernel, Or.inl ⟨rfl, rfl, mt_5 (i := 164) rfl, mt_5 (i := 165) rfl⟩⟩
set_option maxRecDepth 20000 in
theorem yf_122 : YF 122 := ⟨mt_2 (i := 189) rfl, mt_1 (i := 1) rfl, rfl, by decide +kernel, Or.inl ⟨rfl, rfl, mt_2 (i := 187) rfl, mt_2 (i := 188) rfl⟩⟩
set_option maxRecDepth 20000 in
theorem yf_123 : YF 123 := ⟨mt_2 (i := 209) rfl, mt_1 (i := 1) rfl, rfl, by decide +kernel, Or.inl ⟨rfl, rfl, mt_2 (i := 207) rfl, mt_2 (i := 208) rfl⟩⟩
set_option maxRecDepth 20000 in
theorem yf_124 : YF 124 := ⟨mt_2 (i := 222) rfl, mt_1 (i := 1) rfl, rfl, by decide +kernel, Or.inl ⟨rfl, rfl, mt_2 (i := 221) rfl, ms_w (ms_1 (i := 1) rfl) rfl⟩⟩
set_option maxRecDepth 20000 in
theorem yf_125 : YF 125 := ⟨mt_2 (i := 234) rfl, mt_1 (i := 1) rfl, rfl, by decide +kernel, Or.inl ⟨rfl, rfl, mt_2 (i := 233) rfl, ms_w (ms_1 (i := 2) rfl) rfl⟩⟩
set_option maxRecDepth 20000 in
theorem yf_126 : YF 126 := ⟨mt_5 (i := 191) rfl, mt_1 (i := 12) rfl, rfl, by decide +kernel, Or.inr (Or.inr ⟨rfl, rfl, rfl, rfl, mt_5 (i := 190) rfl⟩)⟩
set_option maxRecDepth 20000 in
theorem yf_127 : YF 127 := ⟨mt_6 (i := 77) rfl, mt_1 (i := 12) rfl, rfl, by decide +kernel, Or.inl ⟨rfl, rfl, mt_6 (i := 75) rfl, mt_6 (i := 76) rfl⟩⟩
set_option maxRecDepth 20000 in
theorem yf_128 : YF 128 := ⟨mt_6 (i := 88) rfl, mt_1 (i := 12) rfl, rfl, by decide +kernel, Or.inr (Or.inl ⟨rfl, mt_6 (i := 87) rfl⟩)⟩
set_option maxRecDepth 20000 in
theorem yf_129 : YF 129 := ⟨mt_5 (i := 218) rfl, mt_1 (i := 12) rfl, rfl, by decide +kernel, Or.inl ⟨rfl, rfl, mt_5 (i := 217) rfl, ms_w (ms_3 (i := 11) rfl) rfl⟩⟩
set_option maxRecDepth 20000 in
theorem yf_130 : YF 130 := ⟨mt_5 (i := 196) rfl, mt_1 (i := 12) rfl, rfl, by decide +kernel, Or.inl ⟨rfl, rfl, mt_5 (i := 195) rfl, ms_w (ms_3 (i := 7) rfl) rfl⟩⟩
set_option maxRecDepth 20000 in
theorem yf_131 : YF 131 := ⟨mt_5 (i := 225) rfl, mt_1 (i := 12) rfl, rfl, by decide +kernel, Or.inl ⟨rfl, rfl, mt_5 (i := 224) rfl, ms_w (ms_3 (i := 12) rfl) rfl⟩⟩
set_option maxRecDepth 20000 in
theorem yf_132 : YF 132 := ⟨mt_7 (i := 39) rfl, mt_1 (i := 12) rfl, rfl, by decide +kernel, Or.inl ⟨rfl, rfl, mt_7 (i := 38) rfl, ms_w (ms_6 (i := 8) rfl) rfl⟩⟩
set_option maxRecDepth 20000 in
theorem yf_133 : YF 133 := ⟨mt_7 (i := 35) rfl, mt_1 (i := 12) rfl, rfl, by decide +kernel, Or.inl ⟨rfl, rfl, mt_7 (i := 34) rfl, ms_w (ms_6 (i := 7) rfl) rfl⟩⟩
set_option maxRecDepth 20000 in
theorem yf_134 : YF 134 := ⟨mt_6 (i := 92) rfl, mt_1 (i := 12) rfl, rfl, by decide +kernel, Or.inl ⟨rfl, rfl, mt_6 (i := 91) rfl, ms_w (ms_3 (i := 13) rfl) rfl⟩⟩
set_option maxRecDepth 20000 in
theorem yf_135 : YF 135 := ⟨mt_5 (i := 203) rfl, mt_1 (i := 12) rfl, rfl, by decide +kernel, Or.inr (Or.inl ⟨rfl, mt_5 (i := 202) rfl⟩)⟩
set_option maxRecDepth 20000 in
theorem yf_136 : YF 136 := ⟨mt_5 (i := 206) rfl, mt_1 (i := 12) rfl, rfl, by decide +kernel, Or.inr (Or.inl ⟨rfl, mt_5 (i := 205) rfl⟩)⟩
set_option maxRecDepth 20000 in
theorem yf_137 : YF 137 := ⟨mt_5 (i := 221) rfl, mt_1 (i := 12) rfl, rfl, by decide +kernel, Or.inr (Or.inl ⟨rfl, mt_5 (i := 220) rfl⟩)⟩
set_option maxRecDepth 20000 in
theorem yf_138 : YF 138 := ⟨mt_6 (i := 181) rfl, mt_1 (i := 12) rfl, rfl, by decide +kernel, Or.inl ⟨rfl, rfl, mt_6 (i := 180) rfl, ms_w (ms_5 (i := 1) rfl) rfl⟩⟩
set_option maxRecDepth 20000 in
theorem yf_139 : YF 139 := ⟨mt_6 (i := 155) rfl, mt_1 (i := 12) rfl, rfl, by decide +kernel, Or.inl ⟨rfl, rfl, mt_6 (i := 154) rfl, ms_w (ms_4 (i := 11) rfl) rfl⟩⟩
set_option maxRecDepth 20000 in
theorem yf_140 : YF 140 := ⟨mt_6 (i := 159) rfl, mt_1 (i := 12) rfl, rfl, by decide +kernel, Or.inl ⟨rfl, rfl, mt_6 (i := 158) rfl, ms_w (ms_4 (i := 12) rfl) rfl⟩⟩
set_option maxRecDepth 20000 in
theorem yf_141 : YF 141 := ⟨mt_5 (i := 200) rfl, mt_1 (i := 12) rfl, rfl, by decide +kernel, Or.inl ⟨rfl, rfl, mt_5 (i := 199) rfl, ms_w (ms_3 (i := 8) rfl) rfl⟩⟩
set_option maxRecDepth 20000 in
theorem yf_142 : YF 142 := ⟨mt_5 (i := 210) rfl, mt_1 (i := 12) rfl, rfl, by decide +kernel, Or.inl ⟨rfl, rfl, mt_5 (i := 209) rfl, ms_w (ms_3 (i := 9) rfl) rfl⟩⟩
set_option maxRecDepth 20000 in
theorem yf_143 : YF 143 := ⟨mt_5 (i := 214) rfl, mt_1 (i := 12) rfl, rfl, by decide +kernel, Or.inl ⟨rfl, rfl, mt_5 (i := 213) rfl, ms_w (ms_3 (i := 10) rfl) rfl⟩⟩
set_option maxRecDepth 20000 in
theorem yf_144 : YF 144 := ⟨mt_7 (i := 80) rfl, mt_1 (i := 12) rfl, rfl, by decide +kernel, Or.inl ⟨rfl, rfl, mt_7 (i := 79) rfl, ms_w (ms_6 (i := 13) rfl) rfl⟩⟩
set_option maxRecDepth 20000 in
theorem yf_145 : YF 145 := ⟨mt_6 (i := 225) rfl, mt_1 (i := 12) rfl, rfl, by decide +kernel, Or.inl ⟨rfl, rfl, mt_6 (i := 224) rfl, ms_w (ms_5 (i := 12) rfl) rfl⟩⟩
set_option maxRecDepth 20000 in
theorem yf_146 : YF 146 := ⟨mt_6 (i := 221) rfl, mt_1 (i := 12) rfl, rfl, by decide +kernel, Or.inl ⟨rfl, rfl, mt_6 (i := 220) rfl, ms_w (ms_5 (i := 11) rfl) rfl⟩⟩
set_option maxRecDepth 20000 in
theorem yf_147 : YF 147 := ⟨mt_6 (i := 189) rfl, mt_1 (i := 12) rfl, rfl, by decide +kernel, Or.inl ⟨rfl, rfl, mt_6 (i := 188) rfl, ms_w (ms_5 (i := 3) rfl) rfl⟩⟩
set_option maxRecDepth 20000 in
theorem yf_148 : YF 148 := ⟨mt_7 (i := 164) rfl, mt_1 (i := 12) rfl, rfl, by decide +kernel, Or.inl ⟨rfl, rfl, mt_7 (i := 163) rfl, ms_w (ms_7 (i := 6) rfl) rfl⟩⟩
set_option maxRecDepth 20000 in
theorem yf_149 : YF 149 := ⟨mt_7 (i := 168) rfl, mt_1 (i := 12) rfl, rfl, by decide +kernel, Or.inl ⟨rfl, rfl, mt_7 (i := 167) rfl, ms_w (ms_7 (i := 7) rfl) rfl⟩⟩
set_option maxRecDepth 20000 in
theorem yf_150 : YF 150 := ⟨mt_7 (i := 180) rfl, mt_1 (i := 12) rfl, rfl, by decide +kernel, Or.inl ⟨rfl, rfl, mt_7 (i := 179) rfl, ms_w (ms_7 (i := 9) rfl) rfl⟩⟩
set_option maxRecDepth 20000 in
theorem yf_151 : YF 151 := ⟨mt_6 (i := 209) rfl, mt_1 (i := 12) rfl, rfl, by decide +kernel, Or.inl ⟨rfl, rfl, mt_6 (i := 208) rfl, ms_w (ms_5 (i := 8) rfl) rfl⟩⟩
set_option maxRecDepth 20000 in
theorem yf_152 : YF 152 := ⟨mt_6 (i := 205) rfl, mt_1 (i := 12) rfl, rfl, by decide +kernel, Or.inl ⟨rfl, rfl, mt_6 (i := 204) rfl, ms_w (ms_5 (i := 7) rfl) rfl⟩⟩
set_option maxRecDepth 20000 in
theorem yf_153 : YF 153 := ⟨mt_6 (i := 217) rfl, mt_1 (i := 12) rfl, rfl, by decide +kernel, Or.inl ⟨rfl, rfl, mt_6 (i := 216) rfl, ms_w (ms_5 (i := 10) rfl) rfl⟩⟩
set_option maxRecDepth 20000 in
theorem yf_154 : YF 154 := ⟨mt_6 (i := 213) rfl, mt_1 (i := 12) rfl, rfl, by decide +kernel, Or.inl ⟨rfl, rfl, mt_6 (i := 212) rfl, ms_w (ms_5 (i := 9) rfl) rfl⟩⟩
set_option maxRecDepth 20000 in
theorem yf_155 : YF 155 := ⟨mt_6 (i := 237) rfl, mt_1 (i := 12) rfl, rfl, by decide +kernel, Or.inl ⟨rfl, rfl, mt_6 (i := 236) rfl, ms_w (ms_5 (i := 15) rfl) rfl⟩⟩
set_option maxRecDepth 20000 in
theorem yf_156 : YF 156 := ⟨mt_7 (i := 5) rfl, mt_1 (i := 12) rfl, rfl, by decide +kernel, Or.inl ⟨rfl, rfl, mt_7 (i := 4) rfl, ms_w (ms_6 (i := 1) rfl) rfl⟩⟩
set_option maxRecDepth 20000 in
theorem yf_157 : YF 157 := ⟨mt_7 (i := 1) rfl, mt_1 (i := 12) rfl, rfl, by decide +kernel, Or.inl ⟨rfl, rfl, mt_7 (i := 0) rfl, ms_w (ms_6 (i := 0) rfl) rfl⟩⟩
set_option maxRecDepth 20000 in
theorem yf_158 : YF 158 := ⟨mt_7 (i := 13) rfl, mt_1 (i := 12) rfl, rfl, by decide +kernel, Or.inl ⟨rfl, rfl, mt_7 (i := 12) rfl, ms_w (ms_6 (i := 3) rfl) rfl⟩⟩
set_option maxRecDepth 20000 in
theorem yf_159 : YF 159 := ⟨mt_7 (i := 9) rfl, mt_1 (i := 12) rfl, rfl, by decide +kernel, Or.inl ⟨rfl, rfl, mt_7 (i := 8) rfl, ms_w (ms_6 (i := 2) rfl) rfl⟩⟩
set_option maxRecDepth 20000 in
theorem yf_160 : YF 160 := ⟨mt_6 (i := 233) rfl, mt_1 (i := 12) rfl, rfl, by decide +kernel, Or.inl ⟨rfl, rfl, mt_6 (i := 232) rfl, ms_w (ms_5 (i := 14) rfl) rfl⟩⟩
set_option maxRecDepth 20000 in
theorem yf_161 : YF 161 := ⟨mt_6 (i := 229) rfl, mt_1 (i := 12) rfl, rfl, by decide +kernel, Or.inl ⟨rfl, rfl, mt_6 (i := 228) rfl, ms_w (ms_5 (i := 13) rfl) rfl⟩⟩
set_option maxRecDepth 20000 in
theorem yf_162 : YF 162 := ⟨mt_6 (i := 201) rfl, mt_1 (i := 12) rfl, rfl, by decide +kernel, Or.inl ⟨rfl, rfl, mt_6 (i := 200) rfl, ms_w (ms_5 (i := 6) rfl) rfl⟩⟩
set_option maxRecDepth 20000 in
theorem yf_163 : YF 163 := ⟨mt_7 (i := 18) rfl, mt_1 (i := 12) rfl, rfl, by decide +kernel, Or.inl ⟨rfl, rfl, mt_7 (i := 17) rfl, ms_w (ms_6 (i := 4) rfl) rfl⟩⟩
set_option maxRecDepth 20000 in
theorem yf_164 : YF 164 := ⟨mt_7 (i := 160) rfl, mt_1 (i := 12) rfl, rfl, by decide +kernel, Or.inl ⟨rfl, rfl, mt_7 (i := 159) rfl, ms_w (ms_7 (i := 5) rfl) rfl⟩⟩
set_option maxRecDepth 20000 in
theorem yf_165 : YF 165 := ⟨mt_7 (i := 156) rfl, mt_1 (i := 12) rfl, rfl, by decide +kernel, Or.inl ⟨rfl, rfl, mt_7 (i := 155) rfl, ms_w (ms_7 (i := 4) rfl) rfl⟩⟩
set_option maxRecDepth 20000 in
theorem yf_166 : YF 166 := ⟨mt_7 (i := 184) rfl, mt_1 (i := 12) rfl, rfl, by decide +kernel, Or.inl ⟨rfl, rfl, mt_7 (i := 183) rfl, ms_w (ms_7 (i := 10) rfl) rfl⟩⟩
set_option maxRecDepth 20000 in
theorem yf_167 : YF 167 := ⟨mt_7 (i := 176) rfl, mt_1 (i := 12) rfl, rfl, by decide +kernel, Or.inl ⟨rfl, rfl, mt_7 (i := 175) rfl, ms_w (ms_7 (i := 8) rfl) rfl⟩⟩
set_option maxRecDepth 20000 in
theorem yf_168 : YF 168 := ⟨mt_7 (i := 31) rfl, mt_1 (i := 12) rfl, rfl, by decide +kernel, Or.inl ⟨rfl, rfl, mt_7 (i := 30) rfl, ms_w (ms_6 (i := 6) rfl) rfl⟩⟩
set_option maxRecDepth 20000 in
theorem yf_169 : YF 169 := ⟨mt_7 (i := 27) rfl, mt_1 (i := 12) rfl, rfl, by decide +kernel, Or.inl ⟨rfl, rfl, mt_7 (i := 26) rfl, ms_w (ms_6 (i := 5) rfl) rfl⟩⟩
set_option maxRecDepth 20000 in
theorem yf_170 : YF 170 := ⟨mt_7 (i := 201) rfl, mt_1 (i := 12) rfl, rfl, by decide +kernel, Or.inl ⟨rfl, rfl, mt_7 (i := 200) rfl, ms_w (ms_7 (i := 12) rfl) rfl⟩⟩
set_option maxRecDepth 20000 in
theorem yf_171 : YF 171 := ⟨mt_7 (i := 205) rfl, mt_1 (i := 12) rfl, rfl, by decide +kernel, Or.inl ⟨rfl, rfl, mt_7 (i := 204) rfl, ms_w (ms_7 (i := 13) rfl) rfl⟩⟩
set_option maxRecDepth 20000 in
theorem yf_172 : YF 172 := ⟨mt_7 (i := 197) rfl, mt_1 (i := 12) rfl, rfl, by decide +kernel, Or.inl ⟨rfl, rfl, mt_7 (i := 196) rfl, ms_w (ms_7 (i := 11) rfl) rfl⟩⟩
set_option maxRecDepth 20000 in
theorem yf_173 : YF 173 := ⟨mt_6 (i := 185) rfl, mt_1 (i := 12) rfl, rfl, by decide +kernel, Or.inl ⟨rfl, rfl, mt_6 (i := 184) rfl, ms_w (ms_5 (i := 2) rfl) rfl⟩⟩
set_option maxRecDepth 20000 in
theorem yf_174 : YF 174 := ⟨mt_6 (i := 177) rfl, mt_1 (i := 12) rfl, rfl, by decide +kernel, Or.inl ⟨rfl, rfl, mt_6 (i := 176) rfl, ms_w (ms_5 (i := 0) rfl) rfl⟩⟩
set_option maxRecDepth 20000 in
theorem yf_175 : YF 175 := ⟨mt_6 (i := 81) rfl, mt_1 (i := 12) rfl, rfl, by decide +kernel, Or.inl ⟨rfl, rfl, mt_6 (i := 79) rfl, mt_6 (i := 80) rfl⟩⟩
set_option maxRecDepth 20000 in
theorem yf_176 : YF 176 := ⟨mt_6 (i := 114) rfl, mt_1 (i := 12) rfl, rfl, by decide +kernel, Or.inl ⟨rfl, rfl, mt_6 (i := 113) rfl, ms_w (ms_4 (i := 1) rfl) rfl⟩⟩
set_option maxRecDepth 20000 in
theorem yf_177 : YF 177 := ⟨mt_6 (i := 105) rfl, mt_1 (i := 12) rfl, rfl, by decide +kernel, Or.inl ⟨rfl, rfl, mt_6 (i := 104) rfl, ms_w (ms_4 (i := 0) rfl) rfl⟩⟩
set_option maxRecDepth 20000 in
theorem yf_178 : YF 178 := ⟨mt_6 (i := 108) rfl, mt_1 (i := 12) rfl, rfl, by decide +kernel, Or.inr (Or.inl ⟨rfl, mt_6 (i := 107) rfl⟩)⟩
set_option maxRecDepth 20000 in
theorem yf_179 : YF 179 := ⟨mt_6 (i := 101) rfl, mt_1 (i := 12) rfl, rfl, by decide +kernel, Or.inl ⟨rfl, rfl, mt_6 (i := 100) rfl, ms_w (ms_3 (i := 15) rfl) rfl⟩⟩
set_option maxRecDepth 20000 in
theorem yf_180 : YF 180 := ⟨mt_6 (i := 118) rfl, mt_1 (i := 12) rfl, rfl, by decide +kernel, Or.inl ⟨rfl, rfl, mt_6 (i := 117) rfl, ms_w (ms_4 (i := 2) rfl) rfl⟩⟩
set_option maxRecDepth 20000 in
theorem yf_181 : YF 181 := ⟨mt_6 (i := 127) rfl, mt_1 (i := 12) rfl, rfl, by decide +kernel, Or.inl ⟨rfl, rfl, mt_6 (i := 126) rfl, ms_w (ms_4 (i := 4) rfl) rfl⟩⟩
set_option maxRecDepth 20000 in
theorem yf_182 : YF 182 := ⟨mt_6 (i := 135) rfl, mt_1 (i := 12) rfl, rfl, by decide +kernel, Or.inl ⟨rfl, rfl, mt_6 (i := 134) rfl, ms_w (ms_4 (i := 6) rfl) rfl⟩⟩
set_option maxRecDepth 20000 in
theorem yf_183 : YF 183 := ⟨mt_6 (i := 139) rfl, mt_1 (i := 12) rfl, rfl, by decide +kernel, Or.inl ⟨rfl, rfl, mt_6 (i := 138) rfl, ms_w (ms_4 (i := 7) rfl) rfl⟩⟩
set_option maxRecDepth 20000 in
theorem yf_184 : YF 184 := ⟨mt_6 (i := 131) rfl, mt_1 (i := 12) rfl, rfl, by decide +kernel, Or.inl ⟨rfl, rfl, mt_6 (i := 130) rfl, ms_w (ms_4 (i := 5) rfl) rfl⟩⟩
set_option maxRecDepth 20000 in
theorem yf_185 : YF 185 := ⟨mt_6 (i := 151) rfl, mt_1 (i := 12) rfl, rfl, by decide +kernel, Or.inl ⟨rfl, rfl, mt_6 (i := 150) rfl, ms_w (ms_4 (i := 10) rfl) rfl⟩⟩
set_option maxRecDepth 20000 in
theorem yf_186 : YF 186 := ⟨mt_6 (i := 147) rfl, mt_1 (i := 12) rfl, rfl, by decide +kernel, Or.inl ⟨rfl, rfl, mt_6 (i := 146) rfl, ms_w (ms_4 (i := 9) rfl) rfl⟩⟩
set_option maxRecDepth 20000 in
theorem yf_187 : YF 187 := ⟨mt_6 (i := 143) rfl, mt_1 (i := 12) rfl, rfl, by decide +kernel, Or.inl ⟨rfl, rfl, mt_6 (i := 142) rfl, ms_w (ms_4 (i := 8) rfl) rfl⟩⟩
set_option maxRecDepth 20000 in
theorem yf_188 : YF 188 := ⟨mt_6 (i := 122) rfl, mt_1 (i := 12) rfl, rfl, by decide +kernel, Or.inl ⟨rfl, rfl, mt_6 (i := 121) rfl, ms_w (ms_4 (i := 3) rfl) rfl⟩⟩
set_option maxRecDepth 20000 in
theorem yf_189 : YF 189 := ⟨mt_6 (i := 164) rfl, mt_1 (i := 12) rfl, rfl, by decide +kernel, Or.inl ⟨rfl, rfl, mt_6 (i := 163) rfl, ms_w (ms_4 (i := 13) rfl) rfl⟩⟩
set_option maxRecDepth 20000 in
theorem yf_190 : YF 190 := ⟨mt_6 (i := 193) rfl, mt_1 (i := 12) rfl, rfl, by decide +kernel, Or.inl ⟨rfl, rfl, mt_6 (i := 192) rfl, ms_w (ms_5 (i := 4) rfl) rfl⟩⟩
set_option maxRecDepth 20000 in
theorem yf_191 : YF 191 := ⟨mt_6 (i := 173) rfl, mt_1 (i := 12) rfl, rfl, by decide +kernel, Or.inl ⟨rfl, rfl, mt_6 (i := 172) rfl, ms_w (ms_4 (i := 15) rfl) rfl⟩⟩
set_option maxRecDepth 20000 in
theorem yf_192 : YF 192 := ⟨mt_6 (i := 168) rfl, mt_1 (i := 12) rfl, rfl, by decide +kernel, Or.inl ⟨rfl, rfl, mt_6 (i := 167) rfl, ms_w (ms_4 (i := 14) rfl) rfl⟩⟩
set_option maxRecDepth 20000 in
theorem yf_193 : YF 193 := ⟨mt_6 (i := 197) rfl, mt_1 (i := 12) rfl, rfl, by decide +kernel, Or.inl ⟨rfl, rfl, mt_6 (i := 196) rfl, ms_w (ms_5 (i := 5) rfl) rfl⟩⟩
set_option maxRecDepth 20000 in
theorem yf_194 : YF 194 := ⟨mt_6 (i := 96) rfl, mt_1 (i := 12) rfl, rfl, by decide +kernel, Or.inl ⟨rfl, rfl, mt_6 (i := 95) rfl, ms_w (ms_3 (i := 14) rfl) rfl⟩⟩
set_option maxRecDepth 20000 in
theorem yf_195 : YF 195 := ⟨mt_6 (i := 85) rfl, mt_1 (i := 12) rfl, rfl, by decide +kernel, Or.inl ⟨rfl, rfl, mt_6 (i := 83) rfl, mt_6 (i := 84) rfl⟩⟩
set_option maxRecDepth 20000 in
theorem yf_196 : YF 196 := ⟨mt_7 (i := 43) rfl, mt_1 (i := 12) rfl, rfl, by decide +kernel, Or.inl ⟨rfl, rfl, mt_7 (i := 41) rfl, mt_7 (i := 42) rfl⟩⟩
set_option maxRecDepth 20000 in
theorem yf_197 : YF 197 := ⟨mt_7 (i := 56) rfl, mt_1 (i := 12) rfl, rfl, by decide +kernel, Or.inl ⟨rfl, rfl, mt_7 (i := 55) rfl, ms_w (ms_6 (i := 10) rfl) rfl⟩⟩
set_option maxRecDepth 20000 in
theorem yf_198 : YF 198 := ⟨mt_7 (i := 52) rfl, mt_1 (i := 12) rfl, rfl, by decide +kernel, Or.inl ⟨rfl, rfl, mt_7 (i := 51) rfl, ms_w (ms_6 (i := 9) rfl) rfl⟩⟩
set_option maxRecDepth 20000 in
theorem yf_199 : YF 199 := ⟨mt_7 (i := 47) rfl, mt_1 (i := 12) rfl, rfl, by decide +kernel, Or.inl ⟨rfl, rfl, mt_7 (i := 45) rfl, mt_7 (i := 46) rfl⟩⟩
set_option maxRecDepth 20000 in
theorem yf_200 : YF 200 := ⟨mt_7 (i := 64) rfl, mt_1 (i := 12) rfl, rfl, by decide +kernel, Or.inl ⟨rfl, rfl, mt_7 (i := 63) rfl, ms_w (ms_6 (i := 11) rfl) rfl⟩⟩
set_option maxRecDepth 20000 in
theorem yf_201 : YF 201 := ⟨mt_7 (i := 60) rfl, mt_1 (i := 12) rfl, rfl, by decide +kernel, Or.inl ⟨rfl, rfl, mt_7 (i := 58) rfl, mt_7 (i := 59) rfl⟩⟩
set_option maxRecDepth 20000 in
theorem yf_202 : YF 202 := ⟨mt_7 (i := 68) rfl, mt_1 (i := 12) rfl, rfl, by decide +kernel, Or.inl ⟨rfl, rfl, mt_7 (i := 66) rfl, mt_7 (i := 67) rfl⟩⟩
set_option maxRecDepth 20000 in
theorem yf_203 : YF 203 := ⟨mt_7 (i := 76) rfl, mt_1 (i := 12) rfl, rfl, by decide +kernel, Or.inl ⟨rfl, rfl, mt_7 (i := 75) rfl, ms_w (ms_6 (i := 12) rfl) rfl⟩⟩
set_option maxRecDepth 20000 in
theorem yf_204 : YF 204 := ⟨mt_7 (i := 92) rfl, mt_1 (i := 12) rfl, rfl, by decide +kernel, Or.inl ⟨rfl, rfl, mt_7 (i := 91) rfl, ms_w (ms_6 (i := 14) rfl) rfl⟩⟩
set_option maxRecDepth 20000 in
theorem yf_205 : YF 205 := ⟨mt_7 (i := 72) rfl, mt_1 (i := 12) rfl, rfl, by decide +kernel, Or.inl ⟨rfl, rfl, mt_7 (i := 70) rfl, mt_7 (i := 71) rfl⟩⟩
set_option maxRecDepth 20000 in
theorem yf_206 : YF 206 := ⟨mt_7 (i := 84) rfl, mt_1 (i := 12) rfl, rfl, by decide +kernel, Or.inl ⟨rfl, rfl, mt_7 (i := 82) rfl, mt_7 (i := 83) rfl⟩⟩
set_option maxRecDepth 20000 in
theorem yf_207 : YF 207 := ⟨mt_7 (i := 88) rfl, mt_1 (i := 12) rfl, rfl, by decide +kernel, Or.inl ⟨rfl, rfl, mt_7 (i := 86) rfl, mt_7 (i := 87) rfl⟩⟩
set_option maxRecDepth 20000 in
theorem yf_208 : YF 208 := ⟨mt_7 (i := 96) rfl, mt_1 (i := 12) rfl, rfl, by decide +kernel, Or.inl ⟨rfl, rfl, mt_7 (i := 94) rfl, mt_7 (i := 95) rfl⟩⟩
set_option maxRecDepth 20000 in
theorem yf_209 : YF 209 := ⟨mt_7 (i := 108) rfl, mt_1 (i := 12) rfl, rfl, by decide +kernel, Or.inl ⟨rfl, rfl, mt_7 (i := 107) rfl, ms_w (ms_7 (i := 0) rfl) rfl⟩⟩
set_option maxRecDepth 20000 in
theorem yf_210 : YF 210 := ⟨mt_7 (i := 112) rfl, mt_1 (i := 12) rfl, rfl, by decide +kernel, Or.inl ⟨rfl, rfl, mt_7 (i := 111) rfl, ms_w (ms_7 (i := 1) rfl) rfl⟩⟩
set_option maxRecDepth 20000 in
theorem yf_211 : YF 211 := ⟨mt_7 (i := 104) rfl, mt_1 (i := 12) rfl, rfl, by decide +kernel, Or.inl ⟨rfl, rfl, mt_7 (i := 103) rfl, ms_w (ms_6 (i := 15) rfl) rfl⟩⟩
set_option maxRecDepth 20000 in
theorem yf_212 : YF 212 := ⟨mt_7 (i := 100) rfl, mt_1 (i := 12) rfl, rfl, by decide +kernel, Or.inl ⟨rfl, rfl, mt_7 (i := 98) rfl, mt_7 (i := 99) rfl⟩⟩
set_option maxRecDepth 20000 in
theorem yf_213 : YF 213 := ⟨mt_7 (i := 116) rfl, mt_1 (i := 12) rfl, rfl, by decide +kernel, Or.inl ⟨rfl, rfl, mt_7 (i := 114) rfl, mt_7 (i := 115) rfl⟩⟩
set_option maxRecDepth 20000 in
theorem yf_214 : YF 214 := ⟨mt_7 (i := 120) rfl, mt_1 (i := 12) rfl, rfl, by decide +kernel, Or.inl ⟨rfl, rfl, mt_7 (i := 118) rfl, mt_7 (i := 119) rfl⟩⟩
set_option maxRecDepth 20000 in
theorem yf_215 : YF 215 := ⟨mt_7 (i := 124) rfl, mt_1 (i := 12) rfl, rfl, by decide +kernel, Or.inl ⟨rfl, rfl, mt_7 (i := 122) rfl, mt_7 (i := 123) rfl⟩⟩
set_option maxRecDepth 20000 in
theorem yf_216 : YF 216 := ⟨mt_7 (i := 136) rfl, mt_1 (i := 12) rfl, rfl, by decide +kernel, Or.inl ⟨rfl, rfl, mt_7 (i := 135) rfl, ms_w (ms_7 (i := 3) rfl) rfl⟩⟩
set_option maxRecDepth 20000 in
theorem yf_217 : YF 217 := ⟨mt_7 (i := 132) rfl, mt_1 (i := 12) rfl, rfl, by decide +kernel, Or.inl ⟨rfl, rfl, mt_7 (i := 131) rfl, ms_w (ms_7 (i := 2) rfl) rfl⟩⟩
set_option maxRecDepth 20000 in
theorem yf_218 : YF 218 := ⟨mt_7 (i := 128) rfl, mt_1 (i := 12) rfl, rfl, by decide +kernel, Or.inl ⟨rfl, rfl, mt_7 (i := 126) rfl, mt_7 (i := 127) rfl⟩⟩
set_option maxRecDepth 20000 in
theorem yf_219 : YF 219 := ⟨mt_7 (i := 140) rfl, mt_1 (i := 12) rfl, rfl, by decide +kernel, Or.inl ⟨rfl, rfl, mt_7 (i := 138) rfl, mt_7 (i := 139) rfl⟩⟩
set_option maxRecDepth 20000 in
theorem yf_220 : YF 220 := ⟨mt_7 (i := 144) rfl, mt_1 (i := 12) rfl, rfl, by decide +kernel, Or.inl ⟨rfl, rfl, mt_7 (i := 142) rfl, mt_7 (i := 143) rfl⟩⟩
set_option maxRecDepth 20000 in
theorem yf_221 : YF 221 := ⟨mt_7 (i := 148) rfl, mt_1 (i := 12) rfl, rfl, by decide +kernel, Or.inl ⟨rfl, rfl, mt_7 (i := 146) rfl, mt_7 (i := 147) rfl⟩⟩
set_option maxRecDepth 20000 in
theorem yf_222 : YF 222 := ⟨mt_7 (i := 152) rfl, mt_1 (i := 12) rfl, rfl, by decide +kernel, Or.inl ⟨rfl, rfl, mt_7 (i := 150) rfl, mt_7 (i := 151) rfl⟩⟩
set_option maxRecDepth 20000 in
theorem yf_223 : YF 223 := ⟨mt_7 (i := 172) rfl, mt_1 (i := 12) rfl, rfl, by decide +kernel, Or.inl ⟨rfl, rfl, mt_7 (i := 170) rfl, mt_7 (i := 171) rfl⟩⟩
set_option maxRecDepth 20000 in
theorem yf_224 : YF 224 := ⟨mt_7 (i := 188) rfl, mt_1 (i := 12) rfl, rfl, by decide +kernel, Or.inl ⟨rfl, rfl, mt_7 (i := 186) rfl, mt_7 (i := 187) rfl⟩⟩
set_option maxRecDepth 20000 in
theorem yf_225 : YF 225 := ⟨mt_7 (i := 193) rfl, mt_1 (i := 12) rfl, rfl, by decide +kernel, Or.inl ⟨rfl, rfl, mt_7 (i := 191) rfl, mt_7 (i := 192) rfl⟩⟩
set_option maxRecDepth 20000 in
theorem yf_226 : YF 226 := ⟨mt_7 (i := 209) rfl, mt_1 (i := 12) rfl, rfl, by decide +kernel, Or.inl ⟨rfl, rfl, mt_7 (i := 207) rfl, mt_7 (i := 208) rfl⟩⟩
set_option maxRecDepth 20000 in
theorem yf_227 : YF 227 := ⟨mt_7 (i := 213) rfl, mt_1 (i := 12) rfl, rfl, by decide +kernel, Or.inl ⟨rfl, rfl, mt_7 (i := 211) rfl, mt_7 (i := 212) rfl⟩⟩
set_option maxRecDepth 20000 in
theorem yf_228 : YF 228 := ⟨mt_7 (i := 221) rfl, mt_1 (i := 12) rfl, rfl, by decide +kernel, Or.inl ⟨rfl, rfl, mt_7 (i := 220) rfl, ms_w (ms_7 (i := 14) rfl) rfl⟩⟩
set_option maxRecDepth 20000 in
theorem yf_229 : YF 229 := ⟨mt_7 (i := 217) rfl, mt_1 (i := 12) rfl, rfl, by decide +kernel, Or.inl ⟨rfl, rfl, mt_7 (i := 215) rfl, mt_7 (i := 216) rfl⟩⟩
set_option maxRecDepth 20000 in
theorem yf_230 : YF 230 := ⟨mt_3 (i := 44) rfl, mt_1 (i := 0) rfl, rfl, by decide +kernel, Or.inr (Or.inl ⟨rfl, mt_3 (i := 43) rfl⟩)⟩
set_option maxRecDepth 20000 in
theorem yf_231 : YF 231 := ⟨mt_4 (i := 130) rfl, mt_1 (i := 0) rfl, rfl, by decide +kernel, Or.inr (Or.inl ⟨rfl, mt_4 (i := 129) rfl⟩)⟩
set_option maxRecDepth 20000 in
theorem yf_232 : YF 232 := ⟨mt_4 (i := 138) rfl, mt_1 (i := 0) rfl, rfl, by decide +kernel, Or.inr (Or.inl ⟨rfl, mt_4 (i := 137) rfl⟩)⟩
set_option maxRecDepth 20000 in
theorem yf_233 : YF 233 := ⟨mt_4 (i := 166) rfl, mt_1 (i := 0) rfl, rfl, by decide +kernel, Or.inr (Or.inl ⟨rfl, mt_4 (i := 165) rfl⟩)⟩
set_option maxRecDepth 20000 in
theorem yf_234 : YF 234 := ⟨mt_4 (i := 174) rfl, mt_1 (i := 0) rfl, rfl, by decide +kernel, Or.inr (Or.inl ⟨rfl, mt_4 (i := 173) rfl⟩)⟩
set_option maxRecDepth 20000 in
theorem yf_235 : YF 235 := ⟨mt_4 (i := 204) rfl, mt_1 (i := 0) rfl, rfl, by decide +kernel, Or.inr (Or.inl ⟨rfl, mt_4 (i := 203) rfl⟩)⟩
set_option maxRecDepth 20000 in
theorem yf_236 : YF 236 := ⟨mt_4 (i := 212) rfl, mt_1 (i := 0) rfl, rfl, by decide +kernel, Or.inr (Or.inl ⟨rfl, mt_4 (i := 211) rfl⟩)⟩
set_option maxRecDepth 20000 in
theorem yf_237 : YF 237 := ⟨mt_4 (i := 226) rfl, mt_1 (i := 0) rfl, rfl, by decide +kernel, Or.inr (Or.inl ⟨rfl, mt_4 (i := 225) rfl⟩)⟩
set_option maxRecDepth 20000 in
theorem yf_238 : YF 238 := ⟨mt_5 (i := 0) rfl, mt_1 (i := 0) rfl, rfl, by decide +kernel, Or.inr (Or.inl ⟨rfl, mt_4 (i := 239) rfl⟩)⟩
set_option maxRecDepth 20000 in
theorem yf_239 : YF 239 := ⟨mt_5 (i := 7) rfl, mt_1 (i := 0) rfl, rfl, by decide +kernel, Or.inr (Or.inl ⟨rfl, mt_5 (i := 6) rfl⟩)⟩
set_option maxRecDepth 20000 in
theorem yf_240 : YF 240 := ⟨mt_5 (i := 18) rfl, mt_1 (i := 0) rfl, rfl, by decide +kernel, Or.inr (Or.inl ⟨rfl, mt_5 (i := 17) rfl⟩)⟩
set_option maxRecDepth 20000 in
theorem yf_241 : YF 241 := ⟨mt_5 (i := 25) rfl, mt_1 (i := 0) rfl, rfl, by decide +kernel, Or.inr (Or.inl ⟨rfl, mt_5 (i := 24) rfl⟩)⟩
set_option maxRecDepth 20000 in
theorem yf_242 : YF 242 := ⟨mt_5 (i := 33) rfl, mt_1 (i := 0) rfl, rfl, by decide +kernel, Or.inr (Or.inl ⟨rfl, mt_5 (i := 32) rfl⟩)⟩
set_option maxRecDepth 20000 in
theorem yf_243 : YF 243 := ⟨mt_5 (i := 66) rfl, mt_1 (i := 0) rfl, rfl, by decide +kernel, Or.inr (Or.inl ⟨rfl, mt_5 (i := 65) rfl⟩)⟩
set_option maxRecDepth 20000 in
theorem yf_244 : YF 244 := ⟨mt_5 (i := 74) rfl, mt_1 (i := 0) rfl, rfl, by decide +kernel, Or.inr (Or.inl ⟨rfl, mt_5 (i := 73) rfl⟩)⟩
set_option maxRecDepth 20000 in
theorem yf_245 : YF 245 := ⟨mt_5 (i := 82) rfl, mt_1 (i := 0) rfl, rfl, by decide +kernel, Or.inr (Or.inl ⟨rfl, mt_5 (i := 81) rfl⟩)⟩
set_option maxRecDepth 20000 in
theorem yf_246 : YF 246 := ⟨mt_5 (i := 90) rfl, mt_1 (i := 0) rfl, rfl, by decide +kernel, Or.inr (Or.inl ⟨rfl, mt_5 (i := 89) rfl⟩)⟩
set_option maxRecDepth 20000 in
theorem yf_247 : YF 247 := ⟨mt_5 (i := 114) rfl, mt_1 (i := 0) rfl, rfl, by decide +kernel, Or.inr (Or.inl ⟨rfl, mt_5 (i := 113) rfl⟩)⟩
set_option maxRecDepth 20000 in
theorem yf_248 : YF 248 := ⟨mt_5 (i := 137) rfl, mt_1 (i := 0) rfl, rfl, by decide +kernel, Or.inr (Or.inl ⟨rfl, mt_5 (i := 136) rfl⟩)⟩
set_option maxRecDepth 20000 in
theorem yf_249 : YF 249 := ⟨mt_5 (i := 146) rfl, mt_1 (i := 0) rfl, rfl, by decide +kernel, Or.inr (Or.inl ⟨rfl, mt_5 (i := 145) rfl⟩)⟩
set_option maxRecDepth 20000 in
theorem yf_250 : YF 250 := ⟨mt_5 (i := 161) rfl, mt_1 (i := 0) rfl, rfl, by decide +kernel, Or.inr (Or.inl ⟨rfl, mt_5 (i := 160) rfl⟩)⟩
set_option maxRecDepth 20000 in
theorem yf_b0 : ∀ y ∈ List.range' 0 21, YF y := List.forall_mem_cons.mpr ⟨yf_0, List.forall_mem_cons.mpr ⟨yf_1, List.forall_mem_cons.mpr ⟨yf_2, List.forall_mem_cons.mpr ⟨yf_3, List.forall_mem_cons.mpr ⟨yf_4, List.forall_mem_cons.mpr ⟨yf_5, List.forall_mem_cons.mpr ⟨yf_6, List.forall_mem_cons.mpr ⟨yf_7, List.forall_mem_cons.mpr ⟨yf_8, List.forall_mem_cons.mpr ⟨yf_9, List.forall_mem_cons.mpr ⟨yf_10, List.forall_mem_cons.mpr ⟨yf_11, List.forall_mem_cons.mpr ⟨yf_12, List.forall_mem_cons.mpr ⟨yf_13, List.forall_mem_cons.mpr ⟨yf_14, List.forall_mem_cons.mpr ⟨yf_15, List.forall_mem_cons.mpr ⟨yf_16, List.forall_mem_cons.mpr ⟨yf_17, List.forall_mem_cons.mpr ⟨yf_18, List.forall_mem_cons.mpr ⟨yf_19, List.forall_mem_cons.mpr ⟨yf_20, fun _ h => absurd h List.not_mem_nil⟩⟩⟩⟩⟩⟩⟩⟩⟩⟩⟩⟩⟩⟩⟩⟩⟩⟩⟩⟩⟩
set_option maxRecDepth 20000 in
theorem yf_b1 : ∀ y ∈ List.range' 21 21, YF y := List.forall_mem_cons.mpr ⟨yf_21, List.forall_mem_cons.mpr ⟨yf_22, List.forall_mem_cons.mpr ⟨yf_23, List.forall_mem_cons.mpr ⟨yf_24, List.forall_mem_cons.mpr ⟨yf_25, List.forall_mem_cons.mpr ⟨yf_26, List.forall_mem_cons.mpr ⟨yf_27, List.forall_mem_cons.mpr ⟨yf_28, List.forall_mem_cons.mpr ⟨yf_29, List.forall_mem_cons.mpr ⟨yf_30, List.forall_mem_cons.mpr ⟨yf_31, List.forall_mem_cons.mpr ⟨yf_32, List.forall_mem_cons.mpr ⟨yf_33, List.forall_mem_cons.mpr ⟨yf_34, List.forall_mem_cons.mpr ⟨yf_35, List.forall_mem_cons.mpr ⟨yf_36, List.forall_mem_cons.mpr ⟨yf_37, List.forall_mem_cons.mpr ⟨yf_38, List.forall_mem_cons.mpr ⟨yf_39, List.forall_mem_cons.mpr ⟨yf_40, List.forall_mem_cons.mpr ⟨yf_41, fun _ h => absurd h List.not_mem_nil⟩⟩⟩⟩⟩⟩⟩⟩⟩⟩⟩⟩⟩⟩⟩⟩⟩⟩⟩⟩⟩
set_option maxRecDepth 20000 in
theorem yf_b2 : ∀ y ∈ List.range' 42 21, YF y := List.forall_mem_cons.mpr ⟨yf_42, List.forall_mem_cons.mpr ⟨yf_43, List.forall_mem_cons.mpr ⟨yf_44, List.forall_mem_cons.mpr ⟨yf_45, List.forall_mem_cons.mpr ⟨yf_46, List.forall_mem_cons.mpr ⟨yf_47, List.forall_mem_cons.mpr ⟨yf_48, List.forall_mem_cons.mpr ⟨yf_49, List.forall_mem_cons.mpr ⟨yf_50, List.forall_mem_cons.mpr ⟨yf_51, List.forall_mem_cons.mpr ⟨yf_52, List.forall_mem_cons.mpr ⟨yf_53, List.forall_mem_cons.mpr ⟨yf_54, List.forall_mem_cons.mpr ⟨yf_55, List.forall_mem_cons.mpr ⟨yf_56, List.forall_mem_cons.mpr ⟨yf_57, List.forall_mem_cons.mpr ⟨yf_58, List.forall_mem_cons.mpr ⟨yf_59, List.forall_mem_cons.mpr ⟨yf_60, List.forall_mem_cons.mpr ⟨yf_61, List.forall_mem_cons.mpr ⟨yf_62, fun _ h => absurd h List.not_mem_nil⟩⟩⟩⟩⟩⟩⟩⟩⟩⟩⟩⟩⟩⟩⟩⟩⟩⟩⟩⟩⟩
set_option maxRecDepth 20000 in
theorem yf_b3 : ∀ y ∈ List.range' 63 21, YF y := List.forall_mem_cons.mpr ⟨yf_63, List.forall_mem_cons.mpr ⟨yf_64, List.forall_mem_cons.mpr ⟨yf_65, List.forall_mem_cons.mpr ⟨yf_66, List.forall_mem_cons.mpr ⟨yf_67, List.forall_mem_cons.mpr ⟨yf_68, List.forall_mem_cons.mpr ⟨yf_69, List.forall_mem_cons.mpr ⟨yf_70, List.forall_mem_cons.mpr ⟨yf_71, List.forall_mem_cons.mpr ⟨yf_72, List.forall_mem_cons.mpr ⟨yf_73, List.forall_mem_cons.mpr ⟨yf_74, List.forall_mem_cons.mpr ⟨yf_75, List.forall_mem_cons.mpr ⟨yf_76, List.forall_mem_cons.mpr ⟨yf_77, List.forall_mem_cons.mpr ⟨yf_78, List.forall_mem_cons.mpr ⟨yf_79, List.forall_mem_cons.mpr ⟨yf_80, List.forall_mem_cons.mpr ⟨yf_81, List.forall_mem_cons.mpr ⟨yf_82, List.forall_mem_cons.mpr ⟨yf_83, fun _ h => absurd h List.not_mem_nil⟩⟩⟩⟩⟩⟩⟩⟩⟩⟩⟩⟩⟩⟩⟩⟩⟩⟩⟩⟩⟩
set_option maxRecDepth 20000 in
theorem yf_b4 : ∀ y ∈ List.range' 84 21, YF y := List.forall_mem_cons.mpr ⟨yf_84, List.forall_mem_cons.mpr ⟨yf_85, List.forall_mem_cons.mpr ⟨yf_86, List.forall_mem_cons.mpr ⟨yf_87, List.forall_mem_cons.mpr ⟨yf_88, List.forall_mem_cons.mpr ⟨yf_89, List.forall_mem_cons.mpr ⟨yf_90, List.forall_mem_cons.mpr ⟨yf_91, List.forall_mem_cons.mpr ⟨yf_92, List.forall_mem_cons.mpr ⟨yf_93, List.forall_mem_cons.mpr ⟨yf_94, List.forall_mem_cons.mpr ⟨yf_95, List.forall_mem_cons.mpr ⟨yf_96, List.forall_mem_cons.mpr ⟨yf_97, List.forall_mem_cons.mpr ⟨yf_98, List.forall_mem_cons.mpr ⟨yf_99, List.forall_mem_cons.mpr ⟨yf_100, List.forall_mem_cons.mpr ⟨yf_101, List.forall_mem_cons.mpr ⟨yf_102, List.forall_mem_cons.mpr ⟨yf_103, List.forall_mem_cons.mpr ⟨yf_104, fun _ h => absurd h List.not_mem_nil⟩⟩⟩⟩⟩⟩⟩⟩⟩⟩⟩⟩⟩⟩⟩⟩⟩⟩⟩⟩⟩
set_option maxRecDepth 20000 in
theorem yf_b5 : ∀ y ∈ List.range' 105 21, YF y := List.forall_mem_cons.mpr ⟨yf_105, List.forall_mem_cons.mpr ⟨yf_106, List.forall_mem_cons.mpr ⟨yf_107, List.forall_mem_cons.mpr ⟨yf_108, List.forall_mem_cons.mpr ⟨yf_109, List.forall_mem_cons.mpr ⟨yf_110, List.forall_mem_cons.mpr ⟨yf_111, List.forall_mem_cons.mpr ⟨yf_112, List.forall_mem_cons.mpr ⟨yf_113, List.forall_mem_cons.mpr ⟨yf_114, List.forall_mem_cons.mpr ⟨yf_115, List.forall_mem_cons.mpr ⟨yf_116, List.forall_mem_cons.mpr ⟨yf_117, List.forall_mem_cons.mpr ⟨yf_118, List.forall_mem_cons.mpr ⟨yf_119, List.forall_mem_cons.mpr ⟨yf_120, List.forall_mem_cons.mpr ⟨yf_121, List.forall_mem_cons.mpr ⟨yf_122, List.forall_mem_cons.mpr ⟨yf_123, List.forall_mem_cons.mpr ⟨yf_124, List.forall_mem_cons.mpr ⟨yf_125, fun _ h => absurd h List.not_mem_nil⟩⟩⟩⟩⟩⟩⟩⟩⟩⟩⟩⟩⟩⟩⟩⟩⟩⟩⟩⟩⟩
set_option maxRecDepth 20000 in
theorem yf_b6 : ∀ y ∈ List.range' 126 21, YF y := List.forall_mem_cons.mpr ⟨yf_126, List.forall_mem_cons.mpr ⟨yf_127, List.forall_mem_cons.mpr ⟨yf_128, List.forall_mem_cons.mpr ⟨yf_129, List.forall_mem_cons.mpr ⟨yf_130, List.forall_mem_cons.mpr ⟨yf_131, List.forall_mem_cons.mpr ⟨yf_132, List.forall_mem_cons.mpr ⟨yf_133, List.forall_mem_cons.mpr ⟨yf_134, List.forall_mem_cons.mpr ⟨yf_135, List.forall_mem_cons.mpr ⟨yf_136, List.forall_mem_cons.mpr ⟨yf_137, List.forall_mem_cons.mpr ⟨yf_138, List.forall_mem_cons.mpr ⟨yf_139, List.forall_mem_cons.mpr ⟨yf_140, List.forall_mem_cons.mpr ⟨yf_141, List.forall_mem_cons.mpr ⟨yf_142, List.forall_mem_cons.mpr ⟨yf_143, List.forall_mem_cons.mpr ⟨yf_144, List.forall_mem_cons.mpr ⟨yf_145, List.forall_mem_cons.mpr ⟨yf_146, fun _ h => absurd h List.not_mem_nil⟩⟩⟩⟩⟩⟩⟩⟩⟩⟩⟩⟩⟩⟩⟩⟩⟩⟩⟩⟩⟩
set_option maxRecDepth 20000 in
theorem yf_b7 : ∀ y ∈ List.range' 147 21, YF y := List.forall_mem_cons.mpr ⟨yf_147, List.forall_mem_cons.mpr ⟨yf_148, List.forall_mem_cons.mpr ⟨yf_149, List.forall_mem_cons.mpr ⟨yf_150, List.forall_mem_cons.mpr ⟨yf_151, List.forall_mem_cons.mpr ⟨yf_152, List.forall_mem_cons.mpr ⟨yf_153, List.forall_mem_cons.mpr ⟨yf_154, List.forall_mem_cons.mpr ⟨yf_155, List.forall_mem_cons.mpr ⟨yf_156, List.forall_mem_cons.mpr ⟨yf_157, List.forall_mem_cons.mpr ⟨yf_158, List.forall_mem_cons.mpr ⟨yf_159, List.forall_mem_cons.mpr ⟨yf_160, List.forall_mem_cons.mpr ⟨yf_161, List.forall_mem_cons.mpr ⟨yf_162, List.forall_mem_cons.mpr ⟨yf_163, List.forall_mem_cons.mpr ⟨yf_164, List.forall_mem_cons.mpr ⟨yf_165, List.forall_mem_cons.mpr ⟨yf_166, List.forall_mem_cons.mpr ⟨yf_167, fun _ h => absurd h List.not_mem_nil⟩⟩⟩⟩⟩⟩⟩⟩⟩⟩⟩⟩⟩⟩⟩⟩⟩⟩⟩⟩⟩
set_option maxRecDepth 20000 in
theorem yf_b8 : ∀ y ∈ List.range' 168 21, YF y := List.forall_mem_cons.mpr ⟨yf_168, List.forall_mem_cons.mpr ⟨yf_169, List.forall_mem_cons.mpr ⟨yf_170, List.forall_mem_cons.mpr ⟨yf_171, List.forall_mem_cons.mpr ⟨yf_172, List.forall_mem_cons.mpr ⟨yf_173, List.forall_mem_cons.mpr ⟨yf_174, List.forall_mem_cons.mpr ⟨yf_175, List.forall_mem_cons.mpr ⟨yf_176, List.forall_mem_cons.mpr ⟨yf_177, List.forall_mem_cons.mpr ⟨yf_178, List.forall_mem_cons.mpr ⟨yf_179, List.forall_mem_cons.mpr ⟨yf_180, List.forall_mem_cons.mpr ⟨yf_181, List.forall_mem_cons.mpr ⟨yf_182, List.forall_mem_cons.mpr ⟨yf_183, List.forall_mem_cons.mpr ⟨yf_184, List.forall_mem_cons.mpr ⟨yf_185, List.forall_mem_cons.mpr ⟨yf_186, List.forall_mem_cons.mpr ⟨yf_187, List.forall_mem_cons.mpr ⟨yf_188, fun _ h => absurd h List.not_mem_nil⟩⟩⟩⟩⟩⟩⟩⟩⟩⟩⟩⟩⟩⟩⟩⟩⟩⟩⟩⟩⟩
set_option maxRecDepth 20000 in
theorem yf_b9 : ∀ y ∈ List.range' 189 21, YF y := List.forall_mem_cons.mpr ⟨yf_189, List.forall_mem_cons.mpr ⟨yf_190, List.forall_mem_cons.mpr ⟨yf_191, List.forall_mem_cons.mpr ⟨yf_192, List.forall_mem_cons.mpr ⟨yf_193, List.forall_mem_cons.mpr ⟨yf_194, List.forall_mem_cons.mpr ⟨yf_195, List.forall_mem_cons.mpr ⟨yf_196, List.forall_mem_cons.mpr ⟨yf_197, List.forall_mem_cons.mpr ⟨yf_198, List.forall_mem_cons.mpr ⟨yf_199, List.forall_mem_cons.mpr ⟨yf_200, List.forall_mem_cons.mpr ⟨yf_201, List.forall_mem_cons.mpr ⟨yf_202, List.forall_mem_cons.mpr ⟨yf_203, List.forall_mem_cons.mpr ⟨yf_204, List.forall_mem_cons.mpr ⟨yf_205, List.forall_mem_cons.mpr ⟨yf_206, List.forall_mem_cons.mpr ⟨yf_207, List.forall_mem_cons.mpr ⟨yf_208, List.forall_mem_cons.mpr ⟨yf_209, fun _ h => absurd h List.not_mem_nil⟩⟩⟩⟩⟩⟩⟩⟩⟩⟩⟩⟩⟩⟩⟩⟩⟩⟩⟩⟩⟩
set_option maxRecDepth 20000 in
theorem yf_b10 : ∀ y ∈ List.range' 210 21, YF y := List.forall_mem_cons.mpr ⟨yf_210, List.forall_mem_cons.mpr ⟨yf_211, List.forall_mem_cons.mpr ⟨yf_212, List.forall_mem_cons.mpr ⟨yf_213, List.forall_mem_cons.mpr ⟨yf_214, List.forall_mem_cons.mpr ⟨yf_215, List.forall_mem_cons.mpr ⟨yf_216, List.forall_mem_cons.mpr ⟨yf_217, List.forall_mem_cons.mpr ⟨yf_218, List.forall_mem_cons.mpr ⟨yf_219, List.forall_mem_cons.mpr ⟨yf_220, List.forall_mem_cons.mpr ⟨yf_221, List.forall_mem_cons.mpr ⟨yf_222, List.forall_mem_cons.mpr ⟨yf_223, List.forall_mem_cons.mpr ⟨yf_224, List.forall_mem_cons.mpr ⟨yf_225, List.forall_mem_cons.mpr ⟨yf_226, List.forall_mem_cons.mpr ⟨yf_227, List.forall_mem_cons.mpr ⟨yf_228, List.forall_mem_cons.mpr ⟨yf_229, List.forall_mem_cons.mpr ⟨yf_230, fun _ h => absurd h List.not_mem_nil⟩⟩⟩⟩⟩⟩⟩⟩⟩⟩⟩⟩⟩⟩⟩⟩⟩⟩⟩⟩⟩
set_option maxRecDepth 20000 in
theorem yf_b11 : ∀ y ∈ List.range' 231 20, YF y := List.forall_mem_cons.mpr ⟨yf_231, List.forall_mem_cons.mpr ⟨yf_232, List.forall_mem_cons.mpr ⟨yf_233, List.forall_mem_cons.mpr ⟨yf_234, List.forall_mem_cons.mpr ⟨yf_235, List.forall_mem_cons.mpr ⟨yf_236, List.forall_mem_cons.mpr ⟨yf_237, List.forall_mem_cons.mpr ⟨yf_238, List.forall_mem_cons.mpr ⟨yf_239, List.forall_mem_cons.mpr ⟨yf_240, List.forall_mem_cons.mpr ⟨yf_241, List.forall_mem_cons.mpr ⟨yf_242, List.forall_mem_cons.mpr ⟨yf_243, List.forall_mem_cons.mpr ⟨yf_244, List.forall_mem_cons.mpr ⟨yf_245, List.forall_mem_cons.mpr ⟨yf_246, List.forall_mem_cons.mpr ⟨yf_247, List.forall_mem_cons.mpr ⟨yf_248, List.forall_mem_cons.mpr ⟨yf_249, List.forall_mem_cons.mpr ⟨yf_250, fun _ h => absurd h List.not_mem_nil⟩⟩⟩⟩⟩⟩⟩⟩⟩⟩⟩⟩⟩⟩⟩⟩⟩⟩⟩⟩
set_option maxRecDepth 20000 in
theorem yf_all (y : Nat) (h : y < 251) : YF y := by
  rcases Nat.lt_or_ge y 21 with h0 | h0
  · exact yf_b0 y (List.mem_range'_1.mpr ⟨Nat.zero_le _, by omega⟩)
  rcases Nat.lt_or_ge y 42 with h1 | h1
  · exact yf_b1 y (List.mem_range'_1.mpr ⟨h0, by omega⟩)
  rcases Nat.lt_or_ge y 63 with h2 | h2
  · exact yf_b2 y (List.mem_range'_1.mpr ⟨h1, by omega⟩)
  rcases Nat.lt_or_ge y 84 with h3 | h3
  · exact yf_b3 y (List.mem_range'_1.mpr ⟨h2, by omega⟩)
  rcases Nat.lt_or_ge y 105 with h4 | h4
  · exact yf_b4 y (List.mem_range'_1.mpr ⟨h3, by omega⟩)
  rcases Nat.lt_or_ge y 126 with h5 | h5
  · exact yf_b5 y (List.mem_range'_1.mpr ⟨h4, by omega⟩)
  rcases Nat.lt_or_ge y 147 with h6 | h6
  · exact yf_b6 y (List.mem_range'_1.mpr ⟨h5, by omega⟩)
  rcases Nat.lt_or_ge y 168 with h7 | h7
  · exact yf_b7 y (List.mem_range'_1.mpr ⟨h6, by omega⟩)
  rcases Nat.lt_or_ge y 189 with h8 | h8
  · exact yf_b8 y (List.mem_range'_1.mpr ⟨h7, by omega⟩)
  rcases Nat.lt_or_ge y 210 with h9 | h9
  · exact yf_b9 y (List.mem_range'_1.mpr ⟨h8, by omega⟩)
  rcases Nat.lt_or_ge y 231 with h10 | h10
  · exact yf_b10 y (List.mem_range'_1.mpr ⟨h9, by omega⟩)
  rcases Nat.lt_or_ge y 251 with h11 | h11
  · exact yf_b11 y (List.mem_range'_1.mpr ⟨h10, by omega⟩)
  exact absurd h (by omega)
theorem pn_all (cx : Nat) (h : cx < 13) : plainName (cnm cx) = true ∧ cnm cx ≠ "java/lang/invoke/MethodHandle" ∧ cnm cx ≠ "java/lang/invoke/VarHandle" := by
  match cx, h with
  | 0, _ => exact ⟨by decide +kernel, by decide +kernel, by decide +kernel⟩
  | 1, _ => exact ⟨by decide +kernel, by decide +kernel, by decide +kernel⟩
  | 2, _ => exact ⟨by decide +kernel, by decide +kernel, by decide +kernel⟩
  | 3, _ => exact ⟨by decide +kernel, by decide +kernel, by decide +kernel⟩
  | 4, _ => exact ⟨by decide +kernel, by decide +kernel, by decide +kernel⟩
  | 5, _ => exact ⟨by decide +kernel, by decide +kernel, by decide +kernel⟩
  | 6, _ => exact ⟨by decide +kernel, by decide +kernel, by decide +kernel⟩
  | 7, _ => exact ⟨by decide +kernel, by decide +kernel, by decide +kernel⟩
  | 8, _ => exact ⟨by decide +kernel, by decide +kernel, by decide +kernel⟩
  | 9, _ => exact ⟨by decide +kernel, by decide +kernel, by decide +kernel⟩
  | 10, _ => exact ⟨by decide +kernel, by decide +kernel, by decide +kernel⟩
  | 11, _ => exact ⟨by decide +kernel, by decide +kernel, by decide +kernel⟩
  | 12, _ => exact ⟨by decide +kernel, by decide +kernel, by decide +kernel⟩
def tcF : FieldType → Nat
  | .int => 0
  | .long => 1
  | .object _ => 2
  | .array _ => 2
  | _ => 9
def KF (ci : Nat) : Prop := (∀ w ∈ u_ws (cN9 ci) (cT9 ci) (cS9 ci), w ∈ lw_tbl) ∧ (∀ k, k < cS9 ci → parseFieldDescriptor (cT9 ci k).2.2.1 = some (tyf ci k)) ∧ (∀ a, a < cS9 ci → ∀ b, b < cS9 ci → a ≠ b → (cT9 ci a).2.1 ≠ (cT9 ci b).2.1) ∧ cS9 ci = fcn ci ∧ cN9 ci = cnm ci ∧ (∀ k, k < cS9 ci → tcF (tyf ci k) = ftc ci k ∧ ftc ci k < 3) ∧ cls9[ci]? = some (cN9 ci, cT9 ci, cS9 ci)
set_option maxRecDepth 20000 in
theorem kf_0 : KF 0 := ⟨List.forall_mem_cons.mpr ⟨mt_1 (i := 229) rfl, List.forall_mem_cons.mpr ⟨mt_1 (i := 231) rfl, List.forall_mem_cons.mpr ⟨mt_1 (i := 233) rfl, List.forall_mem_cons.mpr ⟨mt_1 (i := 235) rfl, List.forall_mem_cons.mpr ⟨mt_1 (i := 237) rfl, List.forall_mem_cons.mpr ⟨mt_1 (i := 239) rfl, fun _ h => absurd h List.not_mem_nil⟩⟩⟩⟩⟩⟩, by decide +kernel, by decide +kernel, rfl, rfl, by decide +kernel, rfl⟩
set_option maxRecDepth 20000 in
theorem kf_1 : KF 1 := ⟨List.forall_mem_cons.mpr ⟨mt_1 (i := 205) rfl, List.forall_mem_cons.mpr ⟨mt_1 (i := 207) rfl, List.forall_mem_cons.mpr ⟨mt_1 (i := 209) rfl, List.forall_mem_cons.mpr ⟨mt_1 (i := 211) rfl, List.forall_mem_cons.mpr ⟨mt_1 (i := 213) rfl, List.forall_mem_cons.mpr ⟨mt_1 (i := 215) rfl, List.forall_mem_cons.mpr ⟨mt_1 (i := 217) rfl, List.forall_mem_cons.mpr ⟨mt_1 (i := 219) rfl, fun _ h => absurd h List.not_mem_nil⟩⟩⟩⟩⟩⟩⟩⟩, by decide +kernel, by decide +kernel, rfl, rfl, by decide +kernel, rfl⟩
set_option maxRecDepth 20000 in
theorem kf_2 : KF 2 := ⟨List.forall_mem_cons.mpr ⟨mt_1 (i := 53) rfl, List.forall_mem_cons.mpr ⟨mt_1 (i := 55) rfl, List.forall_mem_cons.mpr ⟨mt_1 (i := 57) rfl, List.forall_mem_cons.mpr ⟨mt_1 (i := 59) rfl, List.forall_mem_cons.mpr ⟨mt_1 (i := 61) rfl, List.forall_mem_cons.mpr ⟨mt_1 (i := 63) rfl, List.forall_mem_cons.mpr ⟨mt_1 (i := 65) rfl, List.forall_mem_cons.mpr ⟨mt_1 (i := 67) rfl, fun _ h => absurd h List.not_mem_nil⟩⟩⟩⟩⟩⟩⟩⟩, by decide +kernel, by decide +kernel, rfl, rfl, by decide +kernel, rfl⟩
set_option maxRecDepth 20000 in
theorem kf_3 : KF 3 := ⟨List.forall_mem_cons.mpr ⟨mt_1 (i := 149) rfl, List.forall_mem_cons.mpr ⟨mt_1 (i := 151) rfl, List.forall_mem_cons.mpr ⟨mt_1 (i := 153) rfl, List.forall_mem_cons.mpr ⟨mt_1 (i := 155) rfl, List.forall_mem_cons.mpr ⟨mt_1 (i := 157) rfl, List.forall_mem_cons.mpr ⟨mt_1 (i := 159) rfl, List.forall_mem_cons.mpr ⟨mt_1 (i := 161) rfl, List.forall_mem_cons.mpr ⟨mt_1 (i := 163) rfl, List.forall_mem_cons.mpr ⟨mt_1 (i := 165) rfl, List.forall_mem_cons.mpr ⟨mt_1 (i := 167) rfl, List.forall_mem_cons.mpr ⟨mt_1 (i := 169) rfl, List.forall_mem_cons.mpr ⟨mt_1 (i := 171) rfl, List.forall_mem_cons.mpr ⟨mt_1 (i := 173) rfl, List.forall_mem_cons.mpr ⟨mt_1 (i := 175) rfl, List.forall_mem_cons.mpr ⟨mt_1 (i := 177) rfl, fun _ h => absurd h List.not_mem_nil⟩⟩⟩⟩⟩⟩⟩⟩⟩⟩⟩⟩⟩⟩⟩, by decide +kernel, by decide +kernel, rfl, rfl, by decide +kernel, rfl⟩
set_option maxRecDepth 20000 in
theorem kf_4 : KF 4 := ⟨List.forall_mem_cons.mpr ⟨mt_2 (i := 113) rfl, List.forall_mem_cons.mpr ⟨mt_2 (i := 115) rfl, List.forall_mem_cons.mpr ⟨mt_2 (i := 117) rfl, fun _ h => absurd h List.not_mem_nil⟩⟩⟩, by decide +kernel, by decide +kernel, rfl, rfl, by decide +kernel, rfl⟩
set_option maxRecDepth 20000 in
theorem kf_5 : KF 5 := ⟨List.forall_mem_cons.mpr ⟨mt_2 (i := 63) rfl, List.forall_mem_cons.mpr ⟨mt_2 (i := 65) rfl, List.forall_mem_cons.mpr ⟨mt_2 (i := 67) rfl, List.forall_mem_cons.mpr ⟨mt_2 (i := 69) rfl, List.forall_mem_cons.mpr ⟨mt_2 (i := 71) rfl, fun _ h => absurd h List.not_mem_nil⟩⟩⟩⟩⟩, by decide +kernel, by decide +kernel, rfl, rfl, by decide +kernel, rfl⟩
set_option maxRecDepth 20000 in
theorem kf_6 : KF 6 := ⟨List.forall_mem_cons.mpr ⟨mt_2 (i := 89) rfl, List.forall_mem_cons.mpr ⟨mt_2 (i := 91) rfl, List.forall_mem_cons.mpr ⟨mt_2 (i := 93) rfl, List.forall_mem_cons.mpr ⟨mt_2 (i := 95) rfl, List.forall_mem_cons.mpr ⟨mt_2 (i := 97) rfl, fun _ h => absurd h List.not_mem_nil⟩⟩⟩⟩⟩, by decide +kernel, by decide +kernel, rfl, rfl, by decide +kernel, rfl⟩
set_option maxRecDepth 20000 in
theorem kf_7 : KF 7 := ⟨List.forall_mem_cons.mpr ⟨mt_2 (i := 39) rfl, List.forall_mem_cons.mpr ⟨mt_2 (i := 41) rfl, List.forall_mem_cons.mpr ⟨mt_2 (i := 43) rfl, List.forall_mem_cons.mpr ⟨mt_2 (i := 45) rfl, List.forall_mem_cons.mpr ⟨mt_2 (i := 47) rfl, fun _ h => absurd h List.not_mem_nil⟩⟩⟩⟩⟩, by decide +kernel, by decide +kernel, rfl, rfl, by decide +kernel, rfl⟩
set_option maxRecDepth 20000 in
theorem kf_8 : KF 8 := ⟨List.forall_mem_cons.mpr ⟨mt_1 (i := 91) rfl, List.forall_mem_cons.mpr ⟨mt_1 (i := 93) rfl, List.forall_mem_cons.mpr ⟨mt_1 (i := 95) rfl, List.forall_mem_cons.mpr ⟨mt_1 (i := 97) rfl, List.forall_mem_cons.mpr ⟨mt_1 (i := 99) rfl, fun _ h => absurd h List.not_mem_nil⟩⟩⟩⟩⟩, by decide +kernel, by decide +kernel, rfl, rfl, by decide +kernel, rfl⟩
set_option maxRecDepth 20000 in
theorem kf_9 : KF 9 := ⟨List.forall_mem_cons.mpr ⟨mt_2 (i := 17) rfl, List.forall_mem_cons.mpr ⟨mt_2 (i := 19) rfl, List.forall_mem_cons.mpr ⟨mt_2 (i := 21) rfl, fun _ h => absurd h List.not_mem_nil⟩⟩⟩, by decide +kernel, by decide +kernel, rfl, rfl, by decide +kernel, rfl⟩
set_option maxRecDepth 20000 in
theorem kf_10 : KF 10 := ⟨List.forall_mem_cons.mpr ⟨mt_2 (i := 147) rfl, List.forall_mem_cons.mpr ⟨mt_2 (i := 149) rfl, List.forall_mem_cons.mpr ⟨mt_2 (i := 151) rfl, List.forall_mem_cons.mpr ⟨mt_2 (i := 153) rfl, List.forall_mem_cons.mpr ⟨mt_2 (i := 155) rfl, List.forall_mem_cons.mpr ⟨mt_2 (i := 157) rfl, List.forall_mem_cons.mpr ⟨mt_2 (i := 159) rfl, List.forall_mem_cons.mpr ⟨mt_2 (i := 161) rfl, List.forall_mem_cons.mpr ⟨mt_2 (i := 163) rfl, List.forall_mem_cons.mpr ⟨mt_2 (i := 165) rfl, List.forall_mem_cons.mpr ⟨mt_2 (i := 167) rfl, fun _ h => absurd h List.not_mem_nil⟩⟩⟩⟩⟩⟩⟩⟩⟩⟩⟩, by decide +kernel, by decide +kernel, rfl, rfl, by decide +kernel, rfl⟩
set_option maxRecDepth 20000 in
theorem kf_11 : KF 11 := ⟨List.forall_mem_cons.mpr ⟨mt_6 (i := 15) rfl, List.forall_mem_cons.mpr ⟨mt_6 (i := 17) rfl, List.forall_mem_cons.mpr ⟨mt_6 (i := 19) rfl, List.forall_mem_cons.mpr ⟨mt_6 (i := 21) rfl, List.forall_mem_cons.mpr ⟨mt_6 (i := 23) rfl, List.forall_mem_cons.mpr ⟨mt_6 (i := 25) rfl, List.forall_mem_cons.mpr ⟨mt_6 (i := 27) rfl, List.forall_mem_cons.mpr ⟨mt_6 (i := 29) rfl, List.forall_mem_cons.mpr ⟨mt_6 (i := 31) rfl, List.forall_mem_cons.mpr ⟨mt_6 (i := 33) rfl, List.forall_mem_cons.mpr ⟨mt_6 (i := 35) rfl, List.forall_mem_cons.mpr ⟨mt_6 (i := 37) rfl, List.forall_mem_cons.mpr ⟨mt_6 (i := 39) rfl, List.forall_mem_cons.mpr ⟨mt_6 (i := 41) rfl, List.forall_mem_cons.mpr ⟨mt_6 (i := 43) rfl, List.forall_mem_cons.mpr ⟨mt_6 (i := 45) rfl, List.forall_mem_cons.mpr ⟨mt_6 (i := 47) rfl, List.forall_mem_cons.mpr ⟨mt_6 (i := 49) rfl, List.forall_mem_cons.mpr ⟨mt_6 (i := 51) rfl, List.forall_mem_cons.mpr ⟨mt_6 (i := 53) rfl, List.forall_mem_cons.mpr ⟨mt_6 (i := 55) rfl, List.forall_mem_cons.mpr ⟨mt_6 (i := 57) rfl, List.forall_mem_cons.mpr ⟨mt_6 (i := 59) rfl, List.forall_mem_cons.mpr ⟨mt_6 (i := 61) rfl, List.forall_mem_cons.mpr ⟨mt_6 (i := 63) rfl, List.forall_mem_cons.mpr ⟨mt_6 (i := 65) rfl, List.forall_mem_cons.mpr ⟨mt_6 (i := 67) rfl, List.forall_mem_cons.mpr ⟨mt_6 (i := 69) rfl, List.forall_mem_cons.mpr ⟨mt_6 (i := 71) rfl, fun _ h => absurd h List.not_mem_nil⟩⟩⟩⟩⟩⟩⟩⟩⟩⟩⟩⟩⟩⟩⟩⟩⟩⟩⟩⟩⟩⟩⟩⟩⟩⟩⟩⟩⟩, by decide +kernel, by decide +kernel, rfl, rfl, by decide +kernel, rfl⟩
set_option maxRecDepth 20000 in
theorem kf_all (ci : Nat) (h : ci < 12) : KF ci := by
  match ci, h with
  | 0, _ => exact kf_0
  | 1, _ => exact kf_1
  | 2, _ => exact kf_2
  | 3, _ => exact kf_3
  | 4, _ => exact kf_4
  | 5, _ => exact kf_5
  | 6, _ => exact kf_6
  | 7, _ => exact kf_7
  | 8, _ => exact kf_8
  | 9, _ => exact kf_9
  | 10, _ => exact kf_10
  | 11, _ => exact kf_11
