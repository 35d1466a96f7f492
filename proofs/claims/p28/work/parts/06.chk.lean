/-! the tables of part 03 against the Statement's, entry by entry (written by wip/p28/gen_chk.py) -/
theorem mt_1 {w : Cond} {i : Nat} (hw : tables_1_1[i]? = some w) : w ∈ lw_tbl := by
  have h := List.mem_of_getElem? hw
  exact List.mem_append_right (k2_sels lw_privs) (List.mem_append_left _ h)
theorem mt_2 {w : Cond} {i : Nat} (hw : tables_1_2[i]? = some w) : w ∈ lw_tbl := by
  have h := List.mem_of_getElem? hw
  exact List.mem_append_right (k2_sels lw_privs) (List.mem_append_right _ (List.mem_append_left _ h))
theorem mt_3 {w : Cond} {i : Nat} (hw : tables_1_3[i]? = some w) : w ∈ lw_tbl := by
  have h := List.mem_of_getElem? hw
  exact List.mem_append_right (k2_sels lw_privs) (List.mem_append_right _ (List.mem_append_right _ (List.mem_append_left _ h)))
theorem mt_4 {w : Cond} {i : Nat} (hw : tables_1_4[i]? = some w) : w ∈ lw_tbl := by
  have h := List.mem_of_getElem? hw
  exact List.mem_append_right (k2_sels lw_privs) (List.mem_append_right _ (List.mem_append_right _ (List.mem_append_right _ (List.mem_append_left _ h))))
theorem mt_5 {w : Cond} {i : Nat} (hw : tables_1_5[i]? = some w) : w ∈ lw_tbl := by
  have h := List.mem_of_getElem? hw
  exact List.mem_append_right (k2_sels lw_privs) (List.mem_append_right _ (List.mem_append_right _ (List.mem_append_right _ (List.mem_append_right _ (h)))))
theorem ms_1 {q : MethodName × Nat} {i : Nat} (hw : lw_privs_1[i]? = some q) : q ∈ lw_privs := by
  have h := List.mem_of_getElem? hw
  exact List.mem_append_left _ h
theorem ms_2 {q : MethodName × Nat} {i : Nat} (hw : lw_privs_2[i]? = some q) : q ∈ lw_privs := by
  have h := List.mem_of_getElem? hw
  exact List.mem_append_right _ (h)
theorem ms_w {q : MethodName × Nat} {w : Cond} (h : q ∈ lw_privs) (e : k2_sels [q] = [w]) : w ∈ lw_tbl := by
  refine List.mem_append_left _ ?_
  have h2 : w ∈ k2_sels [q] := by rw [e]; exact List.mem_singleton.mpr rfl
  unfold k2_sels at h2 ⊢
  first
    | (simp only [List.map_cons, List.map_nil, List.mem_singleton] at h2; exact List.mem_map.mpr ⟨q, h, h2.symm⟩)
    | (simp only [List.mem_flatMap, List.mem_singleton] at h2 ⊢; obtain ⟨a, rfl, h3⟩ := h2; exact ⟨a, h, h3⟩)
def cN9 (ci : Nat) : String := (cls9.getD ci ("", jT0, 0)).1
def cT9 (ci : Nat) : u_T := (cls9.getD ci ("", jT0, 0)).2.1
def cS9 (ci : Nat) : Nat := (cls9.getD ci ("", jT0, 0)).2.2
def FK (cx : Nat) (e : Nat × Nat × Nat × Nat × Nat) : Prop := e.2.1 < 13 ∧ e.2.2.1 < cS9 e.2.1 ∧ Cond.fieldLink (cnm cx) e.1 (cT9 e.2.1 e.2.2.1).1 (cT9 e.2.1 e.2.2.1).2.1 (cT9 e.2.1 e.2.2.1).2.2.1 ∈ lw_tbl ∧ e.2.2.2.1 = ftc e.2.1 e.2.2.1
set_option maxRecDepth 20000 in
theorem fk_0_0 : FK 0 (9, 0, 2, 2, 250) := ⟨Nat.le_of_ble_eq_true rfl, Nat.le_of_ble_eq_true rfl, mt_1 (i := 220) rfl, rfl⟩
set_option maxRecDepth 20000 in
theorem fk_0_1 : FK 0 (15, 0, 3, 2, 251) := ⟨Nat.le_of_ble_eq_true rfl, Nat.le_of_ble_eq_true rfl, mt_1 (i := 221) rfl, rfl⟩
set_option maxRecDepth 20000 in
theorem fk_0_2 : FK 0 (18, 0, 4, 0, 252) := ⟨Nat.le_of_ble_eq_true rfl, Nat.le_of_ble_eq_true rfl, mt_1 (i := 222) rfl, rfl⟩
set_option maxRecDepth 20000 in
theorem fk_0_3 : FK 0 (22, 0, 5, 2, 253) := ⟨Nat.le_of_ble_eq_true rfl, Nat.le_of_ble_eq_true rfl, mt_1 (i := 223) rfl, rfl⟩
set_option maxRecDepth 20000 in
theorem fk_0_4 : FK 0 (25, 0, 0, 2, 248) := ⟨Nat.le_of_ble_eq_true rfl, Nat.le_of_ble_eq_true rfl, mt_1 (i := 218) rfl, rfl⟩
set_option maxRecDepth 20000 in
theorem fk_0_5 : FK 0 (34, 0, 1, 2, 249) := ⟨Nat.le_of_ble_eq_true rfl, Nat.le_of_ble_eq_true rfl, mt_1 (i := 219) rfl, rfl⟩
set_option maxRecDepth 20000 in
theorem fk_0_6 : FK 0 (48, 3, 11, 0, 167) := ⟨Nat.le_of_ble_eq_true rfl, Nat.le_of_ble_eq_true rfl, mt_1 (i := 137) rfl, rfl⟩
set_option maxRecDepth 20000 in
theorem fk_0_7 : FK 0 (51, 3, 2, 2, 144) := ⟨Nat.le_of_ble_eq_true rfl, Nat.le_of_ble_eq_true rfl, mt_1 (i := 114) rfl, rfl⟩
set_option maxRecDepth 20000 in
theorem fk_0_8 : FK 0 (61, 3, 9, 2, 162) := ⟨Nat.le_of_ble_eq_true rfl, Nat.le_of_ble_eq_true rfl, mt_1 (i := 132) rfl, rfl⟩
set_option maxRecDepth 20000 in
theorem fk_0_9 : FK 0 (64, 3, 3, 2, 146) := ⟨Nat.le_of_ble_eq_true rfl, Nat.le_of_ble_eq_true rfl, mt_1 (i := 116) rfl, rfl⟩
set_option maxRecDepth 20000 in
theorem fk_0_10 : FK 0 (67, 3, 7, 2, 157) := ⟨Nat.le_of_ble_eq_true rfl, Nat.le_of_ble_eq_true rfl, mt_1 (i := 127) rfl, rfl⟩
set_option maxRecDepth 20000 in
theorem fk_0_11 : FK 0 (70, 3, 8, 2, 160) := ⟨Nat.le_of_ble_eq_true rfl, Nat.le_of_ble_eq_true rfl, mt_1 (i := 130) rfl, rfl⟩
set_option maxRecDepth 20000 in
theorem fk_0_12 : FK 0 (76, 3, 10, 2, 164) := ⟨Nat.le_of_ble_eq_true rfl, Nat.le_of_ble_eq_true rfl, mt_1 (i := 134) rfl, rfl⟩
set_option maxRecDepth 20000 in
theorem fk_0_13 : FK 0 (95, 1, 7, 0, 228) := ⟨Nat.le_of_ble_eq_true rfl, Nat.le_of_ble_eq_true rfl, mt_1 (i := 198) rfl, rfl⟩
set_option maxRecDepth 20000 in
theorem fk_0_14 : FK 0 (98, 1, 4, 2, 222) := ⟨Nat.le_of_ble_eq_true rfl, Nat.le_of_ble_eq_true rfl, mt_1 (i := 192) rfl, rfl⟩
set_option maxRecDepth 20000 in
theorem fk_0_15 : FK 0 (107, 3, 5, 2, 152) := ⟨Nat.le_of_ble_eq_true rfl, Nat.le_of_ble_eq_true rfl, mt_1 (i := 122) rfl, rfl⟩
set_option maxRecDepth 20000 in
theorem fk_0_16 : FK 0 (110, 3, 1, 2, 141) := ⟨Nat.le_of_ble_eq_true rfl, Nat.le_of_ble_eq_true rfl, mt_1 (i := 111) rfl, rfl⟩
set_option maxRecDepth 20000 in
theorem fk_0_17 : FK 0 (111, 3, 6, 2, 154) := ⟨Nat.le_of_ble_eq_true rfl, Nat.le_of_ble_eq_true rfl, mt_1 (i := 124) rfl, rfl⟩
set_option maxRecDepth 20000 in
theorem fk_0_18 : FK 0 (122, 1, 5, 2, 224) := ⟨Nat.le_of_ble_eq_true rfl, Nat.le_of_ble_eq_true rfl, mt_1 (i := 194) rfl, rfl⟩
set_option maxRecDepth 20000 in
theorem fk_0_19 : FK 0 (130, 3, 4, 2, 150) := ⟨Nat.le_of_ble_eq_true rfl, Nat.le_of_ble_eq_true rfl, mt_1 (i := 120) rfl, rfl⟩
set_option maxRecDepth 20000 in
theorem fk_0_20 : FK 0 (136, 1, 6, 2, 226) := ⟨Nat.le_of_ble_eq_true rfl, Nat.le_of_ble_eq_true rfl, mt_1 (i := 196) rfl, rfl⟩
set_option maxRecDepth 20000 in
theorem fk_0_21 : FK 0 (147, 3, 12, 0, 171) := ⟨Nat.le_of_ble_eq_true rfl, Nat.le_of_ble_eq_true rfl, mt_1 (i := 141) rfl, rfl⟩
set_option maxRecDepth 20000 in
theorem fk_0 : ∀ e ∈ fTL.getD 0 [], FK 0 e := List.forall_mem_cons.mpr ⟨fk_0_0, List.forall_mem_cons.mpr ⟨fk_0_1, List.forall_mem_cons.mpr ⟨fk_0_2, List.forall_mem_cons.mpr ⟨fk_0_3, List.forall_mem_cons.mpr ⟨fk_0_4, List.forall_mem_cons.mpr ⟨fk_0_5, List.forall_mem_cons.mpr ⟨fk_0_6, List.forall_mem_cons.mpr ⟨fk_0_7, List.forall_mem_cons.mpr ⟨fk_0_8, List.forall_mem_cons.mpr ⟨fk_0_9, List.forall_mem_cons.mpr ⟨fk_0_10, List.forall_mem_cons.mpr ⟨fk_0_11, List.forall_mem_cons.mpr ⟨fk_0_12, List.forall_mem_cons.mpr ⟨fk_0_13, List.forall_mem_cons.mpr ⟨fk_0_14, List.forall_mem_cons.mpr ⟨fk_0_15, List.forall_mem_cons.mpr ⟨fk_0_16, List.forall_mem_cons.mpr ⟨fk_0_17, List.forall_mem_cons.mpr ⟨fk_0_18, List.forall_mem_cons.mpr ⟨fk_0_19, List.forall_mem_cons.mpr ⟨fk_0_20, List.forall_mem_cons.mpr ⟨fk_0_21, fun _ h => absurd h List.not_mem_nil⟩⟩⟩⟩⟩⟩⟩⟩⟩⟩⟩⟩⟩⟩⟩⟩⟩⟩⟩⟩⟩⟩
set_option maxRecDepth 20000 in
theorem fk_1_0 : FK 1 (9, 1, 1, 2, 218) := ⟨Nat.le_of_ble_eq_true rfl, Nat.le_of_ble_eq_true rfl, mt_1 (i := 188) rfl, rfl⟩
set_option maxRecDepth 20000 in
theorem fk_1_1 : FK 1 (15, 1, 2, 2, 219) := ⟨Nat.le_of_ble_eq_true rfl, Nat.le_of_ble_eq_true rfl, mt_1 (i := 189) rfl, rfl⟩
set_option maxRecDepth 20000 in
theorem fk_1_2 : FK 1 (19, 1, 3, 0, 220) := ⟨Nat.le_of_ble_eq_true rfl, Nat.le_of_ble_eq_true rfl, mt_1 (i := 190) rfl, rfl⟩
set_option maxRecDepth 20000 in
theorem fk_1_3 : FK 1 (23, 1, 4, 2, 221) := ⟨Nat.le_of_ble_eq_true rfl, Nat.le_of_ble_eq_true rfl, mt_1 (i := 191) rfl, rfl⟩
set_option maxRecDepth 20000 in
theorem fk_1_4 : FK 1 (26, 1, 5, 2, 223) := ⟨Nat.le_of_ble_eq_true rfl, Nat.le_of_ble_eq_true rfl, mt_1 (i := 193) rfl, rfl⟩
set_option maxRecDepth 20000 in
theorem fk_1_5 : FK 1 (29, 1, 6, 2, 225) := ⟨Nat.le_of_ble_eq_true rfl, Nat.le_of_ble_eq_true rfl, mt_1 (i := 195) rfl, rfl⟩
set_option maxRecDepth 20000 in
theorem fk_1_6 : FK 1 (32, 1, 7, 0, 227) := ⟨Nat.le_of_ble_eq_true rfl, Nat.le_of_ble_eq_true rfl, mt_1 (i := 197) rfl, rfl⟩
set_option maxRecDepth 20000 in
theorem fk_1_7 : FK 1 (35, 1, 0, 2, 217) := ⟨Nat.le_of_ble_eq_true rfl, Nat.le_of_ble_eq_true rfl, mt_1 (i := 187) rfl, rfl⟩
set_option maxRecDepth 20000 in
theorem fk_1_8 : FK 1 (39, 3, 7, 2, 156) := ⟨Nat.le_of_ble_eq_true rfl, Nat.le_of_ble_eq_true rfl, mt_1 (i := 126) rfl, rfl⟩
set_option maxRecDepth 20000 in
theorem fk_1_9 : FK 1 (42, 3, 11, 0, 166) := ⟨Nat.le_of_ble_eq_true rfl, Nat.le_of_ble_eq_true rfl, mt_1 (i := 136) rfl, rfl⟩
set_option maxRecDepth 20000 in
theorem fk_1_10 : FK 1 (52, 3, 8, 2, 159) := ⟨Nat.le_of_ble_eq_true rfl, Nat.le_of_ble_eq_true rfl, mt_1 (i := 129) rfl, rfl⟩
set_option maxRecDepth 20000 in
theorem fk_1_11 : FK 1 (53, 3, 1, 2, 140) := ⟨Nat.le_of_ble_eq_true rfl, Nat.le_of_ble_eq_true rfl, mt_1 (i := 110) rfl, rfl⟩
set_option maxRecDepth 20000 in
theorem fk_1 : ∀ e ∈ fTL.getD 1 [], FK 1 e := List.forall_mem_cons.mpr ⟨fk_1_0, List.forall_mem_cons.mpr ⟨fk_1_1, List.forall_mem_cons.mpr ⟨fk_1_2, List.forall_mem_cons.mpr ⟨fk_1_3, List.forall_mem_cons.mpr ⟨fk_1_4, List.forall_mem_cons.mpr ⟨fk_1_5, List.forall_mem_cons.mpr ⟨fk_1_6, List.forall_mem_cons.mpr ⟨fk_1_7, List.forall_mem_cons.mpr ⟨fk_1_8, List.forall_mem_cons.mpr ⟨fk_1_9, List.forall_mem_cons.mpr ⟨fk_1_10, List.forall_mem_cons.mpr ⟨fk_1_11, fun _ h => absurd h List.not_mem_nil⟩⟩⟩⟩⟩⟩⟩⟩⟩⟩⟩⟩
set_option maxRecDepth 20000 in
theorem fk_2_0 : FK 2 (9, 2, 0, 2, 72) := ⟨Nat.le_of_ble_eq_true rfl, Nat.le_of_ble_eq_true rfl, mt_1 (i := 42) rfl, rfl⟩
set_option maxRecDepth 20000 in
theorem fk_2_1 : FK 2 (15, 2, 1, 0, 73) := ⟨Nat.le_of_ble_eq_true rfl, Nat.le_of_ble_eq_true rfl, mt_1 (i := 43) rfl, rfl⟩
set_option maxRecDepth 20000 in
theorem fk_2_2 : FK 2 (19, 2, 2, 0, 75) := ⟨Nat.le_of_ble_eq_true rfl, Nat.le_of_ble_eq_true rfl, mt_1 (i := 45) rfl, rfl⟩
set_option maxRecDepth 20000 in
theorem fk_2_3 : FK 2 (22, 2, 3, 0, 78) := ⟨Nat.le_of_ble_eq_true rfl, Nat.le_of_ble_eq_true rfl, mt_1 (i := 48) rfl, rfl⟩
set_option maxRecDepth 20000 in
theorem fk_2_4 : FK 2 (25, 2, 4, 0, 79) := ⟨Nat.le_of_ble_eq_true rfl, Nat.le_of_ble_eq_true rfl, mt_1 (i := 49) rfl, rfl⟩
set_option maxRecDepth 20000 in
theorem fk_2_5 : FK 2 (28, 2, 5, 0, 80) := ⟨Nat.le_of_ble_eq_true rfl, Nat.le_of_ble_eq_true rfl, mt_1 (i := 50) rfl, rfl⟩
set_option maxRecDepth 20000 in
theorem fk_2_6 : FK 2 (31, 2, 6, 0, 81) := ⟨Nat.le_of_ble_eq_true rfl, Nat.le_of_ble_eq_true rfl, mt_1 (i := 51) rfl, rfl⟩
set_option maxRecDepth 20000 in
theorem fk_2_7 : FK 2 (34, 2, 7, 0, 83) := ⟨Nat.le_of_ble_eq_true rfl, Nat.le_of_ble_eq_true rfl, mt_1 (i := 53) rfl, rfl⟩
set_option maxRecDepth 20000 in
theorem fk_2 : ∀ e ∈ fTL.getD 2 [], FK 2 e := List.forall_mem_cons.mpr ⟨fk_2_0, List.forall_mem_cons.mpr ⟨fk_2_1, List.forall_mem_cons.mpr ⟨fk_2_2, List.forall_mem_cons.mpr ⟨fk_2_3, List.forall_mem_cons.mpr ⟨fk_2_4, List.forall_mem_cons.mpr ⟨fk_2_5, List.forall_mem_cons.mpr ⟨fk_2_6, List.forall_mem_cons.mpr ⟨fk_2_7, fun _ h => absurd h List.not_mem_nil⟩⟩⟩⟩⟩⟩⟩⟩
set_option maxRecDepth 20000 in
theorem fk_3_0 : FK 3 (12, 3, 0, 2, 135) := ⟨Nat.le_of_ble_eq_true rfl, Nat.le_of_ble_eq_true rfl, mt_1 (i := 105) rfl, rfl⟩
set_option maxRecDepth 20000 in
theorem fk_3_1 : FK 3 (18, 3, 1, 2, 139) := ⟨Nat.le_of_ble_eq_true rfl, Nat.le_of_ble_eq_true rfl, mt_1 (i := 109) rfl, rfl⟩
set_option maxRecDepth 20000 in
theorem fk_3_2 : FK 3 (22, 3, 2, 2, 143) := ⟨Nat.le_of_ble_eq_true rfl, Nat.le_of_ble_eq_true rfl, mt_1 (i := 113) rfl, rfl⟩
set_option maxRecDepth 20000 in
theorem fk_3_3 : FK 3 (25, 3, 3, 2, 145) := ⟨Nat.le_of_ble_eq_true rfl, Nat.le_of_ble_eq_true rfl, mt_1 (i := 115) rfl, rfl⟩
set_option maxRecDepth 20000 in
theorem fk_3_4 : FK 3 (28, 3, 4, 2, 148) := ⟨Nat.le_of_ble_eq_true rfl, Nat.le_of_ble_eq_true rfl, mt_1 (i := 118) rfl, rfl⟩
set_option maxRecDepth 20000 in
theorem fk_3_5 : FK 3 (31, 3, 5, 2, 151) := ⟨Nat.le_of_ble_eq_true rfl, Nat.le_of_ble_eq_true rfl, mt_1 (i := 121) rfl, rfl⟩
set_option maxRecDepth 20000 in
theorem fk_3_6 : FK 3 (34, 3, 6, 2, 153) := ⟨Nat.le_of_ble_eq_true rfl, Nat.le_of_ble_eq_true rfl, mt_1 (i := 123) rfl, rfl⟩
set_option maxRecDepth 20000 in
theorem fk_3_7 : FK 3 (37, 3, 7, 2, 155) := ⟨Nat.le_of_ble_eq_true rfl, Nat.le_of_ble_eq_true rfl, mt_1 (i := 125) rfl, rfl⟩
set_option maxRecDepth 20000 in
theorem fk_3_8 : FK 3 (40, 3, 8, 2, 158) := ⟨Nat.le_of_ble_eq_true rfl, Nat.le_of_ble_eq_true rfl, mt_1 (i := 128) rfl, rfl⟩
set_option maxRecDepth 20000 in
theorem fk_3_9 : FK 3 (43, 3, 9, 2, 161) := ⟨Nat.le_of_ble_eq_true rfl, Nat.le_of_ble_eq_true rfl, mt_1 (i := 131) rfl, rfl⟩
set_option maxRecDepth 20000 in
theorem fk_3_10 : FK 3 (46, 3, 10, 2, 163) := ⟨Nat.le_of_ble_eq_true rfl, Nat.le_of_ble_eq_true rfl, mt_1 (i := 133) rfl, rfl⟩
set_option maxRecDepth 20000 in
theorem fk_3_11 : FK 3 (49, 3, 11, 0, 165) := ⟨Nat.le_of_ble_eq_true rfl, Nat.le_of_ble_eq_true rfl, mt_1 (i := 135) rfl, rfl⟩
set_option maxRecDepth 20000 in
theorem fk_3_12 : FK 3 (53, 3, 12, 0, 169) := ⟨Nat.le_of_ble_eq_true rfl, Nat.le_of_ble_eq_true rfl, mt_1 (i := 139) rfl, rfl⟩
set_option maxRecDepth 20000 in
theorem fk_3_13 : FK 3 (56, 3, 13, 0, 172) := ⟨Nat.le_of_ble_eq_true rfl, Nat.le_of_ble_eq_true rfl, mt_1 (i := 142) rfl, rfl⟩
set_option maxRecDepth 20000 in
theorem fk_3_14 : FK 3 (59, 3, 14, 0, 173) := ⟨Nat.le_of_ble_eq_true rfl, Nat.le_of_ble_eq_true rfl, mt_1 (i := 143) rfl, rfl⟩
set_option maxRecDepth 20000 in
theorem fk_3_15 : FK 3 (81, 8, 4, 0, 122) := ⟨Nat.le_of_ble_eq_true rfl, Nat.le_of_ble_eq_true rfl, mt_1 (i := 92) rfl, rfl⟩
set_option maxRecDepth 20000 in
theorem fk_3 : ∀ e ∈ fTL.getD 3 [], FK 3 e := List.forall_mem_cons.mpr ⟨fk_3_0, List.forall_mem_cons.mpr ⟨fk_3_1, List.forall_mem_cons.mpr ⟨fk_3_2, List.forall_mem_cons.mpr ⟨fk_3_3, List.forall_mem_cons.mpr ⟨fk_3_4, List.forall_mem_cons.mpr ⟨fk_3_5, List.forall_mem_cons.mpr ⟨fk_3_6, List.forall_mem_cons.mpr ⟨fk_3_7, List.forall_mem_cons.mpr ⟨fk_3_8, List.forall_mem_cons.mpr ⟨fk_3_9, List.forall_mem_cons.mpr ⟨fk_3_10, List.forall_mem_cons.mpr ⟨fk_3_11, List.forall_mem_cons.mpr ⟨fk_3_12, List.forall_mem_cons.mpr ⟨fk_3_13, List.forall_mem_cons.mpr ⟨fk_3_14, List.forall_mem_cons.mpr ⟨fk_3_15, fun _ h => absurd h List.not_mem_nil⟩⟩⟩⟩⟩⟩⟩⟩⟩⟩⟩⟩⟩⟩⟩⟩
set_option maxRecDepth 20000 in
theorem fk_4_0 : FK 4 (11, 4, 0, 2, 368) := ⟨Nat.le_of_ble_eq_true rfl, Nat.le_of_ble_eq_true rfl, mt_2 (i := 98) rfl, rfl⟩
set_option maxRecDepth 20000 in
theorem fk_4_1 : FK 4 (17, 4, 1, 0, 369) := ⟨Nat.le_of_ble_eq_true rfl, Nat.le_of_ble_eq_true rfl, mt_2 (i := 99) rfl, rfl⟩
set_option maxRecDepth 20000 in
theorem fk_4_2 : FK 4 (21, 4, 2, 0, 370) := ⟨Nat.le_of_ble_eq_true rfl, Nat.le_of_ble_eq_true rfl, mt_2 (i := 100) rfl, rfl⟩
set_option maxRecDepth 20000 in
theorem fk_4 : ∀ e ∈ fTL.getD 4 [], FK 4 e := List.forall_mem_cons.mpr ⟨fk_4_0, List.forall_mem_cons.mpr ⟨fk_4_1, List.forall_mem_cons.mpr ⟨fk_4_2, fun _ h => absurd h List.not_mem_nil⟩⟩⟩
set_option maxRecDepth 20000 in
theorem fk_5_0 : FK 5 (9, 5, 1, 2, 318) := ⟨Nat.le_of_ble_eq_true rfl, Nat.le_of_ble_eq_true rfl, mt_2 (i := 48) rfl, rfl⟩
set_option maxRecDepth 20000 in
theorem fk_5_1 : FK 5 (15, 5, 2, 2, 319) := ⟨Nat.le_of_ble_eq_true rfl, Nat.le_of_ble_eq_true rfl, mt_2 (i := 49) rfl, rfl⟩
set_option maxRecDepth 20000 in
theorem fk_5_2 : FK 5 (18, 5, 3, 2, 320) := ⟨Nat.le_of_ble_eq_true rfl, Nat.le_of_ble_eq_true rfl, mt_2 (i := 50) rfl, rfl⟩
set_option maxRecDepth 20000 in
theorem fk_5_3 : FK 5 (22, 5, 4, 0, 321) := ⟨Nat.le_of_ble_eq_true rfl, Nat.le_of_ble_eq_true rfl, mt_2 (i := 51) rfl, rfl⟩
set_option maxRecDepth 20000 in
theorem fk_5_4 : FK 5 (26, 5, 0, 2, 317) := ⟨Nat.le_of_ble_eq_true rfl, Nat.le_of_ble_eq_true rfl, mt_2 (i := 47) rfl, rfl⟩
set_option maxRecDepth 20000 in
theorem fk_5 : ∀ e ∈ fTL.getD 5 [], FK 5 e := List.forall_mem_cons.mpr ⟨fk_5_0, List.forall_mem_cons.mpr ⟨fk_5_1, List.forall_mem_cons.mpr ⟨fk_5_2, List.forall_mem_cons.mpr ⟨fk_5_3, List.forall_mem_cons.mpr ⟨fk_5_4, fun _ h => absurd h List.not_mem_nil⟩⟩⟩⟩⟩
set_option maxRecDepth 20000 in
theorem fk_6_0 : FK 6 (9, 6, 0, 2, 343) := ⟨Nat.le_of_ble_eq_true rfl, Nat.le_of_ble_eq_true rfl, mt_2 (i := 73) rfl, rfl⟩
set_option maxRecDepth 20000 in
theorem fk_6_1 : FK 6 (15, 6, 1, 2, 344) := ⟨Nat.le_of_ble_eq_true rfl, Nat.le_of_ble_eq_true rfl, mt_2 (i := 74) rfl, rfl⟩
set_option maxRecDepth 20000 in
theorem fk_6_2 : FK 6 (19, 3, 0, 2, 136) := ⟨Nat.le_of_ble_eq_true rfl, Nat.le_of_ble_eq_true rfl, mt_1 (i := 106) rfl, rfl⟩
set_option maxRecDepth 20000 in
theorem fk_6_3 : FK 6 (25, 6, 2, 2, 345) := ⟨Nat.le_of_ble_eq_true rfl, Nat.le_of_ble_eq_true rfl, mt_2 (i := 75) rfl, rfl⟩
set_option maxRecDepth 20000 in
theorem fk_6_4 : FK 6 (31, 6, 3, 2, 346) := ⟨Nat.le_of_ble_eq_true rfl, Nat.le_of_ble_eq_true rfl, mt_2 (i := 76) rfl, rfl⟩
set_option maxRecDepth 20000 in
theorem fk_6_5 : FK 6 (38, 6, 4, 2, 347) := ⟨Nat.le_of_ble_eq_true rfl, Nat.le_of_ble_eq_true rfl, mt_2 (i := 77) rfl, rfl⟩
set_option maxRecDepth 20000 in
theorem fk_6_6 : FK 6 (42, 8, 4, 0, 120) := ⟨Nat.le_of_ble_eq_true rfl, Nat.le_of_ble_eq_true rfl, mt_1 (i := 90) rfl, rfl⟩
set_option maxRecDepth 20000 in
theorem fk_6_7 : FK 6 (102, 2, 2, 0, 77) := ⟨Nat.le_of_ble_eq_true rfl, Nat.le_of_ble_eq_true rfl, mt_1 (i := 47) rfl, rfl⟩
set_option maxRecDepth 20000 in
theorem fk_6_8 : FK 6 (141, 9, 1, 0, 275) := ⟨Nat.le_of_ble_eq_true rfl, Nat.le_of_ble_eq_true rfl, mt_2 (i := 5) rfl, rfl⟩
set_option maxRecDepth 20000 in
theorem fk_6_9 : FK 6 (144, 9, 2, 0, 277) := ⟨Nat.le_of_ble_eq_true rfl, Nat.le_of_ble_eq_true rfl, mt_2 (i := 7) rfl, rfl⟩
set_option maxRecDepth 20000 in
theorem fk_6 : ∀ e ∈ fTL.getD 6 [], FK 6 e := List.forall_mem_cons.mpr ⟨fk_6_0, List.forall_mem_cons.mpr ⟨fk_6_1, List.forall_mem_cons.mpr ⟨fk_6_2, List.forall_mem_cons.mpr ⟨fk_6_3, List.forall_mem_cons.mpr ⟨fk_6_4, List.forall_mem_cons.mpr ⟨fk_6_5, List.forall_mem_cons.mpr ⟨fk_6_6, List.forall_mem_cons.mpr ⟨fk_6_7, List.forall_mem_cons.mpr ⟨fk_6_8, List.forall_mem_cons.mpr ⟨fk_6_9, fun _ h => absurd h List.not_mem_nil⟩⟩⟩⟩⟩⟩⟩⟩⟩⟩
set_option maxRecDepth 20000 in
theorem fk_7_0 : FK 7 (9, 7, 2, 2, 297) := ⟨Nat.le_of_ble_eq_true rfl, Nat.le_of_ble_eq_true rfl, mt_2 (i := 27) rfl, rfl⟩
set_option maxRecDepth 20000 in
theorem fk_7_1 : FK 7 (15, 7, 3, 2, 298) := ⟨Nat.le_of_ble_eq_true rfl, Nat.le_of_ble_eq_true rfl, mt_2 (i := 28) rfl, rfl⟩
set_option maxRecDepth 20000 in
theorem fk_7_2 : FK 7 (18, 7, 4, 0, 299) := ⟨Nat.le_of_ble_eq_true rfl, Nat.le_of_ble_eq_true rfl, mt_2 (i := 29) rfl, rfl⟩
set_option maxRecDepth 20000 in
theorem fk_7_3 : FK 7 (22, 7, 0, 2, 295) := ⟨Nat.le_of_ble_eq_true rfl, Nat.le_of_ble_eq_true rfl, mt_2 (i := 25) rfl, rfl⟩
set_option maxRecDepth 20000 in
theorem fk_7_4 : FK 7 (31, 7, 1, 2, 296) := ⟨Nat.le_of_ble_eq_true rfl, Nat.le_of_ble_eq_true rfl, mt_2 (i := 26) rfl, rfl⟩
set_option maxRecDepth 20000 in
theorem fk_7 : ∀ e ∈ fTL.getD 7 [], FK 7 e := List.forall_mem_cons.mpr ⟨fk_7_0, List.forall_mem_cons.mpr ⟨fk_7_1, List.forall_mem_cons.mpr ⟨fk_7_2, List.forall_mem_cons.mpr ⟨fk_7_3, List.forall_mem_cons.mpr ⟨fk_7_4, fun _ h => absurd h List.not_mem_nil⟩⟩⟩⟩⟩
set_option maxRecDepth 20000 in
theorem fk_8_0 : FK 8 (9, 8, 0, 2, 115) := ⟨Nat.le_of_ble_eq_true rfl, Nat.le_of_ble_eq_true rfl, mt_1 (i := 85) rfl, rfl⟩
set_option maxRecDepth 20000 in
theorem fk_8_1 : FK 8 (15, 8, 1, 2, 116) := ⟨Nat.le_of_ble_eq_true rfl, Nat.le_of_ble_eq_true rfl, mt_1 (i := 86) rfl, rfl⟩
set_option maxRecDepth 20000 in
theorem fk_8_2 : FK 8 (18, 8, 2, 2, 117) := ⟨Nat.le_of_ble_eq_true rfl, Nat.le_of_ble_eq_true rfl, mt_1 (i := 87) rfl, rfl⟩
set_option maxRecDepth 20000 in
theorem fk_8_3 : FK 8 (21, 8, 3, 2, 118) := ⟨Nat.le_of_ble_eq_true rfl, Nat.le_of_ble_eq_true rfl, mt_1 (i := 88) rfl, rfl⟩
set_option maxRecDepth 20000 in
theorem fk_8_4 : FK 8 (24, 8, 4, 0, 119) := ⟨Nat.le_of_ble_eq_true rfl, Nat.le_of_ble_eq_true rfl, mt_1 (i := 89) rfl, rfl⟩
set_option maxRecDepth 20000 in
theorem fk_8 : ∀ e ∈ fTL.getD 8 [], FK 8 e := List.forall_mem_cons.mpr ⟨fk_8_0, List.forall_mem_cons.mpr ⟨fk_8_1, List.forall_mem_cons.mpr ⟨fk_8_2, List.forall_mem_cons.mpr ⟨fk_8_3, List.forall_mem_cons.mpr ⟨fk_8_4, fun _ h => absurd h List.not_mem_nil⟩⟩⟩⟩⟩
set_option maxRecDepth 20000 in
theorem fk_9_0 : FK 9 (9, 9, 1, 0, 274) := ⟨Nat.le_of_ble_eq_true rfl, Nat.le_of_ble_eq_true rfl, mt_2 (i := 4) rfl, rfl⟩
set_option maxRecDepth 20000 in
theorem fk_9_1 : FK 9 (15, 9, 2, 0, 276) := ⟨Nat.le_of_ble_eq_true rfl, Nat.le_of_ble_eq_true rfl, mt_2 (i := 6) rfl, rfl⟩
set_option maxRecDepth 20000 in
theorem fk_9_2 : FK 9 (18, 9, 0, 2, 273) := ⟨Nat.le_of_ble_eq_true rfl, Nat.le_of_ble_eq_true rfl, mt_2 (i := 3) rfl, rfl⟩
set_option maxRecDepth 20000 in
theorem fk_9_3 : FK 9 (28, 3, 4, 2, 149) := ⟨Nat.le_of_ble_eq_true rfl, Nat.le_of_ble_eq_true rfl, mt_1 (i := 119) rfl, rfl⟩
set_option maxRecDepth 20000 in
theorem fk_9_4 : FK 9 (50, 2, 2, 0, 76) := ⟨Nat.le_of_ble_eq_true rfl, Nat.le_of_ble_eq_true rfl, mt_1 (i := 46) rfl, rfl⟩
set_option maxRecDepth 20000 in
theorem fk_9_5 : FK 9 (67, 3, 0, 2, 138) := ⟨Nat.le_of_ble_eq_true rfl, Nat.le_of_ble_eq_true rfl, mt_1 (i := 108) rfl, rfl⟩
set_option maxRecDepth 20000 in
theorem fk_9_6 : FK 9 (71, 3, 3, 2, 147) := ⟨Nat.le_of_ble_eq_true rfl, Nat.le_of_ble_eq_true rfl, mt_1 (i := 117) rfl, rfl⟩
set_option maxRecDepth 20000 in
theorem fk_9 : ∀ e ∈ fTL.getD 9 [], FK 9 e := List.forall_mem_cons.mpr ⟨fk_9_0, List.forall_mem_cons.mpr ⟨fk_9_1, List.forall_mem_cons.mpr ⟨fk_9_2, List.forall_mem_cons.mpr ⟨fk_9_3, List.forall_mem_cons.mpr ⟨fk_9_4, List.forall_mem_cons.mpr ⟨fk_9_5, List.forall_mem_cons.mpr ⟨fk_9_6, fun _ h => absurd h List.not_mem_nil⟩⟩⟩⟩⟩⟩⟩
set_option maxRecDepth 20000 in
theorem fk_10_0 : FK 10 (12, 10, 0, 2, 394) := ⟨Nat.le_of_ble_eq_true rfl, Nat.le_of_ble_eq_true rfl, mt_2 (i := 124) rfl, rfl⟩
set_option maxRecDepth 20000 in
theorem fk_10_1 : FK 10 (16, 10, 1, 0, 395) := ⟨Nat.le_of_ble_eq_true rfl, Nat.le_of_ble_eq_true rfl, mt_2 (i := 125) rfl, rfl⟩
set_option maxRecDepth 20000 in
theorem fk_10_2 : FK 10 (23, 10, 2, 2, 396) := ⟨Nat.le_of_ble_eq_true rfl, Nat.le_of_ble_eq_true rfl, mt_2 (i := 126) rfl, rfl⟩
set_option maxRecDepth 20000 in
theorem fk_10_3 : FK 10 (32, 10, 3, 2, 397) := ⟨Nat.le_of_ble_eq_true rfl, Nat.le_of_ble_eq_true rfl, mt_2 (i := 127) rfl, rfl⟩
set_option maxRecDepth 20000 in
theorem fk_10_4 : FK 10 (39, 10, 4, 2, 398) := ⟨Nat.le_of_ble_eq_true rfl, Nat.le_of_ble_eq_true rfl, mt_2 (i := 128) rfl, rfl⟩
set_option maxRecDepth 20000 in
theorem fk_10_5 : FK 10 (46, 10, 5, 2, 399) := ⟨Nat.le_of_ble_eq_true rfl, Nat.le_of_ble_eq_true rfl, mt_2 (i := 129) rfl, rfl⟩
set_option maxRecDepth 20000 in
theorem fk_10_6 : FK 10 (53, 10, 6, 2, 400) := ⟨Nat.le_of_ble_eq_true rfl, Nat.le_of_ble_eq_true rfl, mt_2 (i := 130) rfl, rfl⟩
set_option maxRecDepth 20000 in
theorem fk_10_7 : FK 10 (60, 10, 7, 2, 401) := ⟨Nat.le_of_ble_eq_true rfl, Nat.le_of_ble_eq_true rfl, mt_2 (i := 131) rfl, rfl⟩
set_option maxRecDepth 20000 in
theorem fk_10_8 : FK 10 (64, 10, 8, 2, 402) := ⟨Nat.le_of_ble_eq_true rfl, Nat.le_of_ble_eq_true rfl, mt_2 (i := 132) rfl, rfl⟩
set_option maxRecDepth 20000 in
theorem fk_10_9 : FK 10 (72, 10, 9, 2, 403) := ⟨Nat.le_of_ble_eq_true rfl, Nat.le_of_ble_eq_true rfl, mt_2 (i := 133) rfl, rfl⟩
set_option maxRecDepth 20000 in
theorem fk_10_10 : FK 10 (79, 10, 10, 2, 404) := ⟨Nat.le_of_ble_eq_true rfl, Nat.le_of_ble_eq_true rfl, mt_2 (i := 134) rfl, rfl⟩
set_option maxRecDepth 20000 in
theorem fk_10_11 : FK 10 (83, 3, 0, 2, 137) := ⟨Nat.le_of_ble_eq_true rfl, Nat.le_of_ble_eq_true rfl, mt_1 (i := 107) rfl, rfl⟩
set_option maxRecDepth 20000 in
theorem fk_10_12 : FK 10 (103, 2, 1, 0, 74) := ⟨Nat.le_of_ble_eq_true rfl, Nat.le_of_ble_eq_true rfl, mt_1 (i := 44) rfl, rfl⟩
set_option maxRecDepth 20000 in
theorem fk_10_13 : FK 10 (119, 2, 7, 0, 84) := ⟨Nat.le_of_ble_eq_true rfl, Nat.le_of_ble_eq_true rfl, mt_1 (i := 54) rfl, rfl⟩
set_option maxRecDepth 20000 in
theorem fk_10_14 : FK 10 (120, 2, 6, 0, 82) := ⟨Nat.le_of_ble_eq_true rfl, Nat.le_of_ble_eq_true rfl, mt_1 (i := 52) rfl, rfl⟩
set_option maxRecDepth 20000 in
theorem fk_10_15 : FK 10 (129, 3, 11, 0, 168) := ⟨Nat.le_of_ble_eq_true rfl, Nat.le_of_ble_eq_true rfl, mt_1 (i := 138) rfl, rfl⟩
set_option maxRecDepth 20000 in
theorem fk_10_16 : FK 10 (160, 8, 4, 0, 121) := ⟨Nat.le_of_ble_eq_true rfl, Nat.le_of_ble_eq_true rfl, mt_1 (i := 91) rfl, rfl⟩
set_option maxRecDepth 20000 in
theorem fk_10_17 : FK 10 (187, 3, 1, 2, 142) := ⟨Nat.le_of_ble_eq_true rfl, Nat.le_of_ble_eq_true rfl, mt_1 (i := 112) rfl, rfl⟩
set_option maxRecDepth 20000 in
theorem fk_10_18 : FK 10 (213, 3, 12, 0, 170) := ⟨Nat.le_of_ble_eq_true rfl, Nat.le_of_ble_eq_true rfl, mt_1 (i := 140) rfl, rfl⟩
set_option maxRecDepth 20000 in
theorem fk_10_19 : FK 10 (230, 1, 7, 0, 229) := ⟨Nat.le_of_ble_eq_true rfl, Nat.le_of_ble_eq_true rfl, mt_1 (i := 199) rfl, rfl⟩
set_option maxRecDepth 20000 in
theorem fk_10 : ∀ e ∈ fTL.getD 10 [], FK 10 e := List.forall_mem_cons.mpr ⟨fk_10_0, List.forall_mem_cons.mpr ⟨fk_10_1, List.forall_mem_cons.mpr ⟨fk_10_2, List.forall_mem_cons.mpr ⟨fk_10_3, List.forall_mem_cons.mpr ⟨fk_10_4, List.forall_mem_cons.mpr ⟨fk_10_5, List.forall_mem_cons.mpr ⟨fk_10_6, List.forall_mem_cons.mpr ⟨fk_10_7, List.forall_mem_cons.mpr ⟨fk_10_8, List.forall_mem_cons.mpr ⟨fk_10_9, List.forall_mem_cons.mpr ⟨fk_10_10, List.forall_mem_cons.mpr ⟨fk_10_11, List.forall_mem_cons.mpr ⟨fk_10_12, List.forall_mem_cons.mpr ⟨fk_10_13, List.forall_mem_cons.mpr ⟨fk_10_14, List.forall_mem_cons.mpr ⟨fk_10_15, List.forall_mem_cons.mpr ⟨fk_10_16, List.forall_mem_cons.mpr ⟨fk_10_17, List.forall_mem_cons.mpr ⟨fk_10_18, List.forall_mem_cons.mpr ⟨fk_10_19, fun _ h => absurd h List.not_mem_nil⟩⟩⟩⟩⟩⟩⟩⟩⟩⟩⟩⟩⟩⟩⟩⟩⟩⟩⟩⟩
set_option maxRecDepth 20000 in
theorem fk_11 : ∀ e ∈ fTL.getD 11 [], FK 11 e := fun _ h => absurd h List.not_mem_nil
set_option maxRecDepth 20000 in
theorem fk_12_0 : FK 12 (9, 12, 0, 2, 1154) := ⟨Nat.le_of_ble_eq_true rfl, Nat.le_of_ble_eq_true rfl, mt_5 (i := 164) rfl, rfl⟩
set_option maxRecDepth 20000 in
theorem fk_12_1 : FK 12 (15, 12, 1, 1, 1155) := ⟨Nat.le_of_ble_eq_true rfl, Nat.le_of_ble_eq_true rfl, mt_5 (i := 165) rfl, rfl⟩
set_option maxRecDepth 20000 in
theorem fk_12_2 : FK 12 (1048, 11, 2, 1, 1084) := ⟨Nat.le_of_ble_eq_true rfl, Nat.le_of_ble_eq_true rfl, mt_5 (i := 94) rfl, rfl⟩
set_option maxRecDepth 20000 in
theorem fk_12 : ∀ e ∈ fTL.getD 12 [], FK 12 e := List.forall_mem_cons.mpr ⟨fk_12_0, List.forall_mem_cons.mpr ⟨fk_12_1, List.forall_mem_cons.mpr ⟨fk_12_2, fun _ h => absurd h List.not_mem_nil⟩⟩⟩
set_option maxRecDepth 20000 in
theorem fk_13_0 : FK 13 (15, 11, 0, 2, 1082) := ⟨Nat.le_of_ble_eq_true rfl, Nat.le_of_ble_eq_true rfl, mt_5 (i := 92) rfl, rfl⟩
set_option maxRecDepth 20000 in
theorem fk_13_1 : FK 13 (22, 11, 1, 1, 1083) := ⟨Nat.le_of_ble_eq_true rfl, Nat.le_of_ble_eq_true rfl, mt_5 (i := 93) rfl, rfl⟩
set_option maxRecDepth 20000 in
theorem fk_13_2 : FK 13 (79, 11, 3, 0, 1085) := ⟨Nat.le_of_ble_eq_true rfl, Nat.le_of_ble_eq_true rfl, mt_5 (i := 95) rfl, rfl⟩
set_option maxRecDepth 20000 in
theorem fk_13 : ∀ e ∈ fTL.getD 13 [], FK 13 e := List.forall_mem_cons.mpr ⟨fk_13_0, List.forall_mem_cons.mpr ⟨fk_13_1, List.forall_mem_cons.mpr ⟨fk_13_2, fun _ h => absurd h List.not_mem_nil⟩⟩⟩
set_option maxRecDepth 20000 in
theorem fk_14 : ∀ e ∈ fTL.getD 14 [], FK 14 e := fun _ h => absurd h List.not_mem_nil
set_option maxRecDepth 20000 in
theorem fk_15 : ∀ e ∈ fTL.getD 15 [], FK 15 e := fun _ h => absurd h List.not_mem_nil
set_option maxRecDepth 20000 in
theorem fk_16 : ∀ e ∈ fTL.getD 16 [], FK 16 e := fun _ h => absurd h List.not_mem_nil
set_option maxRecDepth 20000 in
theorem fk_17 : ∀ e ∈ fTL.getD 17 [], FK 17 e := fun _ h => absurd h List.not_mem_nil
set_option maxRecDepth 20000 in
theorem fk_all (cx : Nat) (hc : cx < 18) : ∀ e ∈ fTL.getD cx [], FK cx e := by
  match cx, hc with
  | 0, _ => exact fk_0
  | 1, _ => exact fk_1
  | 2, _ => exact fk_2
  | 3, _ => exact fk_3
  | 4, _ => exact fk_4
  | 5, _ => exact fk_5
  | 6, _ => exact fk_6
  | 7, _ => exact fk_7
  | 8, _ => exact fk_8
  | 9, _ => exact fk_9
  | 10, _ => exact fk_10
  | 11, _ => exact fk_11
  | 12, _ => exact fk_12
  | 13, _ => exact fk_13
  | 14, _ => exact fk_14
  | 15, _ => exact fk_15
  | 16, _ => exact fk_16
  | 17, _ => exact fk_17
  | n + 18, h => exact absurd h (by omega)
def CK (cx : Nat) (e : Nat × Nat × Nat × Nat × Nat) : Prop := e.2.1 < 13 ∧ Cond.classLink (cnm cx) e.1 (cN9 e.2.1) ∈ lw_tbl ∧ Cond.instantiable (cN9 e.2.1) (cS9 e.2.1) ∈ lw_tbl ∧ Cond.initialized (cN9 e.2.1) ∈ lw_tbl
set_option maxRecDepth 20000 in
theorem ck_0_0 : CK 0 (29, 1, 211, 212, 46) := ⟨Nat.le_of_ble_eq_true rfl, mt_1 (i := 181) rfl, mt_1 (i := 182) rfl, mt_1 (i := 16) rfl⟩
set_option maxRecDepth 20000 in
theorem ck_0 : ∀ e ∈ cTL.getD 0 [], CK 0 e := List.forall_mem_cons.mpr ⟨ck_0_0, fun _ h => absurd h List.not_mem_nil⟩
set_option maxRecDepth 20000 in
theorem ck_1 : ∀ e ∈ cTL.getD 1 [], CK 1 e := fun _ h => absurd h List.not_mem_nil
set_option maxRecDepth 20000 in
theorem ck_2 : ∀ e ∈ cTL.getD 2 [], CK 2 e := fun _ h => absurd h List.not_mem_nil
set_option maxRecDepth 20000 in
theorem ck_3_0 : CK 3 (9, 8, 109, 110, 44) := ⟨Nat.le_of_ble_eq_true rfl, mt_1 (i := 79) rfl, mt_1 (i := 80) rfl, mt_1 (i := 14) rfl⟩
set_option maxRecDepth 20000 in
theorem ck_3 : ∀ e ∈ cTL.getD 3 [], CK 3 e := List.forall_mem_cons.mpr ⟨ck_3_0, fun _ h => absurd h List.not_mem_nil⟩
set_option maxRecDepth 20000 in
theorem ck_4_0 : CK 4 (9, 3, 365, 104, 43) := ⟨Nat.le_of_ble_eq_true rfl, mt_2 (i := 95) rfl, mt_1 (i := 74) rfl, mt_1 (i := 13) rfl⟩
set_option maxRecDepth 20000 in
theorem ck_4 : ∀ e ∈ cTL.getD 4 [], CK 4 e := List.forall_mem_cons.mpr ⟨ck_4_0, fun _ h => absurd h List.not_mem_nil⟩
set_option maxRecDepth 20000 in
theorem ck_5 : ∀ e ∈ cTL.getD 5 [], CK 5 e := fun _ h => absurd h List.not_mem_nil
set_option maxRecDepth 20000 in
theorem ck_6_0 : CK 6 (26, 0, 339, 206, 45) := ⟨Nat.le_of_ble_eq_true rfl, mt_2 (i := 69) rfl, mt_1 (i := 176) rfl, mt_1 (i := 15) rfl⟩
set_option maxRecDepth 20000 in
theorem ck_6_1 : CK 6 (35, 9, 341, 268, 47) := ⟨Nat.le_of_ble_eq_true rfl, mt_2 (i := 71) rfl, mt_1 (i := 238) rfl, mt_1 (i := 17) rfl⟩
set_option maxRecDepth 20000 in
theorem ck_6 : ∀ e ∈ cTL.getD 6 [], CK 6 e := List.forall_mem_cons.mpr ⟨ck_6_0, List.forall_mem_cons.mpr ⟨ck_6_1, fun _ h => absurd h List.not_mem_nil⟩⟩
set_option maxRecDepth 20000 in
theorem ck_7_0 : CK 7 (26, 9, 293, 268, 47) := ⟨Nat.le_of_ble_eq_true rfl, mt_2 (i := 23) rfl, mt_1 (i := 238) rfl, mt_1 (i := 17) rfl⟩
set_option maxRecDepth 20000 in
theorem ck_7 : ∀ e ∈ cTL.getD 7 [], CK 7 e := List.forall_mem_cons.mpr ⟨ck_7_0, fun _ h => absurd h List.not_mem_nil⟩
set_option maxRecDepth 20000 in
theorem ck_8 : ∀ e ∈ cTL.getD 8 [], CK 8 e := fun _ h => absurd h List.not_mem_nil
set_option maxRecDepth 20000 in
theorem ck_9 : ∀ e ∈ cTL.getD 9 [], CK 9 e := fun _ h => absurd h List.not_mem_nil
set_option maxRecDepth 20000 in
theorem ck_10_0 : CK 10 (9, 2, 66, 67, 42) := ⟨Nat.le_of_ble_eq_true rfl, mt_1 (i := 36) rfl, mt_1 (i := 37) rfl, mt_1 (i := 12) rfl⟩
set_option maxRecDepth 20000 in
theorem ck_10_1 : CK 10 (20, 3, 103, 104, 43) := ⟨Nat.le_of_ble_eq_true rfl, mt_1 (i := 73) rfl, mt_1 (i := 74) rfl, mt_1 (i := 13) rfl⟩
set_option maxRecDepth 20000 in
theorem ck_10_2 : CK 10 (27, 0, 205, 206, 45) := ⟨Nat.le_of_ble_eq_true rfl, mt_1 (i := 175) rfl, mt_1 (i := 176) rfl, mt_1 (i := 15) rfl⟩
set_option maxRecDepth 20000 in
theorem ck_10_3 : CK 10 (36, 9, 267, 268, 47) := ⟨Nat.le_of_ble_eq_true rfl, mt_1 (i := 237) rfl, mt_1 (i := 238) rfl, mt_1 (i := 17) rfl⟩
set_option maxRecDepth 20000 in
theorem ck_10_4 : CK 10 (43, 1, 285, 212, 46) := ⟨Nat.le_of_ble_eq_true rfl, mt_2 (i := 15) rfl, mt_1 (i := 182) rfl, mt_1 (i := 16) rfl⟩
set_option maxRecDepth 20000 in
theorem ck_10_5 : CK 10 (50, 7, 287, 288, 48) := ⟨Nat.le_of_ble_eq_true rfl, mt_2 (i := 17) rfl, mt_2 (i := 18) rfl, mt_1 (i := 18) rfl⟩
set_option maxRecDepth 20000 in
theorem ck_10_6 : CK 10 (57, 5, 311, 312, 49) := ⟨Nat.le_of_ble_eq_true rfl, mt_2 (i := 41) rfl, mt_2 (i := 42) rfl, mt_1 (i := 19) rfl⟩
set_option maxRecDepth 20000 in
theorem ck_10_7 : CK 10 (67, 6, 333, 334, 50) := ⟨Nat.le_of_ble_eq_true rfl, mt_2 (i := 63) rfl, mt_2 (i := 64) rfl, mt_1 (i := 20) rfl⟩
set_option maxRecDepth 20000 in
theorem ck_10_8 : CK 10 (76, 4, 359, 360, 51) := ⟨Nat.le_of_ble_eq_true rfl, mt_2 (i := 89) rfl, mt_2 (i := 90) rfl, mt_1 (i := 21) rfl⟩
set_option maxRecDepth 20000 in
theorem ck_10 : ∀ e ∈ cTL.getD 10 [], CK 10 e := List.forall_mem_cons.mpr ⟨ck_10_0, List.forall_mem_cons.mpr ⟨ck_10_1, List.forall_mem_cons.mpr ⟨ck_10_2, List.forall_mem_cons.mpr ⟨ck_10_3, List.forall_mem_cons.mpr ⟨ck_10_4, List.forall_mem_cons.mpr ⟨ck_10_5, List.forall_mem_cons.mpr ⟨ck_10_6, List.forall_mem_cons.mpr ⟨ck_10_7, List.forall_mem_cons.mpr ⟨ck_10_8, fun _ h => absurd h List.not_mem_nil⟩⟩⟩⟩⟩⟩⟩⟩⟩
set_option maxRecDepth 20000 in
theorem ck_11_0 : CK 11 (18, 12, 1112, 1113, 33) := ⟨Nat.le_of_ble_eq_true rfl, mt_5 (i := 122) rfl, mt_5 (i := 123) rfl, mt_1 (i := 3) rfl⟩
set_option maxRecDepth 20000 in
theorem ck_11 : ∀ e ∈ cTL.getD 11 [], CK 11 e := List.forall_mem_cons.mpr ⟨ck_11_0, fun _ h => absurd h List.not_mem_nil⟩
set_option maxRecDepth 20000 in
theorem ck_12 : ∀ e ∈ cTL.getD 12 [], CK 12 e := fun _ h => absurd h List.not_mem_nil
set_option maxRecDepth 20000 in
theorem ck_13 : ∀ e ∈ cTL.getD 13 [], CK 13 e := fun _ h => absurd h List.not_mem_nil
set_option maxRecDepth 20000 in
theorem ck_14 : ∀ e ∈ cTL.getD 14 [], CK 14 e := fun _ h => absurd h List.not_mem_nil
set_option maxRecDepth 20000 in
theorem ck_15 : ∀ e ∈ cTL.getD 15 [], CK 15 e := fun _ h => absurd h List.not_mem_nil
set_option maxRecDepth 20000 in
theorem ck_16 : ∀ e ∈ cTL.getD 16 [], CK 16 e := fun _ h => absurd h List.not_mem_nil
set_option maxRecDepth 20000 in
theorem ck_17_0 : CK 17 (19, 10, 58, 59, 41) := ⟨Nat.le_of_ble_eq_true rfl, mt_1 (i := 28) rfl, mt_1 (i := 29) rfl, mt_1 (i := 11) rfl⟩
set_option maxRecDepth 20000 in
theorem ck_17_1 : CK 17 (50, 11, 963, 964, 32) := ⟨Nat.le_of_ble_eq_true rfl, mt_4 (i := 213) rfl, mt_4 (i := 214) rfl, mt_1 (i := 2) rfl⟩
set_option maxRecDepth 20000 in
theorem ck_17 : ∀ e ∈ cTL.getD 17 [], CK 17 e := List.forall_mem_cons.mpr ⟨ck_17_0, List.forall_mem_cons.mpr ⟨ck_17_1, fun _ h => absurd h List.not_mem_nil⟩⟩
set_option maxRecDepth 20000 in
theorem ck_all (cx : Nat) (hc : cx < 18) : ∀ e ∈ cTL.getD cx [], CK cx e := by
  match cx, hc with
  | 0, _ => exact ck_0
  | 1, _ => exact ck_1
  | 2, _ => exact ck_2
  | 3, _ => exact ck_3
  | 4, _ => exact ck_4
  | 5, _ => exact ck_5
  | 6, _ => exact ck_6
  | 7, _ => exact ck_7
  | 8, _ => exact ck_8
  | 9, _ => exact ck_9
  | 10, _ => exact ck_10
  | 11, _ => exact ck_11
  | 12, _ => exact ck_12
  | 13, _ => exact ck_13
  | 14, _ => exact ck_14
  | 15, _ => exact ck_15
  | 16, _ => exact ck_16
  | 17, _ => exact ck_17
  | n + 18, h => exact absurd h (by omega)
def intN (m : Nat) : MethodName := match m with
  | 500 => objectInit
  | 503 => Lib.Math.max.name
  | 504 => Lib.Math.min.name
  | 505 => arraycopyName
  | 507 => ⟨"java/lang/String", "getBytes", "([BIB)V"⟩
  | _ => ⟨"java/lang/String", "checkIndex", "(II)V"⟩
def mNam (y : Nat) : MethodName := mNm.getD y ⟨"", "", ""⟩
/-- what a StringBuilder is asked by its superclass's name -/
def uxL : List (Nat × MethodName) := [(130043, ⟨"java/lang/AbstractStringBuilder", "append", "(Ljava/lang/String;)Ljava/lang/AbstractStringBuilder;"⟩), (130100, ⟨"java/lang/AbstractStringBuilder", "ensureCapacityInternal", "(I)V"⟩), (130104, ⟨"java/lang/AbstractStringBuilder", "newCapacity", "(I)I"⟩), (130083, ⟨"java/lang/AbstractStringBuilder", "isLatin1", "()Z"⟩), (130208, ⟨"java/lang/AbstractStringBuilder", "putStringAt", "(ILjava/lang/String;)V"⟩), (130397, ⟨"java/lang/AbstractStringBuilder", "inflateIfNeededFor", "(Ljava/lang/String;)V"⟩), (120552, ⟨"java/lang/AbstractStringBuilder", "getValue", "()[B"⟩), (120549, ⟨"java/lang/AbstractStringBuilder", "length", "()I"⟩), (121047, ⟨"java/lang/AbstractStringBuilder", "isLatin1", "()Z"⟩)]
def uxN (cx k : Nat) : MethodName := (fnd uxL (cx * 10000 + k)).getD ⟨"", "", ""⟩
def sbN : String := "java/lang/StringBuilder"
def asbN : String := "java/lang/AbstractStringBuilder"
/-- what is private there -/
def xpL : List MethodName := [⟨"java/lang/AbstractStringBuilder", "ensureCapacityInternal", "(I)V"⟩, ⟨"java/lang/AbstractStringBuilder", "newCapacity", "(I)I"⟩, ⟨"java/lang/AbstractStringBuilder", "putStringAt", "(ILjava/lang/String;)V"⟩, ⟨"java/lang/AbstractStringBuilder", "inflateIfNeededFor", "(Ljava/lang/String;)V"⟩]
def UK (cx k m : Nat) (x : MethodName) : Prop := Cond.methodLink (cnm cx) k x ∈ lw_tbl ∧ x.cls = asbN ∧ Cond.sameMethod asbN asbN x.name x.desc ∈ lw_tbl ∧ Cond.instanceMethod ⟨asbN, x.name, x.desc⟩ ∈ lw_tbl ∧ (∃ b n r, Cond.code ⟨asbN, x.name, x.desc⟩ b n r ∈ lw_tbl) ∧ (Cond.selects sbN x (mNam m) ∈ lw_tbl ∨ (mNam m = x ∧ x ∈ xpL)) ∧ Cond.instanceMethod (mNam m) ∈ lw_tbl ∧ x.desc = (mNam m).desc
def MK (cx : Nat) (e : Nat × Nat × Nat × Nat) : Prop := (e.2.1 < 131 ∧ e.2.2.1 = 0 ∧ Cond.methodLink (cnm cx) e.1 (mNam e.2.1) ∈ lw_tbl) ∨ (e.2.1 < 131 ∧ e.2.2.1 = 1 ∧ mkd e.2.1 = 2 ∧ Cond.methodLinkNest (cnm cx) e.1 (mNam e.2.1) "MountSpaces" ∈ lw_tbl) ∨ (500 ≤ e.2.1 ∧ e.2.1 < 509 ∧ e.2.2.1 = 0 ∧ Cond.methodLink (cnm cx) e.1 (intN e.2.1) ∈ lw_tbl) ∨
  (e.2.1 < 131 ∧ e.2.2.1 = 2 ∧ UK cx e.1 e.2.1 (uxN cx e.1)) ∨ (e.2.1 < 131 ∧ e.2.2.1 = 3 ∧ Cond.methodLink (cnm cx) e.1 (mNam e.2.1) ∈ lw_tbl ∧ Cond.sameMethod (mNam e.2.1).cls (mNam e.2.1).cls (mNam e.2.1).name (mNam e.2.1).desc ∈ lw_tbl ∧ Cond.superclass (cnm cx) (mNam e.2.1).cls ∈ lw_tbl ∧ Cond.instanceMethod (mNam e.2.1) ∈ lw_tbl ∧ (mNam e.2.1).name ≠ "<init>")
set_option maxRecDepth 20000 in
theorem mk_0_0 : MK 0 (3, 500, 0, 210) := Or.inr (Or.inr (Or.inl ⟨Nat.le_of_ble_eq_true rfl, Nat.le_of_ble_eq_true rfl, rfl, mt_1 (i := 180) rfl⟩))
set_option maxRecDepth 20000 in
theorem mk_0_1 : MK 0 (31, 14, 0, 213) := Or.inl ⟨Nat.le_of_ble_eq_true rfl, rfl, mt_1 (i := 183) rfl⟩
set_option maxRecDepth 20000 in
theorem mk_0_2 : MK 0 (38, 38, 0, 612) := Or.inl ⟨Nat.le_of_ble_eq_true rfl, rfl, mt_3 (i := 102) rfl⟩
set_option maxRecDepth 20000 in
theorem mk_0_3 : MK 0 (44, 3, 0, 642) := Or.inl ⟨Nat.le_of_ble_eq_true rfl, rfl, mt_3 (i := 132) rfl⟩
set_option maxRecDepth 20000 in
theorem mk_0_4 : MK 0 (54, 33, 0, 643) := Or.inl ⟨Nat.le_of_ble_eq_true rfl, rfl, mt_3 (i := 133) rfl⟩
set_option maxRecDepth 20000 in
theorem mk_0_5 : MK 0 (57, 4, 0, 644) := Or.inl ⟨Nat.le_of_ble_eq_true rfl, rfl, mt_3 (i := 134) rfl⟩
set_option maxRecDepth 20000 in
theorem mk_0_6 : MK 0 (79, 39, 0, 676) := Or.inl ⟨Nat.le_of_ble_eq_true rfl, rfl, mt_3 (i := 166) rfl⟩
set_option maxRecDepth 20000 in
theorem mk_0_7 : MK 0 (83, 40, 0, 681) := Or.inl ⟨Nat.le_of_ble_eq_true rfl, rfl, mt_3 (i := 171) rfl⟩
set_option maxRecDepth 20000 in
theorem mk_0_8 : MK 0 (91, 15, 0, 609) := Or.inl ⟨Nat.le_of_ble_eq_true rfl, rfl, mt_3 (i := 99) rfl⟩
set_option maxRecDepth 20000 in
theorem mk_0_9 : MK 0 (101, 37, 0, 610) := Or.inl ⟨Nat.le_of_ble_eq_true rfl, rfl, mt_3 (i := 100) rfl⟩
set_option maxRecDepth 20000 in
theorem mk_0_10 : MK 0 (104, 42, 0, 611) := Or.inl ⟨Nat.le_of_ble_eq_true rfl, rfl, mt_3 (i := 101) rfl⟩
set_option maxRecDepth 20000 in
theorem mk_0_11 : MK 0 (114, 36, 0, 648) := Or.inl ⟨Nat.le_of_ble_eq_true rfl, rfl, mt_3 (i := 138) rfl⟩
set_option maxRecDepth 20000 in
theorem mk_0_12 : MK 0 (118, 5, 0, 652) := Or.inl ⟨Nat.le_of_ble_eq_true rfl, rfl, mt_3 (i := 142) rfl⟩
set_option maxRecDepth 20000 in
theorem mk_0_13 : MK 0 (123, 7, 0, 660) := Or.inl ⟨Nat.le_of_ble_eq_true rfl, rfl, mt_3 (i := 150) rfl⟩
set_option maxRecDepth 20000 in
theorem mk_0_14 : MK 0 (127, 18, 0, 656) := Or.inl ⟨Nat.le_of_ble_eq_true rfl, rfl, mt_3 (i := 146) rfl⟩
set_option maxRecDepth 20000 in
theorem mk_0_15 : MK 0 (133, 6, 0, 664) := Or.inl ⟨Nat.le_of_ble_eq_true rfl, rfl, mt_3 (i := 154) rfl⟩
set_option maxRecDepth 20000 in
theorem mk_0_16 : MK 0 (137, 34, 0, 685) := Or.inl ⟨Nat.le_of_ble_eq_true rfl, rfl, mt_3 (i := 175) rfl⟩
set_option maxRecDepth 20000 in
theorem mk_0_17 : MK 0 (140, 9, 0, 693) := Or.inl ⟨Nat.le_of_ble_eq_true rfl, rfl, mt_3 (i := 183) rfl⟩
set_option maxRecDepth 20000 in
theorem mk_0_18 : MK 0 (144, 11, 0, 948) := Or.inl ⟨Nat.le_of_ble_eq_true rfl, rfl, mt_4 (i := 198) rfl⟩
set_option maxRecDepth 20000 in
theorem mk_0_19 : MK 0 (150, 13, 0, 710) := Or.inl ⟨Nat.le_of_ble_eq_true rfl, rfl, mt_3 (i := 200) rfl⟩
set_option maxRecDepth 20000 in
theorem mk_0 : ∀ e ∈ mTL.getD 0 [], MK 0 e := List.forall_mem_cons.mpr ⟨mk_0_0, List.forall_mem_cons.mpr ⟨mk_0_1, List.forall_mem_cons.mpr ⟨mk_0_2, List.forall_mem_cons.mpr ⟨mk_0_3, List.forall_mem_cons.mpr ⟨mk_0_4, List.forall_mem_cons.mpr ⟨mk_0_5, List.forall_mem_cons.mpr ⟨mk_0_6, List.forall_mem_cons.mpr ⟨mk_0_7, List.forall_mem_cons.mpr ⟨mk_0_8, List.forall_mem_cons.mpr ⟨mk_0_9, List.forall_mem_cons.mpr ⟨mk_0_10, List.forall_mem_cons.mpr ⟨mk_0_11, List.forall_mem_cons.mpr ⟨mk_0_12, List.forall_mem_cons.mpr ⟨mk_0_13, List.forall_mem_cons.mpr ⟨mk_0_14, List.forall_mem_cons.mpr ⟨mk_0_15, List.forall_mem_cons.mpr ⟨mk_0_16, List.forall_mem_cons.mpr ⟨mk_0_17, List.forall_mem_cons.mpr ⟨mk_0_18, List.forall_mem_cons.mpr ⟨mk_0_19, fun _ h => absurd h List.not_mem_nil⟩⟩⟩⟩⟩⟩⟩⟩⟩⟩⟩⟩⟩⟩⟩⟩⟩⟩⟩⟩
set_option maxRecDepth 20000 in
theorem mk_1_0 : MK 1 (3, 500, 0, 216) := Or.inr (Or.inr (Or.inl ⟨Nat.le_of_ble_eq_true rfl, Nat.le_of_ble_eq_true rfl, rfl, mt_1 (i := 186) rfl⟩))
set_option maxRecDepth 20000 in
theorem mk_1_1 : MK 1 (45, 16, 0, 593) := Or.inl ⟨Nat.le_of_ble_eq_true rfl, rfl, mt_3 (i := 83) rfl⟩
set_option maxRecDepth 20000 in
theorem mk_1_2 : MK 1 (49, 17, 0, 597) := Or.inl ⟨Nat.le_of_ble_eq_true rfl, rfl, mt_3 (i := 87) rfl⟩
set_option maxRecDepth 20000 in
theorem mk_1 : ∀ e ∈ mTL.getD 1 [], MK 1 e := List.forall_mem_cons.mpr ⟨mk_1_0, List.forall_mem_cons.mpr ⟨mk_1_1, List.forall_mem_cons.mpr ⟨mk_1_2, fun _ h => absurd h List.not_mem_nil⟩⟩⟩
set_option maxRecDepth 20000 in
theorem mk_2_0 : MK 2 (3, 500, 0, 71) := Or.inr (Or.inr (Or.inl ⟨Nat.le_of_ble_eq_true rfl, Nat.le_of_ble_eq_true rfl, rfl, mt_1 (i := 41) rfl⟩))
set_option maxRecDepth 20000 in
theorem mk_2_1 : MK 2 (37, 504, 0, 797) := Or.inr (Or.inr (Or.inl ⟨Nat.le_of_ble_eq_true rfl, Nat.le_of_ble_eq_true rfl, rfl, mt_4 (i := 47) rfl⟩))
set_option maxRecDepth 20000 in
theorem mk_2_2 : MK 2 (43, 503, 0, 800) := Or.inr (Or.inr (Or.inl ⟨Nat.le_of_ble_eq_true rfl, Nat.le_of_ble_eq_true rfl, rfl, mt_4 (i := 50) rfl⟩))
set_option maxRecDepth 20000 in
theorem mk_2_3 : MK 2 (46, 23, 0, 803) := Or.inl ⟨Nat.le_of_ble_eq_true rfl, rfl, mt_4 (i := 53) rfl⟩
set_option maxRecDepth 20000 in
theorem mk_2_4 : MK 2 (49, 24, 0, 807) := Or.inl ⟨Nat.le_of_ble_eq_true rfl, rfl, mt_4 (i := 57) rfl⟩
set_option maxRecDepth 20000 in
theorem mk_2_5 : MK 2 (53, 25, 0, 826) := Or.inl ⟨Nat.le_of_ble_eq_true rfl, rfl, mt_4 (i := 76) rfl⟩
set_option maxRecDepth 20000 in
theorem mk_2_6 : MK 2 (57, 29, 0, 820) := Or.inl ⟨Nat.le_of_ble_eq_true rfl, rfl, mt_4 (i := 70) rfl⟩
set_option maxRecDepth 20000 in
theorem mk_2_7 : MK 2 (61, 112, 0, 824) := Or.inl ⟨Nat.le_of_ble_eq_true rfl, rfl, mt_4 (i := 74) rfl⟩
set_option maxRecDepth 20000 in
theorem mk_2_8 : MK 2 (67, 113, 0, 825) := Or.inl ⟨Nat.le_of_ble_eq_true rfl, rfl, mt_4 (i := 75) rfl⟩
set_option maxRecDepth 20000 in
theorem mk_2 : ∀ e ∈ mTL.getD 2 [], MK 2 e := List.forall_mem_cons.mpr ⟨mk_2_0, List.forall_mem_cons.mpr ⟨mk_2_1, List.forall_mem_cons.mpr ⟨mk_2_2, List.forall_mem_cons.mpr ⟨mk_2_3, List.forall_mem_cons.mpr ⟨mk_2_4, List.forall_mem_cons.mpr ⟨mk_2_5, List.forall_mem_cons.mpr ⟨mk_2_6, List.forall_mem_cons.mpr ⟨mk_2_7, List.forall_mem_cons.mpr ⟨mk_2_8, fun _ h => absurd h List.not_mem_nil⟩⟩⟩⟩⟩⟩⟩⟩⟩
set_option maxRecDepth 20000 in
theorem mk_3_0 : MK 3 (3, 500, 0, 108) := Or.inr (Or.inr (Or.inl ⟨Nat.le_of_ble_eq_true rfl, Nat.le_of_ble_eq_true rfl, rfl, mt_1 (i := 78) rfl⟩))
set_option maxRecDepth 20000 in
theorem mk_3_1 : MK 3 (11, 65, 1, 111) := Or.inr (Or.inl ⟨Nat.le_of_ble_eq_true rfl, rfl, rfl, mt_1 (i := 81) rfl⟩)
set_option maxRecDepth 20000 in
theorem mk_3_2 : MK 3 (62, 33, 0, 390) := Or.inl ⟨Nat.le_of_ble_eq_true rfl, rfl, mt_2 (i := 120) rfl⟩
set_option maxRecDepth 20000 in
theorem mk_3_3 : MK 3 (66, 35, 0, 689) := Or.inl ⟨Nat.le_of_ble_eq_true rfl, rfl, mt_3 (i := 179) rfl⟩
set_option maxRecDepth 20000 in
theorem mk_3_4 : MK 3 (70, 37, 0, 680) := Or.inl ⟨Nat.le_of_ble_eq_true rfl, rfl, mt_3 (i := 170) rfl⟩
set_option maxRecDepth 20000 in
theorem mk_3_5 : MK 3 (74, 69, 0, 572) := Or.inl ⟨Nat.le_of_ble_eq_true rfl, rfl, mt_3 (i := 62) rfl⟩
set_option maxRecDepth 20000 in
theorem mk_3_6 : MK 3 (77, 70, 0, 576) := Or.inl ⟨Nat.le_of_ble_eq_true rfl, rfl, mt_3 (i := 66) rfl⟩
set_option maxRecDepth 20000 in
theorem mk_3_7 : MK 3 (84, 44, 0, 503) := Or.inl ⟨Nat.le_of_ble_eq_true rfl, rfl, mt_2 (i := 233) rfl⟩
set_option maxRecDepth 20000 in
theorem mk_3_8 : MK 3 (88, 73, 0, 630) := Or.inl ⟨Nat.le_of_ble_eq_true rfl, rfl, mt_3 (i := 120) rfl⟩
set_option maxRecDepth 20000 in
theorem mk_3_9 : MK 3 (92, 505, 0, 637) := Or.inr (Or.inr (Or.inl ⟨Nat.le_of_ble_eq_true rfl, Nat.le_of_ble_eq_true rfl, rfl, mt_3 (i := 127) rfl⟩))
set_option maxRecDepth 20000 in
theorem mk_3 : ∀ e ∈ mTL.getD 3 [], MK 3 e := List.forall_mem_cons.mpr ⟨mk_3_0, List.forall_mem_cons.mpr ⟨mk_3_1, List.forall_mem_cons.mpr ⟨mk_3_2, List.forall_mem_cons.mpr ⟨mk_3_3, List.forall_mem_cons.mpr ⟨mk_3_4, List.forall_mem_cons.mpr ⟨mk_3_5, List.forall_mem_cons.mpr ⟨mk_3_6, List.forall_mem_cons.mpr ⟨mk_3_7, List.forall_mem_cons.mpr ⟨mk_3_8, List.forall_mem_cons.mpr ⟨mk_3_9, fun _ h => absurd h List.not_mem_nil⟩⟩⟩⟩⟩⟩⟩⟩⟩⟩
set_option maxRecDepth 20000 in
theorem mk_4_0 : MK 4 (3, 500, 0, 364) := Or.inr (Or.inr (Or.inl ⟨Nat.le_of_ble_eq_true rfl, Nat.le_of_ble_eq_true rfl, rfl, mt_2 (i := 94) rfl⟩))
set_option maxRecDepth 20000 in
theorem mk_4_1 : MK 4 (24, 31, 1, 367) := Or.inr (Or.inl ⟨Nat.le_of_ble_eq_true rfl, rfl, rfl, mt_2 (i := 97) rfl⟩)
set_option maxRecDepth 20000 in
theorem mk_4_2 : MK 4 (25, 46, 0, 626) := Or.inl ⟨Nat.le_of_ble_eq_true rfl, rfl, mt_3 (i := 116) rfl⟩
set_option maxRecDepth 20000 in
theorem mk_4 : ∀ e ∈ mTL.getD 4 [], MK 4 e := List.forall_mem_cons.mpr ⟨mk_4_0, List.forall_mem_cons.mpr ⟨mk_4_1, List.forall_mem_cons.mpr ⟨mk_4_2, fun _ h => absurd h List.not_mem_nil⟩⟩⟩
set_option maxRecDepth 20000 in
theorem mk_5_0 : MK 5 (3, 500, 0, 316) := Or.inr (Or.inr (Or.inl ⟨Nat.le_of_ble_eq_true rfl, Nat.le_of_ble_eq_true rfl, rfl, mt_2 (i := 46) rfl⟩))
set_option maxRecDepth 20000 in
theorem mk_5 : ∀ e ∈ mTL.getD 5 [], MK 5 e := List.forall_mem_cons.mpr ⟨mk_5_0, fun _ h => absurd h List.not_mem_nil⟩
set_option maxRecDepth 20000 in
theorem mk_6_0 : MK 6 (3, 500, 0, 338) := Or.inr (Or.inr (Or.inl ⟨Nat.le_of_ble_eq_true rfl, Nat.le_of_ble_eq_true rfl, rfl, mt_2 (i := 68) rfl⟩))
set_option maxRecDepth 20000 in
theorem mk_6_1 : MK 6 (28, 0, 0, 340) := Or.inl ⟨Nat.le_of_ble_eq_true rfl, rfl, mt_2 (i := 70) rfl⟩
set_option maxRecDepth 20000 in
theorem mk_6_2 : MK 6 (37, 74, 0, 342) := Or.inl ⟨Nat.le_of_ble_eq_true rfl, rfl, mt_2 (i := 72) rfl⟩
set_option maxRecDepth 20000 in
theorem mk_6_3 : MK 6 (50, 28, 0, 816) := Or.inl ⟨Nat.le_of_ble_eq_true rfl, rfl, mt_4 (i := 66) rfl⟩
set_option maxRecDepth 20000 in
theorem mk_6_4 : MK 6 (56, 27, 0, 830) := Or.inl ⟨Nat.le_of_ble_eq_true rfl, rfl, mt_4 (i := 80) rfl⟩
set_option maxRecDepth 20000 in
theorem mk_6_5 : MK 6 (60, 52, 0, 834) := Or.inl ⟨Nat.le_of_ble_eq_true rfl, rfl, mt_4 (i := 84) rfl⟩
set_option maxRecDepth 20000 in
theorem mk_6_6 : MK 6 (64, 56, 0, 873) := Or.inl ⟨Nat.le_of_ble_eq_true rfl, rfl, mt_4 (i := 123) rfl⟩
set_option maxRecDepth 20000 in
theorem mk_6_7 : MK 6 (69, 29, 0, 839) := Or.inl ⟨Nat.le_of_ble_eq_true rfl, rfl, mt_4 (i := 89) rfl⟩
set_option maxRecDepth 20000 in
theorem mk_6_8 : MK 6 (74, 25, 0, 841) := Or.inl ⟨Nat.le_of_ble_eq_true rfl, rfl, mt_4 (i := 91) rfl⟩
set_option maxRecDepth 20000 in
theorem mk_6_9 : MK 6 (77, 66, 0, 842) := Or.inl ⟨Nat.le_of_ble_eq_true rfl, rfl, mt_4 (i := 92) rfl⟩
set_option maxRecDepth 20000 in
theorem mk_6_10 : MK 6 (80, 23, 0, 846) := Or.inl ⟨Nat.le_of_ble_eq_true rfl, rfl, mt_4 (i := 96) rfl⟩
set_option maxRecDepth 20000 in
theorem mk_6_11 : MK 6 (83, 53, 0, 847) := Or.inl ⟨Nat.le_of_ble_eq_true rfl, rfl, mt_4 (i := 97) rfl⟩
set_option maxRecDepth 20000 in
theorem mk_6_12 : MK 6 (86, 30, 0, 851) := Or.inl ⟨Nat.le_of_ble_eq_true rfl, rfl, mt_4 (i := 101) rfl⟩
set_option maxRecDepth 20000 in
theorem mk_6_13 : MK 6 (90, 71, 0, 855) := Or.inl ⟨Nat.le_of_ble_eq_true rfl, rfl, mt_4 (i := 105) rfl⟩
set_option maxRecDepth 20000 in
theorem mk_6_14 : MK 6 (94, 67, 0, 859) := Or.inl ⟨Nat.le_of_ble_eq_true rfl, rfl, mt_4 (i := 109) rfl⟩
set_option maxRecDepth 20000 in
theorem mk_6_15 : MK 6 (98, 54, 0, 860) := Or.inl ⟨Nat.le_of_ble_eq_true rfl, rfl, mt_4 (i := 110) rfl⟩
set_option maxRecDepth 20000 in
theorem mk_6_16 : MK 6 (105, 55, 0, 864) := Or.inl ⟨Nat.le_of_ble_eq_true rfl, rfl, mt_4 (i := 114) rfl⟩
set_option maxRecDepth 20000 in
theorem mk_6_17 : MK 6 (108, 72, 0, 868) := Or.inl ⟨Nat.le_of_ble_eq_true rfl, rfl, mt_4 (i := 118) rfl⟩
set_option maxRecDepth 20000 in
theorem mk_6_18 : MK 6 (112, 68, 0, 872) := Or.inl ⟨Nat.le_of_ble_eq_true rfl, rfl, mt_4 (i := 122) rfl⟩
set_option maxRecDepth 20000 in
theorem mk_6_19 : MK 6 (115, 57, 0, 877) := Or.inl ⟨Nat.le_of_ble_eq_true rfl, rfl, mt_4 (i := 127) rfl⟩
set_option maxRecDepth 20000 in
theorem mk_6_20 : MK 6 (118, 32, 0, 881) := Or.inl ⟨Nat.le_of_ble_eq_true rfl, rfl, mt_4 (i := 131) rfl⟩
set_option maxRecDepth 20000 in
theorem mk_6_21 : MK 6 (123, 59, 0, 887) := Or.inl ⟨Nat.le_of_ble_eq_true rfl, rfl, mt_4 (i := 137) rfl⟩
set_option maxRecDepth 20000 in
theorem mk_6_22 : MK 6 (128, 60, 0, 923) := Or.inl ⟨Nat.le_of_ble_eq_true rfl, rfl, mt_4 (i := 173) rfl⟩
set_option maxRecDepth 20000 in
theorem mk_6_23 : MK 6 (131, 62, 0, 931) := Or.inl ⟨Nat.le_of_ble_eq_true rfl, rfl, mt_4 (i := 181) rfl⟩
set_option maxRecDepth 20000 in
theorem mk_6_24 : MK 6 (134, 26, 0, 952) := Or.inl ⟨Nat.le_of_ble_eq_true rfl, rfl, mt_4 (i := 202) rfl⟩
set_option maxRecDepth 20000 in
theorem mk_6_25 : MK 6 (137, 77, 0, 891) := Or.inl ⟨Nat.le_of_ble_eq_true rfl, rfl, mt_4 (i := 141) rfl⟩
set_option maxRecDepth 20000 in
theorem mk_6_26 : MK 6 (147, 1, 0, 917) := Or.inl ⟨Nat.le_of_ble_eq_true rfl, rfl, mt_4 (i := 167) rfl⟩
set_option maxRecDepth 20000 in
theorem mk_6_27 : MK 6 (150, 61, 0, 918) := Or.inl ⟨Nat.le_of_ble_eq_true rfl, rfl, mt_4 (i := 168) rfl⟩
set_option maxRecDepth 20000 in
theorem mk_6_28 : MK 6 (153, 2, 0, 927) := Or.inl ⟨Nat.le_of_ble_eq_true rfl, rfl, mt_4 (i := 177) rfl⟩
set_option maxRecDepth 20000 in
theorem mk_6_29 : MK 6 (159, 63, 0, 936) := Or.inl ⟨Nat.le_of_ble_eq_true rfl, rfl, mt_4 (i := 186) rfl⟩
set_option maxRecDepth 20000 in
theorem mk_6_30 : MK 6 (162, 10, 0, 944) := Or.inl ⟨Nat.le_of_ble_eq_true rfl, rfl, mt_4 (i := 194) rfl⟩
set_option maxRecDepth 20000 in
theorem mk_6 : ∀ e ∈ mTL.getD 6 [], MK 6 e := List.forall_mem_cons.mpr ⟨mk_6_0, List.forall_mem_cons.mpr ⟨mk_6_1, List.forall_mem_cons.mpr ⟨mk_6_2, List.forall_mem_cons.mpr ⟨mk_6_3, List.forall_mem_cons.mpr ⟨mk_6_4, List.forall_mem_cons.mpr ⟨mk_6_5, List.forall_mem_cons.mpr ⟨mk_6_6, List.forall_mem_cons.mpr ⟨mk_6_7, List.forall_mem_cons.mpr ⟨mk_6_8, List.forall_mem_cons.mpr ⟨mk_6_9, List.forall_mem_cons.mpr ⟨mk_6_10, List.forall_mem_cons.mpr ⟨mk_6_11, List.forall_mem_cons.mpr ⟨mk_6_12, List.forall_mem_cons.mpr ⟨mk_6_13, List.forall_mem_cons.mpr ⟨mk_6_14, List.forall_mem_cons.mpr ⟨mk_6_15, List.forall_mem_cons.mpr ⟨mk_6_16, List.forall_mem_cons.mpr ⟨mk_6_17, List.forall_mem_cons.mpr ⟨mk_6_18, List.forall_mem_cons.mpr ⟨mk_6_19, List.forall_mem_cons.mpr ⟨mk_6_20, List.forall_mem_cons.mpr ⟨mk_6_21, List.forall_mem_cons.mpr ⟨mk_6_22, List.forall_mem_cons.mpr ⟨mk_6_23, List.forall_mem_cons.mpr ⟨mk_6_24, List.forall_mem_cons.mpr ⟨mk_6_25, List.forall_mem_cons.mpr ⟨mk_6_26, List.forall_mem_cons.mpr ⟨mk_6_27, List.forall_mem_cons.mpr ⟨mk_6_28, List.forall_mem_cons.mpr ⟨mk_6_29, List.forall_mem_cons.mpr ⟨mk_6_30, fun _ h => absurd h List.not_mem_nil⟩⟩⟩⟩⟩⟩⟩⟩⟩⟩⟩⟩⟩⟩⟩⟩⟩⟩⟩⟩⟩⟩⟩⟩⟩⟩⟩⟩⟩⟩⟩
set_option maxRecDepth 20000 in
theorem mk_7_0 : MK 7 (3, 500, 0, 292) := Or.inr (Or.inr (Or.inl ⟨Nat.le_of_ble_eq_true rfl, Nat.le_of_ble_eq_true rfl, rfl, mt_2 (i := 22) rfl⟩))
set_option maxRecDepth 20000 in
theorem mk_7_1 : MK 7 (28, 74, 0, 294) := Or.inl ⟨Nat.le_of_ble_eq_true rfl, rfl, mt_2 (i := 24) rfl⟩
set_option maxRecDepth 20000 in
theorem mk_7 : ∀ e ∈ mTL.getD 7 [], MK 7 e := List.forall_mem_cons.mpr ⟨mk_7_0, List.forall_mem_cons.mpr ⟨mk_7_1, fun _ h => absurd h List.not_mem_nil⟩⟩
set_option maxRecDepth 20000 in
theorem mk_8_0 : MK 8 (3, 500, 0, 114) := Or.inr (Or.inr (Or.inl ⟨Nat.le_of_ble_eq_true rfl, Nat.le_of_ble_eq_true rfl, rfl, mt_1 (i := 84) rfl⟩))
set_option maxRecDepth 20000 in
theorem mk_8_1 : MK 8 (28, 68, 0, 382) := Or.inl ⟨Nat.le_of_ble_eq_true rfl, rfl, mt_2 (i := 112) rfl⟩
set_option maxRecDepth 20000 in
theorem mk_8_2 : MK 8 (32, 505, 0, 634) := Or.inr (Or.inr (Or.inl ⟨Nat.le_of_ble_eq_true rfl, Nat.le_of_ble_eq_true rfl, rfl, mt_3 (i := 124) rfl⟩))
set_option maxRecDepth 20000 in
theorem mk_8 : ∀ e ∈ mTL.getD 8 [], MK 8 e := List.forall_mem_cons.mpr ⟨mk_8_0, List.forall_mem_cons.mpr ⟨mk_8_1, List.forall_mem_cons.mpr ⟨mk_8_2, fun _ h => absurd h List.not_mem_nil⟩⟩⟩
set_option maxRecDepth 20000 in
theorem mk_9_0 : MK 9 (3, 500, 0, 272) := Or.inr (Or.inr (Or.inl ⟨Nat.le_of_ble_eq_true rfl, Nat.le_of_ble_eq_true rfl, rfl, mt_2 (i := 2) rfl⟩))
set_option maxRecDepth 20000 in
theorem mk_9_1 : MK 9 (22, 38, 0, 908) := Or.inl ⟨Nat.le_of_ble_eq_true rfl, rfl, mt_4 (i := 158) rfl⟩
set_option maxRecDepth 20000 in
theorem mk_9_2 : MK 9 (32, 41, 0, 900) := Or.inl ⟨Nat.le_of_ble_eq_true rfl, rfl, mt_4 (i := 150) rfl⟩
set_option maxRecDepth 20000 in
theorem mk_9_3 : MK 9 (36, 75, 0, 904) := Or.inl ⟨Nat.le_of_ble_eq_true rfl, rfl, mt_4 (i := 154) rfl⟩
set_option maxRecDepth 20000 in
theorem mk_9_4 : MK 9 (40, 27, 0, 895) := Or.inl ⟨Nat.le_of_ble_eq_true rfl, rfl, mt_4 (i := 145) rfl⟩
set_option maxRecDepth 20000 in
theorem mk_9_5 : MK 9 (46, 76, 0, 896) := Or.inl ⟨Nat.le_of_ble_eq_true rfl, rfl, mt_4 (i := 146) rfl⟩
set_option maxRecDepth 20000 in
theorem mk_9_6 : MK 9 (53, 78, 0, 909) := Or.inl ⟨Nat.le_of_ble_eq_true rfl, rfl, mt_4 (i := 159) rfl⟩
set_option maxRecDepth 20000 in
theorem mk_9_7 : MK 9 (57, 23, 0, 916) := Or.inl ⟨Nat.le_of_ble_eq_true rfl, rfl, mt_4 (i := 166) rfl⟩
set_option maxRecDepth 20000 in
theorem mk_9_8 : MK 9 (60, 25, 0, 914) := Or.inl ⟨Nat.le_of_ble_eq_true rfl, rfl, mt_4 (i := 164) rfl⟩
set_option maxRecDepth 20000 in
theorem mk_9_9 : MK 9 (63, 30, 0, 913) := Or.inl ⟨Nat.le_of_ble_eq_true rfl, rfl, mt_4 (i := 163) rfl⟩
set_option maxRecDepth 20000 in
theorem mk_9_10 : MK 9 (74, 72, 0, 915) := Or.inl ⟨Nat.le_of_ble_eq_true rfl, rfl, mt_4 (i := 165) rfl⟩
set_option maxRecDepth 20000 in
theorem mk_9 : ∀ e ∈ mTL.getD 9 [], MK 9 e := List.forall_mem_cons.mpr ⟨mk_9_0, List.forall_mem_cons.mpr ⟨mk_9_1, List.forall_mem_cons.mpr ⟨mk_9_2, List.forall_mem_cons.mpr ⟨mk_9_3, List.forall_mem_cons.mpr ⟨mk_9_4, List.forall_mem_cons.mpr ⟨mk_9_5, List.forall_mem_cons.mpr ⟨mk_9_6, List.forall_mem_cons.mpr ⟨mk_9_7, List.forall_mem_cons.mpr ⟨mk_9_8, List.forall_mem_cons.mpr ⟨mk_9_9, List.forall_mem_cons.mpr ⟨mk_9_10, fun _ h => absurd h List.not_mem_nil⟩⟩⟩⟩⟩⟩⟩⟩⟩⟩⟩
set_option maxRecDepth 20000 in
theorem mk_10_0 : MK 10 (3, 500, 0, 63) := Or.inr (Or.inr (Or.inl ⟨Nat.le_of_ble_eq_true rfl, Nat.le_of_ble_eq_true rfl, rfl, mt_1 (i := 33) rfl⟩))
set_option maxRecDepth 20000 in
theorem mk_10_1 : MK 10 (11, 19, 1, 68) := Or.inr (Or.inl ⟨Nat.le_of_ble_eq_true rfl, rfl, rfl, mt_1 (i := 38) rfl⟩)
set_option maxRecDepth 20000 in
theorem mk_10_2 : MK 10 (22, 31, 1, 105) := Or.inr (Or.inl ⟨Nat.le_of_ble_eq_true rfl, rfl, rfl, mt_1 (i := 75) rfl⟩)
set_option maxRecDepth 20000 in
theorem mk_10_3 : MK 10 (29, 0, 0, 207) := Or.inl ⟨Nat.le_of_ble_eq_true rfl, rfl, mt_1 (i := 177) rfl⟩
set_option maxRecDepth 20000 in
theorem mk_10_4 : MK 10 (38, 74, 0, 269) := Or.inl ⟨Nat.le_of_ble_eq_true rfl, rfl, mt_1 (i := 239) rfl⟩
set_option maxRecDepth 20000 in
theorem mk_10_5 : MK 10 (45, 14, 0, 286) := Or.inl ⟨Nat.le_of_ble_eq_true rfl, rfl, mt_2 (i := 16) rfl⟩
set_option maxRecDepth 20000 in
theorem mk_10_6 : MK 10 (52, 64, 0, 289) := Or.inl ⟨Nat.le_of_ble_eq_true rfl, rfl, mt_2 (i := 19) rfl⟩
set_option maxRecDepth 20000 in
theorem mk_10_7 : MK 10 (59, 49, 0, 313) := Or.inl ⟨Nat.le_of_ble_eq_true rfl, rfl, mt_2 (i := 43) rfl⟩
set_option maxRecDepth 20000 in
theorem mk_10_8 : MK 10 (69, 50, 0, 335) := Or.inl ⟨Nat.le_of_ble_eq_true rfl, rfl, mt_2 (i := 65) rfl⟩
set_option maxRecDepth 20000 in
theorem mk_10_9 : MK 10 (78, 47, 0, 361) := Or.inl ⟨Nat.le_of_ble_eq_true rfl, rfl, mt_2 (i := 91) rfl⟩
set_option maxRecDepth 20000 in
theorem mk_10_10 : MK 10 (87, 67, 0, 378) := Or.inl ⟨Nat.le_of_ble_eq_true rfl, rfl, mt_2 (i := 108) rfl⟩
set_option maxRecDepth 20000 in
theorem mk_10_11 : MK 10 (93, 32, 0, 386) := Or.inl ⟨Nat.le_of_ble_eq_true rfl, rfl, mt_2 (i := 116) rfl⟩
set_option maxRecDepth 20000 in
theorem mk_10_12 : MK 10 (96, 20, 0, 776) := Or.inl ⟨Nat.le_of_ble_eq_true rfl, rfl, mt_4 (i := 26) rfl⟩
set_option maxRecDepth 20000 in
theorem mk_10_13 : MK 10 (100, 21, 0, 780) := Or.inl ⟨Nat.le_of_ble_eq_true rfl, rfl, mt_4 (i := 30) rfl⟩
set_option maxRecDepth 20000 in
theorem mk_10_14 : MK 10 (106, 82, 0, 788) := Or.inl ⟨Nat.le_of_ble_eq_true rfl, rfl, mt_4 (i := 38) rfl⟩
set_option maxRecDepth 20000 in
theorem mk_10_15 : MK 10 (109, 22, 0, 793) := Or.inl ⟨Nat.le_of_ble_eq_true rfl, rfl, mt_4 (i := 43) rfl⟩
set_option maxRecDepth 20000 in
theorem mk_10_16 : MK 10 (112, 51, 0, 811) := Or.inl ⟨Nat.le_of_ble_eq_true rfl, rfl, mt_4 (i := 61) rfl⟩
set_option maxRecDepth 20000 in
theorem mk_10_17 : MK 10 (116, 58, 0, 882) := Or.inl ⟨Nat.le_of_ble_eq_true rfl, rfl, mt_4 (i := 132) rfl⟩
set_option maxRecDepth 20000 in
theorem mk_10_18 : MK 10 (123, 48, 0, 622) := Or.inl ⟨Nat.le_of_ble_eq_true rfl, rfl, mt_3 (i := 112) rfl⟩
set_option maxRecDepth 20000 in
theorem mk_10_19 : MK 10 (126, 46, 0, 956) := Or.inl ⟨Nat.le_of_ble_eq_true rfl, rfl, mt_4 (i := 206) rfl⟩
set_option maxRecDepth 20000 in
theorem mk_10_20 : MK 10 (141, 43, 0, 499) := Or.inl ⟨Nat.le_of_ble_eq_true rfl, rfl, mt_2 (i := 229) rfl⟩
set_option maxRecDepth 20000 in
theorem mk_10_21 : MK 10 (145, 84, 0, 617) := Or.inl ⟨Nat.le_of_ble_eq_true rfl, rfl, mt_3 (i := 107) rfl⟩
set_option maxRecDepth 20000 in
theorem mk_10_22 : MK 10 (163, 86, 0, 511) := Or.inl ⟨Nat.le_of_ble_eq_true rfl, rfl, mt_3 (i := 1) rfl⟩
set_option maxRecDepth 20000 in
theorem mk_10_23 : MK 10 (168, 45, 0, 536) := Or.inl ⟨Nat.le_of_ble_eq_true rfl, rfl, mt_3 (i := 26) rfl⟩
set_option maxRecDepth 20000 in
theorem mk_10_24 : MK 10 (171, 37, 0, 515) := Or.inl ⟨Nat.le_of_ble_eq_true rfl, rfl, mt_3 (i := 5) rfl⟩
set_option maxRecDepth 20000 in
theorem mk_10_25 : MK 10 (179, 42, 0, 568) := Or.inl ⟨Nat.le_of_ble_eq_true rfl, rfl, mt_3 (i := 58) rfl⟩
set_option maxRecDepth 20000 in
theorem mk_10_26 : MK 10 (191, 87, 0, 564) := Or.inl ⟨Nat.le_of_ble_eq_true rfl, rfl, mt_3 (i := 54) rfl⟩
set_option maxRecDepth 20000 in
theorem mk_10_27 : MK 10 (194, 38, 0, 581) := Or.inl ⟨Nat.le_of_ble_eq_true rfl, rfl, mt_3 (i := 71) rfl⟩
set_option maxRecDepth 20000 in
theorem mk_10_28 : MK 10 (197, 90, 0, 701) := Or.inl ⟨Nat.le_of_ble_eq_true rfl, rfl, mt_3 (i := 191) rfl⟩
set_option maxRecDepth 20000 in
theorem mk_10_29 : MK 10 (227, 15, 0, 589) := Or.inl ⟨Nat.le_of_ble_eq_true rfl, rfl, mt_3 (i := 79) rfl⟩
set_option maxRecDepth 20000 in
theorem mk_10_30 : MK 10 (231, 3, 0, 605) := Or.inl ⟨Nat.le_of_ble_eq_true rfl, rfl, mt_3 (i := 95) rfl⟩
set_option maxRecDepth 20000 in
theorem mk_10_31 : MK 10 (247, 1, 0, 638) := Or.inl ⟨Nat.le_of_ble_eq_true rfl, rfl, mt_3 (i := 128) rfl⟩
set_option maxRecDepth 20000 in
theorem mk_10_32 : MK 10 (257, 8, 0, 672) := Or.inl ⟨Nat.le_of_ble_eq_true rfl, rfl, mt_3 (i := 162) rfl⟩
set_option maxRecDepth 20000 in
theorem mk_10_33 : MK 10 (265, 12, 0, 706) := Or.inl ⟨Nat.le_of_ble_eq_true rfl, rfl, mt_3 (i := 196) rfl⟩
set_option maxRecDepth 20000 in
theorem mk_10 : ∀ e ∈ mTL.getD 10 [], MK 10 e := List.forall_mem_cons.mpr ⟨mk_10_0, List.forall_mem_cons.mpr ⟨mk_10_1, List.forall_mem_cons.mpr ⟨mk_10_2, List.forall_mem_cons.mpr ⟨mk_10_3, List.forall_mem_cons.mpr ⟨mk_10_4, List.forall_mem_cons.mpr ⟨mk_10_5, List.forall_mem_cons.mpr ⟨mk_10_6, List.forall_mem_cons.mpr ⟨mk_10_7, List.forall_mem_cons.mpr ⟨mk_10_8, List.forall_mem_cons.mpr ⟨mk_10_9, List.forall_mem_cons.mpr ⟨mk_10_10, List.forall_mem_cons.mpr ⟨mk_10_11, List.forall_mem_cons.mpr ⟨mk_10_12, List.forall_mem_cons.mpr ⟨mk_10_13, List.forall_mem_cons.mpr ⟨mk_10_14, List.forall_mem_cons.mpr ⟨mk_10_15, List.forall_mem_cons.mpr ⟨mk_10_16, List.forall_mem_cons.mpr ⟨mk_10_17, List.forall_mem_cons.mpr ⟨mk_10_18, List.forall_mem_cons.mpr ⟨mk_10_19, List.forall_mem_cons.mpr ⟨mk_10_20, List.forall_mem_cons.mpr ⟨mk_10_21, List.forall_mem_cons.mpr ⟨mk_10_22, List.forall_mem_cons.mpr ⟨mk_10_23, List.forall_mem_cons.mpr ⟨mk_10_24, List.forall_mem_cons.mpr ⟨mk_10_25, List.forall_mem_cons.mpr ⟨mk_10_26, List.forall_mem_cons.mpr ⟨mk_10_27, List.forall_mem_cons.mpr ⟨mk_10_28, List.forall_mem_cons.mpr ⟨mk_10_29, List.forall_mem_cons.mpr ⟨mk_10_30, List.forall_mem_cons.mpr ⟨mk_10_31, List.forall_mem_cons.mpr ⟨mk_10_32, List.forall_mem_cons.mpr ⟨mk_10_33, fun _ h => absurd h List.not_mem_nil⟩⟩⟩⟩⟩⟩⟩⟩⟩⟩⟩⟩⟩⟩⟩⟩⟩⟩⟩⟩⟩⟩⟩⟩⟩⟩⟩⟩⟩⟩⟩⟩⟩⟩
set_option maxRecDepth 20000 in
theorem mk_11_0 : MK 11 (7, 101, 0, 968) := Or.inl ⟨Nat.le_of_ble_eq_true rfl, rfl, mt_4 (i := 218) rfl⟩
set_option maxRecDepth 20000 in
theorem mk_11_1 : MK 11 (23, 118, 0, 989) := Or.inl ⟨Nat.le_of_ble_eq_true rfl, rfl, mt_4 (i := 239) rfl⟩
set_option maxRecDepth 20000 in
theorem mk_11_2 : MK 11 (29, 105, 3, 993) := Or.inr (Or.inr (Or.inr (Or.inr ⟨Nat.le_of_ble_eq_true rfl, rfl, mt_5 (i := 3) rfl, mt_4 (i := 235) rfl, mt_5 (i := 4) rfl, mt_4 (i := 234) rfl, by decide +kernel⟩)))
set_option maxRecDepth 20000 in
theorem mk_11_3 : MK 11 (50, 106, 3, 1099) := Or.inr (Or.inr (Or.inr (Or.inr ⟨Nat.le_of_ble_eq_true rfl, rfl, mt_5 (i := 109) rfl, mt_5 (i := 186) rfl, mt_5 (i := 4) rfl, mt_5 (i := 110) rfl, by decide +kernel⟩)))
set_option maxRecDepth 20000 in
theorem mk_11_4 : MK 11 (137, 111, 0, 1114) := Or.inl ⟨Nat.le_of_ble_eq_true rfl, rfl, mt_5 (i := 124) rfl⟩
set_option maxRecDepth 20000 in
theorem mk_11_5 : MK 11 (343, 102, 3, 1132) := Or.inr (Or.inr (Or.inr (Or.inr ⟨Nat.le_of_ble_eq_true rfl, rfl, mt_5 (i := 142) rfl, mt_5 (i := 138) rfl, mt_5 (i := 4) rfl, mt_5 (i := 137) rfl, by decide +kernel⟩)))
set_option maxRecDepth 20000 in
theorem mk_11 : ∀ e ∈ mTL.getD 11 [], MK 11 e := List.forall_mem_cons.mpr ⟨mk_11_0, List.forall_mem_cons.mpr ⟨mk_11_1, List.forall_mem_cons.mpr ⟨mk_11_2, List.forall_mem_cons.mpr ⟨mk_11_3, List.forall_mem_cons.mpr ⟨mk_11_4, List.forall_mem_cons.mpr ⟨mk_11_5, fun _ h => absurd h List.not_mem_nil⟩⟩⟩⟩⟩⟩
set_option maxRecDepth 20000 in
theorem mk_12_0 : MK 12 (1, 500, 0, 1120) := Or.inr (Or.inr (Or.inl ⟨Nat.le_of_ble_eq_true rfl, Nat.le_of_ble_eq_true rfl, rfl, mt_5 (i := 130) rfl⟩))
set_option maxRecDepth 20000 in
theorem mk_12_1 : MK 12 (54, 127, 0, 1135) := Or.inl ⟨Nat.le_of_ble_eq_true rfl, rfl, mt_5 (i := 145) rfl⟩
set_option maxRecDepth 20000 in
theorem mk_12_2 : MK 12 (212, 505, 0, 1080) := Or.inr (Or.inr (Or.inl ⟨Nat.le_of_ble_eq_true rfl, Nat.le_of_ble_eq_true rfl, rfl, mt_5 (i := 90) rfl⟩))
set_option maxRecDepth 20000 in
theorem mk_12_3 : MK 12 (335, 115, 0, 728) := Or.inl ⟨Nat.le_of_ble_eq_true rfl, rfl, mt_3 (i := 218) rfl⟩
set_option maxRecDepth 20000 in
theorem mk_12_4 : MK 12 (489, 114, 0, 1117) := Or.inl ⟨Nat.le_of_ble_eq_true rfl, rfl, mt_5 (i := 127) rfl⟩
set_option maxRecDepth 20000 in
theorem mk_12_5 : MK 12 (492, 116, 0, 738) := Or.inl ⟨Nat.le_of_ble_eq_true rfl, rfl, mt_3 (i := 228) rfl⟩
set_option maxRecDepth 20000 in
theorem mk_12_6 : MK 12 (495, 123, 0, 742) := Or.inl ⟨Nat.le_of_ble_eq_true rfl, rfl, mt_3 (i := 232) rfl⟩
set_option maxRecDepth 20000 in
theorem mk_12_7 : MK 12 (549, 122, 2, 1126) := Or.inr (Or.inr (Or.inr (Or.inl ⟨Nat.le_of_ble_eq_true rfl, rfl, mt_5 (i := 136) rfl, rfl, mt_5 (i := 138) rfl, mt_5 (i := 137) rfl, ⟨_, _, _, mt_5 (i := 143) rfl⟩, Or.inl (mt_5 (i := 139) rfl), mt_5 (i := 140) rfl, rfl⟩)))
set_option maxRecDepth 20000 in
theorem mk_12_8 : MK 12 (552, 107, 2, 1121) := Or.inr (Or.inr (Or.inr (Or.inl ⟨Nat.le_of_ble_eq_true rfl, rfl, mt_5 (i := 131) rfl, rfl, mt_5 (i := 133) rfl, mt_5 (i := 132) rfl, ⟨_, _, _, mt_5 (i := 135) rfl⟩, Or.inl (mt_5 (i := 134) rfl), mt_5 (i := 132) rfl, rfl⟩)))
set_option maxRecDepth 20000 in
theorem mk_12_9 : MK 12 (1047, 108, 2, 1134) := Or.inr (Or.inr (Or.inr (Or.inl ⟨Nat.le_of_ble_eq_true rfl, rfl, mt_5 (i := 144) rfl, rfl, mt_5 (i := 40) rfl, mt_5 (i := 39) rfl, ⟨_, _, _, mt_5 (i := 42) rfl⟩, Or.inl (mt_5 (i := 41) rfl), mt_5 (i := 39) rfl, rfl⟩)))
set_option maxRecDepth 20000 in
theorem mk_12 : ∀ e ∈ mTL.getD 12 [], MK 12 e := List.forall_mem_cons.mpr ⟨mk_12_0, List.forall_mem_cons.mpr ⟨mk_12_1, List.forall_mem_cons.mpr ⟨mk_12_2, List.forall_mem_cons.mpr ⟨mk_12_3, List.forall_mem_cons.mpr ⟨mk_12_4, List.forall_mem_cons.mpr ⟨mk_12_5, List.forall_mem_cons.mpr ⟨mk_12_6, List.forall_mem_cons.mpr ⟨mk_12_7, List.forall_mem_cons.mpr ⟨mk_12_8, List.forall_mem_cons.mpr ⟨mk_12_9, fun _ h => absurd h List.not_mem_nil⟩⟩⟩⟩⟩⟩⟩⟩⟩⟩
set_option maxRecDepth 20000 in
theorem mk_13_0 : MK 13 (3, 500, 0, 971) := Or.inr (Or.inr (Or.inl ⟨Nat.le_of_ble_eq_true rfl, Nat.le_of_ble_eq_true rfl, rfl, mt_4 (i := 221) rfl⟩))
set_option maxRecDepth 20000 in
theorem mk_13_1 : MK 13 (32, 112, 0, 972) := Or.inl ⟨Nat.le_of_ble_eq_true rfl, rfl, mt_4 (i := 222) rfl⟩
set_option maxRecDepth 20000 in
theorem mk_13_2 : MK 13 (40, 115, 0, 975) := Or.inl ⟨Nat.le_of_ble_eq_true rfl, rfl, mt_4 (i := 225) rfl⟩
set_option maxRecDepth 20000 in
theorem mk_13_3 : MK 13 (43, 121, 2, 983) := Or.inr (Or.inr (Or.inr (Or.inl ⟨Nat.le_of_ble_eq_true rfl, rfl, mt_4 (i := 233) rfl, rfl, mt_4 (i := 235) rfl, mt_4 (i := 234) rfl, ⟨_, _, _, mt_5 (i := 5) rfl⟩, Or.inl (mt_4 (i := 236) rfl), mt_4 (i := 237) rfl, rfl⟩)))
set_option maxRecDepth 20000 in
theorem mk_13_4 : MK 13 (83, 108, 2, 1028) := Or.inr (Or.inr (Or.inr (Or.inl ⟨Nat.le_of_ble_eq_true rfl, rfl, mt_5 (i := 38) rfl, rfl, mt_5 (i := 40) rfl, mt_5 (i := 39) rfl, ⟨_, _, _, mt_5 (i := 42) rfl⟩, Or.inl (mt_5 (i := 41) rfl), mt_5 (i := 39) rfl, rfl⟩)))
set_option maxRecDepth 20000 in
theorem mk_13_5 : MK 13 (100, 103, 2, 1000) := Or.inr (Or.inr (Or.inr (Or.inl ⟨Nat.le_of_ble_eq_true rfl, rfl, mt_5 (i := 10) rfl, rfl, mt_5 (i := 181) rfl, mt_5 (i := 12) rfl, ⟨_, _, _, mt_5 (i := 13) rfl⟩, Or.inr ⟨rfl, List.mem_of_getElem? (i := 0) rfl⟩, mt_5 (i := 12) rfl, rfl⟩)))
set_option maxRecDepth 20000 in
theorem mk_13_6 : MK 13 (104, 104, 2, 1004) := Or.inr (Or.inr (Or.inr (Or.inl ⟨Nat.le_of_ble_eq_true rfl, rfl, mt_5 (i := 14) rfl, rfl, mt_5 (i := 182) rfl, mt_5 (i := 16) rfl, ⟨_, _, _, mt_5 (i := 17) rfl⟩, Or.inr ⟨rfl, List.mem_of_getElem? (i := 1) rfl⟩, mt_5 (i := 16) rfl, rfl⟩)))
set_option maxRecDepth 20000 in
theorem mk_13_7 : MK 13 (108, 125, 0, 1016) := Or.inl ⟨Nat.le_of_ble_eq_true rfl, rfl, mt_5 (i := 26) rfl⟩
set_option maxRecDepth 20000 in
theorem mk_13_8 : MK 13 (114, 129, 0, 1008) := Or.inl ⟨Nat.le_of_ble_eq_true rfl, rfl, mt_5 (i := 18) rfl⟩
set_option maxRecDepth 20000 in
theorem mk_13_9 : MK 13 (191, 124, 0, 1102) := Or.inl ⟨Nat.le_of_ble_eq_true rfl, rfl, mt_5 (i := 112) rfl⟩
set_option maxRecDepth 20000 in
theorem mk_13_10 : MK 13 (208, 110, 2, 1049) := Or.inr (Or.inr (Or.inr (Or.inl ⟨Nat.le_of_ble_eq_true rfl, rfl, mt_5 (i := 59) rfl, rfl, mt_5 (i := 183) rfl, mt_5 (i := 61) rfl, ⟨_, _, _, mt_5 (i := 62) rfl⟩, Or.inr ⟨rfl, List.mem_of_getElem? (i := 2) rfl⟩, mt_5 (i := 61) rfl, rfl⟩)))
set_option maxRecDepth 20000 in
theorem mk_13_11 : MK 13 (397, 109, 2, 1053) := Or.inr (Or.inr (Or.inr (Or.inl ⟨Nat.le_of_ble_eq_true rfl, rfl, mt_5 (i := 63) rfl, rfl, mt_5 (i := 184) rfl, mt_5 (i := 65) rfl, ⟨_, _, _, mt_5 (i := 66) rfl⟩, Or.inr ⟨rfl, List.mem_of_getElem? (i := 3) rfl⟩, mt_5 (i := 65) rfl, rfl⟩)))
set_option maxRecDepth 20000 in
theorem mk_13_12 : MK 13 (399, 507, 0, 1076) := Or.inr (Or.inr (Or.inl ⟨Nat.le_of_ble_eq_true rfl, Nat.le_of_ble_eq_true rfl, rfl, mt_5 (i := 86) rfl⟩))
set_option maxRecDepth 20000 in
theorem mk_13 : ∀ e ∈ mTL.getD 13 [], MK 13 e := List.forall_mem_cons.mpr ⟨mk_13_0, List.forall_mem_cons.mpr ⟨mk_13_1, List.forall_mem_cons.mpr ⟨mk_13_2, List.forall_mem_cons.mpr ⟨mk_13_3, List.forall_mem_cons.mpr ⟨mk_13_4, List.forall_mem_cons.mpr ⟨mk_13_5, List.forall_mem_cons.mpr ⟨mk_13_6, List.forall_mem_cons.mpr ⟨mk_13_7, List.forall_mem_cons.mpr ⟨mk_13_8, List.forall_mem_cons.mpr ⟨mk_13_9, List.forall_mem_cons.mpr ⟨mk_13_10, List.forall_mem_cons.mpr ⟨mk_13_11, List.forall_mem_cons.mpr ⟨mk_13_12, fun _ h => absurd h List.not_mem_nil⟩⟩⟩⟩⟩⟩⟩⟩⟩⟩⟩⟩⟩
set_option maxRecDepth 20000 in
theorem mk_14_0 : MK 14 (9, 508, 0, 745) := Or.inr (Or.inr (Or.inl ⟨Nat.le_of_ble_eq_true rfl, Nat.le_of_ble_eq_true rfl, rfl, mt_3 (i := 235) rfl⟩))
set_option maxRecDepth 20000 in
theorem mk_14 : ∀ e ∈ mTL.getD 14 [], MK 14 e := List.forall_mem_cons.mpr ⟨mk_14_0, fun _ h => absurd h List.not_mem_nil⟩
set_option maxRecDepth 20000 in
theorem mk_15_0 : MK 15 (150, 505, 0, 1027) := Or.inr (Or.inr (Or.inl ⟨Nat.le_of_ble_eq_true rfl, Nat.le_of_ble_eq_true rfl, rfl, mt_5 (i := 37) rfl⟩))
set_option maxRecDepth 20000 in
theorem mk_15_1 : MK 15 (304, 504, 0, 1026) := Or.inr (Or.inr (Or.inl ⟨Nat.le_of_ble_eq_true rfl, Nat.le_of_ble_eq_true rfl, rfl, mt_5 (i := 36) rfl⟩))
set_option maxRecDepth 20000 in
theorem mk_15_2 : MK 15 (339, 128, 0, 1138) := Or.inl ⟨Nat.le_of_ble_eq_true rfl, rfl, mt_5 (i := 148) rfl⟩
set_option maxRecDepth 20000 in
theorem mk_15_3 : MK 15 (343, 126, 0, 1141) := Or.inl ⟨Nat.le_of_ble_eq_true rfl, rfl, mt_5 (i := 151) rfl⟩
set_option maxRecDepth 20000 in
theorem mk_15 : ∀ e ∈ mTL.getD 15 [], MK 15 e := List.forall_mem_cons.mpr ⟨mk_15_0, List.forall_mem_cons.mpr ⟨mk_15_1, List.forall_mem_cons.mpr ⟨mk_15_2, List.forall_mem_cons.mpr ⟨mk_15_3, fun _ h => absurd h List.not_mem_nil⟩⟩⟩⟩
set_option maxRecDepth 20000 in
theorem mk_16_0 : MK 16 (194, 503, 0, 1011) := Or.inr (Or.inr (Or.inl ⟨Nat.le_of_ble_eq_true rfl, Nat.le_of_ble_eq_true rfl, rfl, mt_5 (i := 21) rfl⟩))
set_option maxRecDepth 20000 in
theorem mk_16 : ∀ e ∈ mTL.getD 16 [], MK 16 e := List.forall_mem_cons.mpr ⟨mk_16_0, fun _ h => absurd h List.not_mem_nil⟩
set_option maxRecDepth 20000 in
theorem mk_17_0 : MK 17 (8, 112, 0, 724) := Or.inl ⟨Nat.le_of_ble_eq_true rfl, rfl, mt_3 (i := 214) rfl⟩
set_option maxRecDepth 20000 in
theorem mk_17_1 : MK 17 (14, 113, 0, 734) := Or.inl ⟨Nat.le_of_ble_eq_true rfl, rfl, mt_3 (i := 224) rfl⟩
set_option maxRecDepth 20000 in
theorem mk_17_2 : MK 17 (18, 80, 0, 772) := Or.inl ⟨Nat.le_of_ble_eq_true rfl, rfl, mt_4 (i := 22) rfl⟩
set_option maxRecDepth 20000 in
theorem mk_17_3 : MK 17 (24, 81, 0, 784) := Or.inl ⟨Nat.le_of_ble_eq_true rfl, rfl, mt_4 (i := 34) rfl⟩
set_option maxRecDepth 20000 in
theorem mk_17_4 : MK 17 (28, 83, 0, 428) := Or.inl ⟨Nat.le_of_ble_eq_true rfl, rfl, mt_2 (i := 158) rfl⟩
set_option maxRecDepth 20000 in
theorem mk_17_5 : MK 17 (31, 88, 0, 540) := Or.inl ⟨Nat.le_of_ble_eq_true rfl, rfl, mt_3 (i := 30) rfl⟩
set_option maxRecDepth 20000 in
theorem mk_17_6 : MK 17 (34, 85, 0, 507) := Or.inl ⟨Nat.le_of_ble_eq_true rfl, rfl, mt_2 (i := 237) rfl⟩
set_option maxRecDepth 20000 in
theorem mk_17_7 : MK 17 (38, 89, 0, 560) := Or.inl ⟨Nat.le_of_ble_eq_true rfl, rfl, mt_3 (i := 50) rfl⟩
set_option maxRecDepth 20000 in
theorem mk_17_8 : MK 17 (41, 96, 0, 714) := Or.inl ⟨Nat.le_of_ble_eq_true rfl, rfl, mt_3 (i := 204) rfl⟩
set_option maxRecDepth 20000 in
theorem mk_17_9 : MK 17 (47, 97, 0, 717) := Or.inl ⟨Nat.le_of_ble_eq_true rfl, rfl, mt_3 (i := 207) rfl⟩
set_option maxRecDepth 20000 in
theorem mk_17_10 : MK 17 (54, 117, 0, 965) := Or.inl ⟨Nat.le_of_ble_eq_true rfl, rfl, mt_4 (i := 215) rfl⟩
set_option maxRecDepth 20000 in
theorem mk_17_11 : MK 17 (61, 118, 0, 1094) := Or.inl ⟨Nat.le_of_ble_eq_true rfl, rfl, mt_5 (i := 104) rfl⟩
set_option maxRecDepth 20000 in
theorem mk_17_12 : MK 17 (64, 119, 0, 1095) := Or.inl ⟨Nat.le_of_ble_eq_true rfl, rfl, mt_5 (i := 105) rfl⟩
set_option maxRecDepth 20000 in
theorem mk_17_13 : MK 17 (69, 79, 0, 60) := Or.inl ⟨Nat.le_of_ble_eq_true rfl, rfl, mt_1 (i := 30) rfl⟩
set_option maxRecDepth 20000 in
theorem mk_17_14 : MK 17 (70, 120, 0, 1108) := Or.inl ⟨Nat.le_of_ble_eq_true rfl, rfl, mt_5 (i := 118) rfl⟩
set_option maxRecDepth 20000 in
theorem mk_17_15 : MK 17 (74, 98, 0, 721) := Or.inl ⟨Nat.le_of_ble_eq_true rfl, rfl, mt_3 (i := 211) rfl⟩
set_option maxRecDepth 20000 in
theorem mk_17_16 : MK 17 (78, 95, 0, 697) := Or.inl ⟨Nat.le_of_ble_eq_true rfl, rfl, mt_3 (i := 187) rfl⟩
set_option maxRecDepth 20000 in
theorem mk_17_17 : MK 17 (82, 99, 0, 957) := Or.inl ⟨Nat.le_of_ble_eq_true rfl, rfl, mt_4 (i := 207) rfl⟩
set_option maxRecDepth 20000 in
theorem mk_17_18 : MK 17 (86, 91, 0, 585) := Or.inl ⟨Nat.le_of_ble_eq_true rfl, rfl, mt_3 (i := 75) rfl⟩
set_option maxRecDepth 20000 in
theorem mk_17_19 : MK 17 (89, 92, 0, 601) := Or.inl ⟨Nat.le_of_ble_eq_true rfl, rfl, mt_3 (i := 91) rfl⟩
set_option maxRecDepth 20000 in
theorem mk_17_20 : MK 17 (92, 93, 0, 613) := Or.inl ⟨Nat.le_of_ble_eq_true rfl, rfl, mt_3 (i := 103) rfl⟩
set_option maxRecDepth 20000 in
theorem mk_17_21 : MK 17 (96, 100, 0, 960) := Or.inl ⟨Nat.le_of_ble_eq_true rfl, rfl, mt_4 (i := 210) rfl⟩
set_option maxRecDepth 20000 in
theorem mk_17_22 : MK 17 (100, 94, 0, 668) := Or.inl ⟨Nat.le_of_ble_eq_true rfl, rfl, mt_3 (i := 158) rfl⟩
set_option maxRecDepth 20000 in
theorem mk_17 : ∀ e ∈ mTL.getD 17 [], MK 17 e := List.forall_mem_cons.mpr ⟨mk_17_0, List.forall_mem_cons.mpr ⟨mk_17_1, List.forall_mem_cons.mpr ⟨mk_17_2, List.forall_mem_cons.mpr ⟨mk_17_3, List.forall_mem_cons.mpr ⟨mk_17_4, List.forall_mem_cons.mpr ⟨mk_17_5, List.forall_mem_cons.mpr ⟨mk_17_6, List.forall_mem_cons.mpr ⟨mk_17_7, List.forall_mem_cons.mpr ⟨mk_17_8, List.forall_mem_cons.mpr ⟨mk_17_9, List.forall_mem_cons.mpr ⟨mk_17_10, List.forall_mem_cons.mpr ⟨mk_17_11, List.forall_mem_cons.mpr ⟨mk_17_12, List.forall_mem_cons.mpr ⟨mk_17_13, List.forall_mem_cons.mpr ⟨mk_17_14, List.forall_mem_cons.mpr ⟨mk_17_15, List.forall_mem_cons.mpr ⟨mk_17_16, List.forall_mem_cons.mpr ⟨mk_17_17, List.forall_mem_cons.mpr ⟨mk_17_18, List.forall_mem_cons.mpr ⟨mk_17_19, List.forall_mem_cons.mpr ⟨mk_17_20, List.forall_mem_cons.mpr ⟨mk_17_21, List.forall_mem_cons.mpr ⟨mk_17_22, fun _ h => absurd h List.not_mem_nil⟩⟩⟩⟩⟩⟩⟩⟩⟩⟩⟩⟩⟩⟩⟩⟩⟩⟩⟩⟩⟩⟩⟩
set_option maxRecDepth 20000 in
theorem mk_all (cx : Nat) (hc : cx < 18) : ∀ e ∈ mTL.getD cx [], MK cx e := by
  match cx, hc with
  | 0, _ => exact mk_0
  | 1, _ => exact mk_1
  | 2, _ => exact mk_2
  | 3, _ => exact mk_3
  | 4, _ => exact mk_4
  | 5, _ => exact mk_5
  | 6, _ => exact mk_6
  | 7, _ => exact mk_7
  | 8, _ => exact mk_8
  | 9, _ => exact mk_9
  | 10, _ => exact mk_10
  | 11, _ => exact mk_11
  | 12, _ => exact mk_12
  | 13, _ => exact mk_13
  | 14, _ => exact mk_14
  | 15, _ => exact mk_15
  | 16, _ => exact mk_16
  | 17, _ => exact mk_17
  | n + 18, h => exact absurd h (by omega)
def IK (cx : Nat) (e : Nat × Int32 × Nat) : Prop := Cond.constant (cnm cx) e.1 e.2.1 ∈ lw_tbl
set_option maxRecDepth 20000 in
theorem ik_0 : ∀ e ∈ iTL.getD 0 [], IK 0 e := fun _ h => absurd h List.not_mem_nil
set_option maxRecDepth 20000 in
theorem ik_1 : ∀ e ∈ iTL.getD 1 [], IK 1 e := fun _ h => absurd h List.not_mem_nil
set_option maxRecDepth 20000 in
theorem ik_2 : ∀ e ∈ iTL.getD 2 [], IK 2 e := fun _ h => absurd h List.not_mem_nil
set_option maxRecDepth 20000 in
theorem ik_3 : ∀ e ∈ iTL.getD 3 [], IK 3 e := fun _ h => absurd h List.not_mem_nil
set_option maxRecDepth 20000 in
theorem ik_4 : ∀ e ∈ iTL.getD 4 [], IK 4 e := fun _ h => absurd h List.not_mem_nil
set_option maxRecDepth 20000 in
theorem ik_5 : ∀ e ∈ iTL.getD 5 [], IK 5 e := fun _ h => absurd h List.not_mem_nil
set_option maxRecDepth 20000 in
theorem ik_6 : ∀ e ∈ iTL.getD 6 [], IK 6 e := fun _ h => absurd h List.not_mem_nil
set_option maxRecDepth 20000 in
theorem ik_7 : ∀ e ∈ iTL.getD 7 [], IK 7 e := fun _ h => absurd h List.not_mem_nil
set_option maxRecDepth 20000 in
theorem ik_8 : ∀ e ∈ iTL.getD 8 [], IK 8 e := fun _ h => absurd h List.not_mem_nil
set_option maxRecDepth 20000 in
theorem ik_9 : ∀ e ∈ iTL.getD 9 [], IK 9 e := fun _ h => absurd h List.not_mem_nil
set_option maxRecDepth 20000 in
theorem ik_10 : ∀ e ∈ iTL.getD 10 [], IK 10 e := fun _ h => absurd h List.not_mem_nil
set_option maxRecDepth 20000 in
theorem ik_11 : ∀ e ∈ iTL.getD 11 [], IK 11 e := fun _ h => absurd h List.not_mem_nil
set_option maxRecDepth 20000 in
theorem ik_12 : ∀ e ∈ iTL.getD 12 [], IK 12 e := fun _ h => absurd h List.not_mem_nil
set_option maxRecDepth 20000 in
theorem ik_13_0 : IK 13 (38, 2147483631, 973) := mt_4 (i := 223) rfl
set_option maxRecDepth 20000 in
theorem ik_13_1 : IK 13 (39, 2147483647, 974) := mt_4 (i := 224) rfl
set_option maxRecDepth 20000 in
theorem ik_13 : ∀ e ∈ iTL.getD 13 [], IK 13 e := List.forall_mem_cons.mpr ⟨ik_13_0, List.forall_mem_cons.mpr ⟨ik_13_1, fun _ h => absurd h List.not_mem_nil⟩⟩
set_option maxRecDepth 20000 in
theorem ik_14 : ∀ e ∈ iTL.getD 14 [], IK 14 e := fun _ h => absurd h List.not_mem_nil
set_option maxRecDepth 20000 in
theorem ik_15 : ∀ e ∈ iTL.getD 15 [], IK 15 e := fun _ h => absurd h List.not_mem_nil
set_option maxRecDepth 20000 in
theorem ik_16_0 : IK 16 (200, 2147483639, 1012) := mt_5 (i := 22) rfl
set_option maxRecDepth 20000 in
theorem ik_16 : ∀ e ∈ iTL.getD 16 [], IK 16 e := List.forall_mem_cons.mpr ⟨ik_16_0, fun _ h => absurd h List.not_mem_nil⟩
set_option maxRecDepth 20000 in
theorem ik_17_0 : IK 17 (7, 2147483647, 720) := mt_3 (i := 210) rfl
set_option maxRecDepth 20000 in
theorem ik_17 : ∀ e ∈ iTL.getD 17 [], IK 17 e := List.forall_mem_cons.mpr ⟨ik_17_0, fun _ h => absurd h List.not_mem_nil⟩
set_option maxRecDepth 20000 in
theorem ik_all (cx : Nat) (hc : cx < 18) : ∀ e ∈ iTL.getD cx [], IK cx e := by
  match cx, hc with
  | 0, _ => exact ik_0
  | 1, _ => exact ik_1
  | 2, _ => exact ik_2
  | 3, _ => exact ik_3
  | 4, _ => exact ik_4
  | 5, _ => exact ik_5
  | 6, _ => exact ik_6
  | 7, _ => exact ik_7
  | 8, _ => exact ik_8
  | 9, _ => exact ik_9
  | 10, _ => exact ik_10
  | 11, _ => exact ik_11
  | 12, _ => exact ik_12
  | 13, _ => exact ik_13
  | 14, _ => exact ik_14
  | 15, _ => exact ik_15
  | 16, _ => exact ik_16
  | 17, _ => exact ik_17
  | n + 18, h => exact absurd h (by omega)
def GK (cx : Nat) (e : Nat × Nat) : Prop := Cond.fieldLink (cnm cx) e.1 "java/lang/String" "COMPACT_STRINGS" "Z" ∈ lw_tbl
set_option maxRecDepth 20000 in
theorem gk_0 : ∀ e ∈ gTL.getD 0 [], GK 0 e := fun _ h => absurd h List.not_mem_nil
set_option maxRecDepth 20000 in
theorem gk_1 : ∀ e ∈ gTL.getD 1 [], GK 1 e := fun _ h => absurd h List.not_mem_nil
set_option maxRecDepth 20000 in
theorem gk_2 : ∀ e ∈ gTL.getD 2 [], GK 2 e := fun _ h => absurd h List.not_mem_nil
set_option maxRecDepth 20000 in
theorem gk_3 : ∀ e ∈ gTL.getD 3 [], GK 3 e := fun _ h => absurd h List.not_mem_nil
set_option maxRecDepth 20000 in
theorem gk_4 : ∀ e ∈ gTL.getD 4 [], GK 4 e := fun _ h => absurd h List.not_mem_nil
set_option maxRecDepth 20000 in
theorem gk_5 : ∀ e ∈ gTL.getD 5 [], GK 5 e := fun _ h => absurd h List.not_mem_nil
set_option maxRecDepth 20000 in
theorem gk_6 : ∀ e ∈ gTL.getD 6 [], GK 6 e := fun _ h => absurd h List.not_mem_nil
set_option maxRecDepth 20000 in
theorem gk_7 : ∀ e ∈ gTL.getD 7 [], GK 7 e := fun _ h => absurd h List.not_mem_nil
set_option maxRecDepth 20000 in
theorem gk_8 : ∀ e ∈ gTL.getD 8 [], GK 8 e := fun _ h => absurd h List.not_mem_nil
set_option maxRecDepth 20000 in
theorem gk_9 : ∀ e ∈ gTL.getD 9 [], GK 9 e := fun _ h => absurd h List.not_mem_nil
set_option maxRecDepth 20000 in
theorem gk_10 : ∀ e ∈ gTL.getD 10 [], GK 10 e := fun _ h => absurd h List.not_mem_nil
set_option maxRecDepth 20000 in
theorem gk_11 : ∀ e ∈ gTL.getD 11 [], GK 11 e := fun _ h => absurd h List.not_mem_nil
set_option maxRecDepth 20000 in
theorem gk_12_0 : GK 12 (38, 732) := mt_3 (i := 222) rfl
set_option maxRecDepth 20000 in
theorem gk_12 : ∀ e ∈ gTL.getD 12 [], GK 12 e := List.forall_mem_cons.mpr ⟨gk_12_0, fun _ h => absurd h List.not_mem_nil⟩
set_option maxRecDepth 20000 in
theorem gk_13_0 : GK 13 (18, 1033) := mt_5 (i := 43) rfl
set_option maxRecDepth 20000 in
theorem gk_13 : ∀ e ∈ gTL.getD 13 [], GK 13 e := List.forall_mem_cons.mpr ⟨gk_13_0, fun _ h => absurd h List.not_mem_nil⟩
set_option maxRecDepth 20000 in
theorem gk_14 : ∀ e ∈ gTL.getD 14 [], GK 14 e := fun _ h => absurd h List.not_mem_nil
set_option maxRecDepth 20000 in
theorem gk_15 : ∀ e ∈ gTL.getD 15 [], GK 15 e := fun _ h => absurd h List.not_mem_nil
set_option maxRecDepth 20000 in
theorem gk_16 : ∀ e ∈ gTL.getD 16 [], GK 16 e := fun _ h => absurd h List.not_mem_nil
set_option maxRecDepth 20000 in
theorem gk_17 : ∀ e ∈ gTL.getD 17 [], GK 17 e := fun _ h => absurd h List.not_mem_nil
set_option maxRecDepth 20000 in
theorem gk_all (cx : Nat) (hc : cx < 18) : ∀ e ∈ gTL.getD cx [], GK cx e := by
  match cx, hc with
  | 0, _ => exact gk_0
  | 1, _ => exact gk_1
  | 2, _ => exact gk_2
  | 3, _ => exact gk_3
  | 4, _ => exact gk_4
  | 5, _ => exact gk_5
  | 6, _ => exact gk_6
  | 7, _ => exact gk_7
  | 8, _ => exact gk_8
  | 9, _ => exact gk_9
  | 10, _ => exact gk_10
  | 11, _ => exact gk_11
  | 12, _ => exact gk_12
  | 13, _ => exact gk_13
  | 14, _ => exact gk_14
  | 15, _ => exact gk_15
  | 16, _ => exact gk_16
  | 17, _ => exact gk_17
  | n + 18, h => exact absurd h (by omega)
def sChk1 (cx : Nat) (e : Nat × Nat) : Bool := decide (e.2 < strN) && (match strL[e.2]? with
  | some (o, k, _) => decide (o = cnm cx) && Nat.beq k e.1
  | none => false)
theorem sChk : (List.range 18).all (fun cx => (sTL.getD cx []).all (sChk1 cx)) = true := by decide +kernel
def SK (e : String × Nat × String) : Prop := Cond.stringRef e.1 e.2.1 e.2.2 ∈ lw_tbl
set_option maxRecDepth 20000 in
theorem sk_all : ∀ e ∈ strL, SK e := List.forall_mem_cons.mpr ⟨mt_4 (i := 65) rfl, List.forall_mem_cons.mpr ⟨mt_4 (i := 88) rfl, List.forall_mem_cons.mpr ⟨mt_4 (i := 90) rfl, List.forall_mem_cons.mpr ⟨mt_4 (i := 136) rfl, List.forall_mem_cons.mpr ⟨mt_4 (i := 172) rfl, List.forall_mem_cons.mpr ⟨mt_4 (i := 185) rfl, List.forall_mem_cons.mpr ⟨mt_4 (i := 190) rfl, List.forall_mem_cons.mpr ⟨mt_4 (i := 191) rfl, List.forall_mem_cons.mpr ⟨mt_4 (i := 192) rfl, List.forall_mem_cons.mpr ⟨mt_4 (i := 193) rfl, List.forall_mem_cons.mpr ⟨mt_5 (i := 175) rfl, List.forall_mem_cons.mpr ⟨mt_5 (i := 176) rfl, List.forall_mem_cons.mpr ⟨mt_5 (i := 177) rfl, List.forall_mem_cons.mpr ⟨mt_5 (i := 178) rfl, fun _ h => absurd h List.not_mem_nil⟩⟩⟩⟩⟩⟩⟩⟩⟩⟩⟩⟩⟩⟩
set_option maxRecDepth 20000 in
theorem xp_all : ∀ x ∈ xpL, x.cls = asbN ∧ Cond.privateMethod x ∈ lw_tbl ∧ Cond.instanceMethod x ∈ lw_tbl ∧ Cond.sameMethod asbN asbN x.name x.desc ∈ lw_tbl := List.forall_mem_cons.mpr ⟨⟨rfl, mt_5 (i := 11) rfl, mt_5 (i := 12) rfl, mt_5 (i := 181) rfl⟩, List.forall_mem_cons.mpr ⟨⟨rfl, mt_5 (i := 15) rfl, mt_5 (i := 16) rfl, mt_5 (i := 182) rfl⟩, List.forall_mem_cons.mpr ⟨⟨rfl, mt_5 (i := 60) rfl, mt_5 (i := 61) rfl, mt_5 (i := 183) rfl⟩, List.forall_mem_cons.mpr ⟨⟨rfl, mt_5 (i := 64) rfl, mt_5 (i := 65) rfl, mt_5 (i := 184) rfl⟩, fun _ h => absurd h List.not_mem_nil⟩⟩⟩⟩
def hWord (y : Nat) : Cond := .code (mNam y) (mByt y) (mmx y) (mRet y)
def YF (y : Nat) : Prop := hWord y ∈ lw_tbl ∧ Cond.initialized (cnm (mcx y)) ∈ lw_tbl ∧ (mNam y).cls = cnm (mcx y) ∧ (parseMethodDescriptor (mNam y).desc).map (fun d => d.parameters.length) = some (mna y) ∧
  ((mkd y = 0 ∧ Cond.instanceMethod (mNam y) ∈ lw_tbl ∧ (msl y = true → Cond.selects (cnm (mcx y)) (mNam y) (mNam y) ∈ lw_tbl)) ∨ (mkd y = 1 ∧ Cond.static (mNam y) ∈ lw_tbl) ∨ (mkd y = 2 ∧ (mNam y).name = "<init>" ∧ mRet y = none ∧ Cond.instanceMethod (mNam y) ∈ lw_tbl))
set_option maxRecDepth 20000 in
theorem yf_0 : YF 0 := ⟨mt_1 (i := 179) rfl, mt_1 (i := 15) rfl, rfl, by decide +kernel, Or.inr (Or.inr ⟨rfl, rfl, rfl, mt_1 (i := 178) rfl⟩)⟩
set_option maxRecDepth 20000 in
theorem yf_1 : YF 1 := ⟨mt_3 (i := 131) rfl, mt_1 (i := 15) rfl, rfl, by decide +kernel, Or.inl ⟨rfl, mt_3 (i := 129) rfl, fun _ => mt_3 (i := 130) rfl⟩⟩
set_option maxRecDepth 20000 in
theorem yf_2 : YF 2 := ⟨mt_4 (i := 180) rfl, mt_1 (i := 15) rfl, rfl, by decide +kernel, Or.inl ⟨rfl, mt_4 (i := 178) rfl, fun _ => mt_4 (i := 179) rfl⟩⟩
set_option maxRecDepth 20000 in
theorem yf_3 : YF 3 := ⟨mt_3 (i := 98) rfl, mt_1 (i := 15) rfl, rfl, by decide +kernel, Or.inl ⟨rfl, mt_3 (i := 96) rfl, fun _ => mt_3 (i := 97) rfl⟩⟩
set_option maxRecDepth 20000 in
theorem yf_4 : YF 4 := ⟨mt_3 (i := 137) rfl, mt_1 (i := 15) rfl, rfl, by decide +kernel, Or.inl ⟨rfl, mt_3 (i := 136) rfl, fun _ => ms_w (ms_1 (i := 7) rfl) rfl⟩⟩
set_option maxRecDepth 20000 in
theorem yf_5 : YF 5 := ⟨mt_3 (i := 145) rfl, mt_1 (i := 15) rfl, rfl, by decide +kernel, Or.inl ⟨rfl, mt_3 (i := 144) rfl, fun _ => ms_w (ms_1 (i := 8) rfl) rfl⟩⟩
set_option maxRecDepth 20000 in
theorem yf_6 : YF 6 := ⟨mt_3 (i := 157) rfl, mt_1 (i := 15) rfl, rfl, by decide +kernel, Or.inl ⟨rfl, mt_3 (i := 156) rfl, fun _ => ms_w (ms_1 (i := 10) rfl) rfl⟩⟩
set_option maxRecDepth 20000 in
theorem yf_7 : YF 7 := ⟨mt_3 (i := 153) rfl, mt_1 (i := 15) rfl, rfl, by decide +kernel, Or.inl ⟨rfl, mt_3 (i := 152) rfl, fun _ => ms_w (ms_1 (i := 9) rfl) rfl⟩⟩
set_option maxRecDepth 20000 in
theorem yf_8 : YF 8 := ⟨mt_3 (i := 165) rfl, mt_1 (i := 15) rfl, rfl, by decide +kernel, Or.inl ⟨rfl, mt_3 (i := 163) rfl, fun _ => mt_3 (i := 164) rfl⟩⟩
set_option maxRecDepth 20000 in
theorem yf_9 : YF 9 := ⟨mt_3 (i := 186) rfl, mt_1 (i := 15) rfl, rfl, by decide +kernel, Or.inl ⟨rfl, mt_3 (i := 185) rfl, fun _ => ms_w (ms_1 (i := 12) rfl) rfl⟩⟩
set_option maxRecDepth 20000 in
theorem yf_10 : YF 10 := ⟨mt_4 (i := 197) rfl, mt_1 (i := 15) rfl, rfl, by decide +kernel, Or.inl ⟨rfl, mt_4 (i := 195) rfl, fun _ => mt_4 (i := 196) rfl⟩⟩
set_option maxRecDepth 20000 in
theorem yf_11 : YF 11 := ⟨mt_4 (i := 201) rfl, mt_1 (i := 15) rfl, rfl, by decide +kernel, Or.inl ⟨rfl, mt_4 (i := 200) rfl, fun _ => ms_w (ms_2 (i := 13) rfl) rfl⟩⟩
set_option maxRecDepth 20000 in
theorem yf_12 : YF 12 := ⟨mt_3 (i := 199) rfl, mt_1 (i := 15) rfl, rfl, by decide +kernel, Or.inl ⟨rfl, mt_3 (i := 197) rfl, fun _ => mt_3 (i := 198) rfl⟩⟩
set_option maxRecDepth 20000 in
theorem yf_13 : YF 13 := ⟨mt_3 (i := 203) rfl, mt_1 (i := 15) rfl, rfl, by decide +kernel, Or.inl ⟨rfl, mt_3 (i := 202) rfl, fun _ => ms_w (ms_1 (i := 14) rfl) rfl⟩⟩
set_option maxRecDepth 20000 in
theorem yf_14 : YF 14 := ⟨mt_1 (i := 185) rfl, mt_1 (i := 16) rfl, rfl, by decide +kernel, Or.inr (Or.inr ⟨rfl, rfl, rfl, mt_1 (i := 184) rfl⟩)⟩
set_option maxRecDepth 20000 in
theorem yf_15 : YF 15 := ⟨mt_3 (i := 82) rfl, mt_1 (i := 16) rfl, rfl, by decide +kernel, Or.inl ⟨rfl, mt_3 (i := 80) rfl, fun _ => mt_3 (i := 81) rfl⟩⟩
set_option maxRecDepth 20000 in
theorem yf_16 : YF 16 := ⟨mt_3 (i := 86) rfl, mt_1 (i := 16) rfl, rfl, by decide +kernel, Or.inl ⟨rfl, mt_3 (i := 85) rfl, fun _ => ms_w (ms_1 (i := 4) rfl) rfl⟩⟩
set_option maxRecDepth 20000 in
theorem yf_17 : YF 17 := ⟨mt_3 (i := 90) rfl, mt_1 (i := 16) rfl, rfl, by decide +kernel, Or.inl ⟨rfl, mt_3 (i := 89) rfl, fun _ => ms_w (ms_1 (i := 5) rfl) rfl⟩⟩
set_option maxRecDepth 20000 in
theorem yf_18 : YF 18 := ⟨mt_3 (i := 149) rfl, mt_1 (i := 16) rfl, rfl, by decide +kernel, Or.inl ⟨rfl, mt_3 (i := 147) rfl, fun _ => mt_3 (i := 148) rfl⟩⟩
set_option maxRecDepth 20000 in
theorem yf_19 : YF 19 := ⟨mt_1 (i := 40) rfl, mt_1 (i := 12) rfl, rfl, by decide +kernel, Or.inr (Or.inr ⟨rfl, rfl, rfl, mt_1 (i := 39) rfl⟩)⟩
set_option maxRecDepth 20000 in
theorem yf_20 : YF 20 := ⟨mt_4 (i := 29) rfl, mt_1 (i := 12) rfl, rfl, by decide +kernel, Or.inl ⟨rfl, mt_4 (i := 27) rfl, fun _ => mt_4 (i := 28) rfl⟩⟩
set_option maxRecDepth 20000 in
theorem yf_21 : YF 21 := ⟨mt_4 (i := 33) rfl, mt_1 (i := 12) rfl, rfl, by decide +kernel, Or.inl ⟨rfl, mt_4 (i := 31) rfl, fun _ => mt_4 (i := 32) rfl⟩⟩
set_option maxRecDepth 20000 in
theorem yf_22 : YF 22 := ⟨mt_4 (i := 46) rfl, mt_1 (i := 12) rfl, rfl, by decide +kernel, Or.inl ⟨rfl, mt_4 (i := 44) rfl, fun _ => mt_4 (i := 45) rfl⟩⟩
set_option maxRecDepth 20000 in
theorem yf_23 : YF 23 := ⟨mt_4 (i := 56) rfl, mt_1 (i := 12) rfl, rfl, by decide +kernel, Or.inl ⟨rfl, mt_4 (i := 54) rfl, fun _ => mt_4 (i := 55) rfl⟩⟩
set_option maxRecDepth 20000 in
theorem yf_24 : YF 24 := ⟨mt_4 (i := 60) rfl, mt_1 (i := 12) rfl, rfl, by decide +kernel, Or.inl ⟨rfl, mt_4 (i := 59) rfl, fun _ => ms_w (ms_2 (i := 0) rfl) rfl⟩⟩
set_option maxRecDepth 20000 in
theorem yf_25 : YF 25 := ⟨mt_4 (i := 79) rfl, mt_1 (i := 12) rfl, rfl, by decide +kernel, Or.inl ⟨rfl, mt_4 (i := 77) rfl, fun _ => mt_4 (i := 78) rfl⟩⟩
set_option maxRecDepth 20000 in
theorem yf_26 : YF 26 := ⟨mt_4 (i := 205) rfl, mt_1 (i := 12) rfl, rfl, by decide +kernel, Or.inl ⟨rfl, mt_4 (i := 203) rfl, fun _ => mt_4 (i := 204) rfl⟩⟩
set_option maxRecDepth 20000 in
theorem yf_27 : YF 27 := ⟨mt_4 (i := 83) rfl, mt_1 (i := 12) rfl, rfl, by decide +kernel, Or.inl ⟨rfl, mt_4 (i := 81) rfl, fun _ => mt_4 (i := 82) rfl⟩⟩
set_option maxRecDepth 20000 in
theorem yf_28 : YF 28 := ⟨mt_4 (i := 69) rfl, mt_1 (i := 12) rfl, rfl, by decide +kernel, Or.inl ⟨rfl, mt_4 (i := 67) rfl, fun _ => mt_4 (i := 68) rfl⟩⟩
set_option maxRecDepth 20000 in
theorem yf_29 : YF 29 := ⟨mt_4 (i := 73) rfl, mt_1 (i := 12) rfl, rfl, by decide +kernel, Or.inl ⟨rfl, mt_4 (i := 71) rfl, fun _ => mt_4 (i := 72) rfl⟩⟩
set_option maxRecDepth 20000 in
theorem yf_30 : YF 30 := ⟨mt_4 (i := 104) rfl, mt_1 (i := 12) rfl, rfl, by decide +kernel, Or.inl ⟨rfl, mt_4 (i := 102) rfl, fun _ => mt_4 (i := 103) rfl⟩⟩
set_option maxRecDepth 20000 in
theorem yf_31 : YF 31 := ⟨mt_1 (i := 77) rfl, mt_1 (i := 13) rfl, rfl, by decide +kernel, Or.inr (Or.inr ⟨rfl, rfl, rfl, mt_1 (i := 76) rfl⟩)⟩
set_option maxRecDepth 20000 in
theorem yf_32 : YF 32 := ⟨mt_2 (i := 119) rfl, mt_1 (i := 13) rfl, rfl, by decide +kernel, Or.inl ⟨rfl, mt_2 (i := 117) rfl, fun _ => mt_2 (i := 118) rfl⟩⟩
set_option maxRecDepth 20000 in
theorem yf_33 : YF 33 := ⟨mt_2 (i := 123) rfl, mt_1 (i := 13) rfl, rfl, by decide +kernel, Or.inl ⟨rfl, mt_2 (i := 121) rfl, fun _ => mt_2 (i := 122) rfl⟩⟩
set_option maxRecDepth 20000 in
theorem yf_34 : YF 34 := ⟨mt_3 (i := 178) rfl, mt_1 (i := 13) rfl, rfl, by decide +kernel, Or.inl ⟨rfl, mt_3 (i := 176) rfl, fun _ => mt_3 (i := 177) rfl⟩⟩
set_option maxRecDepth 20000 in
theorem yf_35 : YF 35 := ⟨mt_3 (i := 182) rfl, mt_1 (i := 13) rfl, rfl, by decide +kernel, Or.inl ⟨rfl, mt_3 (i := 181) rfl, fun _ => ms_w (ms_1 (i := 11) rfl) rfl⟩⟩
set_option maxRecDepth 20000 in
theorem yf_36 : YF 36 := ⟨mt_3 (i := 141) rfl, mt_1 (i := 13) rfl, rfl, by decide +kernel, Or.inl ⟨rfl, mt_3 (i := 139) rfl, fun _ => mt_3 (i := 140) rfl⟩⟩
set_option maxRecDepth 20000 in
theorem yf_37 : YF 37 := ⟨mt_3 (i := 8) rfl, mt_1 (i := 13) rfl, rfl, by decide +kernel, Or.inl ⟨rfl, mt_3 (i := 6) rfl, fun _ => mt_3 (i := 7) rfl⟩⟩
set_option maxRecDepth 20000 in
theorem yf_38 : YF 38 := ⟨mt_3 (i := 74) rfl, mt_1 (i := 13) rfl, rfl, by decide +kernel, Or.inl ⟨rfl, mt_3 (i := 72) rfl, fun _ => mt_3 (i := 73) rfl⟩⟩
set_option maxRecDepth 20000 in
theorem yf_39 : YF 39 := ⟨mt_3 (i := 169) rfl, mt_1 (i := 13) rfl, rfl, by decide +kernel, Or.inl ⟨rfl, mt_3 (i := 167) rfl, fun _ => mt_3 (i := 168) rfl⟩⟩
set_option maxRecDepth 20000 in
theorem yf_40 : YF 40 := ⟨mt_3 (i := 174) rfl, mt_1 (i := 13) rfl, rfl, by decide +kernel, Or.inl ⟨rfl, mt_3 (i := 172) rfl, fun _ => mt_3 (i := 173) rfl⟩⟩
set_option maxRecDepth 20000 in
theorem yf_41 : YF 41 := ⟨mt_4 (i := 153) rfl, mt_1 (i := 13) rfl, rfl, by decide +kernel, Or.inl ⟨rfl, mt_4 (i := 151) rfl, fun _ => mt_4 (i := 152) rfl⟩⟩
set_option maxRecDepth 20000 in
theorem yf_42 : YF 42 := ⟨mt_3 (i := 61) rfl, mt_1 (i := 13) rfl, rfl, by decide +kernel, Or.inl ⟨rfl, mt_3 (i := 59) rfl, fun _ => mt_3 (i := 60) rfl⟩⟩
set_option maxRecDepth 20000 in
theorem yf_43 : YF 43 := ⟨mt_2 (i := 232) rfl, mt_1 (i := 13) rfl, rfl, by decide +kernel, Or.inl ⟨rfl, mt_2 (i := 230) rfl, fun _ => mt_2 (i := 231) rfl⟩⟩
set_option maxRecDepth 20000 in
theorem yf_44 : YF 44 := ⟨mt_2 (i := 236) rfl, mt_1 (i := 13) rfl, rfl, by decide +kernel, Or.inl ⟨rfl, mt_2 (i := 235) rfl, fun _ => ms_w (ms_1 (i := 1) rfl) rfl⟩⟩
set_option maxRecDepth 20000 in
theorem yf_45 : YF 45 := ⟨mt_3 (i := 29) rfl, mt_1 (i := 13) rfl, rfl, by decide +kernel, Or.inl ⟨rfl, mt_3 (i := 27) rfl, fun _ => mt_3 (i := 28) rfl⟩⟩
set_option maxRecDepth 20000 in
theorem yf_46 : YF 46 := ⟨mt_3 (i := 119) rfl, mt_1 (i := 13) rfl, rfl, by decide +kernel, Or.inl ⟨rfl, mt_3 (i := 117) rfl, fun _ => mt_3 (i := 118) rfl⟩⟩
set_option maxRecDepth 20000 in
theorem yf_47 : YF 47 := ⟨mt_2 (i := 93) rfl, mt_1 (i := 21) rfl, rfl, by decide +kernel, Or.inr (Or.inr ⟨rfl, rfl, rfl, mt_2 (i := 92) rfl⟩)⟩
set_option maxRecDepth 20000 in
theorem yf_48 : YF 48 := ⟨mt_3 (i := 115) rfl, mt_1 (i := 21) rfl, rfl, by decide +kernel, Or.inl ⟨rfl, mt_3 (i := 113) rfl, fun _ => mt_3 (i := 114) rfl⟩⟩
set_option maxRecDepth 20000 in
theorem yf_49 : YF 49 := ⟨mt_2 (i := 45) rfl, mt_1 (i := 19) rfl, rfl, by decide +kernel, Or.inr (Or.inr ⟨rfl, rfl, rfl, mt_2 (i := 44) rfl⟩)⟩
set_option maxRecDepth 20000 in
theorem yf_50 : YF 50 := ⟨mt_2 (i := 67) rfl, mt_1 (i := 20) rfl, rfl, by decide +kernel, Or.inr (Or.inr ⟨rfl, rfl, rfl, mt_2 (i := 66) rfl⟩)⟩
set_option maxRecDepth 20000 in
theorem yf_51 : YF 51 := ⟨mt_4 (i := 64) rfl, mt_1 (i := 20) rfl, rfl, by decide +kernel, Or.inl ⟨rfl, mt_4 (i := 62) rfl, fun _ => mt_4 (i := 63) rfl⟩⟩
set_option maxRecDepth 20000 in
theorem yf_52 : YF 52 := ⟨mt_4 (i := 87) rfl, mt_1 (i := 20) rfl, rfl, by decide +kernel, Or.inl ⟨rfl, mt_4 (i := 86) rfl, fun _ => ms_w (ms_2 (i := 1) rfl) rfl⟩⟩
set_option maxRecDepth 20000 in
theorem yf_53 : YF 53 := ⟨mt_4 (i := 100) rfl, mt_1 (i := 20) rfl, rfl, by decide +kernel, Or.inl ⟨rfl, mt_4 (i := 99) rfl, fun _ => ms_w (ms_2 (i := 2) rfl) rfl⟩⟩
set_option maxRecDepth 20000 in
theorem yf_54 : YF 54 := ⟨mt_4 (i := 113) rfl, mt_1 (i := 20) rfl, rfl, by decide +kernel, Or.inl ⟨rfl, mt_4 (i := 112) rfl, fun _ => ms_w (ms_2 (i := 3) rfl) rfl⟩⟩
set_option maxRecDepth 20000 in
theorem yf_55 : YF 55 := ⟨mt_4 (i := 117) rfl, mt_1 (i := 20) rfl, rfl, by decide +kernel, Or.inl ⟨rfl, mt_4 (i := 116) rfl, fun _ => ms_w (ms_2 (i := 4) rfl) rfl⟩⟩
set_option maxRecDepth 20000 in
theorem yf_56 : YF 56 := ⟨mt_4 (i := 126) rfl, mt_1 (i := 20) rfl, rfl, by decide +kernel, Or.inl ⟨rfl, mt_4 (i := 125) rfl, fun _ => ms_w (ms_2 (i := 5) rfl) rfl⟩⟩
set_option maxRecDepth 20000 in
theorem yf_57 : YF 57 := ⟨mt_4 (i := 130) rfl, mt_1 (i := 20) rfl, rfl, by decide +kernel, Or.inl ⟨rfl, mt_4 (i := 129) rfl, fun _ => ms_w (ms_2 (i := 6) rfl) rfl⟩⟩
set_option maxRecDepth 20000 in
theorem yf_58 : YF 58 := ⟨mt_4 (i := 135) rfl, mt_1 (i := 20) rfl, rfl, by decide +kernel, Or.inl ⟨rfl, mt_4 (i := 133) rfl, fun _ => mt_4 (i := 134) rfl⟩⟩
set_option maxRecDepth 20000 in
theorem yf_59 : YF 59 := ⟨mt_4 (i := 140) rfl, mt_1 (i := 20) rfl, rfl, by decide +kernel, Or.inl ⟨rfl, mt_4 (i := 139) rfl, fun _ => ms_w (ms_2 (i := 7) rfl) rfl⟩⟩
set_option maxRecDepth 20000 in
theorem yf_60 : YF 60 := ⟨mt_4 (i := 176) rfl, mt_1 (i := 20) rfl, rfl, by decide +kernel, Or.inl ⟨rfl, mt_4 (i := 175) rfl, fun _ => ms_w (ms_2 (i := 10) rfl) rfl⟩⟩
set_option maxRecDepth 20000 in
theorem yf_61 : YF 61 := ⟨mt_4 (i := 171) rfl, mt_1 (i := 20) rfl, rfl, by decide +kernel, Or.inl ⟨rfl, mt_4 (i := 170) rfl, fun _ => ms_w (ms_2 (i := 9) rfl) rfl⟩⟩
set_option maxRecDepth 20000 in
theorem yf_62 : YF 62 := ⟨mt_4 (i := 184) rfl, mt_1 (i := 20) rfl, rfl, by decide +kernel, Or.inl ⟨rfl, mt_4 (i := 183) rfl, fun _ => ms_w (ms_2 (i := 11) rfl) rfl⟩⟩
set_option maxRecDepth 20000 in
theorem yf_63 : YF 63 := ⟨mt_4 (i := 189) rfl, mt_1 (i := 20) rfl, rfl, by decide +kernel, Or.inl ⟨rfl, mt_4 (i := 188) rfl, fun _ => ms_w (ms_2 (i := 12) rfl) rfl⟩⟩
set_option maxRecDepth 20000 in
theorem yf_64 : YF 64 := ⟨mt_2 (i := 21) rfl, mt_1 (i := 18) rfl, rfl, by decide +kernel, Or.inr (Or.inr ⟨rfl, rfl, rfl, mt_2 (i := 20) rfl⟩)⟩
set_option maxRecDepth 20000 in
theorem yf_65 : YF 65 := ⟨mt_1 (i := 83) rfl, mt_1 (i := 14) rfl, rfl, by decide +kernel, Or.inr (Or.inr ⟨rfl, rfl, rfl, mt_1 (i := 82) rfl⟩)⟩
set_option maxRecDepth 20000 in
theorem yf_66 : YF 66 := ⟨mt_4 (i := 95) rfl, mt_1 (i := 14) rfl, rfl, by decide +kernel, Or.inl ⟨rfl, mt_4 (i := 93) rfl, fun _ => mt_4 (i := 94) rfl⟩⟩
set_option maxRecDepth 20000 in
theorem yf_67 : YF 67 := ⟨mt_2 (i := 111) rfl, mt_1 (i := 14) rfl, rfl, by decide +kernel, Or.inl ⟨rfl, mt_2 (i := 109) rfl, fun _ => mt_2 (i := 110) rfl⟩⟩
set_option maxRecDepth 20000 in
theorem yf_68 : YF 68 := ⟨mt_2 (i := 115) rfl, mt_1 (i := 14) rfl, rfl, by decide +kernel, Or.inl ⟨rfl, mt_2 (i := 113) rfl, fun _ => mt_2 (i := 114) rfl⟩⟩
set_option maxRecDepth 20000 in
theorem yf_69 : YF 69 := ⟨mt_3 (i := 65) rfl, mt_1 (i := 14) rfl, rfl, by decide +kernel, Or.inl ⟨rfl, mt_3 (i := 63) rfl, fun _ => mt_3 (i := 64) rfl⟩⟩
set_option maxRecDepth 20000 in
theorem yf_70 : YF 70 := ⟨mt_3 (i := 69) rfl, mt_1 (i := 14) rfl, rfl, by decide +kernel, Or.inl ⟨rfl, mt_3 (i := 67) rfl, fun _ => mt_3 (i := 68) rfl⟩⟩
set_option maxRecDepth 20000 in
theorem yf_71 : YF 71 := ⟨mt_4 (i := 108) rfl, mt_1 (i := 14) rfl, rfl, by decide +kernel, Or.inl ⟨rfl, mt_4 (i := 106) rfl, fun _ => mt_4 (i := 107) rfl⟩⟩
set_option maxRecDepth 20000 in
theorem yf_72 : YF 72 := ⟨mt_4 (i := 121) rfl, mt_1 (i := 14) rfl, rfl, by decide +kernel, Or.inl ⟨rfl, mt_4 (i := 119) rfl, fun _ => mt_4 (i := 120) rfl⟩⟩
set_option maxRecDepth 20000 in
theorem yf_73 : YF 73 := ⟨mt_3 (i := 123) rfl, mt_1 (i := 14) rfl, rfl, by decide +kernel, Or.inl ⟨rfl, mt_3 (i := 121) rfl, fun _ => mt_3 (i := 122) rfl⟩⟩
set_option maxRecDepth 20000 in
theorem yf_74 : YF 74 := ⟨mt_2 (i := 1) rfl, mt_1 (i := 17) rfl, rfl, by decide +kernel, Or.inr (Or.inr ⟨rfl, rfl, rfl, mt_2 (i := 0) rfl⟩)⟩
set_option maxRecDepth 20000 in
theorem yf_75 : YF 75 := ⟨mt_4 (i := 157) rfl, mt_1 (i := 17) rfl, rfl, by decide +kernel, Or.inl ⟨rfl, mt_4 (i := 155) rfl, fun _ => mt_4 (i := 156) rfl⟩⟩
set_option maxRecDepth 20000 in
theorem yf_76 : YF 76 := ⟨mt_4 (i := 149) rfl, mt_1 (i := 17) rfl, rfl, by decide +kernel, Or.inl ⟨rfl, mt_4 (i := 147) rfl, fun _ => mt_4 (i := 148) rfl⟩⟩
set_option maxRecDepth 20000 in
theorem yf_77 : YF 77 := ⟨mt_4 (i := 144) rfl, mt_1 (i := 17) rfl, rfl, by decide +kernel, Or.inl ⟨rfl, mt_4 (i := 142) rfl, fun _ => mt_4 (i := 143) rfl⟩⟩
set_option maxRecDepth 20000 in
theorem yf_78 : YF 78 := ⟨mt_4 (i := 162) rfl, mt_1 (i := 17) rfl, rfl, by decide +kernel, Or.inl ⟨rfl, mt_4 (i := 161) rfl, fun _ => ms_w (ms_2 (i := 8) rfl) rfl⟩⟩
set_option maxRecDepth 20000 in
theorem yf_79 : YF 79 := ⟨mt_1 (i := 32) rfl, mt_1 (i := 11) rfl, rfl, by decide +kernel, Or.inr (Or.inr ⟨rfl, rfl, rfl, mt_1 (i := 31) rfl⟩)⟩
set_option maxRecDepth 20000 in
theorem yf_80 : YF 80 := ⟨mt_4 (i := 25) rfl, mt_1 (i := 11) rfl, rfl, by decide +kernel, Or.inl ⟨rfl, mt_4 (i := 23) rfl, fun _ => mt_4 (i := 24) rfl⟩⟩
set_option maxRecDepth 20000 in
theorem yf_81 : YF 81 := ⟨mt_4 (i := 37) rfl, mt_1 (i := 11) rfl, rfl, by decide +kernel, Or.inl ⟨rfl, mt_4 (i := 35) rfl, fun _ => mt_4 (i := 36) rfl⟩⟩
set_option maxRecDepth 20000 in
theorem yf_82 : YF 82 := ⟨mt_4 (i := 41) rfl, mt_1 (i := 11) rfl, rfl, by decide +kernel, Or.inl ⟨rfl, mt_4 (i := 40) rfl, fun _ => ms_w (ms_1 (i := 15) rfl) rfl⟩⟩
set_option maxRecDepth 20000 in
theorem yf_83 : YF 83 := ⟨mt_2 (i := 161) rfl, mt_1 (i := 11) rfl, rfl, by decide +kernel, Or.inl ⟨rfl, mt_2 (i := 159) rfl, fun _ => mt_2 (i := 160) rfl⟩⟩
set_option maxRecDepth 20000 in
theorem yf_84 : YF 84 := ⟨mt_3 (i := 110) rfl, mt_1 (i := 11) rfl, rfl, by decide +kernel, Or.inl ⟨rfl, mt_3 (i := 109) rfl, fun _ => ms_w (ms_1 (i := 6) rfl) rfl⟩⟩
set_option maxRecDepth 20000 in
theorem yf_85 : YF 85 := ⟨mt_3 (i := 0) rfl, mt_1 (i := 11) rfl, rfl, by decide +kernel, Or.inl ⟨rfl, mt_2 (i := 238) rfl, fun _ => mt_2 (i := 239) rfl⟩⟩
set_option maxRecDepth 20000 in
theorem yf_86 : YF 86 := ⟨mt_3 (i := 4) rfl, mt_1 (i := 11) rfl, rfl, by decide +kernel, Or.inl ⟨rfl, mt_3 (i := 3) rfl, fun _ => ms_w (ms_1 (i := 2) rfl) rfl⟩⟩
set_option maxRecDepth 20000 in
theorem yf_87 : YF 87 := ⟨mt_3 (i := 57) rfl, mt_1 (i := 11) rfl, rfl, by decide +kernel, Or.inl ⟨rfl, mt_3 (i := 56) rfl, fun _ => ms_w (ms_1 (i := 3) rfl) rfl⟩⟩
set_option maxRecDepth 20000 in
theorem yf_88 : YF 88 := ⟨mt_3 (i := 33) rfl, mt_1 (i := 11) rfl, rfl, by decide +kernel, Or.inl ⟨rfl, mt_3 (i := 31) rfl, fun _ => mt_3 (i := 32) rfl⟩⟩
set_option maxRecDepth 20000 in
theorem yf_89 : YF 89 := ⟨mt_3 (i := 53) rfl, mt_1 (i := 11) rfl, rfl, by decide +kernel, Or.inl ⟨rfl, mt_3 (i := 51) rfl, fun _ => mt_3 (i := 52) rfl⟩⟩
set_option maxRecDepth 20000 in
theorem yf_90 : YF 90 := ⟨mt_3 (i := 194) rfl, mt_1 (i := 11) rfl, rfl, by decide +kernel, Or.inl ⟨rfl, mt_3 (i := 193) rfl, fun _ => ms_w (ms_1 (i := 13) rfl) rfl⟩⟩
set_option maxRecDepth 20000 in
theorem yf_91 : YF 91 := ⟨mt_3 (i := 78) rfl, mt_1 (i := 11) rfl, rfl, by decide +kernel, Or.inl ⟨rfl, mt_3 (i := 76) rfl, fun _ => mt_3 (i := 77) rfl⟩⟩
set_option maxRecDepth 20000 in
theorem yf_92 : YF 92 := ⟨mt_3 (i := 94) rfl, mt_1 (i := 11) rfl, rfl, by decide +kernel, Or.inl ⟨rfl, mt_3 (i := 92) rfl, fun _ => mt_3 (i := 93) rfl⟩⟩
set_option maxRecDepth 20000 in
theorem yf_93 : YF 93 := ⟨mt_3 (i := 106) rfl, mt_1 (i := 11) rfl, rfl, by decide +kernel, Or.inl ⟨rfl, mt_3 (i := 104) rfl, fun _ => mt_3 (i := 105) rfl⟩⟩
set_option maxRecDepth 20000 in
theorem yf_94 : YF 94 := ⟨mt_3 (i := 161) rfl, mt_1 (i := 11) rfl, rfl, by decide +kernel, Or.inl ⟨rfl, mt_3 (i := 159) rfl, fun _ => mt_3 (i := 160) rfl⟩⟩
set_option maxRecDepth 20000 in
theorem yf_95 : YF 95 := ⟨mt_3 (i := 190) rfl, mt_1 (i := 11) rfl, rfl, by decide +kernel, Or.inl ⟨rfl, mt_3 (i := 188) rfl, fun _ => mt_3 (i := 189) rfl⟩⟩
set_option maxRecDepth 20000 in
theorem yf_96 : YF 96 := ⟨mt_3 (i := 206) rfl, mt_1 (i := 0) rfl, rfl, by decide +kernel, Or.inr (Or.inl ⟨rfl, mt_3 (i := 205) rfl⟩)⟩
set_option maxRecDepth 20000 in
theorem yf_97 : YF 97 := ⟨mt_3 (i := 209) rfl, mt_1 (i := 0) rfl, rfl, by decide +kernel, Or.inr (Or.inl ⟨rfl, mt_3 (i := 208) rfl⟩)⟩
set_option maxRecDepth 20000 in
theorem yf_98 : YF 98 := ⟨mt_3 (i := 213) rfl, mt_1 (i := 0) rfl, rfl, by decide +kernel, Or.inr (Or.inl ⟨rfl, mt_3 (i := 212) rfl⟩)⟩
set_option maxRecDepth 20000 in
theorem yf_99 : YF 99 := ⟨mt_4 (i := 209) rfl, mt_1 (i := 0) rfl, rfl, by decide +kernel, Or.inr (Or.inl ⟨rfl, mt_4 (i := 208) rfl⟩)⟩
set_option maxRecDepth 20000 in
theorem yf_100 : YF 100 := ⟨mt_4 (i := 212) rfl, mt_1 (i := 0) rfl, rfl, by decide +kernel, Or.inr (Or.inl ⟨rfl, mt_4 (i := 211) rfl⟩)⟩
set_option maxRecDepth 20000 in
theorem yf_101 : YF 101 := ⟨mt_4 (i := 220) rfl, mt_1 (i := 1) rfl, rfl, by decide +kernel, Or.inr (Or.inr ⟨rfl, rfl, rfl, mt_4 (i := 219) rfl⟩)⟩
set_option maxRecDepth 20000 in
theorem yf_102 : YF 102 := ⟨mt_5 (i := 143) rfl, mt_1 (i := 1) rfl, rfl, by decide +kernel, Or.inl ⟨rfl, mt_5 (i := 137) rfl, fun z => by cases z⟩⟩
set_option maxRecDepth 20000 in
theorem yf_103 : YF 103 := ⟨mt_5 (i := 13) rfl, mt_1 (i := 1) rfl, rfl, by decide +kernel, Or.inl ⟨rfl, mt_5 (i := 12) rfl, fun z => by cases z⟩⟩
set_option maxRecDepth 20000 in
theorem yf_104 : YF 104 := ⟨mt_5 (i := 17) rfl, mt_1 (i := 1) rfl, rfl, by decide +kernel, Or.inl ⟨rfl, mt_5 (i := 16) rfl, fun z => by cases z⟩⟩
set_option maxRecDepth 20000 in
theorem yf_105 : YF 105 := ⟨mt_5 (i := 5) rfl, mt_1 (i := 1) rfl, rfl, by decide +kernel, Or.inl ⟨rfl, mt_4 (i := 234) rfl, fun z => by cases z⟩⟩
set_option maxRecDepth 20000 in
theorem yf_106 : YF 106 := ⟨mt_5 (i := 111) rfl, mt_1 (i := 1) rfl, rfl, by decide +kernel, Or.inl ⟨rfl, mt_5 (i := 110) rfl, fun z => by cases z⟩⟩
set_option maxRecDepth 20000 in
theorem yf_107 : YF 107 := ⟨mt_5 (i := 135) rfl, mt_1 (i := 1) rfl, rfl, by decide +kernel, Or.inl ⟨rfl, mt_5 (i := 132) rfl, fun z => by cases z⟩⟩
set_option maxRecDepth 20000 in
theorem yf_108 : YF 108 := ⟨mt_5 (i := 42) rfl, mt_1 (i := 1) rfl, rfl, by decide +kernel, Or.inl ⟨rfl, mt_5 (i := 39) rfl, fun z => by cases z⟩⟩
set_option maxRecDepth 20000 in
theorem yf_109 : YF 109 := ⟨mt_5 (i := 66) rfl, mt_1 (i := 1) rfl, rfl, by decide +kernel, Or.inl ⟨rfl, mt_5 (i := 65) rfl, fun z => by cases z⟩⟩
set_option maxRecDepth 20000 in
theorem yf_110 : YF 110 := ⟨mt_5 (i := 62) rfl, mt_1 (i := 1) rfl, rfl, by decide +kernel, Or.inl ⟨rfl, mt_5 (i := 61) rfl, fun z => by cases z⟩⟩
set_option maxRecDepth 20000 in
theorem yf_111 : YF 111 := ⟨mt_5 (i := 126) rfl, mt_1 (i := 3) rfl, rfl, by decide +kernel, Or.inr (Or.inr ⟨rfl, rfl, rfl, mt_5 (i := 125) rfl⟩)⟩
set_option maxRecDepth 20000 in
theorem yf_112 : YF 112 := ⟨mt_3 (i := 217) rfl, mt_1 (i := 3) rfl, rfl, by decide +kernel, Or.inl ⟨rfl, mt_3 (i := 215) rfl, fun _ => mt_3 (i := 216) rfl⟩⟩
set_option maxRecDepth 20000 in
theorem yf_113 : YF 113 := ⟨mt_3 (i := 227) rfl, mt_1 (i := 3) rfl, rfl, by decide +kernel, Or.inl ⟨rfl, mt_3 (i := 225) rfl, fun _ => mt_3 (i := 226) rfl⟩⟩
set_option maxRecDepth 20000 in
theorem yf_114 : YF 114 := ⟨mt_5 (i := 129) rfl, mt_1 (i := 3) rfl, rfl, by decide +kernel, Or.inr (Or.inr ⟨rfl, rfl, rfl, mt_5 (i := 128) rfl⟩)⟩
set_option maxRecDepth 20000 in
theorem yf_115 : YF 115 := ⟨mt_3 (i := 221) rfl, mt_1 (i := 3) rfl, rfl, by decide +kernel, Or.inl ⟨rfl, mt_3 (i := 219) rfl, fun _ => mt_3 (i := 220) rfl⟩⟩
set_option maxRecDepth 20000 in
theorem yf_116 : YF 116 := ⟨mt_3 (i := 231) rfl, mt_1 (i := 3) rfl, rfl, by decide +kernel, Or.inl ⟨rfl, mt_3 (i := 229) rfl, fun _ => mt_3 (i := 230) rfl⟩⟩
set_option maxRecDepth 20000 in
theorem yf_117 : YF 117 := ⟨mt_4 (i := 217) rfl, mt_1 (i := 2) rfl, rfl, by decide +kernel, Or.inr (Or.inr ⟨rfl, rfl, rfl, mt_4 (i := 216) rfl⟩)⟩
set_option maxRecDepth 20000 in
theorem yf_118 : YF 118 := ⟨mt_5 (i := 2) rfl, mt_1 (i := 2) rfl, rfl, by decide +kernel, Or.inl ⟨rfl, mt_5 (i := 0) rfl, fun _ => mt_5 (i := 1) rfl⟩⟩
set_option maxRecDepth 20000 in
theorem yf_119 : YF 119 := ⟨mt_5 (i := 108) rfl, mt_1 (i := 2) rfl, rfl, by decide +kernel, Or.inl ⟨rfl, mt_5 (i := 106) rfl, fun _ => mt_5 (i := 107) rfl⟩⟩
set_option maxRecDepth 20000 in
theorem yf_120 : YF 120 := ⟨mt_5 (i := 121) rfl, mt_1 (i := 2) rfl, rfl, by decide +kernel, Or.inl ⟨rfl, mt_5 (i := 119) rfl, fun _ => mt_5 (i := 120) rfl⟩⟩
set_option maxRecDepth 20000 in
theorem yf_121 : YF 121 := ⟨mt_4 (i := 238) rfl, mt_1 (i := 2) rfl, rfl, by decide +kernel, Or.inl ⟨rfl, mt_4 (i := 237) rfl, fun z => by cases z⟩⟩
set_option maxRecDepth 20000 in
theorem yf_122 : YF 122 := ⟨mt_5 (i := 141) rfl, mt_1 (i := 2) rfl, rfl, by decide +kernel, Or.inl ⟨rfl, mt_5 (i := 140) rfl, fun z => by cases z⟩⟩
set_option maxRecDepth 20000 in
theorem yf_123 : YF 123 := ⟨mt_3 (i := 234) rfl, mt_1 (i := 10) rfl, rfl, by decide +kernel, Or.inr (Or.inl ⟨rfl, mt_3 (i := 233) rfl⟩)⟩
set_option maxRecDepth 20000 in
theorem yf_124 : YF 124 := ⟨mt_5 (i := 114) rfl, mt_1 (i := 10) rfl, rfl, by decide +kernel, Or.inr (Or.inl ⟨rfl, mt_5 (i := 113) rfl⟩)⟩
set_option maxRecDepth 20000 in
theorem yf_125 : YF 125 := ⟨mt_5 (i := 28) rfl, mt_1 (i := 7) rfl, rfl, by decide +kernel, Or.inr (Or.inl ⟨rfl, mt_5 (i := 27) rfl⟩)⟩
set_option maxRecDepth 20000 in
theorem yf_126 : YF 126 := ⟨mt_5 (i := 153) rfl, mt_1 (i := 7) rfl, rfl, by decide +kernel, Or.inr (Or.inl ⟨rfl, mt_5 (i := 152) rfl⟩)⟩
set_option maxRecDepth 20000 in
theorem yf_127 : YF 127 := ⟨mt_5 (i := 147) rfl, mt_1 (i := 7) rfl, rfl, by decide +kernel, Or.inr (Or.inl ⟨rfl, mt_5 (i := 146) rfl⟩)⟩
set_option maxRecDepth 20000 in
theorem yf_128 : YF 128 := ⟨mt_5 (i := 150) rfl, mt_1 (i := 7) rfl, rfl, by decide +kernel, Or.inr (Or.inl ⟨rfl, mt_5 (i := 149) rfl⟩)⟩
set_option maxRecDepth 20000 in
theorem yf_129 : YF 129 := ⟨mt_5 (i := 20) rfl, mt_1 (i := 5) rfl, rfl, by decide +kernel, Or.inr (Or.inl ⟨rfl, mt_5 (i := 19) rfl⟩)⟩
set_option maxRecDepth 20000 in
theorem yf_b0 : ∀ y ∈ List.range' 0 21, YF y := List.forall_mem_cons.mpr ⟨yf_0, List.forall_mem_cons.mpr ⟨yf_1, List.forall_mem_cons.mpr ⟨yf_2, List.forall_mem_cons.mpr ⟨yf_3, List.forall_mem_cons.mpr ⟨yf_4, List.forall_mem_cons.mpr ⟨yf_5, List.forall_mem_cons.mpr ⟨yf_6, List.forall_mem_cons.mpr ⟨yf_7, List.forall_mem_cons.mpr ⟨yf_8, List.forall_mem_cons.mpr ⟨yf_9, List.forall_mem_cons.mpr ⟨yf_10, List.forall_mem_cons.mpr ⟨yf_11, List.forall_mem_cons.mpr ⟨yf_12, List.forall_mem_cons.mpr ⟨yf_13, List.forall_mem_cons.mpr ⟨yf_14, List.forall_mem_cons.mpr ⟨yf_15, List.forall_mem_cons.mpr ⟨yf_16, List.forall_mem_cons.mpr ⟨yf_17, List.forall_mem_cons.mpr ⟨yf_18, List.forall_mem_cons.mpr ⟨yf_19, List.forall_mem_cons.mpr ⟨yf_20, fun _ h => absurd h List.not_mem_nil⟩⟩⟩⟩⟩⟩⟩⟩⟩⟩⟩⟩⟩⟩⟩⟩⟩⟩⟩⟩⟩
set_option maxRecDepth 20000 in
theorem yf_b1 : ∀ y ∈ List.range' 21 21, YF y := List.forall_mem_cons.mpr ⟨yf_21, List.forall_mem_cons.mpr ⟨yf_22, List.forall_mem_cons.mpr ⟨yf_23, List.forall_mem_cons.mpr ⟨yf_24, List.forall_mem_cons.mpr ⟨yf_25, List.forall_mem_cons.mpr ⟨yf_26, List.forall_mem_cons.mpr ⟨yf_27, List.forall_mem_cons.mpr ⟨yf_28, List.forall_mem_cons.mpr ⟨yf_29, List.forall_mem_cons.mpr ⟨yf_30, List.forall_mem_cons.mpr ⟨yf_31, List.forall_mem_cons.mpr ⟨yf_32, List.forall_mem_cons.mpr ⟨yf_33, List.forall_mem_cons.mpr ⟨yf_34, List.forall_mem_cons.mpr ⟨yf_35, List.forall_mem_cons.mpr ⟨yf_36, List.forall_mem_cons.mpr ⟨yf_37, List.forall_mem_cons.mpr ⟨yf_38, List.forall_mem_cons.mpr ⟨yf_39, List.forall_mem_cons.mpr ⟨yf_40, List.forall_mem_cons.mpr ⟨yf_41, fun _ h => absurd h List.not_mem_nil⟩⟩⟩⟩⟩⟩⟩⟩⟩⟩⟩⟩⟩⟩⟩⟩⟩⟩⟩⟩⟩
set_option maxRecDepth 20000 in
theorem yf_b2 : ∀ y ∈ List.range' 42 21, YF y := List.forall_mem_cons.mpr ⟨yf_42, List.forall_mem_cons.mpr ⟨yf_43, List.forall_mem_cons.mpr ⟨yf_44, List.forall_mem_cons.mpr ⟨yf_45, List.forall_mem_cons.mpr ⟨yf_46, List.forall_mem_cons.mpr ⟨yf_47, List.forall_mem_cons.mpr ⟨yf_48, List.forall_mem_cons.mpr ⟨yf_49, List.forall_mem_cons.mpr ⟨yf_50, List.forall_mem_cons.mpr ⟨yf_51, List.forall_mem_cons.mpr ⟨yf_52, List.forall_mem_cons.mpr ⟨yf_53, List.forall_mem_cons.mpr ⟨yf_54, List.forall_mem_cons.mpr ⟨yf_55, List.forall_mem_cons.mpr ⟨yf_56, List.forall_mem_cons.mpr ⟨yf_57, List.forall_mem_cons.mpr ⟨yf_58, List.forall_mem_cons.mpr ⟨yf_59, List.forall_mem_cons.mpr ⟨yf_60, List.forall_mem_cons.mpr ⟨yf_61, List.forall_mem_cons.mpr ⟨yf_62, fun _ h => absurd h List.not_mem_nil⟩⟩⟩⟩⟩⟩⟩⟩⟩⟩⟩⟩⟩⟩⟩⟩⟩⟩⟩⟩⟩
set_option maxRecDepth 20000 in
theorem yf_b3 : ∀ y ∈ List.range' 63 21, YF y := List.forall_mem_cons.mpr ⟨yf_63, List.forall_mem_cons.mpr ⟨yf_64, List.forall_mem_cons.mpr ⟨yf_65, List.forall_mem_cons.mpr ⟨yf_66, List.forall_mem_cons.mpr ⟨yf_67, List.forall_mem_cons.mpr ⟨yf_68, List.forall_mem_cons.mpr ⟨yf_69, List.forall_mem_cons.mpr ⟨yf_70, List.forall_mem_cons.mpr ⟨yf_71, List.forall_mem_cons.mpr ⟨yf_72, List.forall_mem_cons.mpr ⟨yf_73, List.forall_mem_cons.mpr ⟨yf_74, List.forall_mem_cons.mpr ⟨yf_75, List.forall_mem_cons.mpr ⟨yf_76, List.forall_mem_cons.mpr ⟨yf_77, List.forall_mem_cons.mpr ⟨yf_78, List.forall_mem_cons.mpr ⟨yf_79, List.forall_mem_cons.mpr ⟨yf_80, List.forall_mem_cons.mpr ⟨yf_81, List.forall_mem_cons.mpr ⟨yf_82, List.forall_mem_cons.mpr ⟨yf_83, fun _ h => absurd h List.not_mem_nil⟩⟩⟩⟩⟩⟩⟩⟩⟩⟩⟩⟩⟩⟩⟩⟩⟩⟩⟩⟩⟩
set_option maxRecDepth 20000 in
theorem yf_b4 : ∀ y ∈ List.range' 84 21, YF y := List.forall_mem_cons.mpr ⟨yf_84, List.forall_mem_cons.mpr ⟨yf_85, List.forall_mem_cons.mpr ⟨yf_86, List.forall_mem_cons.mpr ⟨yf_87, List.forall_mem_cons.mpr ⟨yf_88, List.forall_mem_cons.mpr ⟨yf_89, List.forall_mem_cons.mpr ⟨yf_90, List.forall_mem_cons.mpr ⟨yf_91, List.forall_mem_cons.mpr ⟨yf_92, List.forall_mem_cons.mpr ⟨yf_93, List.forall_mem_cons.mpr ⟨yf_94, List.forall_mem_cons.mpr ⟨yf_95, List.forall_mem_cons.mpr ⟨yf_96, List.forall_mem_cons.mpr ⟨yf_97, List.forall_mem_cons.mpr ⟨yf_98, List.forall_mem_cons.mpr ⟨yf_99, List.forall_mem_cons.mpr ⟨yf_100, List.forall_mem_cons.mpr ⟨yf_101, List.forall_mem_cons.mpr ⟨yf_102, List.forall_mem_cons.mpr ⟨yf_103, List.forall_mem_cons.mpr ⟨yf_104, fun _ h => absurd h List.not_mem_nil⟩⟩⟩⟩⟩⟩⟩⟩⟩⟩⟩⟩⟩⟩⟩⟩⟩⟩⟩⟩⟩
set_option maxRecDepth 20000 in
theorem yf_b5 : ∀ y ∈ List.range' 105 21, YF y := List.forall_mem_cons.mpr ⟨yf_105, List.forall_mem_cons.mpr ⟨yf_106, List.forall_mem_cons.mpr ⟨yf_107, List.forall_mem_cons.mpr ⟨yf_108, List.forall_mem_cons.mpr ⟨yf_109, List.forall_mem_cons.mpr ⟨yf_110, List.forall_mem_cons.mpr ⟨yf_111, List.forall_mem_cons.mpr ⟨yf_112, List.forall_mem_cons.mpr ⟨yf_113, List.forall_mem_cons.mpr ⟨yf_114, List.forall_mem_cons.mpr ⟨yf_115, List.forall_mem_cons.mpr ⟨yf_116, List.forall_mem_cons.mpr ⟨yf_117, List.forall_mem_cons.mpr ⟨yf_118, List.forall_mem_cons.mpr ⟨yf_119, List.forall_mem_cons.mpr ⟨yf_120, List.forall_mem_cons.mpr ⟨yf_121, List.forall_mem_cons.mpr ⟨yf_122, List.forall_mem_cons.mpr ⟨yf_123, List.forall_mem_cons.mpr ⟨yf_124, List.forall_mem_cons.mpr ⟨yf_125, fun _ h => absurd h List.not_mem_nil⟩⟩⟩⟩⟩⟩⟩⟩⟩⟩⟩⟩⟩⟩⟩⟩⟩⟩⟩⟩⟩
set_option maxRecDepth 20000 in
theorem yf_b6 : ∀ y ∈ List.range' 126 4, YF y := List.forall_mem_cons.mpr ⟨yf_126, List.forall_mem_cons.mpr ⟨yf_127, List.forall_mem_cons.mpr ⟨yf_128, List.forall_mem_cons.mpr ⟨yf_129, fun _ h => absurd h List.not_mem_nil⟩⟩⟩⟩
set_option maxRecDepth 20000 in
theorem yf_all (y : Nat) (h : y < 130) : YF y := by
  rcases Nat.lt_or_ge y 21 with h0 | h0
  · exact yf_b0 y (List.mem_range'_1.mpr ⟨Nat.zero_le _, by omega⟩)
  rcases Nat.lt_or_ge y 42 with h1 | h1
  · exact yf_b1 y (List.mem_range'_1.mpr ⟨h0, by omega⟩)
  rcases Nat.lt_or_ge y 63 with h2 | h2
  · exact yf_b2 y (List.mem_range'_1.mpr ⟨h1, by omega⟩)
  rcases Nat.lt_or_ge y 84 with h3 | h3
  · exact yf_b3 y (List.mem_range'_1.mpr ⟨h2, by omega⟩)
  rcases Nat.lt_or_ge y 105 with h4 | h4
  · exact yf_b4 y (List.mem_range'_1.mpr ⟨h3, by omega⟩)
  rcases Nat.lt_or_ge y 126 with h5 | h5
  · exact yf_b5 y (List.mem_range'_1.mpr ⟨h4, by omega⟩)
  rcases Nat.lt_or_ge y 130 with h6 | h6
  · exact yf_b6 y (List.mem_range'_1.mpr ⟨h5, by omega⟩)
  exact absurd h (by omega)
theorem pn_all (cx : Nat) (h : cx < 18) : plainName (cnm cx) = true ∧ cnm cx ≠ "java/lang/invoke/MethodHandle" ∧ cnm cx ≠ "java/lang/invoke/VarHandle" := by
  match cx, h with
  | 0, _ => exact ⟨by decide +kernel, by decide +kernel, by decide +kernel⟩
  | 1, _ => exact ⟨by decide +kernel, by decide +kernel, by decide +kernel⟩
  | 2, _ => exact ⟨by decide +kernel, by decide +kernel, by decide +kernel⟩
  | 3, _ => exact ⟨by decide +kernel, by decide +kernel, by decide +kernel⟩
  | 4, _ => exact ⟨by decide +kernel, by decide +kernel, by decide +kernel⟩
  | 5, _ => exact ⟨by decide +kernel, by decide +kernel, by decide +kernel⟩
  | 6, _ => exact ⟨by decide +kernel, by decide +kernel, by decide +kernel⟩
  | 7, _ => exact ⟨by decide +kernel, by decide +kernel, by decide +kernel⟩
  | 8, _ => exact ⟨by decide +kernel, by decide +kernel, by decide +kernel⟩
  | 9, _ => exact ⟨by decide +kernel, by decide +kernel, by decide +kernel⟩
  | 10, _ => exact ⟨by decide +kernel, by decide +kernel, by decide +kernel⟩
  | 11, _ => exact ⟨by decide +kernel, by decide +kernel, by decide +kernel⟩
  | 12, _ => exact ⟨by decide +kernel, by decide +kernel, by decide +kernel⟩
  | 13, _ => exact ⟨by decide +kernel, by decide +kernel, by decide +kernel⟩
  | 14, _ => exact ⟨by decide +kernel, by decide +kernel, by decide +kernel⟩
  | 15, _ => exact ⟨by decide +kernel, by decide +kernel, by decide +kernel⟩
  | 16, _ => exact ⟨by decide +kernel, by decide +kernel, by decide +kernel⟩
  | 17, _ => exact ⟨by decide +kernel, by decide +kernel, by decide +kernel⟩
  | n + 18, h => exact absurd h (by omega)
def tcF : FieldType → Nat
  | .int => 0
  | .byte => 1
  | .boolean => 1
  | .object _ => 2
  | .array _ => 2
  | _ => 9
def KF (ci : Nat) : Prop := (∀ w ∈ u_ws (cN9 ci) (cT9 ci) (cS9 ci), w ∈ lw_tbl) ∧ (∀ k, k < cS9 ci → parseFieldDescriptor (cT9 ci k).2.2.1 = some (tyf ci k)) ∧ (∀ a, a < cS9 ci → ∀ b, b < cS9 ci → a ≠ b → (cT9 ci a).2.1 ≠ (cT9 ci b).2.1) ∧ cS9 ci = fcn ci ∧ cN9 ci = cnm ci ∧ (∀ k, k < cS9 ci → tcF (tyf ci k) = ftc ci k ∧ ftc ci k < 3) ∧ cls9[ci]? = some (cN9 ci, cT9 ci, cS9 ci) ∧ (∀ k, k < cS9 ci → (cT9 ci k).2.2.2 = true → (cT9 ci k).1 = cN9 ci)
set_option maxRecDepth 20000 in
theorem kf_0 : KF 0 := ⟨List.forall_mem_cons.mpr ⟨mt_1 (i := 224) rfl, List.forall_mem_cons.mpr ⟨mt_1 (i := 226) rfl, List.forall_mem_cons.mpr ⟨mt_1 (i := 228) rfl, List.forall_mem_cons.mpr ⟨mt_1 (i := 230) rfl, List.forall_mem_cons.mpr ⟨mt_1 (i := 232) rfl, List.forall_mem_cons.mpr ⟨mt_1 (i := 234) rfl, fun _ h => absurd h List.not_mem_nil⟩⟩⟩⟩⟩⟩, by decide +kernel, by decide +kernel, rfl, rfl, by decide +kernel, rfl, by decide +kernel⟩
set_option maxRecDepth 20000 in
theorem kf_1 : KF 1 := ⟨List.forall_mem_cons.mpr ⟨mt_1 (i := 200) rfl, List.forall_mem_cons.mpr ⟨mt_1 (i := 202) rfl, List.forall_mem_cons.mpr ⟨mt_1 (i := 204) rfl, List.forall_mem_cons.mpr ⟨mt_1 (i := 206) rfl, List.forall_mem_cons.mpr ⟨mt_1 (i := 208) rfl, List.forall_mem_cons.mpr ⟨mt_1 (i := 210) rfl, List.forall_mem_cons.mpr ⟨mt_1 (i := 212) rfl, List.forall_mem_cons.mpr ⟨mt_1 (i := 214) rfl, fun _ h => absurd h List.not_mem_nil⟩⟩⟩⟩⟩⟩⟩⟩, by decide +kernel, by decide +kernel, rfl, rfl, by decide +kernel, rfl, by decide +kernel⟩
set_option maxRecDepth 20000 in
theorem kf_2 : KF 2 := ⟨List.forall_mem_cons.mpr ⟨mt_1 (i := 55) rfl, List.forall_mem_cons.mpr ⟨mt_1 (i := 57) rfl, List.forall_mem_cons.mpr ⟨mt_1 (i := 59) rfl, List.forall_mem_cons.mpr ⟨mt_1 (i := 61) rfl, List.forall_mem_cons.mpr ⟨mt_1 (i := 63) rfl, List.forall_mem_cons.mpr ⟨mt_1 (i := 65) rfl, List.forall_mem_cons.mpr ⟨mt_1 (i := 67) rfl, List.forall_mem_cons.mpr ⟨mt_1 (i := 69) rfl, fun _ h => absurd h List.not_mem_nil⟩⟩⟩⟩⟩⟩⟩⟩, by decide +kernel, by decide +kernel, rfl, rfl, by decide +kernel, rfl, by decide +kernel⟩
set_option maxRecDepth 20000 in
theorem kf_3 : KF 3 := ⟨List.forall_mem_cons.mpr ⟨mt_1 (i := 144) rfl, List.forall_mem_cons.mpr ⟨mt_1 (i := 146) rfl, List.forall_mem_cons.mpr ⟨mt_1 (i := 148) rfl, List.forall_mem_cons.mpr ⟨mt_1 (i := 150) rfl, List.forall_mem_cons.mpr ⟨mt_1 (i := 152) rfl, List.forall_mem_cons.mpr ⟨mt_1 (i := 154) rfl, List.forall_mem_cons.mpr ⟨mt_1 (i := 156) rfl, List.forall_mem_cons.mpr ⟨mt_1 (i := 158) rfl, List.forall_mem_cons.mpr ⟨mt_1 (i := 160) rfl, List.forall_mem_cons.mpr ⟨mt_1 (i := 162) rfl, List.forall_mem_cons.mpr ⟨mt_1 (i := 164) rfl, List.forall_mem_cons.mpr ⟨mt_1 (i := 166) rfl, List.forall_mem_cons.mpr ⟨mt_1 (i := 168) rfl, List.forall_mem_cons.mpr ⟨mt_1 (i := 170) rfl, List.forall_mem_cons.mpr ⟨mt_1 (i := 172) rfl, fun _ h => absurd h List.not_mem_nil⟩⟩⟩⟩⟩⟩⟩⟩⟩⟩⟩⟩⟩⟩⟩, by decide +kernel, by decide +kernel, rfl, rfl, by decide +kernel, rfl, by decide +kernel⟩
set_option maxRecDepth 20000 in
theorem kf_4 : KF 4 := ⟨List.forall_mem_cons.mpr ⟨mt_2 (i := 101) rfl, List.forall_mem_cons.mpr ⟨mt_2 (i := 103) rfl, List.forall_mem_cons.mpr ⟨mt_2 (i := 105) rfl, fun _ h => absurd h List.not_mem_nil⟩⟩⟩, by decide +kernel, by decide +kernel, rfl, rfl, by decide +kernel, rfl, by decide +kernel⟩
set_option maxRecDepth 20000 in
theorem kf_5 : KF 5 := ⟨List.forall_mem_cons.mpr ⟨mt_2 (i := 52) rfl, List.forall_mem_cons.mpr ⟨mt_2 (i := 54) rfl, List.forall_mem_cons.mpr ⟨mt_2 (i := 56) rfl, List.forall_mem_cons.mpr ⟨mt_2 (i := 58) rfl, List.forall_mem_cons.mpr ⟨mt_2 (i := 60) rfl, fun _ h => absurd h List.not_mem_nil⟩⟩⟩⟩⟩, by decide +kernel, by decide +kernel, rfl, rfl, by decide +kernel, rfl, by decide +kernel⟩
set_option maxRecDepth 20000 in
theorem kf_6 : KF 6 := ⟨List.forall_mem_cons.mpr ⟨mt_2 (i := 78) rfl, List.forall_mem_cons.mpr ⟨mt_2 (i := 80) rfl, List.forall_mem_cons.mpr ⟨mt_2 (i := 82) rfl, List.forall_mem_cons.mpr ⟨mt_2 (i := 84) rfl, List.forall_mem_cons.mpr ⟨mt_2 (i := 86) rfl, fun _ h => absurd h List.not_mem_nil⟩⟩⟩⟩⟩, by decide +kernel, by decide +kernel, rfl, rfl, by decide +kernel, rfl, by decide +kernel⟩
set_option maxRecDepth 20000 in
theorem kf_7 : KF 7 := ⟨List.forall_mem_cons.mpr ⟨mt_2 (i := 30) rfl, List.forall_mem_cons.mpr ⟨mt_2 (i := 32) rfl, List.forall_mem_cons.mpr ⟨mt_2 (i := 34) rfl, List.forall_mem_cons.mpr ⟨mt_2 (i := 36) rfl, List.forall_mem_cons.mpr ⟨mt_2 (i := 38) rfl, fun _ h => absurd h List.not_mem_nil⟩⟩⟩⟩⟩, by decide +kernel, by decide +kernel, rfl, rfl, by decide +kernel, rfl, by decide +kernel⟩
set_option maxRecDepth 20000 in
theorem kf_8 : KF 8 := ⟨List.forall_mem_cons.mpr ⟨mt_1 (i := 93) rfl, List.forall_mem_cons.mpr ⟨mt_1 (i := 95) rfl, List.forall_mem_cons.mpr ⟨mt_1 (i := 97) rfl, List.forall_mem_cons.mpr ⟨mt_1 (i := 99) rfl, List.forall_mem_cons.mpr ⟨mt_1 (i := 101) rfl, fun _ h => absurd h List.not_mem_nil⟩⟩⟩⟩⟩, by decide +kernel, by decide +kernel, rfl, rfl, by decide +kernel, rfl, by decide +kernel⟩
set_option maxRecDepth 20000 in
theorem kf_9 : KF 9 := ⟨List.forall_mem_cons.mpr ⟨mt_2 (i := 8) rfl, List.forall_mem_cons.mpr ⟨mt_2 (i := 10) rfl, List.forall_mem_cons.mpr ⟨mt_2 (i := 12) rfl, fun _ h => absurd h List.not_mem_nil⟩⟩⟩, by decide +kernel, by decide +kernel, rfl, rfl, by decide +kernel, rfl, by decide +kernel⟩
set_option maxRecDepth 20000 in
theorem kf_10 : KF 10 := ⟨List.forall_mem_cons.mpr ⟨mt_2 (i := 135) rfl, List.forall_mem_cons.mpr ⟨mt_2 (i := 137) rfl, List.forall_mem_cons.mpr ⟨mt_2 (i := 139) rfl, List.forall_mem_cons.mpr ⟨mt_2 (i := 141) rfl, List.forall_mem_cons.mpr ⟨mt_2 (i := 143) rfl, List.forall_mem_cons.mpr ⟨mt_2 (i := 145) rfl, List.forall_mem_cons.mpr ⟨mt_2 (i := 147) rfl, List.forall_mem_cons.mpr ⟨mt_2 (i := 149) rfl, List.forall_mem_cons.mpr ⟨mt_2 (i := 151) rfl, List.forall_mem_cons.mpr ⟨mt_2 (i := 153) rfl, List.forall_mem_cons.mpr ⟨mt_2 (i := 155) rfl, fun _ h => absurd h List.not_mem_nil⟩⟩⟩⟩⟩⟩⟩⟩⟩⟩⟩, by decide +kernel, by decide +kernel, rfl, rfl, by decide +kernel, rfl, by decide +kernel⟩
set_option maxRecDepth 20000 in
theorem kf_11 : KF 11 := ⟨List.forall_mem_cons.mpr ⟨mt_5 (i := 96) rfl, List.forall_mem_cons.mpr ⟨mt_5 (i := 98) rfl, List.forall_mem_cons.mpr ⟨mt_5 (i := 100) rfl, List.forall_mem_cons.mpr ⟨mt_5 (i := 102) rfl, fun _ h => absurd h List.not_mem_nil⟩⟩⟩⟩, by decide +kernel, by decide +kernel, rfl, rfl, by decide +kernel, rfl, by decide +kernel⟩
set_option maxRecDepth 20000 in
theorem kf_12 : KF 12 := ⟨List.forall_mem_cons.mpr ⟨mt_5 (i := 166) rfl, List.forall_mem_cons.mpr ⟨mt_5 (i := 168) rfl, List.forall_mem_cons.mpr ⟨mt_5 (i := 170) rfl, List.forall_mem_cons.mpr ⟨mt_5 (i := 172) rfl, fun _ h => absurd h List.not_mem_nil⟩⟩⟩⟩, by decide +kernel, by decide +kernel, rfl, rfl, by decide +kernel, rfl, by decide +kernel⟩
set_option maxRecDepth 20000 in
theorem kf_all (ci : Nat) (h : ci < 13) : KF ci := by
  match ci, h with
  | 0, _ => exact kf_0
  | 1, _ => exact kf_1
  | 2, _ => exact kf_2
  | 3, _ => exact kf_3
  | 4, _ => exact kf_4
  | 5, _ => exact kf_5
  | 6, _ => exact kf_6
  | 7, _ => exact kf_7
  | 8, _ => exact kf_8
  | 9, _ => exact kf_9
  | 10, _ => exact kf_10
  | 11, _ => exact kf_11
  | 12, _ => exact kf_12
