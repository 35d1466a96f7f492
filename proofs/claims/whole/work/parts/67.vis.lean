/-! PLACES THAT CAN BE SEEN: the least set; each has one origin -/
def vol (D : Nat → Nat → Int32) (r : Nat) : Nat := (D 8 r).toNatClampNeg
def plc (p : Nat × Int32) : Nat := 12 * p.1 + p.2.toNatClampNeg
/-- the directories in a place's one, below e -/
def innU (D : Nat → Nat → Int32) (z e : Nat) : List Nat := ((List.range e).filter (fun e' => decide (D 5 (vol D (z / 12) * 12 + e') = nI (z % 12)))).map (fun e' => 12 * (z / 12) + e')
def inn (D : Nat → Nat → Int32) (z : Nat) : List Nat := innU D z (nS D (vol D (z / 12)))
def arr (D : Nat → Nat → Int32) (q : Nat) : Nat := plc (dnD D (q / 12) (nI (q % 12)))
def VZ (D : Nat → Nat → Int32) (z : Nat) : Prop := z / 12 < nR D ∧ hasD D (z / 12) (nI (z % 12)) = true
def scl (D : Nat → Nat → Int32) (S : Nat → Prop) : Prop := ∀ z, VZ D z → S z → ∀ q ∈ inn D z, S (arr D q)
def Vis (D : Nat → Nat → Int32) (s z : Nat) : Prop := ∀ S : Nat → Prop, S s → scl D S → S z
noncomputable def visB (D : Nat → Nat → Int32) (s z : Nat) : Bool := @decide (Vis D s z) (Classical.propDecidable _)
theorem visB_iff {D : Nat → Nat → Int32} {s z : Nat} : visB D s z = true ↔ Vis D s z := by
  unfold visB
  exact @decide_eq_true_iff _ (Classical.propDecidable _)
noncomputable def visN (D : Nat → Nat → Int32) (s : Nat) : Nat := cntF (visB D s) 480
theorem Vis.st {D : Nat → Nat → Int32} {s z q : Nat} (h : Vis D s z) (hz : VZ D z) (hq : q ∈ inn D z) : Vis D s (arr D q) := fun S h1 h2 => h2 z hz (h S h1 h2) q hq
theorem nd_map {f : Nat → Nat} : ∀ l : List Nat, l.Nodup → (∀ x ∈ l, ∀ y ∈ l, f x = f y → x = y) → (l.map f).Nodup := by
  intro l
  induction l with
  | nil => intro _ _; exact List.nodup_nil
  | cons a r ih =>
    intro h1 h2
    obtain ⟨g1, g2⟩ := List.nodup_cons.mp h1
    rw [List.map_cons]
    refine List.nodup_cons.mpr ⟨fun hm => ?_, ih g2 (fun x hx y hy e => h2 x (List.mem_cons_of_mem _ hx) y (List.mem_cons_of_mem _ hy) e)⟩
    obtain ⟨y, y1, y2⟩ := List.mem_map.mp hm
    have := h2 a List.mem_cons_self y (List.mem_cons_of_mem _ y1) y2.symm
    exact g1 (this ▸ y1)
section VI
variable {D : Nat → Nat → Int32} {M B : Nat}
/-- a directory's fuel -/
theorem blw_fuel {ou : Nat → Int32} {t : Int32} {sz : Nat} (ho : ∀ e, e < sz → ou e = -nI 1 ∨ ∃ o, o < e ∧ ou e = nI o) (s12 : sz ≤ 12) : ∀ f f' e, e < f → e < f' → e < sz → blw ou t f (nI e) = blw ou t f' (nI e) := by
  intro f
  induction f with
  | zero => intro f' e h; omega
  | succ f ih =>
    intro f' e h1 h2 h3
    obtain ⟨f', rfl⟩ : ∃ z, f' = z + 1 := ⟨f' - 1, by omega⟩
    unfold blw
    rw [if_neg (nI_nn (by omega)), if_neg (nI_nn (by omega))]
    by_cases he : nI e = t
    · rw [if_pos he, if_pos he]
    · rw [if_neg he, if_neg he, nI_clamp (by omega)]
      rcases ho e h3 with q | ⟨o, o1, o2⟩
      · rw [q, blw_neg, blw_neg]
      · rw [o2]; exact ih f' o (by omega) (by omega) (by omega)
theorem blw_le {ou : Nat → Int32} {t sz : Nat} (ho : ∀ e, e < sz → ou e = -nI 1 ∨ ∃ o, o < e ∧ ou e = nI o) (s12 : sz ≤ 12) (t12 : t < 12) : ∀ f e, e < sz → blw ou (nI t) f (nI e) = true → t ≤ e := by
  intro f
  induction f with
  | zero => intro e _ h; cases h
  | succ f ih =>
    intro e h1 h
    unfold blw at h
    rw [if_neg (nI_nn (by omega))] at h
    by_cases he : nI e = nI t
    · rw [nI_eq (by omega) (by omega)] at he; omega
    · rw [if_neg he, nI_clamp (by omega)] at h
      rcases ho e h1 with q | ⟨o, o1, o2⟩
      · rw [q, blw_neg] at h; cases h
      · rw [o2] at h; have := ih o (by omega) h; omega
/-- a row's volume -/
theorem volK (cw : CW D M) {r : Nat} (hr : r < nR D) : vol D r < nV D ∧ vol D r < 4 ∧ D 8 r = nI (vol D r) ∧ D 3 (vol D r) = nI (nS D (vol D r)) ∧ 1 ≤ nS D (vol D r) ∧ nS D (vol D r) ≤ 12 ∧ D 5 (vol D r * 12) = -nI 1 ∧ ∀ e, e < nS D (vol D r) → e ≠ 0 → ∃ o, o < e ∧ D 5 (vol D r * 12 + e) = nI o := by
  obtain ⟨⟨v, hv, h8⟩, -⟩ := cw.2.2.2 r hr
  have v4 := cw.2.1.2.1
  have e : vol D r = v := by unfold vol; rw [h8, nI_clamp (by omega)]
  rw [e]
  exact ⟨hv, by omega, h8, cw.2.1.2.2 v hv⟩
theorem volO (cw : CW D M) {r : Nat} (hr : r < nR D) : ∀ e, e < nS D (vol D r) → D 5 (vol D r * 12 + e) = -nI 1 ∨ ∃ o, o < e ∧ D 5 (vol D r * 12 + e) = nI o := fun e he => by
  obtain ⟨-, -, -, -, -, -, k7, k8⟩ := volK cw hr
  by_cases h0 : e = 0
  · subst h0; exact Or.inl k7
  · exact Or.inr (k8 e he h0)
theorem hasD_eq {r : Nat} {dd : Int32} : hasD D r dd = blw (fun e => D 5 (vol D r * 12 + e)) (D 9 r) 12 (if dd < D 3 (vol D r) then dd else -nI 1) := rfl
theorem hasD_nat (cw : CW D M) {r : Nat} {dd : Int32} (hr : r < nR D) (h : hasD D r dd = true) : ∃ e, e < nS D (vol D r) ∧ dd = nI e := by
  obtain ⟨k1, k2, k3, k4, k5, k6, -⟩ := volK cw hr
  obtain ⟨h1, h2⟩ := hasD_lt h
  obtain ⟨e, he, rfl⟩ := nI_of (show ¬ dd < 0 from h2)
  refine ⟨e, ?_, rfl⟩
  have h3 : nI e < D 3 (vol D r) := h1
  rw [k4, nI_ltI he (by omega)] at h3
  exact h3
theorem topK (cw : CW D M) (P : PIN D) {r : Nat} (hr : r < nR D) : ∃ t, t < nS D (vol D r) ∧ D 9 r = nI t := hasD_nat cw hr (P r hr).1
theorem VZ_of (cw : CW D M) {r : Nat} {dd : Int32} (hr : r < nR D) (h : hasD D r dd = true) : VZ D (plc (r, dd)) ∧ plc (r, dd) / 12 = r ∧ nI (plc (r, dd) % 12) = dd ∧ plc (r, dd) < 480 := by
  obtain ⟨e, he, rfl⟩ := hasD_nat cw hr h
  obtain ⟨-, -, -, -, -, k6, -⟩ := volK cw hr
  have n40 := cw.1.2
  have h1 : plc (r, nI e) = 12 * r + e := by unfold plc; dsimp only; rw [nI_clamp (by omega)]
  have h2 : plc (r, nI e) / 12 = r := by rw [h1]; omega
  have h3 : plc (r, nI e) % 12 = e := by rw [h1]; omega
  refine ⟨?_, h2, by rw [h3], by rw [h1]; omega⟩
  unfold VZ
  rw [h2, h3]; exact ⟨hr, h⟩
theorem VZ.lt (cw : CW D M) {z : Nat} (h : VZ D z) : z < 480 ∧ z % 12 < nS D (vol D (z / 12)) := by
  have n40 := cw.1.2
  obtain ⟨h1, h2⟩ := h
  obtain ⟨e, he, h3⟩ := hasD_nat cw h1 h2
  obtain ⟨-, -, -, -, -, k6, -⟩ := volK cw h1
  rw [nI_eq (by omega) (by omega)] at h3
  exact ⟨by omega, by omega⟩
theorem inn_mem {z e q : Nat} : q ∈ innU D z e ↔ ∃ e', e' < e ∧ D 5 (vol D (z / 12) * 12 + e') = nI (z % 12) ∧ q = 12 * (z / 12) + e' := by
  unfold innU
  rw [List.mem_map]
  refine ⟨fun ⟨e', h1, h2⟩ => ?_, fun ⟨e', h1, h2, h3⟩ => ⟨e', List.mem_filter.mpr ⟨List.mem_range.mpr h1, decide_eq_true h2⟩, h3.symm⟩⟩
  obtain ⟨h3, h4⟩ := List.mem_filter.mp h1
  exact ⟨e', List.mem_range.mp h3, of_decide_eq_true h4, h2.symm⟩
theorem innU_s {z e : Nat} : innU D z (e + 1) = if D 5 (vol D (z / 12) * 12 + e) = nI (z % 12) then innU D z e ++ [12 * (z / 12) + e] else innU D z e := by
  unfold innU
  rw [List.range_succ, List.filter_append]
  by_cases h : D 5 (vol D (z / 12) * 12 + e) = nI (z % 12)
  · rw [if_pos h]; simp [h]
  · rw [if_neg h]; simp [h]
/-- what is in a place's directory -/
theorem inn_K (cw : CW D M) (P : PIN D) {z q : Nat} (hz : VZ D z) (hq : q ∈ inn D z) : q / 12 = z / 12 ∧ z % 12 < q % 12 ∧ q % 12 < nS D (vol D (z / 12)) ∧ hasD D (z / 12) (nI (q % 12)) = true ∧ ¬ nI (q % 12) = D 9 (z / 12) ∧ D 5 (vol D (z / 12) * 12 + q % 12) = nI (z % 12) := by
  obtain ⟨z1, z2⟩ := hz
  obtain ⟨k1, k2, k3, k4, k5, k6, k7, k8⟩ := volK cw z1
  have ho := volO cw z1
  obtain ⟨e, he, h5, rfl⟩ := inn_mem.mp hq
  have e1 : (12 * (z / 12) + e) / 12 = z / 12 := by omega
  have e2 : (12 * (z / 12) + e) % 12 = e := by omega
  rw [e1, e2]
  have hlt : z % 12 < e := by
    rcases ho e he with w | ⟨o, o1, o2⟩
    · rw [w] at h5; exact absurd h5.symm (nI_ne1 (by omega))
    · rw [o2, nI_eq (by omega) (by omega)] at h5; omega
  have ha : hasD D (z / 12) (nI e) = true := by
    rw [hasD_eq] at z2 ⊢
    rw [k4] at z2 ⊢
    rw [if_pos ((nI_ltI (by omega) (by omega)).mpr (by omega))] at z2
    rw [if_pos ((nI_ltI (by omega) (by omega)).mpr he)]
    unfold blw
    rw [if_neg (nI_nn (by omega))]
    by_cases h9 : nI e = D 9 (z / 12)
    · rw [if_pos h9]
    · rw [if_neg h9, nI_clamp (by omega)]
      show blw (fun e => D 5 (vol D (z / 12) * 12 + e)) (D 9 (z / 12)) 11 (D 5 (vol D (z / 12) * 12 + e)) = true
      rw [h5, ← z2]
      exact blw_fuel ho k6 11 12 _ (by omega) (by omega) (by omega)
  refine ⟨rfl, hlt, he, ha, fun h9 => ?_, h5⟩
  obtain ⟨t, t1, t2⟩ := topK cw P z1
  rw [t2, nI_eq (by omega) (by omega)] at h9
  rw [hasD_eq, k4, if_pos ((nI_ltI (by omega) (by omega)).mpr (by omega)), t2] at z2
  have := blw_le ho k6 (by omega) 12 _ (by omega) z2
  omega
theorem inn_nd {z e : Nat} : (innU D z e).Nodup := by
  unfold innU
  exact nd_map _ (List.nodup_range.sublist List.filter_sublist) (fun a _ b _ h => by omega)
/-- steps down -/
def stD (D : Nat → Nat → Int32) (p : Nat × Int32) : Option (Nat × Int32) := match onP D p.1 p.2 with
  | none => none
  | some o => some (o, D 9 o)
def itD (D : Nat → Nat → Int32) : Nat → Nat × Int32 → Option (Nat × Int32)
  | 0, p => some p
  | n + 1, p => match stD D p with
    | none => none
    | some q => itD D n q
theorem dn_it : ∀ f r dd, ∃ n, itD D n (r, dd) = some (dn D f r dd) := by
  intro f
  induction f with
  | zero => intro r dd; exact ⟨0, rfl⟩
  | succ f ih =>
    intro r dd
    unfold dn
    cases ho : onP D r dd with
    | none => exact ⟨0, rfl⟩
    | some o =>
      obtain ⟨n, hn⟩ := ih o (D 9 o)
      refine ⟨n + 1, ?_⟩
      unfold itD stD
      dsimp only
      rw [ho]
      exact hn
theorem it_snoc : ∀ n p z, itD D (n + 1) p = some z → ∃ y, itD D n p = some y ∧ stD D y = some z := by
  intro n
  induction n with
  | zero =>
    intro p z h
    refine ⟨p, rfl, ?_⟩
    unfold itD at h
    cases hs : stD D p with
    | none => rw [hs] at h; cases h
    | some q => rw [hs] at h; exact h
  | succ n ih =>
    intro p z h
    unfold itD at h
    cases hs : stD D p with
    | none => rw [hs] at h; cases h
    | some q =>
      rw [hs] at h
      obtain ⟨y, h1, h2⟩ := ih q z h
      refine ⟨y, ?_, h2⟩
      unfold itD
      rw [hs]
      exact h1
theorem st_K {p z : Nat × Int32} (h : stD D p = some z) : z.1 < nR D ∧ D 10 z.1 = D 6 p.1 ∧ D 11 z.1 = p.2 ∧ z.2 = D 9 z.1 := by
  unfold stD at h
  cases ho : onP D p.1 p.2 with
  | none => rw [ho] at h; cases h
  | some o =>
    rw [ho] at h
    cases h
    obtain ⟨h1, h2, h3⟩ := onP_on ho
    exact ⟨h1, h2, h3, rfl⟩
theorem it_row : ∀ n p z, p.1 < nR D → itD D n p = some z → z.1 < nR D := by
  intro n p z hp h
  cases n with
  | zero => cases h; exact hp
  | succ n =>
    obtain ⟨y, -, h2⟩ := it_snoc n p z h
    exact (st_K h2).1
/-- nothing comes to it from above -/
def RAW (D : Nat → Nat → Int32) (p : Nat × Int32) : Prop := p.1 < nR D ∧ (p.2 = D 9 p.1 → D 10 p.1 = -nI 1)
theorem it_inj (cw : CW D M) : ∀ n m x y z, itD D n x = some z → itD D m y = some z → RAW D x → RAW D y → x = y := by
  have bad : ∀ {w x}, w.1 < nR D → stD D w = some x → RAW D x → False := fun {w x} hw h hx => by
    obtain ⟨h1, h2, h3, h4⟩ := st_K h
    have := hx.2 h4
    rw [this] at h2
    exact num_ne cw hw h2.symm
  intro n
  induction n with
  | zero =>
    intro m x y z hx hy rx ry
    cases hx
    cases m with
    | zero => cases hy; rfl
    | succ m =>
      obtain ⟨w, w1, w2⟩ := it_snoc m y x hy
      exact (bad (it_row m y w ry.1 w1) w2 rx).elim
  | succ n ih =>
    intro m x y z hx hy rx ry
    obtain ⟨w, w1, w2⟩ := it_snoc n x z hx
    have wr := it_row n x w rx.1 w1
    cases m with
    | zero => cases hy; exact (bad wr w2 ry).elim
    | succ m =>
      obtain ⟨u, u1, u2⟩ := it_snoc m y z hy
      have ur := it_row m y u ry.1 u1
      obtain ⟨a1, a2, a3, a4⟩ := st_K w2
      obtain ⟨b1, b2, b3, b4⟩ := st_K u2
      have e1 : w.1 = u.1 := cw.2.2.1.uq cw.1.2 wr ur (a2.symm.trans b2)
      have e2 : w.2 = u.2 := a3.symm.trans b3
      have e : w = u := Prod.ext e1 e2
      rw [e] at w1
      exact ih m x y u w1 u1 rx ry
theorem dnD_inj (cw : CW D M) {x y : Nat × Int32} (rx : RAW D x) (ry : RAW D y) (h : dnD D x.1 x.2 = dnD D y.1 y.2) : x = y := by
  obtain ⟨n, hn⟩ := dn_it (D := D) 40 x.1 x.2
  obtain ⟨m, hm⟩ := dn_it (D := D) 40 y.1 y.2
  rw [show dn D 40 x.1 x.2 = dnD D x.1 x.2 from rfl, h] at hn
  exact it_inj cw n m x y _ hn hm rx ry
theorem dn_has (P : PIN D) : ∀ f r dd, r < nR D → hasD D r dd = true → (dn D f r dd).1 < nR D ∧ hasD D (dn D f r dd).1 (dn D f r dd).2 = true := by
  intro f
  induction f with
  | zero => intro r dd h1 h2; exact ⟨h1, h2⟩
  | succ f ih =>
    intro r dd h1 h2
    unfold dn
    cases ho : onP D r dd with
    | none => exact ⟨h1, h2⟩
    | some o => exact ih o _ (onP_on ho).1 (P o (onP_on ho).1).1
theorem dn_fin (rk : RNK D) : ∀ r dd, r < nR D → nR D ≤ 40 → onP D (dnD D r dd).1 (dnD D r dd).2 = none := by
  intro r dd hr n40
  obtain ⟨rk, hrk⟩ := rk
  have loop : ∀ f z e (L : List Nat), L.length + f = 40 → L.Nodup → (∀ y ∈ L, y < nR D ∧ rk y < rk z) → z < nR D → onP D (dn D f z e).1 (dn D f z e).2 = none := by
    intro f
    induction f with
    | zero =>
      intro z e L hL hd hl hz
      have := nodup_len (nR D) (z :: L) (List.nodup_cons.mpr ⟨fun hm => Nat.lt_irrefl _ (hl z hm).2, hd⟩) (fun y hy => by
        rcases List.mem_cons.mp hy with q | q
        · rw [q]; exact hz
        · exact (hl y q).1)
      rw [List.length_cons] at this
      omega
    | succ f ih =>
      intro z e L hL hd hl hz
      unfold dn
      cases ho : onP D z e with
      | none => exact ho
      | some o =>
        obtain ⟨o1, o2, o3⟩ := onP_on ho
        refine ih o (D 9 o) (z :: L) (by rw [List.length_cons]; omega) (List.nodup_cons.mpr ⟨fun hm => Nat.lt_irrefl _ (hl z hm).2, hd⟩) (fun y hy => ?_) o1
        have hzo := hrk o z o1 hz o2
        rcases List.mem_cons.mp hy with q | q
        · rw [q]; exact ⟨hz, hzo⟩
        · exact ⟨(hl y q).1, Nat.lt_trans (hl y q).2 hzo⟩
  exact loop 40 r dd [] rfl List.nodup_nil (fun y hy => nomatch hy) hr
theorem dn_stay {r : Nat} {dd : Int32} (h : onP D r dd = none) : dnD D r dd = (r, dd) := by
  show dn D 40 r dd = _
  unfold dn
  rw [h]
theorem arr_VZ (cw : CW D M) (P : PIN D) {z q : Nat} (hz : VZ D z) (hq : q ∈ inn D z) : VZ D (arr D q) ∧ arr D q / 12 = (dnD D (z / 12) (nI (q % 12))).1 ∧ nI (arr D q % 12) = (dnD D (z / 12) (nI (q % 12))).2 ∧ arr D q < 480 := by
  obtain ⟨h1, h2, h3, h4, h5, h6⟩ := inn_K cw P hz hq
  obtain ⟨g1, g2⟩ := dn_has P 40 (z / 12) (nI (q % 12)) hz.1 h4
  have := VZ_of cw g1 g2
  unfold arr
  rw [h1]
  exact this
/-- two lists' places are apart -/
theorem arr_inj (cw : CW D M) (P : PIN D) {z z2 q q2 : Nat} (hz : VZ D z) (hq : q ∈ inn D z) (hz2 : VZ D z2) (hq2 : q2 ∈ inn D z2) (e : arr D q = arr D q2) : q = q2 := by
  obtain ⟨h1, h2, h3, h4, h5, h6⟩ := inn_K cw P hz hq
  obtain ⟨g1, g2, g3, g4, g5, g6⟩ := inn_K cw P hz2 hq2
  obtain ⟨-, a2, a3, -⟩ := arr_VZ cw P hz hq
  obtain ⟨-, b2, b3, -⟩ := arr_VZ cw P hz2 hq2
  have k6 := (volK cw hz.1).2.2.2.2.2.1
  have k6' := (volK cw hz2.1).2.2.2.2.2.1
  have := dnD_inj cw (x := (z / 12, nI (q % 12))) (y := (z2 / 12, nI (q2 % 12))) ⟨hz.1, fun w => absurd w h5⟩ ⟨hz2.1, fun w => absurd w g5⟩ (Prod.ext (by rw [← a2, ← b2, e]) (by rw [← a3, ← b3, e]))
  have e1 : z / 12 = z2 / 12 := congrArg Prod.fst this
  have e2 : nI (q % 12) = nI (q2 % 12) := congrArg Prod.snd this
  rw [nI_eq (by omega) (by omega)] at e2
  omega
theorem arr_root (cw : CW D M) (P : PIN D) {z q a : Nat} (hz : VZ D z) (hq : q ∈ inn D z) (ha : a < nR D) (h10 : D 10 a = -nI 1) : ¬ plc (dnD D a (D 9 a)) = arr D q := fun e => by
  obtain ⟨h1, h2, h3, h4, h5, h6⟩ := inn_K cw P hz hq
  obtain ⟨-, a2, a3, -⟩ := arr_VZ cw P hz hq
  obtain ⟨g1, g2⟩ := dn_has P 40 a (D 9 a) ha (P a ha).1
  obtain ⟨-, b2, b3, -⟩ := VZ_of cw g1 g2
  rw [show plc ((dn D 40 a (D 9 a)).1, (dn D 40 a (D 9 a)).2) = arr D q from e] at b2 b3
  have := dnD_inj cw (x := (a, D 9 a)) (y := (z / 12, nI (q % 12))) ⟨ha, fun _ => h10⟩ ⟨hz.1, fun w => absurd w h5⟩ (Prod.ext (by rw [← a2]; exact b2.symm) (by rw [← a3]; exact b3.symm))
  have e1 : a = z / 12 := congrArg Prod.fst this
  have e2 : D 9 a = nI (q % 12) := congrArg Prod.snd this
  exact h5 (by rw [← e1]; exact e2.symm)
/-- the first place's code -/
def rtz (D : Nat → Nat → Int32) (a : Nat) : Nat := plc (dnD D a (D 9 a))
/-- the class's list when k places are looked into -/
def SVL (D : Nat → Nat → Int32) (s k : Nat) (L : List Nat) : Prop := L = s :: ((L.take k).flatMap (inn D)).map (arr D) ∧ (∀ z ∈ L, VZ D z ∧ Vis D s z) ∧ k ≤ L.length ∧ L.Nodup
theorem flat_nd (cw : CW D M) (P : PIN D) : ∀ l : List Nat, l.Nodup → (∀ z ∈ l, VZ D z) → (l.flatMap (inn D)).Nodup := by
  intro l
  induction l with
  | nil => intro _ _; exact List.nodup_nil
  | cons z r ih =>
    intro h1 h2
    rw [List.flatMap_cons]
    obtain ⟨g1, g2⟩ := List.nodup_cons.mp h1
    refine List.nodup_append.mpr ⟨inn_nd, ih g2 (fun y hy => h2 y (List.mem_cons_of_mem _ hy)), fun a ha b hb e => ?_⟩
    subst e
    obtain ⟨y, y1, y2⟩ := List.mem_flatMap.mp hb
    have v1 := h2 z List.mem_cons_self
    have v2 := h2 y (List.mem_cons_of_mem _ y1)
    obtain ⟨p1, p2, p3, p4, p5, p6⟩ := inn_K cw P v1 ha
    obtain ⟨q1, q2, q3, q4, q5, q6⟩ := inn_K cw P v2 y2
    have k6 := (volK cw v1.1).2.2.2.2.2.1
    rw [← q1, p1] at q6
    rw [p6, nI_eq (by omega) (by omega)] at q6
    have : z = y := by omega
    exact g1 (this ▸ y1)
theorem SVL.nd (cw : CW D M) (P : PIN D) {a : Nat} (ha : a < nR D) (h10 : D 10 a = -nI 1) {l : List Nat} (h1 : l.Nodup) (h2 : ∀ z ∈ l, VZ D z) : (rtz D a :: (l.flatMap (inn D)).map (arr D)).Nodup := by
  refine List.nodup_cons.mpr ⟨fun hm => ?_, ?_⟩
  · obtain ⟨q, q1, q2⟩ := List.mem_map.mp hm
    obtain ⟨z, z1, z2⟩ := List.mem_flatMap.mp q1
    exact arr_root cw P (h2 z z1) z2 ha h10 q2.symm
  · refine nd_map _ (flat_nd cw P l h1 h2) (fun x hx y hy e => ?_)
    obtain ⟨z, z1, z2⟩ := List.mem_flatMap.mp hx
    obtain ⟨w, w1, w2⟩ := List.mem_flatMap.mp hy
    exact arr_inj cw P (h2 z z1) z2 (h2 w w1) w2 e
theorem SVL.z (cw : CW D M) (P : PIN D) {a : Nat} (ha : a < nR D) : SVL D (rtz D a) 0 [rtz D a] := by
  obtain ⟨g1, g2⟩ := dn_has P 40 a (D 9 a) ha (P a ha).1
  refine ⟨rfl, fun z hz => ?_, Nat.zero_le _, List.nodup_cons.mpr ⟨fun h => (nomatch h), List.nodup_nil⟩⟩
  rw [List.mem_singleton.mp hz]
  exact ⟨(VZ_of cw g1 g2).1, fun S h1 _ => h1⟩
theorem SVL.s (cw : CW D M) (P : PIN D) {a k : Nat} {L : List Nat} (ha : a < nR D) (h10 : D 10 a = -nI 1) (h : SVL D (rtz D a) k L) (hk : k < L.length) : SVL D (rtz D a) (k + 1) (L ++ (inn D L[k]).map (arr D)) := by
  obtain ⟨h1, h2, h3, h4⟩ := h
  have hmk : L[k] ∈ L := List.getElem_mem hk
  have et : (L ++ (inn D L[k]).map (arr D)).take (k + 1) = L.take k ++ [L[k]] := by
    rw [List.take_append_of_le_length (by omega), List.take_succ_eq_append_getElem hk]
  have ev : ∀ z ∈ L.take k ++ [L[k]], z ∈ L := fun z hz => by
    rcases List.mem_append.mp hz with q | q
    · exact List.mem_of_mem_take q
    · rw [List.mem_singleton.mp q]; exact hmk
  have eL : L ++ (inn D L[k]).map (arr D) = rtz D a :: (((L ++ (inn D L[k]).map (arr D)).take (k + 1)).flatMap (inn D)).map (arr D) := by
    rw [et, List.flatMap_append, List.map_append, ← List.cons_append, ← h1, List.flatMap_cons, List.flatMap_nil, List.append_nil]
  refine ⟨eL, fun z hz => ?_, by rw [List.length_append]; omega, ?_⟩
  · rcases List.mem_append.mp hz with q | q
    · exact h2 z q
    · obtain ⟨y, y1, y2⟩ := List.mem_map.mp q
      obtain ⟨v1, v2⟩ := h2 _ hmk
      rw [← y2]
      exact ⟨(arr_VZ cw P v1 y1).1, v2.st v1 y1⟩
  · rw [eL, et]
    refine SVL.nd cw P ha h10 ?_ (fun z hz => (h2 z (ev z hz)).1)
    rw [← List.take_succ_eq_append_getElem hk]
    exact h4.sublist (List.take_sublist _ _)
theorem SVL.len (cw : CW D M) {s k : Nat} {L : List Nat} (h : SVL D s k L) : L.length ≤ 480 := nodup_len 480 L h.2.2.2 (fun z hz => (VZ.lt cw (h.2.1 z hz).1).1)
/-- at the end: the least set, each place once -/
theorem SVL.e (cw : CW D M) {s : Nat} {L : List Nat} (h : SVL D s L.length L) : (∀ z, z ∈ L ↔ visB D s z = true) ∧ L.length = visN D s := by
  obtain ⟨h1, h2, h3, h4⟩ := h
  rw [List.take_length] at h1
  have hm : ∀ z, z ∈ L ↔ visB D s z = true := fun z => by
    rw [visB_iff]
    refine ⟨fun hz => (h2 z hz).2, fun hz => hz (fun y => y ∈ L) ?_ (fun y _ hy q hq => ?_)⟩
    · show s ∈ L
      rw [h1]; exact List.mem_cons_self
    · show arr D q ∈ L
      rw [h1]
      exact List.mem_cons_of_mem _ (List.mem_map.mpr ⟨q, List.mem_flatMap.mpr ⟨y, hy, hq⟩, rfl⟩)
  refine ⟨hm, ?_⟩
  unfold visN
  rw [← filter_len]
  have a1 := nodup_sub L ((List.range 480).filter (visB D s)) h4 (fun z hz => List.mem_filter.mpr ⟨List.mem_range.mpr (VZ.lt cw (h2 z hz).1).1, (hm z).mp hz⟩)
  have a2 := nodup_sub ((List.range 480).filter (visB D s)) L (List.nodup_range.sublist List.filter_sublist) (fun z hz => (hm z).mpr (List.mem_filter.mp hz).2)
  omega
end VI
