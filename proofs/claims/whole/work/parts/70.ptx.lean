/-! THE PATH'S TEXT: what it is, and the class's -/
def dg (c j : Nat) : Nat := c / 2 ^ (25 - 5 * j) % 32
def dgU (c j : Nat) : List Nat := ((List.range j).map (dg c)).filter (fun x => decide (x ≠ 0))
def dgl (c : Nat) : List Nat := dgU c 6
theorem dgU_s {c j : Nat} : dgU c (j + 1) = if dg c j = 0 then dgU c j else dgU c j ++ [dg c j] := by
  unfold dgU
  rw [List.range_succ, List.map_append, List.filter_append]
  by_cases h : dg c j = 0
  · rw [if_pos h]; simp [h]
  · rw [if_neg h]; simp [h]
theorem dgU_len {c j : Nat} : (dgU c j).length ≤ j := by
  induction j with
  | zero => exact Nat.le_refl _
  | succ j ih =>
    rw [dgU_s]
    split
    · omega
    · rw [List.length_append, List.length_singleton]; omega
theorem nI_prd (n : Nat) : nI (n + 1) - nI 1 = nI n := nI_pred n
theorem nI_bv (a : Nat) : (nI a).toBitVec = BitVec.ofNat 32 a := rfl
theorem nI_andN (a b : Nat) : nI a &&& nI b = nI (a &&& b) := by
  refine Int32.toBitVec_inj.mp ?_
  rw [Int32.toBitVec_and, nI_bv, nI_bv, nI_bv, BitVec.ofNat_and]
theorem nI_shrN {c s : Nat} (hc : c < 2 ^ 31) (hs : s < 32) : nI c >>> nI s = nI (c / 2 ^ s) := by
  refine Int32.toBitVec_inj.mp ?_
  rw [Int32.toBitVec_shiftRight, nI_bv, nI_bv, nI_bv]
  have h1 : (BitVec.smod (BitVec.ofNat 32 s) 32).toNat = s := by
    have hh : ∀ s : Fin 32, (BitVec.smod (BitVec.ofNat 32 s.1) 32).toNat = s.1 := by decide +kernel
    exact hh ⟨s, hs⟩
  show (BitVec.ofNat 32 c).sshiftRight (BitVec.smod (BitVec.ofNat 32 s) 32).toNat = _
  rw [h1]
  refine BitVec.eq_of_toNat_eq ?_
  have hm : (BitVec.ofNat 32 c).msb = false := by
    rw [BitVec.msb_eq_false_iff_two_mul_lt, BitVec.toNat_ofNat]
    omega
  rw [BitVec.toNat_sshiftRight_of_msb_false hm, BitVec.toNat_ofNat, BitVec.toNat_ofNat, Nat.shiftRight_eq_div_pow, Nat.mod_eq_of_lt (show c < 2 ^ 32 by omega)]
  exact (Nat.mod_eq_of_lt (Nat.lt_of_le_of_lt (Nat.div_le_self _ _) (by omega))).symm
theorem and31 (a : Nat) : a &&& 31 = a % 32 := Nat.and_two_pow_sub_one_eq_mod a 5
theorem and255 (a : Nat) : a &&& 255 = a % 256 := Nat.and_two_pow_sub_one_eq_mod a 8
theorem shr31 {c s : Nat} (hc : c < 2 ^ 31) (hs : s < 32) : (nI c >>> (nI s &&& 31)) &&& nI 31 = nI (c / 2 ^ s % 32) := by
  have e : nI s &&& 31 = nI s := by
    show nI s &&& nI 31 = nI s
    rw [nI_andN, and31, Nat.mod_eq_of_lt hs]
  rw [e, nI_shrN hc hs, nI_andN, and31]
theorem narT1 {b : Nat} (h : b < 128) : narT 1 (nI b).toInt8.toInt32 = nI b := by
  have hh : ∀ b : Fin 128, narT 1 (nI b.1).toInt8.toInt32 = nI b.1 := by decide +kernel
  exact hh ⟨b, h⟩
/-- directories from a place up to the top, which is left out -/
def upsL (D : Nat → Nat → Int32) (v : Nat) (t : Int32) : Nat → Nat → List Nat
  | 0, _ => []
  | f + 1, e => if nI e = t then [] else e :: upsL D v t f (D 5 (v * 12 + e)).toNatClampNeg
def nmT (D : Nat → Nat → Int32) (v e : Nat) : List Nat := (dgl (D 4 (v * 12 + e)).toNatClampNeg).map (fun x => 96 + x)
def segL (D : Nat → Nat → Int32) (v : Nat) (l : List Nat) : List Nat := l.flatMap (fun e => 47 :: nmT D v e)
def segm (D : Nat → Nat → Int32) (u : Nat) (dd : Int32) : List Nat := segL D (vol D u) (upsL D (vol D u) (D 9 u) 12 dd.toNatClampNeg).reverse
def chn (D : Nat → Nat → Int32) : Nat → Option Nat → List Nat
  | 0, _ => []
  | _ + 1, none => []
  | f + 1, some a => a :: chn D f (up D a)
def sgo (D : Nat → Nat → Int32) (a : Nat) : List Nat := match up D a with
  | none => []
  | some u => segm D u (D 11 a)
def ptx (D : Nat → Nat → Int32) (x : Nat) : List Nat := ((chn D 40 (some x)).reverse).flatMap (sgo D)
def txD (D : Nat → Nat → Int32) (x : Nat) : List Nat := if ptx D x = [] then [47] else ptx D x
/-- depths -/
def VDP (D : Nat → Nat → Int32) : Prop := ∃ h : Nat → Nat → Nat, ∀ v e, v < nV D → e < nS D v → h v e ≤ 5 ∧ ∀ o, o < e → D 5 (v * 12 + e) = nI o → h v o < h v e
/-- names -/
def VNK (D : Nat → Nat → Int32) : Prop := ∀ v e, v < nV D → e < nS D v → ∃ L : List Nat, L.length ≤ 6 ∧ (∀ l ∈ L, 1 ≤ l ∧ l ≤ 26) ∧ D 4 (v * 12 + e) = nI (cdL L)
theorem cdL_lt : ∀ L : List Nat, (∀ l ∈ L, 1 ≤ l ∧ l ≤ 26) → ∀ a, L.foldl (fun a b => a * 32 + b) a < (a + 1) * 32 ^ L.length := by
  intro L
  induction L with
  | nil => intro _ a; simp
  | cons b r ih =>
    intro h a
    rw [List.foldl_cons, List.length_cons]
    have h1 := ih (fun l hl => h l (List.mem_cons_of_mem _ hl)) (a * 32 + b)
    have h2 := h b List.mem_cons_self
    refine Nat.lt_of_lt_of_le h1 ?_
    rw [Nat.pow_succ, Nat.mul_comm (32 ^ r.length) 32, ← Nat.mul_assoc]
    exact Nat.mul_le_mul_right _ (by omega)
theorem cdL_30 {L : List Nat} (h6 : L.length ≤ 6) (h : ∀ l ∈ L, 1 ≤ l ∧ l ≤ 26) : cdL L < 2 ^ 30 := by
  have h1 := cdL_lt L h 0
  have h2 : 32 ^ L.length ≤ 32 ^ 6 := Nat.pow_le_pow_right (by decide) h6
  have h3 : (32 : Nat) ^ 6 = 2 ^ 30 := by decide
  unfold cdL
  omega
theorem VNK.lt {D : Nat → Nat → Int32} (h : VNK D) {v e : Nat} (hv : v < nV D) (he : e < nS D v) : ∃ c, c < 2 ^ 30 ∧ D 4 (v * 12 + e) = nI c := by
  obtain ⟨L, h1, h2, h3⟩ := h v e hv he
  exact ⟨_, cdL_30 h1 h2, h3⟩
theorem nmT_len {D : Nat → Nat → Int32} {v e : Nat} : (nmT D v e).length ≤ 6 := by
  unfold nmT
  rw [List.length_map]
  exact dgU_len
theorem segL_len {D : Nat → Nat → Int32} {v : Nat} : ∀ l : List Nat, (segL D v l).length ≤ 7 * l.length := by
  intro l
  induction l with
  | nil => exact Nat.le_refl _
  | cons a r ih =>
    unfold segL at ih ⊢
    rw [List.flatMap_cons, List.length_append, List.length_cons, List.length_cons]
    have := nmT_len (D := D) (v := v) (e := a)
    omega
theorem chn_len {D : Nat → Nat → Int32} : ∀ f o, (chn D f o).length ≤ f := by
  intro f
  induction f with
  | zero => intro o; exact Nat.le_refl _
  | succ f ih =>
    intro o
    cases o with
    | none => exact Nat.zero_le _
    | some a =>
      unfold chn
      rw [List.length_cons]
      have := ih (up D a)
      omega
theorem chn_lt {D : Nat → Nat → Int32} : ∀ f o, (∀ a, o = some a → a < nR D) → ∀ y ∈ chn D f o, y < nR D := by
  intro f
  induction f with
  | zero => intro o _ y hy; exact (nomatch hy)
  | succ f ih =>
    intro o ho y hy
    cases o with
    | none => exact (nomatch hy)
    | some a =>
      unfold chn at hy
      rcases List.mem_cons.mp hy with q | q
      · rw [q]; exact ho a rfl
      · exact ih (up D a) (fun u hu => up_lt hu) y q
section PX
variable {D : Nat → Nat → Int32} {M B : Nat}
theorem blw_st {ou : Nat → Int32} {t sz : Nat} (ho : ∀ e, e < sz → ou e = -nI 1 ∨ ∃ o, o < e ∧ ou e = nI o) (s12 : sz ≤ 12) {e : Nat} (he : e < sz) (h : blw ou (nI t) 12 (nI e) = true) (hne : ¬ nI e = nI t) : ∃ o, o < e ∧ ou e = nI o ∧ blw ou (nI t) 12 (nI o) = true := by
  unfold blw at h
  rw [if_neg (nI_nn (by omega)), if_neg hne, nI_clamp (by omega)] at h
  rcases ho e he with q | ⟨o, o1, o2⟩
  · rw [q, blw_neg] at h; cases h
  · refine ⟨o, o1, o2, ?_⟩
    rw [o2] at h
    rw [← h]
    exact blw_fuel ho s12 12 11 o (by omega) (by omega) (by omega)
theorem upsL_len (vd : VDP D) (cw : CW D M) {r t : Nat} (hr : r < nR D) : ∃ h : Nat → Nat, (∀ e, e < nS D (vol D r) → h e ≤ 5) ∧ ∀ f e, e < nS D (vol D r) → blw (fun e => D 5 (vol D r * 12 + e)) (nI t) 12 (nI e) = true → (upsL D (vol D r) (nI t) f e).length ≤ h e := by
  obtain ⟨h, hh⟩ := vd
  obtain ⟨k1, k2, k3, k4, k5, k6, k7, k8⟩ := volK cw hr
  have ho := volO cw hr
  refine ⟨h (vol D r), fun e he => (hh _ e k1 he).1, fun f => ?_⟩
  induction f with
  | zero => intro e he hb; exact Nat.zero_le _
  | succ f ih =>
    intro e he hb
    unfold upsL
    by_cases h9 : nI e = nI t
    · rw [if_pos h9]; exact Nat.zero_le _
    · rw [if_neg h9, List.length_cons]
      obtain ⟨o, o1, o2, o3⟩ := blw_st ho k6 he hb h9
      rw [o2, nI_clamp (by omega)]
      have := ih o (by omega) o3
      have := (hh _ e k1 he).2 o o1 o2
      omega
theorem segm_len (vd : VDP D) (cw : CW D M) (P : PIN D) {u : Nat} {dd : Int32} (hu : u < nR D) (hd : hasD D u dd = true) : (segm D u dd).length ≤ 35 := by
  obtain ⟨e, he, rfl⟩ := hasD_nat cw hu hd
  obtain ⟨t, t1, t2⟩ := topK cw P hu
  obtain ⟨k1, k2, k3, k4, k5, k6, k7, k8⟩ := volK cw hu
  obtain ⟨h, h1, h2⟩ := upsL_len vd cw (t := t) hu
  have hb := hd
  rw [hasD_eq, k4, if_pos ((nI_ltI (by omega) (by omega)).mpr he), t2] at hb
  unfold segm
  rw [nI_clamp (by omega), t2]
  have a1 := segL_len (D := D) (v := vol D u) (upsL D (vol D u) (nI t) 12 e).reverse
  rw [List.length_reverse] at a1
  have a2 := h2 12 e he hb
  have a3 := h1 e he
  omega
theorem sgo_len (vd : VDP D) (cw : CW D M) (P : PIN D) {a : Nat} (ha : a < nR D) : (sgo D a).length ≤ 35 := by
  unfold sgo
  cases hu : up D a with
  | none => exact Nat.zero_le _
  | some u => exact segm_len vd cw P (up_lt hu) ((P a ha).2 u (up_lt hu) (up_eq hu))
theorem flat_len {f : Nat → List Nat} {n : Nat} : ∀ l : List Nat, (∀ a ∈ l, (f a).length ≤ n) → (l.flatMap f).length ≤ n * l.length := by
  intro l
  induction l with
  | nil => intro _; exact Nat.le_refl _
  | cons a r ih =>
    intro h
    rw [List.flatMap_cons, List.length_append, List.length_cons]
    have h1 := h a List.mem_cons_self
    have h2 := ih (fun b hb => h b (List.mem_cons_of_mem _ hb))
    rw [Nat.mul_add]
    omega
theorem part_len (vd : VDP D) (cw : CW D M) (P : PIN D) {x : Nat} (hx : x < nR D) {l : List Nat} (hl : ∀ a ∈ l, a ∈ chn D 40 (some x)) (h40 : l.length ≤ 40) : (l.flatMap (sgo D)).length ≤ 1400 := by
  have := flat_len (f := sgo D) (n := 35) l (fun a ha => sgo_len vd cw P (chn_lt 40 (some x) (fun a e => by cases e; exact hx) a (hl a ha)))
  omega
end PX
abbrev P55 : Nat → Nat → Prop := fun i c => i = 0 ∧ 55 ≤ c ∧ c ≤ 58
/-- a text in the class -/
def TXC (g : Gs) (T : List Nat) : Prop := g.1 0 55 4 = nI T.length ∧ ∀ t b, T[t]? = some b → g.1 0 58 t = nI b
theorem TXC.fr {P : Nat → Nat → Prop} {g g' : Gs} {T : List Nat} (h : TXC g T) (hf : Fr P g g') (h0 : ¬ P 0 55) (h1 : ¬ P 0 58) : TXC g' T := by
  unfold TXC
  rw [hf.1 0 55 h0, hf.1 0 58 h1]
  exact h
section PC9
variable {sc : SC} {d w r M : Nat} {g : Gs} {Φ : RS → Gs → Prop} {D : Nat → Nat → Int32} {dd : Int32} {T : List Nat}
theorem s58 {b : Nat} (h : TXC g T) (hl : T.length < 3360) (hb : b < 128) (k : ∀ g', Fr (fun i c => i = 0 ∧ (c = 55 ∨ c = 58)) g g' → TXC g' (T ++ [b]) → Φ (.inl none) g') : Rn sc (d + 1) 58 [vR 0 55, vI (nI b)] g Φ := by
  obtain ⟨h1, h2⟩ := h
  refine Rn.of rfl (v58_0 ?_)
  simp (disch := omega) only [u3_nc, u3_ek, u3_nk, upd_e, upd_n, dU_nk, dU_nc, dU_e, nI_ltI, nI_eq, nI_clamp, nI_add, nI_mul, inb_nI, nI_neg1, nI_ne1, nI_n1e, nI_neg1e, Nat.not_lt_zero, Nat.lt_irrefl, true_and, and_true, true_implies, false_implies, not_true_eq_false, not_false_eq_true, implies_true, forall_const, forall_eq, if_true, if_false, Nat.reduceEqDiff, eq_self, Nat.one_ne_zero, Nat.zero_ne_one, Nat.zero_add, Nat.add_zero, h1, hl, narT1 hb]
  refine k _ (by repeat (first | exact Fr.rf _ | refine Fr.u3 ?_ ⟨rfl, by decide⟩)) ⟨?_, fun t y ht => ?_⟩
  · dsimp only; rw [u3_ek rfl, List.length_append]; rfl
  · dsimp only
    rw [u3_nc (by decide)]
    by_cases e : t = T.length
    · subst e
      rw [List.getElem?_append_right (Nat.le_refl _), Nat.sub_self] at ht
      cases ht
      exact u3_ek rfl
    · rw [u3_nk e]
      rw [List.getElem?_append_left (by
        have := (List.getElem?_eq_some_iff.mp ht).1
        rw [List.length_append, List.length_singleton] at this
        omega)] at ht
      exact h2 t y ht
theorem s57 {c : Nat} (hc : c < 2 ^ 30) (h : TXC g T) (hl : T.length + 6 < 3360) (k : ∀ g', Fr (fun i c => i = 0 ∧ (c = 55 ∨ c = 58)) g g' → TXC g' (T ++ (dgl c).map (fun x => 96 + x)) → Φ (.inl none) g') : Rn sc (d + 2) 57 [vR 0 55, vI (nI c)] g Φ := by
  have loop : ∀ f j s w3, j + f = 6 → Fr (fun i c => i = 0 ∧ (c = 55 ∨ c = 58)) g s → TXC s (T ++ (dgU c j).map (fun x => 96 + x)) → Xe sc (d + 1) 57 3 [vR 0 55, vI (nI c), vI (if j < 6 then nI (25 - 5 * j) else -nI 5), w3] [] s Φ := by
    intro f
    induction f with
    | zero =>
      intro j s w3 hj hf hs
      obtain rfl : j = 6 := by omega
      rw [if_neg (by decide)]
      exact v57_3 ⟨fun _ => k s hf hs, fun q => absurd (by decide +kernel) q⟩
    | succ f ih =>
      intro j s w3 hj hf hs
      have hj6 : j < 6 := by omega
      have hn := ih (j + 1)
      have e5 : nI (25 - 5 * j) + -nI 5 = if j + 1 < 6 then nI (25 - 5 * (j + 1)) else -nI 5 := by
        have hh : ∀ j : Fin 6, nI (25 - 5 * j.1) + -nI 5 = if j.1 + 1 < 6 then nI (25 - 5 * (j.1 + 1)) else -nI 5 := by decide +kernel
        exact hh ⟨j, hj6⟩
      rw [dgU_s] at hn
      have hd31 : dg c j < 32 := Nat.mod_lt _ (by decide)
      rw [if_pos hj6]
      refine v57_3 ⟨fun q => absurd q (nI_nn (by omega)), fun _ => ?_⟩
      rw [shr31 (by omega) (by omega), show c / 2 ^ (25 - 5 * j) % 32 = dg c j from rfl, e5]
      refine ⟨fun h0 => ?_, fun h0 => ?_⟩
      · have h0' : dg c j = 0 := by rw [nI_eq (by omega) (by omega)] at h0; exact h0
        rw [if_pos h0'] at hn
        exact hn s _ (by omega) hf hs
      · have h0' : ¬ dg c j = 0 := fun q => h0 (by rw [q])
        rw [if_neg h0', List.map_append] at hn
        rw [nI_add, show 97 + dg c j = 96 + dg c j + 1 by omega, nI_prd]
        have hlen := dgU_len (c := c) (j := j)
        refine s58 hs (by rw [List.length_append, List.length_map]; omega) (by omega) (fun s2 f2 h2 => ⟨rfl, ?_⟩)
        refine hn s2 _ (by omega) (hf.tr f2) ?_
        rw [← List.append_assoc]
        exact h2
  refine Rn.of rfl (v57_0 ?_)
  refine loop 6 0 g vU rfl (Fr.rf g) ?_
  rw [show dgU c 0 = [] from rfl, List.map_nil, List.append_nil]
  exact h
theorem s56 {x : Nat} (hA : At g 0 D) (hw : CW D M) (P : PIN D) (vd : VDP D) (vn : VNK D) (ok : OKP D) (hx : x < nR D) (h : TXC g T) (hl : T.length + 40 < 3360) (k : ∀ g', Fr (fun i c => i = 0 ∧ (c = 55 ∨ c = 57 ∨ c = 58)) g g' → TXC g' (T ++ sgo D x) → Φ (.inl none) g') : Rn sc (d + 4) 56 [vR 0 55, vI (nI x)] g Φ := by
  have n40 := hw.1.2
  have e8 : g.1 0 8 = D 8 := hA 8 (by decide)
  have e10 : g.1 0 10 = D 10 := hA 10 (by decide)
  have e11 : g.1 0 11 = D 11 := hA 11 (by decide)
  have hx40 : x < 40 := by omega
  refine Rn.of rfl (v56_0 ?_)
  simp (disch := omega) only [u3_nc, u3_ek, u3_nk, upd_e, upd_n, dU_nk, dU_nc, dU_e, nI_ltI, nI_eq, nI_clamp, nI_add, nI_mul, inb_nI, nI_neg1, nI_ne1, nI_n1e, nI_neg1e, Nat.not_lt_zero, Nat.lt_irrefl, true_and, and_true, true_implies, false_implies, not_true_eq_false, not_false_eq_true, implies_true, forall_const, forall_eq, if_true, if_false, Nat.reduceEqDiff, eq_self, Nat.one_ne_zero, Nat.zero_ne_one, Nat.zero_add, Nat.add_zero, e10, hx40]
  unfold sgo at k
  refine ⟨fun h0 => ?_, fun h0 => ?_⟩
  · rw [up_no hw h0] at k
    dsimp only at k
    rw [List.append_nil] at k
    exact k g (Fr.rf g) h
  · obtain ⟨u, hu, hup⟩ := up_yes hw ok hx h0
    rw [hup] at k
    dsimp only at k
    refine s41A hA hw.1 ⟨_, rfl, ?_⟩
    rw [show fst9 (nR D) (fun r => decide (D 6 r = D 10 x)) = some u from hup, show eo (some u) = nI u from rfl]
    have hnn : ¬ nI u < nI 0 := nI_nn (by omega)
    have hu40 : u < 40 := by omega
    obtain ⟨k1, k2, k3, k4, k5, k6, k7, k8⟩ := volK hw hu
    have ho := volO hw hu
    have hd := (P x hx).2 u hu (up_eq hup)
    obtain ⟨e0, he0, h11⟩ := hasD_nat hw hu hd
    obtain ⟨t, t1, t2⟩ := topK hw P hu
    have hb := hd
    rw [h11, hasD_eq, k4, if_pos ((nI_ltI (by omega) (by omega)).mpr he0), t2] at hb
    unfold segm at k
    rw [h11, nI_clamp (by omega), t2] at k
    simp (disch := omega) only [u3_nc, u3_ek, u3_nk, upd_e, upd_n, dU_nk, dU_nc, dU_e, nI_ltI, nI_eq, nI_clamp, nI_add, nI_mul, inb_nI, nI_neg1, nI_ne1, nI_n1e, nI_neg1e, Nat.not_lt_zero, Nat.lt_irrefl, true_and, and_true, true_implies, false_implies, not_true_eq_false, not_false_eq_true, implies_true, forall_const, forall_eq, if_true, if_false, Nat.reduceEqDiff, eq_self, Nat.one_ne_zero, Nat.zero_ne_one, Nat.zero_add, Nat.add_zero, hnn, hu40, e8, e11, k3, h11]
    obtain ⟨v, hv⟩ : ∃ v, v = vol D u := ⟨_, rfl⟩
    obtain ⟨sz, hsz⟩ : ∃ sz, sz = nS D (vol D u) := ⟨_, rfl⟩
    rw [← hsz] at he0 t1 k6 ho
    have vn' : ∀ e, e < sz → ∃ c, c < 2 ^ 30 ∧ D 4 (v * 12 + e) = nI c := fun e he => by rw [hv]; exact vn.lt k1 (by omega)
    obtain ⟨hh, hh1, hh2⟩ := upsL_len vd hw (t := t) hu
    have hlen0 := hh2 12 e0 (by omega) hb
    have hle0 := hh1 e0 (by omega)
    rw [← hv] at hb ho k2 hlen0 k ⊢
    obtain ⟨U, hU⟩ : ∃ U, U = upsL D v (nI t) 12 e0 := ⟨_, rfl⟩
    rw [← hU] at hlen0 k
    -- writing, from the last step on
    have wr : ∀ q s x4 x5, q ≤ U.length → Fr (fun i c => i = 0 ∧ (c = 55 ∨ c = 57 ∨ c = 58)) g s → (∀ j y, U[j]? = some y → ∃ c, c < 2 ^ 30 ∧ D 4 (v * 12 + y) = nI c ∧ s.1 0 57 j = nI c) → TXC s (T ++ segL D v (U.drop q).reverse) → Xe sc (d + 3) 56 106 [vR 0 55, vI (nI x), vI (nI u), vI (nI v), vI x4, vI x5, vI (nI q - nI 1)] [] s Φ := by
      intro q
      induction q with
      | zero =>
        intro s x4 x5 _ hf _ hs
        rw [List.drop_zero] at hs
        exact v56_106 ⟨fun _ => k s hf hs, fun q => absurd (by decide +kernel) q⟩
      | succ q ih =>
        intro s x4 x5 hq hf hc hs
        have hq2 : q < U.length := by omega
        obtain ⟨c, c1, c2, c3⟩ := hc q U[q] (List.getElem?_eq_getElem hq2)
        have hdr : U.drop q = U[q] :: U.drop (q + 1) := List.drop_eq_getElem_cons hq2
        have en : nmT D v U[q] = (dgl c).map (fun x => 96 + x) := by unfold nmT; rw [c2, nI_clamp (by omega)]
        have sl := segL_len (D := D) (v := v) (U.drop (q + 1)).reverse
        rw [List.length_reverse, List.length_drop] at sl
        have hq12 : q < 12 := by omega
        rw [nI_prd]
        refine v56_106 ⟨fun z => absurd z (nI_nn (by omega)), fun _ => ?_⟩
        refine s58 hs (by rw [List.length_append]; omega) (by decide) (fun s2 f2 h2 => ⟨rfl, ?_⟩)
        have c3' : s2.1 0 57 q = nI c := by rw [f2.1 0 57 (by omega)]; exact c3
        simp (disch := omega) only [u3_nc, u3_ek, u3_nk, upd_e, upd_n, dU_nk, dU_nc, dU_e, nI_ltI, nI_eq, nI_clamp, nI_add, nI_mul, inb_nI, nI_neg1, nI_ne1, nI_n1e, nI_neg1e, Nat.not_lt_zero, Nat.lt_irrefl, true_and, and_true, true_implies, false_implies, not_true_eq_false, not_false_eq_true, implies_true, forall_const, forall_eq, if_true, if_false, Nat.reduceEqDiff, eq_self, Nat.one_ne_zero, Nat.zero_ne_one, Nat.zero_add, Nat.add_zero, c3', hq12]
        refine s57 (by omega) h2 (by rw [List.length_append, List.length_append, List.length_singleton]; omega) (fun s3 f3 h3 => ⟨rfl, ?_⟩)
        rw [show nI q + -nI 1 = nI q - nI 1 from (Int32.sub_eq_add_neg _ _).symm]
        refine ih s3 x4 x5 (by omega) (hf.tr ((f2.wk (by omega)).tr (f3.wk (by omega)))) (fun j y hj => ?_) ?_
        · obtain ⟨a, a1, a2, a3⟩ := hc j y hj
          exact ⟨a, a1, a2, by rw [f3.1 0 57 (by omega), f2.1 0 57 (by omega)]; exact a3⟩
        · rw [hdr, List.reverse_cons]
          unfold segL at h3 ⊢
          rw [List.flatMap_append, List.flatMap_cons, List.flatMap_nil, List.append_nil, en, ← List.append_assoc]
          rw [List.append_assoc, List.singleton_append] at h3
          exact h3
    -- steps, from the place up
    have st : ∀ f q e s, q + f = 12 → e < f → e < sz → blw (fun e => D 5 (v * 12 + e)) (nI t) 12 (nI e) = true → Fr (fun i c => i = 0 ∧ (c = 55 ∨ c = 57 ∨ c = 58)) g s → TXC s T → (∀ S, S.length = q → U = S ++ upsL D v (nI t) f e → (∀ j y, S[j]? = some y → ∃ c, c < 2 ^ 30 ∧ D 4 (v * 12 + y) = nI c ∧ s.1 0 57 j = nI c) → Xe sc (d + 3) 56 38 [vR 0 55, vI (nI x), vI (nI u), vI (nI v), vI (nI q), vI (nI e), vU] [] s Φ) := by
      intro f
      induction f with
      | zero => intro q e s _ h; omega
      | succ f ih =>
        intro q e s hq hef hes hbe hf hs S hS hUS hc
        have a0 : At s 0 D := hA.fr hf (by omega)
        have c9 : s.1 0 9 u = nI t := by rw [a0 9 (by decide)]; exact t2
        have c4 : s.1 0 4 = D 4 := a0 4 (by decide)
        have c5 : s.1 0 5 = D 5 := a0 5 (by decide)
        have hte := blw_le ho k6 (by omega) 12 e hes hbe
        unfold upsL at hUS
        refine v56_38 ?_
        simp (disch := omega) only [u3_nc, u3_ek, u3_nk, upd_e, upd_n, dU_nk, dU_nc, dU_e, nI_ltI, nI_eq, nI_clamp, nI_add, nI_mul, inb_nI, nI_neg1, nI_ne1, nI_n1e, nI_neg1e, Nat.not_lt_zero, Nat.lt_irrefl, true_and, and_true, true_implies, false_implies, not_true_eq_false, not_false_eq_true, implies_true, forall_const, forall_eq, if_true, if_false, Nat.reduceEqDiff, eq_self, Nat.one_ne_zero, Nat.zero_ne_one, Nat.zero_add, Nat.add_zero, c9, hu40]
        refine ⟨fun hlt => ?_, fun hlt => ?_⟩
        · have hne : ¬ nI e = nI t := by rw [nI_eq (by omega) (by omega)]; omega
          rw [if_neg hne] at hUS
          obtain ⟨o, o1, o2, o3⟩ := blw_st ho k6 hes hbe hne
          have o2' : D 5 (v * 12 + e) = nI o := o2
          rw [o2', nI_clamp (by omega)] at hUS
          obtain ⟨c, q1, q2⟩ := vn' e hes
          have hq12 : q < 12 := by omega
          simp (disch := omega) only [u3_nc, u3_ek, u3_nk, upd_e, upd_n, dU_nk, dU_nc, dU_e, nI_ltI, nI_eq, nI_clamp, nI_add, nI_mul, inb_nI, nI_neg1, nI_ne1, nI_n1e, nI_neg1e, Nat.not_lt_zero, Nat.lt_irrefl, true_and, and_true, true_implies, false_implies, not_true_eq_false, not_false_eq_true, implies_true, forall_const, forall_eq, if_true, if_false, Nat.reduceEqDiff, eq_self, Nat.one_ne_zero, Nat.zero_ne_one, Nat.zero_add, Nat.add_zero, hq12, c4, c5, o2', q2]
          refine ih (q + 1) o _ (by omega) (by omega) (by omega) o3 (hf.tr (Fr.u3 (Fr.rf _) ⟨rfl, Or.inr (Or.inl rfl)⟩)) ⟨by dsimp only; rw [u3_nc (by decide)]; exact hs.1, fun t b ht => by dsimp only; rw [u3_nc (by decide)]; exact hs.2 t b ht⟩ (S ++ [e]) (by rw [List.length_append, hS]; rfl) (by rw [hUS, List.append_assoc]; rfl) (fun j y hj => ?_)
          by_cases ej : j = q
          · subst ej
            rw [List.getElem?_append_right (by omega), hS, Nat.sub_self] at hj
            cases hj
            exact ⟨c, q1, q2, u3_ek rfl⟩
          · rw [List.getElem?_append_left (by
              have := (List.getElem?_eq_some_iff.mp hj).1
              rw [List.length_append, List.length_singleton] at this
              omega)] at hj
            obtain ⟨a, a1, a2, a3⟩ := hc j y hj
            exact ⟨a, a1, a2, by dsimp only; rw [u3_nk ej]; exact a3⟩
        · have heq : nI e = nI t := by rw [show e = t by omega]
          rw [if_pos heq, List.append_nil] at hUS
          rw [← hS, ← hUS]
          refine wr U.length s _ _ (Nat.le_refl _) hf (by rw [hUS]; exact hc) ?_
          rw [List.drop_length]
          unfold segL
          rw [List.reverse_nil, List.flatMap_nil, List.append_nil]
          exact hs
    exact st 12 0 e0 g rfl (by omega) he0 hb (Fr.rf g) h [] rfl hU (fun j y hj => by rw [List.getElem?_nil] at hj; cases hj)
theorem s55 {x : Nat} (hA : At g 0 D) (hw : CW D M) (P : PIN D) (vd : VDP D) (vn : VNK D) (ok : OKP D) (hx : x < nR D) (k : ∀ g', Fr P55 g g' → TXC g' (txD D x) → Φ (.inl (some (vI (nI (txD D x).length)))) g') : Rn sc (d + 5) 55 [vR 0 55, vI (nI x)] g Φ := by
  have n40 := hw.1.2
  obtain ⟨C, hC⟩ : ∃ C, C = chn D 40 (some x) := ⟨_, rfl⟩
  have hCl : C.length ≤ 40 := by rw [hC]; exact chn_len _ _
  have hCn : ∀ y ∈ C, y < nR D := fun y hy => chn_lt 40 (some x) (fun a e => by cases e; exact hx) y (by rw [← hC]; exact hy)
  refine Rn.of rfl (v55_0 ?_)
  intro G1 e1
  subst e1
  have f1 : Fr P55 g (u3 g.1 0 55 4 (nI 0), g.2) := Fr.u3 (Fr.rf g) ⟨rfl, by decide, by decide⟩
  have t1 : TXC (u3 g.1 0 55 4 (nI 0), g.2) [] := ⟨by dsimp only; exact u3_ek rfl, fun t b ht => by rw [List.getElem?_nil] at ht; cases ht⟩
  have wr : ∀ q s x2 x3, q ≤ C.length → Fr P55 g s → (∀ j y, C[j]? = some y → s.1 0 56 j = nI y) → TXC s ((C.drop q).reverse.flatMap (sgo D)) → Xe sc (d + 4) 55 46 [vR 0 55, vI (nI x), vI x2, vI x3, vI (nI q - nI 1)] [] s Φ := by
    intro q
    induction q with
    | zero =>
      intro s x2 x3 _ hf hc hs
      rw [List.drop_zero, hC] at hs
      have hs2 : TXC s (ptx D x) := hs
      have hpl : (ptx D x).length ≤ 1400 := part_len vd hw P hx (fun a ha => List.mem_reverse.mp ha) (by rw [List.length_reverse]; exact chn_len _ _)
      have h4 := hs2.1
      unfold txD at k
      refine v55_46 ⟨fun _ => ?_, fun q => absurd (by decide +kernel) q⟩
      rw [h4]
      by_cases h0 : ptx D x = []
      · rw [if_pos h0] at k
        rw [h0] at hs2 ⊢
        refine ⟨fun _ => ?_, fun q => absurd rfl q⟩
        refine s58 hs2 (by decide) (by decide) (fun s2 f2 h2 => ⟨rfl, ?_⟩)
        rw [h2.1]
        exact k s2 (hf.tr (f2.wk (by omega))) h2
      · rw [if_neg h0] at k
        have hl0 : (ptx D x).length ≠ 0 := fun q => h0 (List.eq_nil_of_length_eq_zero q)
        refine ⟨fun q => ?_, fun _ => k s hf hs2⟩
        rw [nI_eq (by omega) (by omega)] at q
        exact absurd q hl0
    | succ q ih =>
      intro s x2 x3 hq hf hc hs
      have hq2 : q < C.length := by omega
      have hq40 : q < 40 := by omega
      have c3 := hc q C[q] (List.getElem?_eq_getElem hq2)
      have hdr : C.drop q = C[q] :: C.drop (q + 1) := List.drop_eq_getElem_cons hq2
      rw [nI_prd]
      refine v55_46 ⟨fun z => absurd z (nI_nn (by omega)), fun _ => ?_⟩
      simp (disch := omega) only [u3_nc, u3_ek, u3_nk, upd_e, upd_n, dU_nk, dU_nc, dU_e, nI_ltI, nI_eq, nI_clamp, nI_add, nI_mul, inb_nI, nI_neg1, nI_ne1, nI_n1e, nI_neg1e, Nat.not_lt_zero, Nat.lt_irrefl, true_and, and_true, true_implies, false_implies, not_true_eq_false, not_false_eq_true, implies_true, forall_const, forall_eq, if_true, if_false, Nat.reduceEqDiff, eq_self, Nat.one_ne_zero, Nat.zero_ne_one, Nat.zero_add, Nat.add_zero, c3, hq40]
      have hpl : ((C.drop (q + 1)).reverse.flatMap (sgo D)).length ≤ 1400 := part_len vd hw P hx (fun a ha => by rw [← hC]; exact List.mem_of_mem_drop (List.mem_reverse.mp ha)) (by rw [List.length_reverse, List.length_drop]; omega)
      refine s56 (hA.fr hf (by omega)) hw P vd vn ok (hCn _ (List.getElem_mem hq2)) hs (by omega) (fun s2 f2 h2 => ⟨rfl, ?_⟩)
      rw [show nI q + -nI 1 = nI q - nI 1 from (Int32.sub_eq_add_neg _ _).symm]
      refine ih s2 x2 x3 (by omega) (hf.tr (f2.wk (by omega))) (fun j y hj => by rw [f2.1 0 56 (by omega)]; exact hc j y hj) ?_
      rw [hdr, List.reverse_cons, List.flatMap_append, List.flatMap_cons, List.flatMap_nil, List.append_nil]
      exact h2
  have fin : ∀ S s x2 x3, C = S → Fr P55 g s → TXC s [] → (∀ j y, S[j]? = some y → s.1 0 56 j = nI y) → Xe sc (d + 4) 55 46 [vR 0 55, vI (nI x), vI x2, vI x3, vI (nI S.length - nI 1)] [] s Φ := fun S s x2 x3 hS hf hs hc => by
    rw [← hS] at hc ⊢
    refine wr C.length s x2 x3 (Nat.le_refl _) hf hc ?_
    rw [List.drop_length, List.reverse_nil, List.flatMap_nil]
    exact hs
  have ch : ∀ f q o s, q + f = 40 → (∀ a, o = some a → a < nR D) → Fr P55 g s → TXC s [] → (∀ S, S.length = q → C = S ++ chn D f o → (∀ j y, S[j]? = some y → s.1 0 56 j = nI y) → Xe sc (d + 4) 55 9 [vR 0 55, vI (nI x), vI (nI q), vI (eo o), vU] [] s Φ) := by
    intro f
    induction f with
    | zero =>
      intro q o s hq ho hf hs S hS hCS hc
      obtain rfl : q = 40 := by omega
      have hCS' : C = S := by rw [hCS]; exact List.append_nil S
      have := fin S s (nI 40) (eo o) hCS' hf hs hc
      rw [hS] at this
      refine v55_9 ⟨fun _ => this, fun _ => ⟨fun z => absurd z (by decide +kernel), fun _ => this⟩⟩
    | succ f ih =>
      intro q o s hq ho hf hs S hS hCS hc
      cases o with
      | none =>
        have hCS' : C = S := by rw [hCS]; exact List.append_nil S
        have := fin S s (nI q) (eo none) hCS' hf hs hc
        rw [hS] at this
        exact v55_9 ⟨fun _ => this, fun z => absurd eo_none z⟩
      | some a =>
        have ha := ho a rfl
        have ha40 : a < 40 := by omega
        have hq40 : q < 40 := by omega
        have a0 : At s 0 D := hA.fr hf (by omega)
        have e10 : s.1 0 10 = D 10 := a0 10 (by decide)
        have hnn : ¬ nI a < nI 0 := nI_nn (by omega)
        rw [show eo (some a) = nI a from rfl]
        refine v55_9 ?_
        simp (disch := omega) only [u3_nc, u3_ek, u3_nk, upd_e, upd_n, dU_nk, dU_nc, dU_e, nI_ltI, nI_eq, nI_clamp, nI_add, nI_mul, inb_nI, nI_neg1, nI_ne1, nI_n1e, nI_neg1e, Nat.not_lt_zero, Nat.lt_irrefl, true_and, and_true, true_implies, false_implies, not_true_eq_false, not_false_eq_true, implies_true, forall_const, forall_eq, if_true, if_false, Nat.reduceEqDiff, eq_self, Nat.one_ne_zero, Nat.zero_ne_one, Nat.zero_add, Nat.add_zero, hnn, hq40, ha40, e10]
        have fs : Fr P55 s (u3 s.1 0 56 q (nI a), s.2) := Fr.u3 (Fr.rf _) ⟨rfl, by decide, by decide⟩
        have ts : TXC (u3 s.1 0 56 q (nI a), s.2) [] := ⟨by dsimp only; rw [u3_nc (by decide)]; exact hs.1, fun t b ht => by rw [List.getElem?_nil] at ht; cases ht⟩
        have cs : ∀ j y, (S ++ [a])[j]? = some y → u3 s.1 0 56 q (nI a) 0 56 j = nI y := fun j y hj => by
          by_cases ej : j = q
          · subst ej
            rw [List.getElem?_append_right (by omega), hS, Nat.sub_self] at hj
            cases hj
            exact u3_ek rfl
          · rw [List.getElem?_append_left (by
              have := (List.getElem?_eq_some_iff.mp hj).1
              rw [List.length_append, List.length_singleton] at this
              omega)] at hj
            rw [u3_nk ej]; exact hc j y hj
        have hCS2 : C = (S ++ [a]) ++ chn D f (up D a) := by rw [hCS, List.append_assoc]; rfl
        refine ⟨fun h0 => ?_, fun h0 => ?_⟩
        · have := ih (q + 1) (up D a) _ (by omega) (fun u hu => up_lt hu) (hf.tr fs) ts (S ++ [a]) (by rw [List.length_append, hS]; rfl) hCS2 cs
          rw [up_no hw h0] at this
          exact this
        · refine s41A (a0.fr fs (by omega)) hw.1 ⟨_, rfl, ?_⟩
          exact ih (q + 1) (up D a) _ (by omega) (fun u hu => up_lt hu) (hf.tr fs) ts (S ++ [a]) (by rw [List.length_append, hS]; rfl) hCS2 cs
  exact ch 40 0 (some x) _ rfl (fun a e => by cases e; exact hx) f1 t1 [] rfl hC (fun j y hj => by rw [List.getElem?_nil] at hj; cases hj)
end PC9
