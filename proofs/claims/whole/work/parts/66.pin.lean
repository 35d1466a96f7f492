/-! WHAT STAYS IN ITS MOUNT: tops and places -/
def PIN (D : Nat → Nat → Int32) : Prop := ∀ a, a < nR D → hasD D a (D 9 a) = true ∧ ∀ u, u < nR D → D 10 a = D 6 u → hasD D u (D 11 a) = true
theorem hasD_row {D E : Nat → Nat → Int32} {a b : Nat} {dd : Int32} (h8 : E 8 a = D 8 b) (h9 : E 9 a = D 9 b) (sv : SameV D E) : hasD E a dd = hasD D b dd := by
  unfold hasD; rw [h8, h9, sv 3 (by decide) (by decide), sv 5 (by decide) (by decide)]
theorem hasD_self {D : Nat → Nat → Int32} {a : Nat} {dd : Int32} (h : dd < D 3 (D 8 a).toNatClampNeg) (h0 : ¬ dd < nI 0) (h9 : D 9 a = dd) : hasD D a dd = true := by
  unfold hasD
  rw [if_pos h]
  unfold blw
  rw [if_neg h0, if_pos h9.symm]
theorem hasD_lt {D : Nat → Nat → Int32} {a : Nat} {dd : Int32} (h : hasD D a dd = true) : dd < D 3 (D 8 a).toNatClampNeg ∧ ¬ dd < nI 0 := by
  unfold hasD at h
  by_cases h1 : dd < D 3 (D 8 a).toNatClampNeg
  · refine ⟨h1, fun h2 => ?_⟩
    rw [if_pos h1] at h
    unfold blw at h
    rw [if_pos h2] at h
    cases h
  · rw [if_neg h1, blw_neg] at h
    cases h
section PN
variable {D E D0 Ds : Nat → Nat → Int32} {M B : Nat} {l : List Nat} {own its dd : Int32} {b m x q : Nat} {sp : Int32} {lk : Bool}
theorem PIN.map (h : PIN D) {rho : Nat → Nat} (sv : SameV D E) (lt : ∀ a, a < nR E → rho a < nR D) (e8 : ∀ a, a < nR E → E 8 a = D 8 (rho a)) (e9 : ∀ a, a < nR E → E 9 a = D 9 (rho a)) (e11 : ∀ a, a < nR E → E 11 a = D 11 (rho a)) (e10 : ∀ a u, a < nR E → u < nR E → E 10 a = E 6 u → D 10 (rho a) = D 6 (rho u)) : PIN E := fun a ha => by
  refine ⟨?_, fun u hu e => ?_⟩
  · rw [e9 a ha, hasD_row (e8 a ha) (e9 a ha) sv]; exact (h _ (lt a ha)).1
  · rw [e11 a ha, hasD_row (e8 u hu) (e9 u hu) sv]; exact (h _ (lt a ha)).2 _ (lt u hu) (e10 a u ha hu e)
theorem PIN.sm (h : PIN D) (e0 : nR E = nR D) (sv : SameV D E) (e6 : ∀ a, E 6 a = D 6 a) (e8 : ∀ a, E 8 a = D 8 a) (e9 : ∀ a, E 9 a = D 9 a) (e10 : ∀ a, E 10 a = D 10 a) (e11 : ∀ a, E 11 a = D 11 a) : PIN E :=
  h.map (rho := fun a => a) sv (fun a ha => by omega) (fun a _ => e8 a) (fun a _ => e9 a) (fun a _ => e11 a) (fun a u _ _ e => by rw [e10, e6] at e; exact e)
theorem PIN.du (h : PIN D) {c k : Nat} {v : Int32} (hc : (c = 0 ∧ k ≠ 11) ∨ c = 7 ∨ 12 ≤ c) : PIN (dU D c k v) :=
  h.sm (nR_dU (by omega)) (sameV_dU (by omega)) (fun _ => dU_nc (by omega)) (fun _ => dU_nc (by omega)) (fun _ => dU_nc (by omega)) (fun _ => dU_nc (by omega)) (fun _ => dU_nc (by omega))
theorem PIN.new {f : Nat} {v t p v12 v13 : Int32} (h : PIN D) (cw : CW D M) (ok : OKP D) (h40 : nR D < 40) (hf : f < nR D) (ht : t < D 3 v.toNatClampNeg) (t0 : ¬ t < nI 0) (hp : hasD D f p = true) : PIN (aNew D sp v t (D 6 f) p v12 v13) := by
  have n1 : nR (aNew D sp v t (D 6 f) p v12 v13) = nR D + 1 := aNew_nR h40
  have old : ∀ {c r}, r < nR D → 6 ≤ c → aNew D sp v t (D 6 f) p v12 v13 c r = D c r := fun hr hc => aNew_old (by omega) hc
  have sv : SameV D (aNew D sp v t (D 6 f) p v12 v13) := aNew_sv
  intro a ha
  rw [n1] at ha
  by_cases ea : a = nR D
  · subst ea
    refine ⟨?_, fun u hu e => ?_⟩
    · rw [aNew_9]
      refine hasD_self ?_ t0 aNew_9
      rw [aNew_8, sv 3 (by decide) (by decide)]; exact ht
    · rw [n1] at hu
      rw [aNew_10] at e
      rw [aNew_11]
      by_cases eu : u = nR D
      · subst eu; rw [aNew_6] at e; exact absurd e (cw.2.2.1.fresh cw.1.2 hf)
      · rw [old (by omega) (by decide)] at e
        rw [← cw.2.2.1.uq cw.1.2 hf (by omega) e, hasD_row (old hf (by decide)) (old hf (by decide)) sv]
        exact hp
  · have ha2 : a < nR D := by omega
    refine ⟨?_, fun u hu e => ?_⟩
    · rw [old ha2 (by decide), hasD_row (old ha2 (by decide)) (old ha2 (by decide)) sv]; exact (h a ha2).1
    · rw [n1] at hu
      rw [old ha2 (by decide)] at e ⊢
      by_cases eu : u = nR D
      · subst eu; rw [aNew_6] at e; exact absurd e (fresh10 cw ok ha2)
      · have hu2 : u < nR D := by omega
        rw [old hu2 (by decide)] at e
        rw [hasD_row (old hu2 (by decide)) (old hu2 (by decide)) sv]
        exact (h a ha2).2 u hu2 e
theorem cpb_has {f : Nat} (h : cpb D m dd f = true) : hasD D f dd = true := by
  unfold cpb at h
  rw [Bool.and_eq_true, Bool.and_eq_true] at h
  exact h.2.1
theorem PIN.fold (P : PIN Ds) (h : WF Ds M B) (hd : l.Nodup) (hl : ∀ f ∈ l, f < nR Ds) (hx : x < nR Ds) (h40 : nR Ds + (l.filter (cpb Ds m dd)).length ≤ 40) (h11 : Ds 11 x = dd) (hi : ¬ its < nI 0) (hb : b + 41 < 2 ^ 31) (hK : gK D0 l ≤ 40) :
    ∀ q, q ≤ l.length → PIN ((l.take q).foldl (cp1 D0 l own its b m x dd) Ds) := by
  intro q
  induction q with
  | zero => intro _; exact P
  | succ q ih =>
    intro hq
    have hlt : q < l.length := by omega
    obtain ⟨E, hE⟩ : ∃ E, E = (l.take q).foldl (cp1 D0 l own its b m x dd) Ds := ⟨_, rfl⟩
    have i1 := ih (by omega)
    have i2 := h.fold (D0 := D0) (own := own) hd hl hx h40 h11 hi hb hK q (by omega)
    rw [← hE] at i1 i2
    obtain ⟨j1, j2, j3, -⟩ := cpI h.cw hd hl hx h40 q (by omega) E hE
    obtain ⟨r1, r2⟩ := cpI_room h.cw hd hl hx h40 hlt hE
    have hfn := hl _ (List.getElem_mem hlt)
    rw [List.take_succ_eq_append_getElem hlt, List.foldl_append, ← hE, List.foldl_cons, List.foldl_nil]
    unfold cp1
    by_cases hc : cpb E m dd l[q] = true
    · rw [if_pos hc]
      have hx11 : E 11 x = dd := by rw [j3 11 x (by decide) hx]; exact h11
      have hxt := hasD_lt (i1 x (by omega)).1
      unfold aCpy
      rw [hx11]
      exact i1.new i2.cw i2.ok (r2 hc) (by omega) hxt.1 hxt.2 (cpb_has hc)
    · rw [if_neg hc]; exact i1
theorem PIN.spread (P : PIN D) (h : WF D M B) (hp : PUT D0 D m x dd M) (hB : B + 100 < 2 ^ 30) : PIN (aSpr D0 D m x dd) := by
  obtain ⟨p1, p2, p3, p4, p5, p6, p7, p8, -, p10, p11, p12⟩ := hp
  obtain ⟨b, p9, pb⟩ := h.gl
  have n40 := p1.1.2
  have ecl : (D 0 14).toNatClampNeg = b := by rw [p9, nI_clamp (by omega)]
  have hl : ∀ f ∈ folL D0 m, f < nR D := fun f hf => by have := folL_lt hf; omega
  have hK := gK_le (r := m) p3
  have hN := nwg_le (r := m) (own := D 12 m) p3
  unfold aSpr
  rw [ecl]
  by_cases h0 : D 12 m = nI 0
  · rw [if_pos h0]; exact P
  · rw [if_neg h0]
    by_cases h1 : D 12 x = nI 0
    · rw [if_pos h1]
      have w3 : WF (dU (dU (dU D 0 14 (nI (b + 1))) 12 x (nI (b + 1))) 0 14 (nI (b + 1 + nwg D0 (folL D0 m) (D 12 m) (gK D0 (folL D0 m))))) M (B + 41) := by
        rw [dU_cm (c := 12) (c2 := 0) (by decide), dU_twice]
        exact (h.lg (by omega)).rg (nI_nn (by omega))
      have P3 : PIN (dU (dU (dU D 0 14 (nI (b + 1))) 12 x (nI (b + 1))) 0 14 (nI (b + 1 + nwg D0 (folL D0 m) (D 12 m) (gK D0 (folL D0 m))))) := ((P.du (by omega)).du (by omega)).du (by omega)
      have er : nR (dU (dU (dU D 0 14 (nI (b + 1))) 12 x (nI (b + 1))) 0 14 (nI (b + 1 + nwg D0 (folL D0 m) (D 12 m) (gK D0 (folL D0 m))))) = nR D := by rw [nR_dU (by omega), nR_dU (by omega), nR_dU (by omega)]
      have ec : cpb (dU (dU (dU D 0 14 (nI (b + 1))) 12 x (nI (b + 1))) 0 14 (nI (b + 1 + nwg D0 (folL D0 m) (D 12 m) (gK D0 (folL D0 m))))) m dd = cpb D m dd := by rw [cpb_dU (by omega), cpb_dU (by omega), cpb_dU (by omega)]
      have := P3.fold (D0 := D0) (own := D 12 m) (its := nI (b + 1)) (b := b + 1) (m := m) (x := x) (dd := dd) w3 (folL_nd D0 m) (by rw [er]; exact hl) (by rw [er]; exact p5) (by rw [er, ec]; exact p12) (by rw [dU_nc (by decide), dU_nc (by decide), dU_nc (by decide)]; exact p11) (nI_nn (by omega)) (by omega) hK (folL D0 m).length (Nat.le_refl _)
      rw [List.take_length] at this
      exact this
    · rw [if_neg h1]
      have w3 : WF (dU D 0 14 (nI (b + nwg D0 (folL D0 m) (D 12 m) (gK D0 (folL D0 m))))) M (B + 41) := h.lg (by omega)
      have P3 : PIN (dU D 0 14 (nI (b + nwg D0 (folL D0 m) (D 12 m) (gK D0 (folL D0 m))))) := P.du (by omega)
      have er : nR (dU D 0 14 (nI (b + nwg D0 (folL D0 m) (D 12 m) (gK D0 (folL D0 m))))) = nR D := by rw [nR_dU (by omega)]
      have ec : cpb (dU D 0 14 (nI (b + nwg D0 (folL D0 m) (D 12 m) (gK D0 (folL D0 m))))) m dd = cpb D m dd := by rw [cpb_dU (by omega)]
      have := P3.fold (D0 := D0) (own := D 12 m) (its := D 12 x) (b := b) (m := m) (x := x) (dd := dd) w3 (folL_nd D0 m) (by rw [er]; exact hl) (by rw [er]; exact p5) (by rw [er, ec]; exact p12) (by rw [dU_nc (by decide)]; exact p11) (h.gn x p5).1 (by omega) hK (folL D0 m).length (Nat.le_refl _)
      rw [List.take_length] at this
      exact this
theorem PIN.tl {v t gp ms : Int32} (P : PIN D) (h : WF D M B) (hB : B + 100 < 2 ^ 30) (hm : m < nR D) (hv : ∃ z, z < nV D ∧ v = nI z) (ht : t < D 3 v.toNatClampNeg) (t0 : ¬ t < nI 0) (hg : ¬ gp < nI 0) (hs : ¬ ms < nI 0) (ho : onP D m dd = none) (hd : hasD D m dd = true) : PIN (aTl D m v t gp ms dd).2 := by
  unfold aTl
  split
  · exact P
  · rename_i hc
    show PIN (aPut D (aRow D (D 7 m) v t gp ms) m (nR D) dd)
    unfold aPut
    rw [aStd_new hm]
    exact (P.new h.cw h.ok (by omega) hm ht t0 hd).spread (h.new (by omega) hm hv t0 ho hg hs) (PUT_new h.cw h.gn (h.gb (by omega)) hm hv t0 (by omega)) hB
theorem PIN.mnt {v : Int32} (P : PIN D) (h : WF D M B) (hB : B + 100 < 2 ^ 30) (hm : m < nR D) (hv : ∃ z, z < nV D ∧ v = nI z) (hd : hasD D m dd = true) : PIN (aMnt D m v dd).2 := by
  unfold aMnt
  split
  · exact P
  · rename_i ho
    refine P.tl h hB hm hv ?_ Int32.lt_irrefl Int32.lt_irrefl Int32.lt_irrefl (isSome_no ho) hd
    obtain ⟨z, hz, rfl⟩ := hv
    have v4 := h.cw.2.1.2.1
    obtain ⟨q1, q2, q3, -⟩ := h.cw.2.1.2.2 z hz
    rw [nI_clamp (by omega), q1, nI_ltI (by omega) (by omega)]
    omega
theorem PIN.bd {t : Int32} {s : Nat} (P : PIN D) (h : WF D M B) (hB : B + 100 < 2 ^ 30) (hm : m < nR D) (hs : s < nR D) (ht : hasD D s t = true) (hd : hasD D m dd = true) : PIN (aBd D s t m dd).2 := by
  unfold aBd
  split
  · exact P
  · rename_i ho
    split
    · exact P
    · split
      · exact P
      · exact P.tl h hB hm (h.cw.2.2.2 s hs).1 (hasD_lt ht).1 (hasD_lt ht).2 (h.gn s hs).1 (h.gn s hs).2 (isSome_no ho) hd
theorem PIN.mak {kd : Int32} (P : PIN D) : PIN (aMak D x kd) := by
  have h1 := fun v => P.du (c := 14) (k := x) (v := v) (by omega)
  unfold aMak
  split
  · split
    · exact ((h1 _).du (by omega)).du (by omega)
    · exact h1 _
  · split
    · split
      · exact ((h1 _).du (by omega)).du (by omega)
      · exact (h1 _).du (by omega)
    · exact ((h1 _).du (by omega)).du (by omega)
theorem PIN.std (P : PIN D) (h : CW D M) (hm : m < nR D) (hd : hasD D m dd = true) : PIN (aStd D m x dd) := by
  have e : ∀ {c a}, c ≠ 10 ∧ c ≠ 11 → aStd D m x dd c a = D c a := fun hc => aStd_c hc
  have ek : ∀ {c a}, a ≠ x → aStd D m x dd c a = D c a := fun hc => aStd_k hc
  have x10 : aStd D m x dd 10 x = D 6 m := by unfold aStd; rw [dU_nc (by decide), dU_e rfl rfl]
  have x11 : aStd D m x dd 11 x = dd := by unfold aStd; rw [dU_e rfl rfl]
  have nE : nR (aStd D m x dd) = nR D := aStd_nR
  have sv : SameV D (aStd D m x dd) := (sameV_dU (by omega)).tr (sameV_dU (by omega))
  intro a ha
  rw [nE] at ha
  refine ⟨?_, fun u hu e1 => ?_⟩
  · rw [e (by decide), hasD_row (e (by decide)) (e (by decide)) sv]; exact (P a ha).1
  · rw [nE] at hu
    rw [e (c := 6) (by decide)] at e1
    rw [hasD_row (e (by decide)) (e (by decide)) sv]
    by_cases hax : a = x
    · rw [hax, x10] at e1
      rw [hax, x11, ← h.2.2.1.uq h.1.2 hm hu e1]; exact hd
    · rw [ek hax] at e1 ⊢
      exact (P a ha).2 u hu e1
theorem PIN.mov (P : PIN D) (h : WF D M B) (hB : B + 100 < 2 ^ 30) (hx : x < nR D) (hm : m < nR D) (hd : hasD D m dd = true) : PIN (aMov D x m dd).2 := by
  unfold aMov
  by_cases h0 : aRef D x m dd = nI 0
  · rw [if_neg (fun q => q h0)]
    split
    · exact P
    · rename_i hc
      have hxm := aRef_ne h0
      show PIN (aSpr D (aStd D m x dd) m x dd)
      have hP := PUT_std (dd := dd) h.cw h.gn (h.gb (by omega)) h.uq hx hm hxm (by omega)
      unfold aRef at h0
      have bad : ∀ {k : Nat}, k < 8 → ¬ -nI (k + 1) = nI 0 := fun hk => by
        intro q
        have hh : ∀ k : Fin 8, ¬ -nI (k.1 + 1) = nI 0 := by decide +kernel
        exact hh ⟨_, hk⟩ q
      split at h0
      · exact absurd h0 (bad (k := 0) (by decide))
      · rename_i ho
        split at h0
        · exact absurd h0 (bad (k := 1) (by decide))
        · split at h0
          · exact absurd h0 (bad (k := 2) (by decide))
          · split at h0
            · exact absurd h0 (bad (k := 3) (by decide))
            · rename_i u hu
              split at h0
              · exact absurd h0 (bad (k := 4) (by decide))
              · split at h0
                · exact absurd h0 (bad (k := 5) (by decide))
                · split at h0
                  · exact absurd h0 (bad (k := 6) (by decide))
                  · rename_i hc7
                    refine PIN.spread (P.std h.cw hm hd) (h.std hx hm hxm (fun q => hc7 (Or.inr q)) (fun q => ?_) (isSome_no ho) (Decidable.byContradiction fun q => hc7 (Or.inl q))) hP hB
                    rw [up_no h.cw (by rw [q]; exact nI_neg1)] at hu
                    cases hu
  · rw [if_pos h0]
    exact P
theorem PIN.rem (P : PIN D) (n40 : nR D ≤ 40) : PIN (aRem D q (nR D)) := by
  have nE : nR (aRem D q (nR D)) = nR D - 1 := nR_aRem n40
  have e : ∀ {c a}, 6 ≤ c ∧ c < 16 → a < nR (aRem D q (nR D)) → aRem D q (nR D) c a = D c (sh q a) := fun hc ha => aRem_sh hc (by omega)
  exact P.map (rho := sh q) sameV_aRem (fun a ha => sh_n (by omega)) (fun a ha => e (by decide) ha) (fun a ha => e (by decide) ha) (fun a ha => e (by decide) ha) (fun a u ha hu e1 => by
    rw [e (by decide) ha, e (by decide) hu] at e1; exact e1)
theorem PIN.cutA {dd v top nf : Int32} (P : PIN D) (h40 : nR D ≤ 40) : PIN (rmA dd v top D nf) := by
  unfold rmA
  split
  · exact P
  · exact P.rem h40
theorem PIN.cutS {dd v top : Int32} : ∀ (l : List Int32) (p : (Nat → Nat → Int32) × Nat), PIN p.1 → ROK p.1 → PIN (l.foldl (rmS dd v top) p).1 := by
  intro l
  induction l with
  | nil => intro p h _; exact h
  | cons a r ih => intro p h hr; exact ih (rmS dd v top p a) (h.cutA hr.2) (rmA_rok hr)
theorem PIN.unm (P : PIN D) (h40 : nR D ≤ 40) : PIN (aUnm D x).2 := by
  unfold aUnm
  split
  · exact P
  · split
    · exact P
    · split
      · exact P
      · exact PIN.cutS _ (aRem D x (nR D), 1) (P.rem h40) (rok_aRem h40)
theorem PIN.drpL (P : PIN D) : ∀ q E, PIN E → ROK E → PIN (drp q E) := by
  intro q
  induction q with
  | zero => intro E h _; exact h
  | succ q ih =>
    intro E h hr
    unfold drp
    split
    · exact ih _ (h.rem hr.2) (rok_aRem hr.2)
    · exact ih _ h hr
theorem PIN.drp1 (P : PIN D) (hr : ROK D) : PIN (aDrp D) := P.drpL (nR D) _ (P.du (by omega)) (rok_dU (by omega) hr)
theorem PIN.dup (P : PIN D) (h : WF D M B) (hc : nR D + cntF (inS D sp) (nR D) ≤ 40) : PIN (aDup D sp lk) := by
  have cw := h.cw
  have n40 := h.n40
  obtain ⟨mk1, mk2, mk3, mk4⟩ := cw.2.2.1
  obtain ⟨p, hp⟩ : ∃ p, p = inS D sp := ⟨_, rfl⟩
  obtain ⟨n, hn⟩ : ∃ n, n = nR D := ⟨_, rfl⟩
  obtain ⟨l, hl⟩ : ∃ l, l = lqq p n := ⟨_, rfl⟩
  have hll : l.length = cntF p n := by rw [hl]; exact lqq_len
  have hpe : ∀ {a}, p a = true → D 7 a = sp := fun ha => by rw [hp] at ha; exact of_decide_eq_true ha
  have hpi : ∀ {a}, D 7 a = sp → p a = true := fun ha => by rw [hp]; exact decide_eq_true ha
  have pA : ∀ {j}, j < l.length → rrr l j < n ∧ p (rrr l j) = true ∧ cntF p (rrr l j) = j := fun hj => by rw [hl] at hj ⊢; exact posA n _ hj
  have pB : ∀ {a}, a < n → p a = true → cntF p a < l.length ∧ rrr l (cntF p a) = a := fun ha hpa => by rw [hl]; exact posB n _ ha hpa
  obtain ⟨E, hE⟩ : ∃ E, E = aDup D sp lk := ⟨_, rfl⟩
  have hEd : E = dupF D l (fun _ r => fxD D sp r) (fun _ r => D 11 r) lk (D 0 12 + nI 1) := by rw [hE, hl, hp, hn]; rfl
  rw [← hp, ← hn] at hc
  have hb : nR D + l.length ≤ 40 := by omega
  have nE : nR E = n + l.length := by rw [hEd, dupF_nR hb]; omega
  have eo' : ∀ {c a}, a < n → c ≠ 0 → E c a = D c a := fun ha hc0 => by rw [hEd]; exact dupF_old (by omega) hc0
  have en : ∀ {c j}, j < l.length → 6 ≤ c ∧ c < 16 → E c (n + j) = dupV D lk (fxD D sp (rrr l j)) (D 11 (rrr l j)) (rrr l j) j c := fun hj hc0 => by rw [hEd, hn]; exact dupF_new hj hc0
  have e6 : ∀ {j}, j < l.length → E 6 (n + j) = nI (mk D + j) := fun hj => by rw [en hj (by decide)]; unfold dupV; rw [if_pos rfl, mk1, nI_add]
  have e8 : ∀ {j}, j < l.length → E 8 (n + j) = D 8 (rrr l j) := fun hj => by rw [en hj (by decide)]; unfold dupV; simp
  have e9 : ∀ {j}, j < l.length → E 9 (n + j) = D 9 (rrr l j) := fun hj => by rw [en hj (by decide)]; unfold dupV; simp
  have e10 : ∀ {j}, j < l.length → E 10 (n + j) = fxD D sp (rrr l j) := fun hj => by rw [en hj (by decide)]; unfold dupV; simp
  have e11 : ∀ {j}, j < l.length → E 11 (n + j) = D 11 (rrr l j) := fun hj => by rw [en hj (by decide)]; unfold dupV; simp
  have sv : SameV D E := by rw [hEd]; exact dupF_sv
  have cs : ∀ {a}, a < nR E → a < n ∨ ∃ j, j < l.length ∧ a = n + j := fun {a} ha => by
    by_cases h1 : a < n
    · exact Or.inl h1
    · exact Or.inr ⟨a - n, by omega, by omega⟩
  have r1 : ∀ {a}, a < n → (if a < n then a else rrr l (a - n)) = a := fun ha => if_pos ha
  have r2 : ∀ {j}, (if n + j < n then n + j else rrr l (n + j - n)) = rrr l j := fun {j} => by rw [if_neg (by omega), Nat.add_sub_cancel_left]
  have same : ∀ {c}, (c = 8 ∨ c = 9 ∨ c = 11) → ∀ a, a < nR E → E c a = D c (if a < n then a else rrr l (a - n)) := fun {c} hc a ha => by
    rcases cs ha with h1 | ⟨j, hj, rfl⟩
    · rw [r1 h1, eo' h1 (by omega)]
    · rw [r2]
      rcases hc with e | e | e
      · rw [e]; exact e8 hj
      · rw [e]; exact e9 hj
      · rw [e]; exact e11 hj
  rw [← hE]
  refine P.map (rho := fun a => if a < n then a else rrr l (a - n)) sv (fun a ha => ?_) (same (by omega)) (same (by omega)) (same (by omega)) (fun a u ha hu x1 => ?_)
  · rcases cs ha with h1 | ⟨j, hj, rfl⟩
    · rw [r1 h1]; omega
    · rw [r2]; have := (pA hj).1; omega
  · rcases cs ha with h1 | ⟨j, hj, rfl⟩
    · rw [r1 h1]
      rw [eo' h1 (by decide)] at x1
      rcases cs hu with h2 | ⟨j2, hj2, rfl⟩
      · rw [r1 h2]; rw [eo' h2 (by decide)] at x1; exact x1
      · rw [e6 hj2] at x1
        exfalso
        rcases h.ok a (by omega) with w | ⟨u, hu, w⟩
        · rw [w] at x1; exact nI_ne1 (by omega) x1.symm
        · have h1 := mk4 u hu
          rw [w, h1.1, nI_eq (by omega) (by omega)] at x1
          omega
    · rw [r2]
      rw [e10 hj] at x1
      obtain ⟨q1, q2, q3⟩ := pA hj
      rcases h.ok _ (show rrr l j < nR D by omega) with q | ⟨u', hu', q⟩
      · exfalso
        unfold fxD at x1
        rw [if_pos q] at x1
        rcases cs hu with h2 | ⟨j2, hj2, rfl⟩
        · rw [eo' h2 (by decide)] at x1; exact num_ne cw (by omega) x1.symm
        · rw [e6 hj2] at x1; exact nI_ne1 (by omega) x1.symm
      · have hpu : p u' = true := hpi ((h.sc _ u' (by omega) hu' q).symm.trans (hpe q2))
        obtain ⟨b1, b2⟩ := pB (show u' < n by omega) hpu
        unfold fxD at x1
        rw [if_neg (by rw [q]; exact num_ne cw hu'), up_of cw hu' q, ← hp, mk1, nI_add] at x1
        dsimp only [Option.getD] at x1
        rcases cs hu with h2 | ⟨j2, hj2, rfl⟩
        · exfalso
          rw [eo' h2 (by decide), (mk4 u (by omega)).1, nI_eq (by omega) (by have := mk4 u (by omega); omega)] at x1
          have := mk4 u (by omega)
          omega
        · rw [e6 hj2, nI_eq (by omega) (by omega)] at x1
          rw [r2, q]
          have : j2 = cntF p u' := by omega
          rw [this, b2]
theorem PIN.cps (P : PIN D) (h : WF D M B) : PIN (aCps D sp lk).2 := by
  unfold aCps
  split
  · exact P
  · split
    · exact P
    · rename_i hc
      show PIN (aDup D sp lk)
      exact P.dup h (by omega)
end PN
