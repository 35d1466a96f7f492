/-! BYTES ARE ADDED TO THE TEXT -/
def byB (y : Int32) : Nat := y.toBitVec.toNat % 256
theorem byB_lt {y : Int32} : byB y < 256 := Nat.mod_lt _ (by decide)
theorem byB_and (y : Int32) : y &&& nI 255 = nI (byB y) := by
  refine Int32.toBitVec_inj.mp ?_
  rw [Int32.toBitVec_and, nI_bv, nI_bv]
  apply BitVec.eq_of_toNat_eq
  rw [BitVec.toNat_and, BitVec.toNat_ofNat, BitVec.toNat_ofNat]
  have h : (255 : Nat) % 2 ^ 32 = 255 := by decide
  rw [h, and255]
  unfold byB
  omega
theorem byB_nar (y : Int32) : narT 1 (y.toInt8.toInt32) = sbI (byB y) := by
  have e : y.toInt8 = (nI (byB y)).toInt8 := by
    refine Int8.toBitVec_inj.mp ?_
    rw [Int32.toBitVec_toInt8, Int32.toBitVec_toInt8, nI_bv]
    apply BitVec.eq_of_toNat_eq
    rw [BitVec.signExtend_eq_setWidth_of_le _ (by decide), BitVec.signExtend_eq_setWidth_of_le _ (by decide), BitVec.toNat_setWidth, BitVec.toNat_setWidth, BitVec.toNat_ofNat]
    unfold byB
    omega
  rw [e]
  have hh : ∀ b : Fin 256, narT 1 ((nI b.1).toInt8.toInt32) = sbI b.1 := by decide +kernel
  exact hh ⟨byB y, byB_lt⟩
/-- the text when q bytes are added; the words -/
def apn (tx : Nat → Nat) (n : Nat) (W : Nat → Int32) (q : Nat) : Nat → Nat := fun t => if n ≤ t ∧ t < n + q then byB (W (t - n)) else tx t
theorem apn_0 {tx : Nat → Nat} {n t : Nat} {W : Nat → Int32} : apn tx n W 0 t = tx t := if_neg (by omega)
def w9d (a1 a2 a3 a4 a5 : Int32) (q : Nat) : Int32 := (if q < 4 then a1 else if q < 8 then a2 else if q < 12 then a3 else if q < 16 then a4 else a5) >>> (nI (24 - 8 * (q % 4)) &&& 31)
def TBC (g : Gs) (n : Nat) (tx : Nat → Nat) : Prop := g.1 0 21 1 = nI n ∧ ∀ t, t < n → tx t < 256 ∧ g.1 0 22 t = sbI (tx t)
def TBR (g : Gs) (n : Nat) (tx : Nat → Nat) : Prop := ∀ t, t < n → tx t < 256 ∧ g.1 0 78 t = nI (tx t)
abbrev P212 : Nat → Nat → Prop := fun i c => i = 0 ∧ (c = 21 ∨ c = 22)
section AP
variable {sc : SC} {d n o k w : Nat} {g g' : Gs} {Φ : RS → Gs → Prop} {D : Nat → Nat → Int32} {T : List Nat} {ea x a1 a2 a3 a4 a5 : Int32} {tx : Nat → Nat} {W : Nat → Int32} {H : Nat → Nat → Nat → Int32}
theorem apn_lt {q : Nat} (h : ∀ t, t < n → tx t < 256) : ∀ t, t < n + q → apn tx n W q t < 256 := fun t ht => by
  unfold apn
  split
  · exact byB_lt
  · exact h t (by omega)
theorem apn_st {q t : Nat} (ht : t ≠ n + q) : apn tx n W (q + 1) t = apn tx n W q t := by
  unfold apn
  by_cases h : n ≤ t ∧ t < n + q
  · rw [if_pos h, if_pos (by omega)]
  · rw [if_neg h, if_neg (by omega)]
theorem apn_e {q : Nat} : apn tx n W (q + 1) (n + q) = byB (W q) := by
  unfold apn
  rw [if_pos (by omega), show n + q - n = q by omega]
/-- one byte in the class -/
theorem st25 {q : Nat} {y : Int32} (hq : n + q < 600) (h : TBC g (n + q) (apn tx n W q)) (y0 : ¬ y < nI 0) (e : x >>> (y &&& 31) = W q) (kk : ∀ g', Fr P212 g g' → TBC g' (n + (q + 1)) (apn tx n W (q + 1)) → Xe sc d 25 3 [vR 0 21, vI x, vI (y + (-nI 8))] [] g' Φ) : Xe sc d 25 3 [vR 0 21, vI x, vI y] [] g Φ := by
  obtain ⟨h1, h2⟩ := h
  refine v25_3 ⟨fun z => absurd z y0, fun _ => ?_⟩
  rw [h1]
  refine ⟨fun _ => ⟨inb_nI hq (by decide), ?_⟩, fun z => absurd ((nI_ltI (by omega) (by decide)).mpr hq) z⟩
  rw [nI_clamp (by omega), e, byB_nar]
  intro G1 e1 G2 e2
  have n1 : G1 0 21 1 = nI (n + q) := by rw [e1, u3_nc (by decide)]; exact h1
  rw [n1, nI_add] at e2
  have f2 : Fr P212 g (G2, g.2) := by
    rw [e2, e1]
    exact Fr.u3 (Fr.u3 (Fr.rf _) ⟨rfl, by decide⟩) ⟨rfl, by decide⟩
  refine kk (G2, g.2) f2 ⟨by dsimp only; rw [e2, u3_ek rfl]; rfl, fun t ht => ?_⟩
  dsimp only
  by_cases hn : t = n + q
  · subst hn
    rw [apn_e]
    exact ⟨byB_lt, by rw [e2, u3_nc (by decide), e1, u3_ek rfl]⟩
  · rw [apn_st hn]
    obtain ⟨c1, c2⟩ := h2 t (by omega)
    exact ⟨c1, by rw [e2, u3_nc (by decide), e1, u3_nk hn]; exact c2⟩
theorem s25 {q : Nat} (hq : n + q + 4 ≤ 600) (h : TBC g (n + q) (apn tx n W q)) (e0 : x >>> (nI 24 &&& 31) = W q) (e1 : x >>> (nI 16 &&& 31) = W (q + 1)) (e2 : x >>> (nI 8 &&& 31) = W (q + 2)) (e3 : x >>> (nI 0 &&& 31) = W (q + 3)) (kk : ∀ g', Fr P212 g g' → TBC g' (n + (q + 4)) (apn tx n W (q + 4)) → Φ (.inl none) g') : Rn sc (d + 1) 25 [vR 0 21, vI x] g Φ := by
  refine Rn.of rfl (v25_0 ?_)
  refine st25 (by omega) h (by decide +kernel) e0 (fun g1 f1 h1 => ?_)
  rw [show nI 24 + -nI 8 = nI 16 by decide +kernel]
  refine st25 (q := q + 1) (by omega) h1 (by decide +kernel) e1 (fun g2 f2 h2 => ?_)
  rw [show nI 16 + -nI 8 = nI 8 by decide +kernel]
  refine st25 (q := q + 1 + 1) (by omega) h2 (by decide +kernel) e2 (fun g3 f3 h3 => ?_)
  rw [show nI 8 + -nI 8 = nI 0 by decide +kernel]
  refine st25 (q := q + 1 + 1 + 1) (by omega) h3 (by decide +kernel) e3 (fun g4 f4 h4 => ?_)
  refine v25_3 ⟨fun _ => kk g4 (f1.tr (f2.tr (f3.tr f4))) h4, fun z => absurd (show nI 0 + -nI 8 < nI 0 by decide +kernel) z⟩
theorem CLS.txt9 (h : CLS g D T n o k ea tx H) (f : Fr P212 g g') {m : Nat} {ty : Nat → Nat} (hm : m ≤ 600) (t : TBC g' m ty) : CLS g' D T m o k ea ty H := by
  obtain ⟨h1, h2, h3, h4, h5, h6, h7, h8, h9, h10⟩ := h
  have e : ∀ i c, ¬ (i = 0 ∧ (c = 21 ∨ c = 22)) → g'.1 i c = g.1 i c := f.1
  refine ⟨fun c hc => by rw [e 0 c (by omega)]; exact h1 c hc, by rw [e 0 20 (by omega)]; exact h2, t.1, ⟨hm, t.2⟩, ?_, by rw [e 0 62 (by omega)]; exact h6, h7, by rw [e 0 62 (by omega)]; exact h8, h9, fun j hj c hc => by rw [e _ c (by omega)]; exact h10 j hj c hc⟩
  unfold TXC
  rw [e 0 55 (by omega), e 0 58 (by omega)]
  exact h5
theorem q94 (h : CLS g D T n o k ea tx H) (K0 : 600 < n + 20 → Φ (.inl (some (vI (-nI 1)))) g) (K1 : n + 20 ≤ 600 → ∀ g', FCW g g' → CLS g' D T (n + 20) o k ea (apn tx n (w9d a1 a2 a3 a4 a5) 20) H → Φ (.inl (some (vI (nI (n + 20))))) g') : Rn sc (d + 20) 94 [vR 0 20, vI a1, vI a2, vI a3, vI a4, vI a5] g Φ := by
  have hn : g.1 0 21 1 = nI n := h.2.2.1
  have n6 := h.2.2.2.1.1
  refine Rn.of rfl (v94_0 ?_)
  rw [hn, nI_add]
  refine ⟨fun q => K0 ((nI_ltI (by decide) (by omega)).mp q), fun q => ?_⟩
  have h20 : n + 20 ≤ 600 := Nat.le_of_not_lt fun z => q ((nI_ltI (by decide) (by omega)).mpr z)
  have t0 : TBC g (n + 0) (apn tx n (w9d a1 a2 a3 a4 a5) 0) := ⟨hn, fun t ht => by rw [apn_0]; exact h.2.2.2.1.2 t ht⟩
  refine s25 (q := 0) (by omega) t0 rfl rfl rfl rfl (fun g1 f1 t1 => ⟨rfl, ?_⟩)
  refine s25 (q := 4) (by omega) t1 rfl rfl rfl rfl (fun g2 f2 t2 => ⟨rfl, ?_⟩)
  refine s25 (q := 8) (by omega) t2 rfl rfl rfl rfl (fun g3 f3 t3 => ⟨rfl, ?_⟩)
  refine s25 (q := 12) (by omega) t3 rfl rfl rfl rfl (fun g4 f4 t4 => ⟨rfl, ?_⟩)
  refine s25 (q := 16) (by omega) t4 rfl rfl rfl rfl (fun g5 f5 t5 => ⟨rfl, ?_⟩)
  rw [t5.1]
  have f := f1.tr (f2.tr (f3.tr (f4.tr f5)))
  exact K1 h20 g5 (FCW.of f (fun i c q => by omega)) (h.txt9 f h20 t5)
/-- the reference's -/
theorem st175 {q : Nat} {y : Int32} {Xk : Gs → Prop} (hn : g.1 0 70 14 = nI n) (h20 : n + 20 ≤ 600) (hq : q < 20) (h : TBR g (n + q) (apn tx n W q)) (e : y >>> (nI (24 - 8 * (q % 4)) &&& 31) = W q) (kk : ∀ g', Fr (fun i c => i = 0 ∧ c = 78) g g' → TBR g' (n + (q + 1)) (apn tx n W (q + 1)) → Xk g') : inb (g.1 0 70 14 + nI q) 600 = true ∧ ∀ G1 : Gm, G1 = u3 g.1 0 78 (g.1 0 70 14 + nI q).toNatClampNeg ((y >>> ((nI 24 - nI 8 * (nI q - nI q / nI 4 * nI 4)) &&& 31)) &&& nI 255) → Xk (G1, g.2.1, g.2.2) := by
  have em : ∀ q : Fin 20, nI 24 - nI 8 * (nI q.1 - nI q.1 / nI 4 * nI 4) = nI (24 - 8 * (q.1 % 4)) := by decide +kernel
  rw [hn, nI_add, em ⟨q, hq⟩, nI_clamp (by omega)]
  refine ⟨inb_nI (by omega) (by decide), ?_⟩
  intro G1 e1
  rw [e, byB_and] at e1
  have f1 : Fr (fun i c => i = 0 ∧ c = 78) g (G1, g.2.1, g.2.2) := by rw [e1]; exact Fr.u3 (Fr.rf _) ⟨rfl, rfl⟩
  refine kk _ f1 (fun t ht => ?_)
  dsimp only
  by_cases hn : t = n + q
  · subst hn
    rw [apn_e]
    exact ⟨byB_lt, by rw [e1, u3_ek rfl]⟩
  · rw [apn_st hn]
    obtain ⟨c1, c2⟩ := h t (by omega)
    exact ⟨c1, by rw [e1, u3_nk hn]; exact c2⟩
theorem q175 (h : REF g D T n k w ea tx H) (K0 : 600 < n + 20 → ∀ g', FRF g g' → REF g' D T n k w ea tx H → Φ (.inl (some (vI (-nI 1)))) g') (K1 : n + 20 ≤ 600 → ∀ g', FRF g g' → REF g' D T (n + 20) k w ea (apn tx n (w9d a1 a2 a3 a4 a5) 20) H → Φ (.inl (some (vI (nI (n + 20))))) g') : Rn sc (d + 20) 175 [vR 0 70, vI a1, vI a2, vI a3, vI a4, vI a5] g Φ := by
  refine Rn.of rfl (v175_0 ?_)
  intro G0 e0
  obtain ⟨f0, h0, _⟩ := h.z e0
  have hn : G0 0 70 14 = nI n := h0.2.2.2.1
  have n6 := h0.2.2.2.2.1.1
  rw [hn, nI_add]
  refine ⟨fun q => K0 ((nI_ltI (by decide) (by omega)).mp q) _ f0.frf h0, fun q => ?_⟩
  have h20 : n + 20 ≤ 600 := Nat.le_of_not_lt fun z => q ((nI_ltI (by decide) (by omega)).mpr z)
  obtain ⟨W, hW⟩ : ∃ W, W = w9d a1 a2 a3 a4 a5 := ⟨_, rfl⟩
  rw [← hW] at K1
  have t0 : TBR (G0, g.2.1, g.2.2) (n + 0) (apn tx n W 0) := fun t ht => by rw [apn_0]; exact h0.2.2.2.2.1.2 t ht
  suffices hh : ∀ z : AV, Xe sc (d + 19) 175 23 [vR 0 70, vI a1, vI a2, vI a3, vI a4, vI a5, vI (nI 0), z] [] (G0, g.2.1, g.2.2) Φ from hh _
  refine turnsS (σ := Gs) (W := fun q s => ∀ z : AV, Xe sc (d + 19) 175 23 [vR 0 70, vI a1, vI a2, vI a3, vI a4, vI a5, vI (nI q), z] [] s Φ) (I := fun q s => Fr (fun i c => i = 0 ∧ c = 78) (G0, g.2.1, g.2.2) s ∧ TBR s (n + q) (apn tx n W q)) (n := 20) (fun q s hq hI hWq => ?_) (fun s hI => ?_) (G0, g.2.1, g.2.2) ⟨Fr.rf _, t0⟩
  · obtain ⟨fs, ts⟩ := hI
    intro z
    have ns : s.1 0 70 14 = nI n := by rw [fs.1 0 70 (by simp)]; exact hn
    have nx : ∀ y g1, Fr (fun i c => i = 0 ∧ c = 78) s g1 → TBR g1 (n + (q + 1)) (apn tx n W (q + 1)) → Xe sc (d + 19) 175 23 [vR 0 70, vI a1, vI a2, vI a3, vI a4, vI a5, vI (nI q + nI 1), y] [] g1 Φ := fun y g1 f1 t1 => by
      rw [nI_add]
      exact hWq g1 ⟨fs.tr f1, t1⟩ y
    have ew : ∀ y, y = (if q < 4 then a1 else if q < 8 then a2 else if q < 12 then a3 else if q < 16 then a4 else a5) → y >>> (nI (24 - 8 * (q % 4)) &&& 31) = W q := fun y ey => by rw [hW, ey]; rfl
    refine v175_23 ⟨fun _ => ⟨fun c4 => ?_, fun c4 => ⟨fun c8 => ?_, fun c8 => ⟨fun c12 => ?_, fun c12 => ⟨fun c16 => ?_, fun c16 => ?_⟩⟩⟩⟩, fun c20 => absurd ((nI_ltI (by omega) (by decide)).mpr hq) c20⟩
    · have p4 : q < 4 := (nI_ltI (by omega) (by decide)).mp c4
      exact st175 ns h20 hq ts (ew a1 (by rw [if_pos p4])) (fun g1 f1 t1 => nx _ g1 f1 t1)
    · have p4 : ¬ q < 4 := fun p => c4 ((nI_ltI (by omega) (by decide)).mpr p)
      have p8 : q < 8 := (nI_ltI (by omega) (by decide)).mp c8
      exact st175 ns h20 hq ts (ew a2 (by rw [if_neg p4, if_pos p8])) (fun g1 f1 t1 => nx _ g1 f1 t1)
    · have p4 : ¬ q < 4 := fun p => c4 ((nI_ltI (by omega) (by decide)).mpr p)
      have p8 : ¬ q < 8 := fun p => c8 ((nI_ltI (by omega) (by decide)).mpr p)
      have p12 : q < 12 := (nI_ltI (by omega) (by decide)).mp c12
      exact st175 ns h20 hq ts (ew a3 (by rw [if_neg p4, if_neg p8, if_pos p12])) (fun g1 f1 t1 => nx _ g1 f1 t1)
    · have p4 : ¬ q < 4 := fun p => c4 ((nI_ltI (by omega) (by decide)).mpr p)
      have p8 : ¬ q < 8 := fun p => c8 ((nI_ltI (by omega) (by decide)).mpr p)
      have p12 : ¬ q < 12 := fun p => c12 ((nI_ltI (by omega) (by decide)).mpr p)
      have p16 : q < 16 := (nI_ltI (by omega) (by decide)).mp c16
      exact st175 ns h20 hq ts (ew a4 (by rw [if_neg p4, if_neg p8, if_neg p12, if_pos p16])) (fun g1 f1 t1 => nx _ g1 f1 t1)
    · have p4 : ¬ q < 4 := fun p => c4 ((nI_ltI (by omega) (by decide)).mpr p)
      have p8 : ¬ q < 8 := fun p => c8 ((nI_ltI (by omega) (by decide)).mpr p)
      have p12 : ¬ q < 12 := fun p => c12 ((nI_ltI (by omega) (by decide)).mpr p)
      have p16 : ¬ q < 16 := fun p => c16 ((nI_ltI (by omega) (by decide)).mpr p)
      exact st175 ns h20 hq ts (ew a5 (by rw [if_neg p4, if_neg p8, if_neg p12, if_neg p16])) (fun g1 f1 t1 => nx _ g1 f1 t1)
  · obtain ⟨fs, ts⟩ := hI
    intro z
    have bs : ∀ i c, ¬ (i = 0 ∧ c = 78) → s.1 i c = G0 i c := fs.1
    have ns : s.1 0 70 14 = nI n := by rw [bs 0 70 (by simp)]; exact hn
    refine v175_23 ⟨fun c => absurd c (by decide +kernel), fun _ => ?_⟩
    rw [ns, nI_add]
    intro G10 e10
    have e14 : G10 0 70 14 = nI (n + 20) := by rw [e10, u3_ek rfl]
    rw [e14]
    have f10 : Fr (fun i c => i = 0 ∧ c = 70) s (G10, s.2.1, s.2.2) := by rw [e10]; exact Fr.u3 (Fr.rf _) ⟨rfl, rfl⟩
    have b10 : ∀ i c, ¬ (i = 0 ∧ c = 70) → G10 i c = s.1 i c := f10.1
    have c10 : ∀ z, z ≠ 14 → G10 0 70 z = G0 0 70 z := fun z hz => by rw [e10, u3_nk hz, bs 0 70 (by simp)]
    refine K1 h20 _ (f0.frf.tr ((FRF.of fs (fun i c q => by omega)).tr (FRF.of f10 (fun i c q => by omega)))) ?_
    obtain ⟨p1, p2, p3, p4, p5, p6, p7, p8, p9⟩ := h0
    have e71 : G10 0 71 = G0 0 71 := (b10 0 71 (by simp)).trans (bs 0 71 (by simp))
    have e80 : G10 0 80 = G0 0 80 := (b10 0 80 (by simp)).trans (bs 0 80 (by simp))
    exact ⟨⟨(c10 2 (by decide)).trans p1.1, p1.2.1, by dsimp only; rw [e71]; exact p1.m, p1.r, by dsimp only; rw [e71]; exact p1.v, p1.vk⟩, p2, (c10 15 (by decide)).trans p3, e14, ⟨h20, fun t ht => by dsimp only; rw [b10 0 78 (by simp)]; exact ts t ht⟩, p6.fr (c10 27 (by decide)) e80, (c10 3 (by decide)).trans p7, p8, fun j hj => by dsimp only; rw [e71]; exact p9 j hj⟩
end AP
