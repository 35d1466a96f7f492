/-! THE REFERENCE COPIES A SPACE -/
theorem MC.c77 {g : Gs} {w k : Nat} {v : Int32} {D : Nat → Nat → Int32} (h : MC g w D) : MC (u3 g.1 0 77 k v, g.2) w D := h.c70 (by decide) (fun q => absurd q (by decide))
def FS (w : Nat) (g g' : Gs) : Prop := Fr (fun i c => i = 0 ∧ (c = 71 ∨ c = 77)) g g' ∧ ∀ j, ¬ MW w j → g'.1 0 71 j = g.1 0 71 j
theorem FS.rf (w : Nat) (g : Gs) : FS w g g := ⟨Fr.rf g, fun _ _ => rfl⟩
theorem FS.tr {w : Nat} {a b c : Gs} (h1 : FS w a b) (h2 : FS w b c) : FS w a c := ⟨h1.1.tr h2.1, fun j hj => (h2.2 j hj).trans (h1.2 j hj)⟩
theorem FS.m {w : Nat} {a b : Gs} (h : Fm w a b) : FS w a b := ⟨h.1.wk (fun _ _ q => ⟨q.1, Or.inl q.2⟩), h.2⟩
theorem FS.p {w k : Nat} {g : Gs} {v : Int32} : FS w g (u3 g.1 0 77 k v, g.2) := ⟨Fr.u3 (Fr.rf g) ⟨rfl, Or.inr rfl⟩, fun j _ => by dsimp only; rw [u3_nc (by decide)]⟩
section DV
variable {sc : SC} {d i w r M : Nat} {g : Gs} {Φ : RS → Gs → Prop} {D E : Nat → Nat → Int32} {sp : Int32} {lk : Bool}
theorem s171 (h : MC g w E) (h40 : nR E < 40) (hr : r < nR E) (hE : ∀ c, 6 ≤ c → E c r = D c r) (gp : ¬ D 12 r < nI 0)
    (k : ∀ g', MC g' w (dupS D E r (-nI 1) (-nI 1) lk) → FS w g g' → (∀ u, g'.1 0 77 u = if u = r then nI (nR E) else g.1 0 77 u) → Φ (.inl none) g') : Rn sc (d + 3) 171 [vR 0 70, vI (nI r), vI (D 0 12), vI (if lk = true then nI 1 else nI 0)] g Φ := by
  have w10 := h.l
  have w0 := h.w
  have f2 := h.m.f2 r hr
  have f3 := h.m.f3 r hr
  rw [hE 8 (by decide)] at f2
  rw [hE 9 (by decide)] at f3
  refine Rn.of rfl (v171_0 ?_)
  simp (disch := omega) only [u3_nc, u3_ek, u3_nk, upd_e, upd_n, dU_nk, dU_nc, dU_e, nI_ltI, nI_eq, nI_clamp, nI_add, nI_mul, inb_nI, nI_neg1, nI_ne1, nI_n1e, nI_neg1e, Nat.not_lt_zero, Nat.lt_irrefl, true_and, and_true, true_implies, false_implies, not_true_eq_false, not_false_eq_true, implies_true, forall_const, forall_eq, if_true, if_false, Nat.reduceEqDiff, eq_self, Nat.one_ne_zero, Nat.zero_ne_one, Nat.zero_add, Nat.add_zero, w0, f2, f3]
  refine s143 h h40 (fun g1 m1 F1 => ⟨_, rfl, ?_⟩)
  unfold dupS at k
  have hr1 : nR (aAdd E (nR E) (D 0 12) (D 8 r) (D 9 r)) = nR E + 1 := nR_aAdd h40
  have d10 : aAdd E (nR E) (D 0 12) (D 8 r) (D 9 r) 10 (nR E) = -nI 1 := by unfold aAdd; simp (disch := omega) only [u3_nc, u3_ek, u3_nk, upd_e, upd_n, dU_nk, dU_nc, dU_e, nI_ltI, nI_eq, nI_clamp, nI_add, nI_mul, inb_nI, nI_neg1, nI_ne1, nI_n1e, nI_neg1e, Nat.not_lt_zero, Nat.lt_irrefl, true_and, and_true, true_implies, false_implies, not_true_eq_false, not_false_eq_true, implies_true, forall_const, forall_eq, if_true, if_false, Nat.reduceEqDiff, eq_self, Nat.one_ne_zero, Nat.zero_ne_one, Nat.zero_add, Nat.add_zero]
  have d11 : aAdd E (nR E) (D 0 12) (D 8 r) (D 9 r) 11 (nR E) = -nI 1 := by unfold aAdd; simp (disch := omega) only [u3_nc, u3_ek, u3_nk, upd_e, upd_n, dU_nk, dU_nc, dU_e, nI_ltI, nI_eq, nI_clamp, nI_add, nI_mul, inb_nI, nI_neg1, nI_ne1, nI_n1e, nI_neg1e, Nat.not_lt_zero, Nat.lt_irrefl, true_and, and_true, true_implies, false_implies, not_true_eq_false, not_false_eq_true, implies_true, forall_const, forall_eq, if_true, if_false, Nat.reduceEqDiff, eq_self, Nat.one_ne_zero, Nat.zero_ne_one, Nat.zero_add, Nat.add_zero]
  rw [dU_self d10, dU_self d11] at k
  obtain ⟨D1, hD1⟩ : ∃ D1, D1 = aAdd E (nR E) (D 0 12) (D 8 r) (D 9 r) := ⟨_, rfl⟩
  have o : ∀ c, 6 ≤ c → D1 c r = D c r := fun c hc => by rw [hD1, aAdd_old (by omega) hc]; exact hE c hc
  rw [← hD1] at m1 k hr1
  obtain ⟨n, hn⟩ : ∃ n, n = nR E := ⟨_, rfl⟩
  rw [← hn] at h40 hr k hr1 ⊢
  have m2 : MC (u3 g1.1 0 77 r (nI n), g1.2) w D1 := m1.c77
  have w1 := m1.w
  have q8 := m1.m.f8 r (by omega)
  rw [o 14 (by decide)] at q8
  have q9 := m1.m.f9 r (by omega)
  rw [o 15 (by decide)] at q9
  have q6 := m1.m.f6 r (by omega)
  rw [o 12 (by decide)] at q6
  have q7 := m1.m.f7 r (by omega)
  rw [o 13 (by decide)] at q7
  have g77 : ∀ u, g1.1 0 77 u = g.1 0 77 u := fun u => by rw [F1.1.1 0 77 (by omega)]
  have gpp := gnn_pos gp
  have big : ∀ v15 v12 v13, MC (u3 (u3 (u3 (u3 (u3 g1.1 0 77 r (nI n)) 0 71 (780 * w + (369 + 10 * n + 8)) (D 14 r)) 0 71 (780 * w + (369 + 10 * n + 9)) v15) 0 71 (780 * w + (369 + 10 * n + 6)) v12) 0 71 (780 * w + (369 + 10 * n + 7)) v13, g1.2) w (dU (dU (dU (dU D1 14 n (D 14 r)) 15 n v15) 12 n v12) 13 n v13) ∧ FS w g (u3 (u3 (u3 (u3 (u3 g1.1 0 77 r (nI n)) 0 71 (780 * w + (369 + 10 * n + 8)) (D 14 r)) 0 71 (780 * w + (369 + 10 * n + 9)) v15) 0 71 (780 * w + (369 + 10 * n + 6)) v12) 0 71 (780 * w + (369 + 10 * n + 7)) v13, g1.2) ∧ ∀ u, (u3 (u3 (u3 (u3 (u3 g1.1 0 77 r (nI n)) 0 71 (780 * w + (369 + 10 * n + 8)) (D 14 r)) 0 71 (780 * w + (369 + 10 * n + 9)) v15) 0 71 (780 * w + (369 + 10 * n + 6)) v12) 0 71 (780 * w + (369 + 10 * n + 7)) v13) 0 77 u = if u = r then nI n else g.1 0 77 u := fun v15 v12 v13 => by
    have p3 := m2.put (r := n) (k := 8) (v := D 14 r) (by omega) (by decide)
    have p4 := p3.put (r := n) (k := 9) (v := v15) (by rw [nR_dU (by omega)]; omega) (by decide)
    have p5 := p4.put (r := n) (k := 6) (v := v12) (by rw [nR_dU (by omega), nR_dU (by omega)]; omega) (by decide)
    have p6 := p5.put (r := n) (k := 7) (v := v13) (by rw [nR_dU (by omega), nR_dU (by omega), nR_dU (by omega)]; omega) (by decide)
    refine ⟨p6, ?_, fun u => ?_⟩
    · have F5 : Fm w (u3 g1.1 0 77 r (nI n), g1.2) (u3 (u3 (u3 (u3 (u3 g1.1 0 77 r (nI n)) 0 71 (780 * w + (369 + 10 * n + 8)) (D 14 r)) 0 71 (780 * w + (369 + 10 * n + 9)) v15) 0 71 (780 * w + (369 + 10 * n + 6)) v12) 0 71 (780 * w + (369 + 10 * n + 7)) v13, g1.2) := (Fm.tr (Fm.tr (Fm.tr (MC.putF (r := n) (k := 8) (by omega) (by decide)) (MC.putF (r := n) (k := 9) (by omega) (by decide))) (MC.putF (r := n) (k := 6) (by omega) (by decide))) (MC.putF (r := n) (k := 7) (by omega) (by decide)) : _)
      exact (FS.m F1).tr (FS.p.tr (FS.m F5))
    · rw [u3_nc (by decide), u3_nc (by decide), u3_nc (by decide), u3_nc (by decide), u3_if, g77]
  simp (disch := omega) only [u3_nc, u3_ek, u3_nk, upd_e, upd_n, dU_nk, dU_nc, dU_e, nI_ltI, nI_eq, nI_clamp, nI_add, nI_mul, inb_nI, nI_neg1, nI_ne1, nI_n1e, nI_neg1e, Nat.not_lt_zero, Nat.lt_irrefl, true_and, and_true, true_implies, false_implies, not_true_eq_false, not_false_eq_true, implies_true, forall_const, forall_eq, if_true, if_false, Nat.reduceEqDiff, eq_self, Nat.one_ne_zero, Nat.zero_ne_one, Nat.zero_add, Nat.add_zero, w1, q8]
  cases lk with
  | false =>
    rw [if_neg (by decide : ¬ false = true)]
    rw [if_neg (by decide : ¬ false = true), if_neg (by decide : ¬ false = true), if_neg (fun q => by cases q.1)] at k
    simp (disch := omega) only [u3_nc, u3_ek, u3_nk, upd_e, upd_n, dU_nk, dU_nc, dU_e, nI_ltI, nI_eq, nI_clamp, nI_add, nI_mul, inb_nI, nI_neg1, nI_ne1, nI_n1e, nI_neg1e, Nat.not_lt_zero, Nat.lt_irrefl, true_and, and_true, true_implies, false_implies, not_true_eq_false, not_false_eq_true, implies_true, forall_const, forall_eq, if_true, if_false, Nat.reduceEqDiff, eq_self, Nat.one_ne_zero, Nat.zero_ne_one, Nat.zero_add, Nat.add_zero, w1, q9, q6, q7]
    obtain ⟨b1, b2, b3⟩ := big (D 15 r) (D 12 r) (D 13 r)
    exact k _ b1 b2 b3
  | true =>
    rw [if_pos rfl]
    rw [if_pos rfl, if_pos rfl] at k
    simp (disch := omega) only [u3_nc, u3_ek, u3_nk, upd_e, upd_n, dU_nk, dU_nc, dU_e, nI_ltI, nI_eq, nI_clamp, nI_add, nI_mul, inb_nI, nI_neg1, nI_ne1, nI_n1e, nI_neg1e, Nat.not_lt_zero, Nat.lt_irrefl, true_and, and_true, true_implies, false_implies, not_true_eq_false, not_false_eq_true, implies_true, forall_const, forall_eq, if_true, if_false, Nat.reduceEqDiff, eq_self, Nat.one_ne_zero, Nat.zero_ne_one, Nat.zero_add, Nat.add_zero, w1, q6, gpp, q7]
    refine ⟨fun h0 => ?_, fun h0 => ?_⟩
    · rw [if_pos ⟨rfl, h0⟩] at k
      obtain ⟨b1, b2, b3⟩ := big (nI 1) (nI 0) (D 12 r)
      exact k _ b1 b2 b3
    · rw [if_neg (fun q => h0 q.2)] at k
      obtain ⟨b1, b2, b3⟩ := big (nI 1) (nI 0) (D 13 r)
      exact k _ b1 b2 b3
theorem s172 (h : MC g w D) (hw : CW D M) (gn : GNN D) (ok : OKP D) (sn : SPN D) (sc' : SPC D) (rt : RTP D)
    (k : ∀ g', MC g' w (aCps D sp lk).2 → FS w g g' → Φ (.inl (some (vI (aCps D sp lk).1))) g') : Rn sc (d + 4) 172 [vR 0 70, vI sp, vI (if lk = true then nI 1 else nI 0)] g Φ := by
  have n40 := hw.1.2
  have w10 := h.l
  have w0 := h.w
  have nn := h.n
  have c1 := h.m.1
  obtain ⟨s, hs, hs1, hs4⟩ := sn
  obtain ⟨p, hp⟩ : ∃ p, p = inS D sp := ⟨_, rfl⟩
  obtain ⟨n, hn⟩ : ∃ n, n = nR D := ⟨_, rfl⟩
  obtain ⟨L, hL⟩ : ∃ L : Int32, L = if lk = true then nI 1 else nI 0 := ⟨_, rfl⟩
  have hcn : cntF p n ≤ n := cntF_le p n
  have h4 : nI s = nI 4 ↔ s = 4 := nI_eq (by omega) (by omega)
  unfold aCps at k
  rw [← hp, ← hn] at k
  rw [← hn] at nn n40
  rw [← hL]
  have hl : (lqq p n).length = cntF p n := lqq_len
  have lF : ∀ f10 f11 s12, n + cntF p n ≤ 40 → nR (dupF D (lqq p n) f10 f11 lk s12) = n + cntF p n := fun f10 f11 s12 hb => by rw [dupF_nR (by omega)]; omega
  -- the copies' places
  have thr : ∀ g1, MC g1 w (dupF D (lqq p n) (fun _ _ => -nI 1) (fun _ _ => -nI 1) lk (D 0 12)) → FS w g g1 → (∀ u, u < n → p u = true → g1.1 0 77 u = nI (n + cntF p u)) → n + cntF p n ≤ 40 → ¬ D 0 12 = nI 4 → Xe sc (d + 3) 172 79 [vR 0 70, vI sp, vI L, vI (D 0 12), vI (nI n), vI (nI 0)] [] g1 Φ := by
    intro g1 a1 f1 c77 hb h4
    rw [if_neg h4, if_neg (by omega)] at k
    refine turnsS (σ := Gs) (W := fun q s => Xe sc (d + 3) 172 79 [vR 0 70, vI sp, vI L, vI (D 0 12), vI (nI n), vI (nI q)] [] s Φ)
      (I := fun q s => MC s w (dupF D (lqq p n) (fun _ r => if r < q then fxD D sp r else -nI 1) (fun _ r => if r < q then D 11 r else -nI 1) lk (D 0 12)) ∧ Fm w g1 s) (n := n)
      (fun q s hq ⟨i1, i2⟩ hW => ?_) (fun s ⟨i1, i2⟩ => ?_) g1 ⟨?_, Fm.rf w g1⟩
    · have hNr := lF (fun _ r => if r < q then fxD D sp r else -nI 1) (fun _ r => if r < q then D 11 r else -nI 1) (D 0 12) hb
      have ws := i1.w
      have q1 := i1.m.f1 q (by omega)
      rw [dupF_old (by omega) (by decide)] at q1
      have q4 := i1.m.f4 q (by omega)
      rw [dupF_old (by omega) (by decide)] at q4
      have q5 := i1.m.f5 q (by omega)
      rw [dupF_old (by omega) (by decide)] at q5
      have c77s : ∀ u, u < n → p u = true → s.1 0 77 u = nI (n + cntF p u) := fun u hu hpu => by rw [i2.1.1 0 77 (by omega)]; exact c77 u hu hpu
      have same : (∀ a, a < (lqq p n).length → rrr (lqq p n) a = q → fxD D sp q = -nI 1 ∧ D 11 q = -nI 1) → MC s w (dupF D (lqq p n) (fun _ r => if r < q + 1 then fxD D sp r else -nI 1) (fun _ r => if r < q + 1 then D 11 r else -nI 1) lk (D 0 12)) := fun hh => by
        rw [dupF_congr (h10 := fun _ r => if r < q then fxD D sp r else -nI 1) (h11 := fun _ r => if r < q then D 11 r else -nI 1) (fun a ha => ?_) (fun a ha => ?_)]
        · exact i1
        · by_cases he : rrr (lqq p n) a = q
          · have := (hh a ha he).1
            rw [he, if_pos (by omega), if_neg (by omega), this]
          · by_cases hlt : rrr (lqq p n) a < q
            · rw [if_pos (by omega), if_pos hlt]
            · rw [if_neg (by omega), if_neg hlt]
        · by_cases he : rrr (lqq p n) a = q
          · have := (hh a ha he).2
            rw [he, if_pos (by omega), if_neg (by omega), this]
          · by_cases hlt : rrr (lqq p n) a < q
            · rw [if_pos (by omega), if_pos hlt]
            · rw [if_neg (by omega), if_neg hlt]
      refine v172_79 ?_
      simp (disch := omega) only [u3_nc, u3_ek, u3_nk, upd_e, upd_n, dU_nk, dU_nc, dU_e, nI_ltI, nI_eq, nI_clamp, nI_add, nI_mul, inb_nI, nI_neg1, nI_ne1, nI_n1e, nI_neg1e, Nat.not_lt_zero, Nat.lt_irrefl, true_and, and_true, true_implies, false_implies, not_true_eq_false, not_false_eq_true, implies_true, forall_const, forall_eq, if_true, if_false, Nat.reduceEqDiff, eq_self, Nat.one_ne_zero, Nat.zero_ne_one, Nat.zero_add, Nat.add_zero, hq, ws, q1, q4]
      refine ⟨fun h7 => ⟨fun h10 => ?_, fun h10 => ?_⟩, fun h7 => ?_⟩
      · refine hW s ⟨same (fun a ha he => ⟨?_, rt q (by omega) h10⟩), i2⟩
        unfold fxD
        rw [if_pos h10]
      · have hpq : p q = true := by rw [hp]; exact decide_eq_true h7
        obtain ⟨b1, b2⟩ := posB n q hq hpq
        rcases ok q (by omega) with e | ⟨u, hu, e⟩
        · exact absurd e h10
        · have hpu : p u = true := by
            rw [hp] at hpq ⊢
            exact decide_eq_true ((sc' q u (by omega) hu e).symm.trans (of_decide_eq_true hpq))
          obtain ⟨b3, b4⟩ := posB n u (by omega) hpu
          have cq := c77s q hq hpq
          have cu := c77s u (by omega) hpu
          have hfd := dup_find (ls := lqq p n) (f10 := fun _ r => if r < q then fxD D sp r else -nI 1) (f11 := fun _ r => if r < q then D 11 r else -nI 1) (s12 := D 0 12) (lk := lk) hw ok (show q < nR D by omega) (by omega)
          rw [up_of hw hu e] at hfd
          have hNr2 : nR (dupF D (lqq p n) (fun _ r => if r < q then fxD D sp r else -nI 1) (fun _ r => if r < q then D 11 r else -nI 1) lk (D 0 12)) = nR D + (lqq p n).length := by omega
          have hu6 := i1.m.f0 (n + cntF p u) (by omega)
          have e6 : dupF D (lqq p n) (fun _ r => if r < q then fxD D sp r else -nI 1) (fun _ r => if r < q then D 11 r else -nI 1) lk (D 0 12) 6 (n + cntF p u) = D 0 13 + nI (cntF p u) := by
            rw [show n + cntF p u = nR D + cntF p u by omega, dupF_new b3 (by decide)]
            unfold dupV
            rw [if_pos rfl]
          rw [e6] at hu6
          refine s144 i1.w i1.l i1.m i1.r ⟨_, rfl, ?_⟩
          rw [hNr2, hfd, show eo (some u) = nI u from rfl]
          simp (disch := omega) only [u3_nc, u3_ek, u3_nk, upd_e, upd_n, dU_nk, dU_nc, dU_e, nI_ltI, nI_eq, nI_clamp, nI_add, nI_mul, inb_nI, nI_neg1, nI_ne1, nI_n1e, nI_neg1e, Nat.not_lt_zero, Nat.lt_irrefl, true_and, and_true, true_implies, false_implies, not_true_eq_false, not_false_eq_true, implies_true, forall_const, forall_eq, if_true, if_false, Nat.reduceEqDiff, eq_self, Nat.one_ne_zero, Nat.zero_ne_one, Nat.zero_add, Nat.add_zero, cu, cq, ws, q5, hu6]
          have p4 := i1.put (r := n + cntF p q) (k := 4) (v := D 0 13 + nI (cntF p u)) (by omega) (by decide)
          have p5 := p4.put (r := n + cntF p q) (k := 5) (v := D 11 q) (by rw [nR_dU (by omega)]; omega) (by decide)
          have hnq : n + cntF p q = nR D + cntF p q := by omega
          have F5 : Fm w s (u3 (u3 s.1 0 71 (780 * w + (369 + 10 * (n + cntF p q) + 4)) (D 0 13 + nI (cntF p u))) 0 71 (780 * w + (369 + 10 * (n + cntF p q) + 5)) (D 11 q), s.2) := (Fm.tr (MC.putF (r := n + cntF p q) (k := 4) (by omega) (by decide)) (MC.putF (r := n + cntF p q) (k := 5) (by omega) (by decide)) : _)
          have eD : dU (dU (dupF D (lqq p n) (fun _ r => if r < q then fxD D sp r else -nI 1) (fun _ r => if r < q then D 11 r else -nI 1) lk (D 0 12)) (6 + 4) (n + cntF p q) (D 0 13 + nI (cntF p u))) (6 + 5) (n + cntF p q) (D 11 q) = dupF D (lqq p n) (fun _ r => if r < q + 1 then fxD D sp r else -nI 1) (fun _ r => if r < q + 1 then D 11 r else -nI 1) lk (D 0 12) := by
            rw [hnq, show 6 + 4 = 10 from rfl, show 6 + 5 = 11 from rfl, dupF_10 b1, dupF_11 b1]
            refine dupF_congr (fun a ha => ?_) (fun a ha => ?_)
            · obtain ⟨a1, a2, a3⟩ := posA n a ha
              by_cases haq : a = cntF p q
              · rw [if_pos haq, haq, b2, if_pos (by omega)]
                unfold fxD
                rw [if_neg h10, up_of hw hu e, hp]
                rfl
              · have hne : rrr (lqq p n) a ≠ q := fun z => haq (by rw [z] at a3; exact a3.symm)
                rw [if_neg haq]
                by_cases hlt : rrr (lqq p n) a < q
                · rw [if_pos hlt, if_pos (by omega)]
                · rw [if_neg hlt, if_neg (by omega)]
            · obtain ⟨a1, a2, a3⟩ := posA n a ha
              by_cases haq : a = cntF p q
              · rw [if_pos haq, haq, b2, if_pos (by omega)]
              · have hne : rrr (lqq p n) a ≠ q := fun z => haq (by rw [z] at a3; exact a3.symm)
                rw [if_neg haq]
                by_cases hlt : rrr (lqq p n) a < q
                · rw [if_pos hlt, if_pos (by omega)]
                · rw [if_neg hlt, if_neg (by omega)]
          rw [eD] at p5
          exact hW _ ⟨p5, i2.tr F5⟩
      · refine hW s ⟨same (fun a ha he => ?_), i2⟩
        obtain ⟨a1, a2, a3⟩ := posA n a ha
        rw [he, hp] at a2
        exact absurd (of_decide_eq_true a2) h7
    · have ws := i1.w
      have cs := i1.m.1
      have e12 : dupF D (lqq p n) (fun _ r => if r < n then fxD D sp r else -nI 1) (fun _ r => if r < n then D 11 r else -nI 1) lk (D 0 12) 0 12 = D 0 12 := by
        unfold dupF
        rw [if_pos rfl, if_neg (by decide), if_neg (by decide), if_pos rfl]
      rw [e12] at cs
      refine v172_79 ?_
      simp (disch := omega) only [u3_nc, u3_ek, u3_nk, upd_e, upd_n, dU_nk, dU_nc, dU_e, nI_ltI, nI_eq, nI_clamp, nI_add, nI_mul, inb_nI, nI_neg1, nI_ne1, nI_n1e, nI_neg1e, Nat.not_lt_zero, Nat.lt_irrefl, true_and, and_true, true_implies, false_implies, not_true_eq_false, not_false_eq_true, implies_true, forall_const, forall_eq, if_true, if_false, Nat.reduceEqDiff, eq_self, Nat.one_ne_zero, Nat.zero_ne_one, Nat.zero_add, Nat.add_zero, ws, cs]
      have m2 := i1.putS (k := 1) (v := D 0 12 + nI 1) (by decide)
      rw [if_pos rfl, dupF_12] at m2
      refine k _ ?_ (f1.tr ((FS.m i2).tr (FS.m (Fm.put (by unfold MW; omega)))))
      unfold aDup
      rw [← hp, ← hn]
      rw [dupF_congr (h10 := fun _ r => if r < n then fxD D sp r else -nI 1) (h11 := fun _ r => if r < n then D 11 r else -nI 1) (fun a ha => ?_) (fun a ha => ?_)]
      · exact m2
      · obtain ⟨a1, a2, a3⟩ := posA n a ha
        rw [if_pos a1]
      · obtain ⟨a1, a2, a3⟩ := posA n a ha
        rw [if_pos a1]
    · rw [dupF_congr (h10 := fun _ _ => -nI 1) (h11 := fun _ _ => -nI 1) (fun a ha => by rw [if_neg (Nat.not_lt_zero _)]) (fun a ha => by rw [if_neg (Nat.not_lt_zero _)])]
      exact a1
  -- the copies
  have two : n + cntF p n ≤ 40 → ¬ D 0 12 = nI 4 → Xe sc (d + 3) 172 44 [vR 0 70, vI sp, vI L, vI (D 0 12), vI (nI n), vI (nI 0)] [] g Φ := by
    intro hb h4
    refine turnsS (σ := Gs) (W := fun q s => Xe sc (d + 3) 172 44 [vR 0 70, vI sp, vI L, vI (D 0 12), vI (nI n), vI (nI q)] [] s Φ)
      (I := fun q s => MC s w (dupF D (lqq p q) (fun _ _ => -nI 1) (fun _ _ => -nI 1) lk (D 0 12)) ∧ FS w g s ∧ ∀ u, u < q → p u = true → s.1 0 77 u = nI (n + cntF p u)) (n := n)
      (fun q s hq ⟨i1, i2, i3⟩ hW => ?_) (fun s ⟨i1, i2, i3⟩ => ?_) g ⟨?_, FS.rf w g, fun u hu => absurd hu (Nat.not_lt_zero u)⟩
    · obtain ⟨E, hE⟩ : ∃ E, E = dupF D (lqq p q) (fun _ _ => -nI 1) (fun _ _ => -nI 1) lk (D 0 12) := ⟨_, rfl⟩
      have hlq : (lqq p q).length = cntF p q := lqq_len
      have hmq : cntF p (q + 1) ≤ cntF p n := cntF_mono (by omega)
      have hms : cntF p (q + 1) = cntF p q + (bif p q then 1 else 0) := rfl
      have hr40 : nR D + (lqq p q).length ≤ 40 := by
        have := cntF_mono (p := p) (show q ≤ q + 1 by omega)
        omega
      have hEr : nR E = n + cntF p q := by rw [hE, dupF_nR hr40]; omega
      rw [← hE] at i1
      have ws := i1.w
      have q1 := i1.m.f1 q (by omega)
      have e7 : E 7 q = D 7 q := by rw [hE, dupF_old (by omega) (by decide)]
      rw [e7] at q1
      refine v172_44 ?_
      simp (disch := omega) only [u3_nc, u3_ek, u3_nk, upd_e, upd_n, dU_nk, dU_nc, dU_e, nI_ltI, nI_eq, nI_clamp, nI_add, nI_mul, inb_nI, nI_neg1, nI_ne1, nI_n1e, nI_neg1e, Nat.not_lt_zero, Nat.lt_irrefl, true_and, and_true, true_implies, false_implies, not_true_eq_false, not_false_eq_true, implies_true, forall_const, forall_eq, if_true, if_false, Nat.reduceEqDiff, eq_self, Nat.one_ne_zero, Nat.zero_ne_one, Nat.zero_add, Nat.add_zero, hq, ws, q1]
      refine ⟨fun h => ?_, fun h => ?_⟩
      · have hpq : p q = true := by rw [hp]; exact decide_eq_true h
        rw [hpq] at hms
        have hms2 : cntF p (q + 1) = cntF p q + 1 := hms
        rw [hL]
        refine s171 i1 (by omega) (by omega) (fun c hc => by rw [hE]; exact dupF_old (by omega) (by omega)) (gn q (by omega)).1 (fun g' a' f' c' => ⟨rfl, ?_⟩)
        rw [← hL]
        refine hW g' ⟨?_, i2.tr f', fun u hu hpu => ?_⟩
        · rw [lqq_s, if_pos hpq, ← dupF_s (by omega), ← hE]
          exact a'
        · rw [c']
          by_cases hur : u = q
          · rw [if_pos hur, hur, hEr]
          · rw [if_neg hur]; exact i3 u (by omega) hpu
      · have hpq : ¬ p q = true := by rw [hp]; exact fun h2 => h (of_decide_eq_true h2)
        refine hW s ⟨?_, i2, fun u hu hpu => ?_⟩
        · rw [lqq_s, if_neg hpq, ← hE]; exact i1
        · by_cases hur : u = q
          · rw [hur] at hpu; exact absurd hpu hpq
          · exact i3 u (by omega) hpu
    · refine v172_44 ?_
      simp (disch := omega) only [u3_nc, u3_ek, u3_nk, upd_e, upd_n, dU_nk, dU_nc, dU_e, nI_ltI, nI_eq, nI_clamp, nI_add, nI_mul, inb_nI, nI_neg1, nI_ne1, nI_n1e, nI_neg1e, Nat.not_lt_zero, Nat.lt_irrefl, true_and, and_true, true_implies, false_implies, not_true_eq_false, not_false_eq_true, implies_true, forall_const, forall_eq, if_true, if_false, Nat.reduceEqDiff, eq_self, Nat.one_ne_zero, Nat.zero_ne_one, Nat.zero_add, Nat.add_zero]
      exact thr s i1 i2 i3 hb h4
    · rw [show lqq p 0 = [] from rfl, dupF_nil hw.1]
      exact h
  refine Rn.of rfl (v172_0 ?_)
  simp (disch := omega) only [u3_nc, u3_ek, u3_nk, upd_e, upd_n, dU_nk, dU_nc, dU_e, nI_ltI, nI_eq, nI_clamp, nI_add, nI_mul, inb_nI, nI_neg1, nI_ne1, nI_n1e, nI_neg1e, Nat.not_lt_zero, Nat.lt_irrefl, true_and, and_true, true_implies, false_implies, not_true_eq_false, not_false_eq_true, implies_true, forall_const, forall_eq, if_true, if_false, Nat.reduceEqDiff, eq_self, Nat.one_ne_zero, Nat.zero_ne_one, Nat.zero_add, Nat.add_zero, w0, nn]
  refine s170 h.w h.l h.m h.r ⟨_, rfl, ?_⟩
  rw [show cntF (fun r => decide (D 7 r = sp)) (nR D) = cntF p n by rw [hp, hn]; rfl]
  simp (disch := omega) only [u3_nc, u3_ek, u3_nk, upd_e, upd_n, dU_nk, dU_nc, dU_e, nI_ltI, nI_eq, nI_clamp, nI_add, nI_mul, inb_nI, nI_neg1, nI_ne1, nI_n1e, nI_neg1e, Nat.not_lt_zero, Nat.lt_irrefl, true_and, and_true, true_implies, false_implies, not_true_eq_false, not_false_eq_true, implies_true, forall_const, forall_eq, if_true, if_false, Nat.reduceEqDiff, eq_self, Nat.one_ne_zero, Nat.zero_ne_one, Nat.zero_add, Nat.add_zero, w0, nn, c1, hs]
  refine ⟨fun h1 => ?_, fun h1 => ⟨fun h2 => ?_, fun h2 => ?_⟩⟩
  · by_cases h5 : D 0 12 = nI 4
    · rw [if_pos h5] at k; exact k g h (FS.rf w g)
    · rw [if_neg h5, if_pos h1] at k; exact k g h (FS.rf w g)
  · rw [hs, if_pos (h4.mpr h2)] at k
    exact k g h (FS.rf w g)
  · have := two (by omega) (by rw [hs]; exact fun q => h2 (h4.mp q))
    rw [hs] at this
    exact this
end DV
