/-! ONE STEP, of fields, arrays and new cells -/
theorem tab_lt : (List.range 131).all (fun y => Nat.blt (mcx y) 18) = true := by decide +kernel
theorem mcx_lt {y : Nat} (h : y < 131) : mcx y < 18 := Nat.le_of_ble_eq_true (List.all_eq_true.mp tab_lt y (List.mem_range.mpr h))
theorem celE_congr {tc : Nat → ClassId} {L L' : AD} {h h' : AH} {i c : Nat} (hg : ∀ k, hG h' i c k = hG h i c k) (hk : hK h' i c = hK h i c) (hr : ∀ k, (hR h' i c k).map (fun p => L' p.1 p.2) = (hR h i c k).map (fun p => L p.1 p.2)) : celE tc L' h' i c = celE tc L h i c := by
  have e1 : hG h' i c = hG h i c := funext hg
  unfold celE
  rw [hk]
  split
  · congr 2
    refine List.map_congr_left fun k _ => ?_
    simp only [fV, hg, hr]
  · simp only [arV, e1]
    congr 3
    split
    · congr 4
      exact funext hr
    · rfl
theorem celE_obj {tc : Nat → ClassId} {L : AD} {h : AH} {i c ci : Nat} (hk : KD (hK h i c) = .inl ci) : celE tc L h i c = .inr (ci, (List.range (fcn ci)).map (fV L h i c ci)) := by
  unfold celE
  rw [hk]
theorem celE_arr {tc : Nat → ClassId} {L : AD} {h : AH} {i c q n : Nat} (hk : KD (hK h i c) = .inr (q, n)) : celE tc L h i c = .inl (tc q, arV L h i c q n) := by
  unfold celE
  rw [hk]
theorem range_set {f g : Nat → Value} {n k : Nat} {v : Value} (h1 : g k = v) (h2 : ∀ j, j ≠ k → g j = f j) : ((List.range n).map f).set k v = (List.range n).map g := by
  apply List.ext_getElem?
  intro j
  rw [List.getElem?_set]
  by_cases hj : k = j
  · subst hj
    rw [if_pos rfl]
    by_cases hn : k < n
    · rw [if_pos (by simpa using hn)]
      simp [hn, h1]
    · rw [if_neg (by simpa using hn), List.getElem?_eq_none (by simpa using hn)]
  · rw [if_neg hj]
    by_cases hn : j < n
    · simp [hn, h2 j (fun q => hj q.symm)]
    · rw [List.getElem?_eq_none (by simpa using hn), List.getElem?_eq_none (by simpa using hn)]
theorem u3_ne {α : Type} {f : Nat → Nat → Nat → α} {i c k i' c' : Nat} {v : α} (h : (i', c') ≠ (i, c)) (k' : Nat) : u3 f i c k v i' c' k' = f i' c' k' := by
  unfold u3
  rw [if_neg]
  rintro ⟨rfl, rfl, -⟩
  exact h rfl
theorem u3_at {α : Type} {f : Nat → Nat → Nat → α} {i c k : Nat} {v : α} (k' : Nat) : u3 f i c k v i c k' = if k' = k then v else f i c k' := by
  unfold u3
  by_cases h : k' = k
  · rw [if_pos ⟨rfl, rfl, h⟩, if_pos h]
  · rw [if_neg (fun q => h q.2.2), if_neg h]
theorem u2_ne {α : Type} {f : Nat → Nat → Nat → α} {i c i' c' : Nat} {w : Nat → α} (h : (i', c') ≠ (i, c)) (k' : Nat) : u2 f i c w i' c' k' = f i' c' k' := by
  unfold u2
  rw [if_neg]
  rintro ⟨rfl, rfl⟩
  exact h rfl
theorem u2_at {α : Type} {f : Nat → Nat → Nat → α} {i c : Nat} {w : Nat → α} (k' : Nat) : u2 f i c w i c k' = w k' := by
  unfold u2
  rw [if_pos ⟨rfl, rfl⟩]
theorem inb_in {j : Int32} {n : Nat} (h : inb j n = true) : vp_in j n := by
  unfold inb at h
  simp only [Bool.and_eq_true, Bool.not_eq_true', decide_eq_false_iff_not] at h
  rintro (q | q)
  · exact h.1 q
  · have := Nat.le_of_ble_eq_true h.2
    omega
theorem tc_int {ty : FieldType} (h : tcF ty = 0) : ty = .int := by cases ty <;> simp [tcF] at h ⊢
theorem tc_small {ty : FieldType} (h : tcF ty = 1) : narrow ty (.int 0) = .int 0 ∧ fits ty (.int 0) = true := by cases ty <;> first | (simp [tcF] at h; done) | exact ⟨rfl, rfl⟩
theorem tc_ref {ty : FieldType} (h : tcF ty = 2) (a : Nat) : narrow ty (.ref a) = .ref a ∧ fits ty (.ref a) = true := by cases ty <;> first | (simp [tcF] at h; done) | exact ⟨rfl, rfl⟩
/-- what stands of the words at a method's begin -/
def WX (s : State) (args : Array Value) (D : va_G) (tc : Nat → ClassId) (base b0 : Nat) (sc : SC) (adK : Nat → Nat) : Prop :=
  WD s args D tc ∧ va_X b0 sc.1 sc.2 s s.heap ∧ b0 < base ∧ base ≤ s.heap.size ∧ (∀ i q, strL[i]? = some q → vk_R q.1 q.2.1 q.2.2 (adK i) s) ∧ va_AO "MountSpaces$Mounts" s
section HEAP
variable {p : Program} {l : Launch} {e : Env} {R : Room} {s : State} {m : MethodId} {args : Array Value} {below : List Frame} {meth : Method} {c : Code} {base : Nat} {D : va_G} {tc : Nat → ClassId} {adK : Nat → Nat} {b0 y : Nat} {L0 : AD} {n0 c0 k0 : Nat} {Q : State → Prop} {pc np pc' k : Nat} {lo st lo' st' : List AV} {h h' : AH} {sc : SC}
theorem lays_good {C : String} {T : u_T} {N : Nat} (hin : ∀ w ∈ u_ws C T N, w ∈ lw_tbl) (W0 : WD s args D tc) : ∀ w ∈ u_ws C T N, w.before args s = true := by
  intro w hw
  refine W0.1 w (hin w hw) ?_
  obtain ⟨k, -, rfl⟩ := List.mem_map.mp hw
  unfold u_lay
  split <;> rfl
theorem va_hA {s : State} {base : Nat} (h : base ≤ s.heap.size) : ∀ q, s.heap.size ≤ q → base ≤ q := fun _ hq => Nat.le_trans h hq
/-- the picture behind a changed cell -/
theorem RL.set {L : AD} {H H1 : Heap} {j : Nat} {ev : va_E} (hZ : RL base D tc adK b0 L h H) (hj : j < h.1.1) (h1 : h'.1.1 = h.1.1) (he : celE tc L h' (nm j).1 (nm j).2 = ev) (ho : ∀ i c, (i, c) ≠ nm j → celE tc L h' i c = celE tc L h i c)
    (hrf : ∀ j, j < h.1.1 → ∀ k p, hR h' (nm j).1 (nm j).2 k = some p → okP h.1.1 p)
    (hP : va_P D cls9 ((wsE tc L h).set j (L (nm j).1 (nm j).2, ev)) H1) (hD : va_D (fun q => base ≤ q) ((wsE tc L h).set j (L (nm j).1 (nm j).2, ev))) : RL base D tc adK b0 L h' H1 := by
  rw [ws_set hj h1 he ho] at hP hD
  exact ⟨hP, hD, by rw [h1]; exact hZ.2.2.1, by rw [h1]; exact hrf, hZ.2.2.2.2.1, hZ.2.2.2.2.2⟩
theorem fV_0 {L : AD} {h : AH} {i c ci k : Nat} (e : ¬ ftc ci k = 2) : fV L h i c ci k = .int (hG h i c k) := by
  unfold fV
  split
  · rename_i q; exact absurd q e
  · rfl
theorem fV_2 {L : AD} {h : AH} {i c ci k : Nat} (e : ftc ci k = 2) : fV L h i c ci k = va_rf ((hR h i c k).map fun p => L p.1 p.2) := by simp only [fV, e]
theorem go_getf (F : FX p R s m meth c y) (W0 : WX s args D tc base b0 sc adK) (dec : decode (mByt y) pc = .ok (.getfield k, 3))
    (hst : stp sc y (.getfield k) (pc + 3) lo st h = some (.inl (pc', lo', st', h'))) (kk : GO p l e R s m args below meth c base D tc adK b0 y L0 n0 c0 k0 Q pc' lo' st' h') : GO p l e R s m args below meth c base D tc adK b0 y L0 n0 c0 k0 Q pc lo st h := by
  obtain ⟨hx, hb, hml, hown, hret, hlk, hini, hy, hRf, hRl⟩ := F
  unfold stp at hst
  dsimp only at hst
  split at hst
  · rename_i ci f ty wi i cc st hf
    cases ho : isO (hK h i cc) ci with
    | false => rw [ho] at hst; cases hst
    | true =>
      rw [ho] at hst
      dsimp only [cond_true] at hst
      obtain ⟨f1, f2, f3, f5⟩ := fk_all (mcx y) (mcx_lt hy) _ (fnd_mem hf)
      dsimp only at f1 f2 f3 f5
      obtain ⟨k1, k2, k3, k4, k5, k6, k7, k8⟩ := kf_all ci f1
      intro L H locs cells slots ls a1 a2 a3 a4 a5 a6 a7 a8 a9 b1
      have hok := (ok_hd a6 : okA h.1.1 (i, cc)).P (KD_lt ho (by omega))
      obtain ⟨j, hj, hnm⟩ := hok
      have hws := ws_at (tc := tc) (L := L) (h := h) hj
      rw [hnm] at hws
      rw [celE_obj (isO_KD ho)] at hws
      have hfl : (List.map (fV L h i cc ci) (List.range (fcn ci)))[f]? = some (fV L h i cc ci f) := by
        rw [k4] at f2
        simp [f2]
      refine va_get hx hb (Ts := u_ws (cN9 ci) (cT9 ci) (cS9 ci)) (lays_good k1 W0.1) (fun _ h => h) hown W0.1.2 a1.1 j hws k7 f f2 (W0.1.w f3) (fun x hx => hx) hfl dec ?_
      split at hst
      · cases hpr : hR h i cc f with
        | none => rw [hpr] at hst; cases hst
        | some pr =>
          rw [hpr] at hst
          obtain ⟨rfl, rfl, rfl, rfl⟩ := sNx_inj hst
          have h9 := kk L H locs cells slots ls a1 a2 a3 a4 a5 (ok_cons (v := .inr (.inr (.inl pr))) (Or.inl (a1.2.2.2.1 j hj f pr (by rw [hnm]; exact hpr))) (ok_tl a6)) a7 a8 a9 b1
          rw [fV_2 f5.symm, hpr]
          exact h9
      · rename_i n1
        obtain ⟨rfl, rfl, rfl, rfl⟩ := sNx_inj hst
        rw [fV_0 (by rw [← f5]; exact n1)]
        exact kk L H locs cells slots ls a1 a2 a3 a4 a5 (ok_cons trivial (ok_tl a6)) a7 a8 a9 b1
  · cases hst
theorem len_map_range {f : Nat → Value} {n : Nat} : ((List.range n).map f).length = n := by simp
/-- putfield, whatever its kind: the new picture is given -/
theorem put_any (F : FX p R s m meth c y) (W0 : WX s args D tc base b0 sc adK) (dec : decode (mByt y) pc = .ok (.putfield k, 3)) {L : AD} {H : Heap} {locs : List Loc} {cells slots : Nat} {ls : Array Slot} {ci f ty wi i cc : Nat} {rest : List Value} {v : Value}
    (hf : fnd (fTL.getD (mcx y) []) k = some (ci, f, ty, wi)) (ho : isO (hK h i cc) ci = true) (hfin : (cT9 ci f).2.2.2 = false ∨ (mkd y = 2 ∧ ci = mcx y)) (hfit : narrow (tyf ci f) v = v ∧ fits (tyf ci f) v = true)
    (a1 : RL base D tc adK b0 L h H) (a2 : va_S (fun q => base ≤ q) s.heap H locs) (hok : okP h.1.1 (i, cc)) (h1 : h'.1.1 = h.1.1) (hkk : ∀ i c, hK h' i c = hK h i c)
    (hg : ∀ j, fV L h' i cc ci j = if j = f then v else fV L h i cc ci j) (ho2 : ∀ i' c', (i', c') ≠ (i, cc) → celE tc L h' i' c' = celE tc L h i' c')
    (hrf : ∀ j, j < h.1.1 → ∀ k p, hR h' (nm j).1 (nm j).2 k = some p → okP h.1.1 p)
    (kk : ∀ (H1 : Heap) (locs1 : List Loc), RL base D tc adK b0 L h' H1 → va_S (fun q => base ≤ q) s.heap H1 locs1 → W p l e R s m args below meth c H1 locs1 cells slots Q (F0 m (pc + 3) ls rest)) :
    W p l e R s m args below meth c H locs cells slots Q (F0 m pc ls (v :: .ref (L i cc) :: rest)) := by
  obtain ⟨hx, hb, hml, hown, hret, hlk, hini, hy, hRf, hRl⟩ := F
  obtain ⟨f1, f2, f3, f5⟩ := fk_all (mcx y) (mcx_lt hy) _ (fnd_mem hf)
  dsimp only at f1 f2 f3 f5
  obtain ⟨k1, k2, k3, k4, k5, k6, k7, k8⟩ := kf_all ci f1
  obtain ⟨j, hj, hnm⟩ := hok
  have hws := ws_at (tc := tc) (L := L) (h := h) hj
  rw [hnm] at hws
  rw [celE_obj (isO_KD ho)] at hws
  have hlen : f < (List.map (fV L h i cc ci) (List.range (fcn ci))).length := by rw [len_map_range, ← k4]; exact f2
  have hset : (List.map (fV L h i cc ci) (List.range (fcn ci))).set f v = List.map (fV L h' i cc ci) (List.range (fcn ci)) := range_set (by rw [hg, if_pos rfl]) (fun q hq => by rw [hg, if_neg hq])
  have fin : ∀ (H1 : Heap) (locs1 : List Loc), va_P D cls9 ((wsE tc L h).set j (L i cc, .inr (ci, (List.map (fV L h i cc ci) (List.range (fcn ci))).set f v))) H1 → va_D (fun q => base ≤ q) ((wsE tc L h).set j (L i cc, .inr (ci, (List.map (fV L h i cc ci) (List.range (fcn ci))).set f v))) → va_S (fun q => base ≤ q) s.heap H1 locs1 → W p l e R s m args below meth c H1 locs1 cells slots Q (F0 m (pc + 3) ls rest) := by
    intro H1 locs1 hP hD hS
    rw [hset] at hP hD
    refine kk H1 locs1 (RL.set a1 hj h1 ?_ ?_ hrf (by rw [hnm]; exact hP) (by rw [hnm]; exact hD)) hS
    · rw [hnm]; exact celE_obj (by rw [hkk]; exact isO_KD ho)
    · rw [hnm]; exact ho2
  cases hff : (cT9 ci f).2.2.2 with
  | false => exact va_put hx hb (Ts := u_ws (cN9 ci) (cT9 ci) (cS9 ci)) (lays_good k1 W0.1) (fun _ h => h) (tyf ci) k2 k3 hown W0.1.2 a1.1 a1.2.1 a2 j hws k7 f f2 (W0.1.w f3) (fun x hx => hx) hff (k2 f f2) hfit.1 hfit.2 hlen dec fin
  | true =>
    rcases hfin with q | ⟨q1, q2⟩
    · rw [hff] at q; cases q
    · exact va_putF hx hb (Ts := u_ws (cN9 ci) (cT9 ci) (cS9 ci)) (lays_good k1 W0.1) (fun _ h => h) (tyf ci) k2 k3 hown W0.1.2 a1.1 a1.2.1 a2 j hws k7 f f2 (W0.1.w f3) (fun x hx => hx) hff (hini q1) (by rw [k8 f f2 hff, k5, q2]) (k2 f f2) hfit.1 hfit.2 hlen dec fin
theorem go_putf (F : FX p R s m meth c y) (W0 : WX s args D tc base b0 sc adK) (dec : decode (mByt y) pc = .ok (.putfield k, 3))
    (hst : stp sc y (.putfield k) (pc + 3) lo st h = some (.inl (pc', lo', st', h'))) (kk : GO p l e R s m args below meth c base D tc adK b0 y L0 n0 c0 k0 Q pc' lo' st' h') : GO p l e R s m args below meth c base D tc adK b0 y L0 n0 c0 k0 Q pc lo st h := by
  have hy : y < 131 := F.2.2.2.2.2.2.2.1
  unfold stp at hst
  dsimp only at hst
  split at hst
  · rename_i ci f ty wi v i cc st hf
    cases hob : (isO (hK h i cc) ci && (!((cls9.getD ci ("", jT0, 0)).2.1 f).2.2.2 || (Nat.beq (mkd y) 2 && Nat.beq ci (mcx y)))) with
    | false => rw [hob] at hst; cases hst
    | true =>
      rw [hob] at hst
      dsimp only [cond_true] at hst
      simp only [Bool.and_eq_true, Bool.or_eq_true, Bool.not_eq_true'] at hob
      obtain ⟨ho, hfin⟩ := hob
      have hfin' : (cT9 ci f).2.2.2 = false ∨ (mkd y = 2 ∧ ci = mcx y) := hfin.imp (fun q => q) (fun q => ⟨Nat.eq_of_beq_eq_true q.1, Nat.eq_of_beq_eq_true q.2⟩)
      obtain ⟨f1, f2, f3, f5⟩ := fk_all (mcx y) (mcx_lt hy) _ (fnd_mem hf)
      dsimp only at f1 f2 f3 f5
      obtain ⟨k1, k2, k3, k4, k5, k6, k7, k8⟩ := kf_all ci f1
      have k6' := k6 f f2
      intro L H locs cells slots ls a1 a2 a3 a4 a5 a6 a7 a8 a9 b1
      have hok := (ok_hd (ok_tl a6) : okA h.1.1 (i, cc)).P (KD_lt ho (by omega))
      split at hst
      · rename_i x
        obtain ⟨rfl, rfl, rfl, rfl⟩ := sNx_inj hst
        have hty := tc_int (ty := tyf ci f) (by rw [k6'.1, ← f5])
        refine put_any F W0 dec hf ho hfin' (by rw [hty]; exact ⟨rfl, rfl⟩) a1 a2 hok (h' := sG h i cc f x) rfl (fun _ _ => rfl) (fun j => ?_) (fun i' c' hne => celE_congr (fun k => u3_ne hne k) rfl (fun _ => rfl)) a1.2.2.2.1 (fun H1 locs1 r1 r2 => kk L H1 locs1 cells slots ls r1 r2 a3 a4 a5 (ok_tl (ok_tl a6)) a7 a8 a9 b1)
        by_cases hj : j = f
        · subst hj
          simp only [fV, ← f5, if_pos, hG, sG, u3_at]
          rfl
        · simp only [fV, hG, sG, hR, u3_at, if_neg hj]
      · rename_i x
        cases hz : decide (x = 0) with
        | false => rw [hz] at hst; cases hst
        | true =>
          rw [hz] at hst
          obtain ⟨rfl, rfl, rfl, rfl⟩ := sNx_inj hst
          have hx0 : x = 0 := of_decide_eq_true hz
          subst hx0
          refine put_any F W0 dec hf ho hfin' (tc_small (by rw [k6'.1, ← f5])) a1 a2 hok (h' := sG h i cc f 0) rfl (fun _ _ => rfl) (fun j => ?_) (fun i' c' hne => celE_congr (fun k => u3_ne hne k) rfl (fun _ => rfl)) a1.2.2.2.1 (fun H1 locs1 r1 r2 => kk L H1 locs1 cells slots ls r1 r2 a3 a4 a5 (ok_tl (ok_tl a6)) a7 a8 a9 b1)
          by_cases hj : j = f
          · subst hj
            simp only [fV, ← f5, if_pos, hG, sG, u3_at]
            rfl
          · simp only [fV, hG, sG, hR, u3_at, if_neg hj]
      · rename_i pr
        cases hp9 : Nat.blt pr.2 900 with
        | false => rw [hp9] at hst; cases hst
        | true =>
          rw [hp9] at hst
          obtain ⟨rfl, rfl, rfl, rfl⟩ := sNx_inj hst
          have hp8 : pr.2 < 900 := Nat.le_of_ble_eq_true hp9
          have hpk : okP h.1.1 pr := by
            rcases (ok_hd a6 : okA h.1.1 pr) with q | ⟨q, -⟩ | q
            · exact q
            · omega
            · rw [q] at hp8; exact absurd hp8 (by decide)
          refine put_any F W0 dec hf ho hfin' (tc_ref (by rw [k6'.1, ← f5]) _) a1 a2 hok (h' := sR h i cc f pr) rfl (fun _ _ => rfl) (fun j => ?_) (fun i' c' hne => celE_congr (fun _ => rfl) rfl (fun k => congrArg _ (u3_ne hne k))) (fun j hj k q hq => ?_) (fun H1 locs1 r1 r2 => kk L H1 locs1 cells slots ls r1 r2 a3 a4 a5 (ok_tl (ok_tl a6)) a7 a8 a9 b1)
          · by_cases hj : j = f
            · subst hj
              simp only [fV, ← f5, if_pos, hR, sR, u3_at]
              rfl
            · simp only [fV, hG, sR, hR, u3_at, if_neg hj]
          · have hq' : u3 (hR h) i cc f (some pr) (nm j).1 (nm j).2 k = some q := hq
            unfold u3 at hq'
            split at hq'
            · cases hq'; exact hpk
            · exact a1.2.2.2.1 j hj k q hq'
      · cases hst
  · cases hst
end HEAP
