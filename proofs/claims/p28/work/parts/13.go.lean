/-! ONE STEP: every instruction that goes on (written by wip/p28/gen_go.py) -/
theorem anq_all : (List.range 131).all (fun y => (code9 y).all (fun e => match e.2.1 with
  | .anewarray k => !(Nat.beq (mcx y) 4) || (match fnd (cTL.getD 4 []) k with
    | some (ci, _, _, _) => Nat.beq ci 3
    | _ => false)
  | _ => true)) = true := by decide +kernel
theorem anq_at {y pc k np : Nat} (hy : y < 131) (h : fnd (code9 y) pc = some (.anewarray k, np)) (h4 : mcx y = 4) : Cond.classLink (cnm (mcx y)) k "MountSpaces$Mounts" ∈ lw_tbl := by
  have h1 := List.all_eq_true.mp (List.all_eq_true.mp anq_all y (List.mem_range.mpr hy)) _ (fnd_mem h)
  dsimp only at h1
  rw [h4] at h1
  have e4 : (!Nat.beq 4 4) = false := rfl
  rw [e4, Bool.false_or] at h1
  split at h1
  · rename_i ci a1 a2 a3 hf
    have hci := Nat.eq_of_beq_eq_true h1
    subst hci
    have f2 := (ck_all 4 (by decide) _ (fnd_mem hf)).2.1
    rw [h4]; exact f2
  · cases h1
section STPGO
variable {p : Program} {l : Launch} {e : Env} {R : Room} {s : State} {m : MethodId} {args : Array Value} {below : List Frame} {meth : Method} {c : Code} {base : Nat} {D : va_G} {tc : Nat → ClassId} {adK : Nat → Nat} {b0 y : Nat} {L0 : AD} {n0 c0 k0 : Nat} {Q : State → Prop} {pc np pc' k : Nat} {lo st lo' st' : List AV} {h h' : AH} {sc : SC}
theorem go_iinc (F : FX p R s m meth c y) {n : Int} (dec : decode (mByt y) pc = .ok (.iinc k n, 3))
    (hst : stp sc y (.iinc k n) (pc + 3) lo st h = some (.inl (pc', lo', st', h'))) (kk : GO p l e R s m args below meth c base D tc adK b0 y L0 n0 c0 k0 Q pc' lo' st' h') : GO p l e R s m args below meth c base D tc adK b0 y L0 n0 c0 k0 Q pc lo st h := by
  have hx := F.1
  have hb := F.2.1
  unfold stp at hst
  dsimp only at hst
  split at hst
  · rename_i x hlo
    cases hn : nlo lo k with
    | false => rw [hn] at hst; cases hst
    | true =>
      rw [hn] at hst
      obtain ⟨rfl, rfl, rfl, rfl⟩ := sNx_inj hst
      intro L H locs cells slots ls a1 a2 a3 a4 a5 a6 a7 a8 a9 b1
      have hm : (k, Value.int x) ∈ rlo L 0 lo := rlo_mem.mpr ⟨k, vI x, by omega, hlo, (by intro q; cases q), rfl⟩
      obtain ⟨k9, hk9⟩ := List.mem_iff_getElem?.mp hm
      have hlt : k < lo.length := (List.getElem?_eq_some_iff.mp hlo).1
      refine lv_iinc hx hb dec a3 hk9 rfl (by rw [← a4]; exact hlt) rfl (fun ls' hl' => ?_)
      exact kk L H locs cells slots ls' a1 a2 (lv_mono hl' (rlo_set1 (v := vI (x + Int32.ofInt n)) hn)) (by rw [List.length_set]; exact a4) (ok_set trivial a5) a6 a7 a8 a9 b1
  · cases hst
theorem go_dup (F : FX p R s m meth c y) (dec : decode (mByt y) pc = .ok (.dup, 1))
    (hst : stp sc y .dup (pc + 1) lo st h = some (.inl (pc', lo', st', h'))) (kk : GO p l e R s m args below meth c base D tc adK b0 y L0 n0 c0 k0 Q pc' lo' st' h') : GO p l e R s m args below meth c base D tc adK b0 y L0 n0 c0 k0 Q pc lo st h := by
  have hx := F.1
  have hb := F.2.1
  unfold stp at hst
  dsimp only at hst
  split at hst
  · obtain ⟨rfl, rfl, rfl, rfl⟩ := sNx_inj hst
    intro L H locs cells slots ls a1 a2 a3 a4 a5 a6 a7 a8 a9 b1
    exact lv_dup hx hb dec rfl (kk L H locs cells slots ls a1 a2 a3 a4 a5 (ok_cons (ok_hd a6) a6) a7 a8 a9 b1)
  · obtain ⟨rfl, rfl, rfl, rfl⟩ := sNx_inj hst
    intro L H locs cells slots ls a1 a2 a3 a4 a5 a6 a7 a8 a9 b1
    exact lv_dup hx hb dec rfl (kk L H locs cells slots ls a1 a2 a3 a4 a5 (ok_cons (ok_hd a6) a6) a7 a8 a9 b1)
  · cases hst
theorem go_dup2 (F : FX p R s m meth c y) (dec : decode (mByt y) pc = .ok (.dup2, 1))
    (hst : stp sc y .dup2 (pc + 1) lo st h = some (.inl (pc', lo', st', h'))) (kk : GO p l e R s m args below meth c base D tc adK b0 y L0 n0 c0 k0 Q pc' lo' st' h') : GO p l e R s m args below meth c base D tc adK b0 y L0 n0 c0 k0 Q pc lo st h := by
  have hx := F.1
  have hb := F.2.1
  unfold stp at hst
  dsimp only at hst
  split at hst
  · obtain ⟨rfl, rfl, rfl, rfl⟩ := sNx_inj hst
    intro L H locs cells slots ls a1 a2 a3 a4 a5 a6 a7 a8 a9 b1
    exact lv_dup2_11 hx hb dec rfl rfl (kk L H locs cells slots ls a1 a2 a3 a4 a5 (ok_cons (ok_hd a6) (ok_cons (ok_hd (ok_tl a6)) a6)) a7 a8 a9 b1)
  · cases hst
theorem go_dup_x1 (F : FX p R s m meth c y) (dec : decode (mByt y) pc = .ok (.dup_x1, 1))
    (hst : stp sc y .dup_x1 (pc + 1) lo st h = some (.inl (pc', lo', st', h'))) (kk : GO p l e R s m args below meth c base D tc adK b0 y L0 n0 c0 k0 Q pc' lo' st' h') : GO p l e R s m args below meth c base D tc adK b0 y L0 n0 c0 k0 Q pc lo st h := by
  have hx := F.1
  have hb := F.2.1
  unfold stp at hst
  dsimp only at hst
  split at hst
  · obtain ⟨rfl, rfl, rfl, rfl⟩ := sNx_inj hst
    intro L H locs cells slots ls a1 a2 a3 a4 a5 a6 a7 a8 a9 b1
    exact lv_dup_x1 hx hb dec rfl rfl (kk L H locs cells slots ls a1 a2 a3 a4 a5 (ok_cons (ok_hd a6) (ok_cons (ok_hd (ok_tl a6)) (ok_cons (ok_hd a6) (ok_tl (ok_tl a6))))) a7 a8 a9 b1)
  · cases hst
theorem inb_of {x : Int32} {n : Nat} (h : inb x n = true) (hn : n < 2 ^ 31) : ∃ k, k < n ∧ x = nI k := by
  have := inb_in h
  obtain ⟨j, h1, h2⟩ := vp_in_of this hn
  exact ⟨j, h1, h2⟩
theorem i2c_small {x : Int32} (h : inb x 128 = true) : (x.toUInt32 % 65536).toInt32 = x := by
  obtain ⟨k, hk, rfl⟩ := inb_of h (by decide)
  have hh : ∀ k : Fin 128, ((nI k.1).toUInt32 % 65536).toInt32 = nI k.1 := by decide +kernel
  exact hh ⟨k, hk⟩
theorem go_i2c (F : FX p R s m meth c y) (dec : decode (mByt y) pc = .ok (.i2c, 1))
    (hst : stp sc y .i2c (pc + 1) lo st h = some (.inl (pc', lo', st', h'))) (kk : GO p l e R s m args below meth c base D tc adK b0 y L0 n0 c0 k0 Q pc' lo' st' h') : GO p l e R s m args below meth c base D tc adK b0 y L0 n0 c0 k0 Q pc lo st h := by
  have hx := F.1
  have hb := F.2.1
  unfold stp at hst
  dsimp only at hst
  split at hst
  · rename_i x st
    cases hi : inb x 128 with
    | false => rw [hi] at hst; cases hst
    | true =>
      rw [hi] at hst
      obtain ⟨rfl, rfl, rfl, rfl⟩ := sNx_inj hst
      intro L H locs cells slots ls a1 a2 a3 a4 a5 a6 a7 a8 a9 b1
      exact lv_i2c hx hb dec (i2c_small hi) (kk L H locs cells slots ls a1 a2 a3 a4 a5 (ok_cons trivial (ok_tl a6)) a7 a8 a9 b1)
  · cases hst
theorem go_nnull (F : FX p R s m meth c y) {t t0 : Int} (dec : decode (mByt y) pc = .ok (.ifnonnull t0, 3)) (ht : (pc : Int) + t0 = (t.toNat : Int))
    (hst : stp sc y (.ifnonnull t) (pc + 3) lo st h = some (.inl (pc', lo', st', h'))) (kk : GO p l e R s m args below meth c base D tc adK b0 y L0 n0 c0 k0 Q pc' lo' st' h') : GO p l e R s m args below meth c base D tc adK b0 y L0 n0 c0 k0 Q pc lo st h := by
  have hx := F.1
  have hb := F.2.1
  unfold stp at hst
  dsimp only at hst
  split at hst
  · obtain ⟨rfl, rfl, rfl, rfl⟩ := sNx_inj hst
    intro L H locs cells slots ls a1 a2 a3 a4 a5 a6 a7 a8 a9 b1
    exact lv_ifnonnull hx hb dec ht (kk L H locs cells slots ls a1 a2 a3 a4 a5 (ok_tl a6) a7 a8 a9 b1)
  · cases hst
theorem go_pop (F : FX p R s m meth c y) (dec : decode (mByt y) pc = .ok (.pop, 1))
    (hst : stp sc y .pop (pc + 1) lo st h = some (.inl (pc', lo', st', h'))) (kk : GO p l e R s m args below meth c base D tc adK b0 y L0 n0 c0 k0 Q pc' lo' st' h') : GO p l e R s m args below meth c base D tc adK b0 y L0 n0 c0 k0 Q pc lo st h := by
  have hx := F.1
  have hb := F.2.1
  unfold stp at hst
  dsimp only at hst
  split at hst
  · obtain ⟨rfl, rfl, rfl, rfl⟩ := sNx_inj hst
    intro L H locs cells slots ls a1 a2 a3 a4 a5 a6 a7 a8 a9 b1
    exact lv_pop hx hb dec rfl (kk L H locs cells slots ls a1 a2 a3 a4 a5 (ok_tl a6) a7 a8 a9 b1)
  · obtain ⟨rfl, rfl, rfl, rfl⟩ := sNx_inj hst
    intro L H locs cells slots ls a1 a2 a3 a4 a5 a6 a7 a8 a9 b1
    exact lv_pop hx hb dec rfl (kk L H locs cells slots ls a1 a2 a3 a4 a5 (ok_tl a6) a7 a8 a9 b1)
  · cases hst
theorem go_i2b (F : FX p R s m meth c y) (dec : decode (mByt y) pc = .ok (.i2b, 1))
    (hst : stp sc y .i2b (pc + 1) lo st h = some (.inl (pc', lo', st', h'))) (kk : GO p l e R s m args below meth c base D tc adK b0 y L0 n0 c0 k0 Q pc' lo' st' h') : GO p l e R s m args below meth c base D tc adK b0 y L0 n0 c0 k0 Q pc lo st h := by
  have hx := F.1
  have hb := F.2.1
  unfold stp at hst
  dsimp only at hst
  split at hst
  · obtain ⟨rfl, rfl, rfl, rfl⟩ := sNx_inj hst
    intro L H locs cells slots ls a1 a2 a3 a4 a5 a6 a7 a8 a9 b1
    exact lv_i2b hx hb dec rfl (kk L H locs cells slots ls a1 a2 a3 a4 a5 (ok_cons trivial (ok_tl a6)) a7 a8 a9 b1)
  · cases hst
theorem go_null (F : FX p R s m meth c y) {t t0 : Int} (dec : decode (mByt y) pc = .ok (.ifnull t0, 3))
    (hst : stp sc y (.ifnull t) (pc + 3) lo st h = some (.inl (pc', lo', st', h'))) (kk : GO p l e R s m args below meth c base D tc adK b0 y L0 n0 c0 k0 Q pc' lo' st' h') : GO p l e R s m args below meth c base D tc adK b0 y L0 n0 c0 k0 Q pc lo st h := by
  have hx := F.1
  have hb := F.2.1
  unfold stp at hst
  dsimp only at hst
  split at hst
  · obtain ⟨rfl, rfl, rfl, rfl⟩ := sNx_inj hst
    intro L H locs cells slots ls a1 a2 a3 a4 a5 a6 a7 a8 a9 b1
    exact lv_ifnull hx hb dec (kk L H locs cells slots ls a1 a2 a3 a4 a5 (ok_tl a6) a7 a8 a9 b1)
  · cases hst
theorem go_aald (F : FX p R s m meth c y) (W0 : WX s args D tc base b0 sc adK) (dec : decode (mByt y) pc = .ok (.aaload, 1))
    (hst : stp sc y .aaload (pc + 1) lo st h = some (.inl (pc', lo', st', h'))) (kk : GO p l e R s m args below meth c base D tc adK b0 y L0 n0 c0 k0 Q pc' lo' st' h') : GO p l e R s m args below meth c base D tc adK b0 y L0 n0 c0 k0 Q pc lo st h := by
  have hx := F.1
  have hb := F.2.1
  unfold stp at hst
  dsimp only at hst
  split at hst
  · rename_i x i cc st
    split at hst
    · rename_i q n hq
      cases hb9 : (Nat.beq q 3 && inb x n) with
      | false => rw [hb9] at hst; cases hst
      | true =>
        rw [hb9] at hst
        dsimp only [cond_true] at hst
        simp only [Bool.and_eq_true] at hb9
        have hq3 := Nat.eq_of_beq_eq_true hb9.1
        subst hq3
        split at hst
        · rename_i pr hpr
          obtain ⟨rfl, rfl, rfl, rfl⟩ := sNx_inj hst
          intro L H locs cells slots ls a1 a2 a3 a4 a5 a6 a7 a8 a9 b1
          obtain ⟨j, hj, hnm, hws⟩ := arr_ws (tc := tc) (L := L) hq (arr_okP hq (ok_hd (ok_tl a6)))
          have h9 := kk L H locs cells slots ls a1 a2 a3 a4 a5 (ok_cons (v := .inr (.inr (.inl pr))) (Or.inl (a1.2.2.2.1 j hj _ pr (by rw [hnm]; exact hpr))) (ok_tl (ok_tl a6))) a7 a8 a9 b1
          refine va_aldq hx hb W0.1.2 a1.1 j 3 (f := fun j => (hR h i cc j).map fun p => L p.1 p.2) (C := "MountSpaces$Mounts") hws rfl (inb_in hb9.2) dec ?_
          rw [hpr]
          exact h9
        · cases hst
    · cases hst
  · cases hst
theorem u3_up {L : AD} {f : Nat → Nat → Nat → Option (Nat × Nat)} {i c k : Nat} {v : Nat × Nat} : (fun j => (u3 f i c k (some v) i c j).map fun p => L p.1 p.2) = va_up (fun j => (f i c j).map fun p => L p.1 p.2) k (some (L v.1 v.2)) := by
  funext j
  rw [u3_at]
  unfold va_up
  by_cases hj : j = k
  · rw [if_pos hj, if_pos hj]; rfl
  · rw [if_neg hj, if_neg hj]
theorem go_aast (F : FX p R s m meth c y) (W0 : WX s args D tc base b0 sc adK) (dec : decode (mByt y) pc = .ok (.aastore, 1))
    (hst : stp sc y .aastore (pc + 1) lo st h = some (.inl (pc', lo', st', h'))) (kk : GO p l e R s m args below meth c base D tc adK b0 y L0 n0 c0 k0 Q pc' lo' st' h') : GO p l e R s m args below meth c base D tc adK b0 y L0 n0 c0 k0 Q pc lo st h := by
  have hx := F.1
  have hb := F.2.1
  unfold stp at hst
  dsimp only at hst
  split at hst
  · rename_i pr x i cc st
    split at hst
    · rename_i q n hq
      cases hb9 : (Nat.beq q 3 && inb x n && isO (hK h pr.1 pr.2) 3) with
      | false => rw [hb9] at hst; cases hst
      | true =>
        rw [hb9] at hst
        simp only [Bool.and_eq_true] at hb9
        obtain ⟨⟨g1, g2⟩, g3⟩ := hb9
        have hq3 := Nat.eq_of_beq_eq_true g1
        subst hq3
        obtain ⟨rfl, rfl, rfl, rfl⟩ := sNx_inj hst
        intro L H locs cells slots ls a1 a2 a3 a4 a5 a6 a7 a8 a9 b1
        obtain ⟨j, hj, hnm, hws⟩ := arr_ws (tc := tc) (L := L) hq (arr_okP hq (ok_hd (ok_tl (ok_tl a6))))
        have hpk : okP h.1.1 pr := (ok_hd a6 : okA h.1.1 pr).P (KD_lt g3 (by omega))
        obtain ⟨jv, hjv, hnv⟩ := hpk
        have hwv := ws_at (tc := tc) (L := L) (h := h) hjv
        rw [hnv, celE_obj (isO_KD g3)] at hwv
        refine va_astq (r := cls9.getD 3 ("", jT0, 0)) hx hb W0.1.2 a1.1 a1.2.1 a2 j 3 jv 3 (f := fun j => (hR h i cc j).map fun p => L p.1 p.2) hws rfl hwv rfl (inb_in g2) dec (fun H1 locs1 hP hD hS => ?_)
        refine kk L H1 locs1 cells slots ls (RL.set a1 hj (h' := sR h i cc x.toNatClampNeg pr) rfl (ev := .inl (tc 3, n, .inr (.inr (.inr (.inr (va_up (fun j => (hR h i cc j).map fun p => L p.1 p.2) x.toNatClampNeg (some (L pr.1 pr.2)))))))) ?_ ?_ (fun j9 hj9 k q hq9 => ?_) (by rw [hnm]; exact hP) (by rw [hnm]; exact hD)) hS a3 a4 a5 (ok_tl (ok_tl (ok_tl a6))) a7 a8 a9 b1
        · rw [hnm]
          refine (celE_arr (h := sR h i cc x.toNatClampNeg pr) (isA_KD hq)).trans ?_
          show Sum.inl (tc 3, n, Sum.inr (Sum.inr (Sum.inr (Sum.inr (fun j => (u3 h.2.1 i cc x.toNatClampNeg (some pr) i cc j).map fun p => L p.1 p.2))))) = _
          rw [u3_up]
          rfl
        · rw [hnm]
          intro i' c' hne
          exact celE_congr (fun _ => rfl) rfl (fun k => congrArg _ (u3_ne hne k))
        · have hq' : u3 (hR h) i cc x.toNatClampNeg (some pr) (nm j9).1 (nm j9).2 k = some q := hq9
          unfold u3 at hq'
          split at hq'
          · cases hq'; exact ⟨jv, hjv, hnv⟩
          · exact a1.2.2.2.1 j9 hj9 k q hq'
    · cases hst
  · cases hst
theorem go_alen (F : FX p R s m meth c y) (W0 : WX s args D tc base b0 sc adK) (dec : decode (mByt y) pc = .ok (.arraylength, 1))
    (hst : stp sc y .arraylength (pc + 1) lo st h = some (.inl (pc', lo', st', h'))) (kk : GO p l e R s m args below meth c base D tc adK b0 y L0 n0 c0 k0 Q pc' lo' st' h') : GO p l e R s m args below meth c base D tc adK b0 y L0 n0 c0 k0 Q pc lo st h := by
  have hx := F.1
  have hb := F.2.1
  unfold stp at hst
  dsimp only at hst
  split at hst
  · rename_i i cc st
    intro L H locs cells slots ls a1 a2 a3 a4 a5 a6 a7 a8 a9 b1
    cases h901 : Nat.beq cc 901 with
    | true =>
      rw [h901] at hst
      dsimp only [cond_true] at hst
      obtain ⟨rfl, rfl, rfl, rfl⟩ := sNx_inj hst
      have hcc := Nat.eq_of_beq_eq_true h901
      subst hcc
      have hi : i = 0 := by
        rcases (ok_hd a6 : okA h.1.1 (i, 901)) with q | ⟨q, -⟩ | q
        · exact absurd (q.lt) (by show ¬ 901 < 91; omega)
        · exact absurd (show (901 : Nat) = 900 from q) (by decide)
        · exact (Prod.mk.inj q).1
      subst hi
      have hL : L 0 901 = b0 := a1.2.2.2.2.2
      have key := va_slen (p := p) (l := l) (e := e) (R := R) (s := s) (m := m) (args := args) (below := below) (meth := meth) (c := c) (H := H) (locs := locs) (cells := cells) (slots := slots) (Q := Q) (cc := mByt y) (pc := pc) (ls := ls) (rest := st.map (avV L)) (A := fun q => base ≤ q) (H0 := s.heap) hx hb W0.2.1 (Nat.lt_of_lt_of_le W0.2.2.1 W0.2.2.2.1) (fst_script W0.2.2.1) a2 dec (kk L H locs cells slots ls a1 a2 a3 a4 a5 (ok_cons trivial (ok_tl a6)) a7 a8 a9 b1)
      show W p l e R s m args below meth c H locs cells slots Q (F0 m pc ls (.ref (L 0 901) :: st.map (avV L)))
      rw [hL]
      exact key
    | false =>
      rw [h901] at hst
      dsimp only [cond_false] at hst
      split at hst
      · rename_i q n hq
        cases hq4 : Nat.blt q 4 with
        | false => rw [hq4] at hst; cases hst
        | true =>
        rw [hq4] at hst
        obtain ⟨rfl, rfl, rfl, rfl⟩ := sNx_inj hst
        obtain ⟨j, hj, hnm, hws⟩ := arr_ws (tc := tc) (L := L) hq (arr_okP hq (ok_hd a6))
        exact va_alen hx hb W0.1.2 a1.1 j q hws (tys_at (Nat.blt_eq.mp hq4)) rfl dec (kk L H locs cells slots ls a1 a2 a3 a4 a5 (ok_cons trivial (ok_tl a6)) a7 a8 a9 b1)
      · cases hst
  · cases hst
theorem ivk_no {kd mm : Nat} {x : Nat × List AV × List AV × AH} (q : ivk kd mm lo st np h = some (.inl x)) : False := by
  unfold ivk at q
  simp only [Bool.cond_eq_ite] at q
  repeat' split at q
  all_goals cases q
theorem mk_int {cx k q : Nat} {mm : Nat × Nat} (hc : cx < 18) (h : fnd (mTL.getD cx []) k = some (q, mm)) (h1 : 500 ≤ q) : Cond.methodLink (cnm cx) k (intN q) ∈ lw_tbl := by
  rcases mk_all cx hc _ (fnd_mem h) with ⟨r, -⟩ | ⟨r, -⟩ | ⟨-, -, -, r⟩ | ⟨r, -⟩ | ⟨r, -⟩
  · exact absurd (show q < 131 from r) (by omega)
  · exact absurd (show q < 131 from r) (by omega)
  · exact r
  · exact absurd (show q < 131 from r) (by omega)
  · exact absurd (show q < 131 from r) (by omega)
theorem mk_own {cx k q : Nat} {w : Nat} (hc : cx < 18) (h : fnd (mTL.getD cx []) k = some (q, 0, w)) (h1 : q < 131) : Cond.methodLink (cnm cx) k (mNam q) ∈ lw_tbl := by
  rcases mk_all cx hc _ (fnd_mem h) with ⟨-, -, r⟩ | ⟨-, r, -⟩ | ⟨r, -⟩ | ⟨-, r, -⟩ | ⟨-, r, -⟩
  · exact r
  · exact absurd (show 0 = 1 from r) (by decide)
  · exact absurd (show 500 ≤ q from r) (by omega)
  · exact absurd (show 0 = 2 from r) (by decide)
  · exact absurd (show 0 = 3 from r) (by decide)
theorem go_spec (F : FX p R s m meth c y) (W0 : WX s args D tc base b0 sc adK) (dec : decode (mByt y) pc = .ok (.invokespecial k, 3))
    (hst : stp sc y (.invokespecial k) (pc + 3) lo st h = some (.inl (pc', lo', st', h'))) (kk : GO p l e R s m args below meth c base D tc adK b0 y L0 n0 c0 k0 Q pc' lo' st' h') : GO p l e R s m args below meth c base D tc adK b0 y L0 n0 c0 k0 Q pc lo st h := by
  have hx := F.1
  have hb := F.2.1
  have hml := F.2.2.1
  have hy : y < 131 := F.2.2.2.2.2.2.2.1
  have hRf : 8 ≤ R.frames := F.2.2.2.2.2.2.2.2.1
  have hRl : 200 ≤ R.locals := F.2.2.2.2.2.2.2.2.2
  unfold stp at hst
  dsimp only at hst
  split at hst
  · rename_i mm cd w2 hf
    cases h500 : Nat.beq mm 500 with
    | false =>
      rw [h500] at hst
      dsimp only [cond_false] at hst
      cases h3 : Nat.beq cd 3 with
      | true => rw [h3] at hst; exact (ivk_no (lo := lo) (np := pc + 3) (h := h) hst).elim
      | false =>
        rw [h3] at hst
        dsimp only [cond_false] at hst
        cases h2 : Nat.blt cd 2 with
        | true => rw [h2] at hst; exact (ivk_no (lo := lo) (np := pc + 3) (h := h) hst).elim
        | false => rw [h2] at hst; cases hst
    | true =>
      rw [h500] at hst
      dsimp only [cond_true] at hst
      have hmm := Nat.eq_of_beq_eq_true h500
      subst hmm
      split at hst
      · rename_i pr st
        cases hc : Nat.ble (cats st) 8 with
        | false => rw [hc] at hst; cases hst
        | true =>
          rw [hc] at hst
          obtain ⟨rfl, rfl, rfl, rfl⟩ := sNx_inj hst
          intro L H locs cells slots ls a1 a2 a3 a4 a5 a6 a7 a8 a9 b1
          have hsum := cats_le (L := L) hc
          refine W.objInit hx hb F.2.2.2.1 (W0.1.w (mk_int (mcx_lt hy) hf (by omega))) (W0.1.w w_objI.1) (W0.1.w w_objI.2) (g := F0 m pc ls (.ref (L pr.1 pr.2) :: st.map (avV L))) rfl (by rw [hml]; exact a3.1) rfl dec (by omega) (by show 2 * 0 + _ + 12 ≤ _; omega) ?_
          exact W.eq (g2 := F0 m (pc + 3) ls (st.map (avV L))) rfl (kk L H locs cells slots ls a1 a2 a3 a4 a5 (ok_tl a6) a7 a8 a9 b1)
      · cases hst
  · cases hst
theorem go_stat (F : FX p R s m meth c y) (W0 : WX s args D tc base b0 sc adK) (I0 : INTR p l e R s m args below meth c base D tc adK y Q) (dec : decode (mByt y) pc = .ok (.invokestatic k, 3)) (hcap : h'.1.2.1 ≤ R.cells + c0 ∧ h'.1.2.2 ≤ R.slots + k0)
    (hst : stp sc y (.invokestatic k) (pc + 3) lo st h = some (.inl (pc', lo', st', h'))) (kk : GO p l e R s m args below meth c base D tc adK b0 y L0 n0 c0 k0 Q pc' lo' st' h') : GO p l e R s m args below meth c base D tc adK b0 y L0 n0 c0 k0 Q pc lo st h := by
  have hx := F.1
  have hb := F.2.1
  have hml := F.2.2.1
  have hy : y < 131 := F.2.2.2.2.2.2.2.1
  have hRf : 8 ≤ R.frames := F.2.2.2.2.2.2.2.2.1
  have hRl : 200 ≤ R.locals := F.2.2.2.2.2.2.2.2.2
  unfold stp at hst
  dsimp only at hst
  split at hst
  · rename_i mm cd w2 hf
    cases h503 : Nat.beq mm 503 with
    | true =>
      rw [h503] at hst
      dsimp only [cond_true] at hst
      have hmm := Nat.eq_of_beq_eq_true h503
      subst hmm
      split at hst
      · rename_i y9 x9 st
        cases hc : Nat.ble (cats st) 8 with
        | false => rw [hc] at hst; cases hst
        | true =>
          rw [hc] at hst
          obtain ⟨rfl, rfl, rfl, rfl⟩ := sNx_inj hst
          intro L H locs cells slots ls a1 a2 a3 a4 a5 a6 a7 a8 a9 b1
          have hsum := cats_le (L := L) hc
          have hcp := cap_now a7 a8 hcap
          exact va_mmax hx hb (hml.trans a3.1.symm) F.2.2.2.1 (W0.1.w (mk_int (mcx_lt hy) hf (by omega))) (W0.1.w w_max.1) (W0.1.w w_max.2.1) (W0.1.w w_max.2.2) (by omega) (by omega) hcp.1 hcp.2 dec (kk L H locs cells slots ls a1 a2 a3 a4 a5 (ok_cons trivial (ok_tl (ok_tl a6))) a7 a8 a9 b1)
      · cases hst
    | false =>
      rw [h503] at hst
      dsimp only [cond_false] at hst
      cases h504 : Nat.beq mm 504 with
      | true =>
        rw [h504] at hst
        dsimp only [cond_true] at hst
        have hmm := Nat.eq_of_beq_eq_true h504
        subst hmm
        split at hst
        · rename_i y9 x9 st
          cases hc : Nat.ble (cats st) 8 with
          | false => rw [hc] at hst; cases hst
          | true =>
            rw [hc] at hst
            obtain ⟨rfl, rfl, rfl, rfl⟩ := sNx_inj hst
            intro L H locs cells slots ls a1 a2 a3 a4 a5 a6 a7 a8 a9 b1
            have hsum := cats_le (L := L) hc
            have hcp := cap_now a7 a8 hcap
            exact va_mmin hx hb (hml.trans a3.1.symm) F.2.2.2.1 (W0.1.w (mk_int (mcx_lt hy) hf (by omega))) (W0.1.w w_min.1) (W0.1.w w_max.2.1) (W0.1.w w_min.2) (by omega) (by omega) hcp.1 hcp.2 dec (kk L H locs cells slots ls a1 a2 a3 a4 a5 (ok_cons trivial (ok_tl (ok_tl a6))) a7 a8 a9 b1)
        · cases hst
      | false =>
        rw [h504] at hst
        dsimp only [cond_false] at hst
        cases h505 : Nat.beq mm 505 with
        | true =>
          rw [h505] at hst
          dsimp only [cond_true] at hst
          have hmm := Nat.eq_of_beq_eq_true h505
          subst hmm
          exact go_cpy F W0 hf dec hst kk
        | false =>
          rw [h505] at hst
          dsimp only [cond_false] at hst
          cases h508 : Nat.beq mm 508 with
          | true =>
            rw [h508] at hst
            dsimp only [cond_true] at hst
            have hmm := Nat.eq_of_beq_eq_true h508
            subst hmm
            split at hst
            · rename_i n9 j9 st
              cases hc : (!(decide (j9 < 0)) && decide (j9 < n9) && Nat.ble (cats st) 8) with
              | false => rw [hc] at hst; cases hst
              | true =>
                rw [hc] at hst
                obtain ⟨rfl, rfl, rfl, rfl⟩ := sNx_inj hst
                simp only [Bool.and_eq_true, Bool.not_eq_true', decide_eq_false_iff_not, decide_eq_true_eq] at hc
                obtain ⟨⟨g1, g2⟩, g3⟩ := hc
                intro L H locs cells slots ls a1 a2 a3 a4 a5 a6 a7 a8 a9 b1
                have hsum := cats_le (L := L) g3
                have hcp := cap_now a7 a8 hcap
                exact (I0 H locs cells slots ls pc k (st.map (avV L)) a2 hcp.1 hcp.2 a3.1).2.1 j9 n9 hsum dec (W0.1.w (mk_int (mcx_lt hy) hf (by omega))) g1 g2 (kk L H locs cells slots ls a1 a2 a3 a4 a5 (ok_tl (ok_tl a6)) a7 a8 a9 b1)
            · cases hst
          | false =>
            rw [h508] at hst
            dsimp only [cond_false] at hst
            cases h0 : Nat.beq cd 0 with
            | true => rw [h0] at hst; exact (ivk_no (lo := lo) (np := pc + 3) (h := h) hst).elim
            | false => rw [h0] at hst; cases hst
  · cases hst
theorem go_gets (F : FX p R s m meth c y) (W0 : WX s args D tc base b0 sc adK) (I0 : INTR p l e R s m args below meth c base D tc adK y Q) (dec : decode (mByt y) pc = .ok (.getstatic k, 3)) (hcap : h'.1.2.1 ≤ R.cells + c0 ∧ h'.1.2.2 ≤ R.slots + k0)
    (hst : stp sc y (.getstatic k) (pc + 3) lo st h = some (.inl (pc', lo', st', h'))) (kk : GO p l e R s m args below meth c base D tc adK b0 y L0 n0 c0 k0 Q pc' lo' st' h') : GO p l e R s m args below meth c base D tc adK b0 y L0 n0 c0 k0 Q pc lo st h := by
  have hy : y < 131 := F.2.2.2.2.2.2.2.1
  unfold stp at hst
  dsimp only at hst
  split at hst
  · rename_i w9 hf
    obtain ⟨rfl, rfl, rfl, rfl⟩ := sNx_inj hst
    intro L H locs cells slots ls a1 a2 a3 a4 a5 a6 a7 a8 a9 b1
    have hcp := cap_now a7 a8 hcap
    exact (I0 H locs cells slots ls pc k (st.map (avV L)) a2 hcp.1 hcp.2 a3.1).2.2 dec (W0.1.w (gk_all _ (mcx_lt hy) _ (fnd_mem hf))) (kk L H locs cells slots ls a1 a2 a3 a4 a5 (ok_cons trivial a6) a7 a8 a9 b1)
  · cases hst
theorem go_virt (F : FX p R s m meth c y) (W0 : WX s args D tc base b0 sc adK) (I0 : INTR p l e R s m args below meth c base D tc adK y Q) (dec : decode (mByt y) pc = .ok (.invokevirtual k, 3)) (hcap : h'.1.2.1 ≤ R.cells + c0 ∧ h'.1.2.2 ≤ R.slots + k0)
    (hst : stp sc y (.invokevirtual k) (pc + 3) lo st h = some (.inl (pc', lo', st', h'))) (kk : GO p l e R s m args below meth c base D tc adK b0 y L0 n0 c0 k0 Q pc' lo' st' h') : GO p l e R s m args below meth c base D tc adK b0 y L0 n0 c0 k0 Q pc lo st h := by
  have hy : y < 131 := F.2.2.2.2.2.2.2.1
  unfold stp at hst
  dsimp only at hst
  split at hst
  · rename_i mm cd w2 hf
    cases h507 : Nat.beq mm 507 with
    | true =>
      rw [h507] at hst
      dsimp only [cond_true] at hst
      have hmm := Nat.eq_of_beq_eq_true h507
      subst hmm
      split at hst
      · rename_i z dp i cc j d st
        split at hst
        · rename_i n1 hq
          cases hc : (Nat.beq d 900 && Nat.blt j strN && decide (z = 0) && Nat.ble (cats st) 8 && !(decide (dp < 0)) && Nat.ble (dp.toNatClampNeg + (txt j).length) n1) with
          | false => rw [hc] at hst; cases hst
          | true =>
            rw [hc] at hst
            obtain ⟨rfl, rfl, rfl, rfl⟩ := sNx_inj hst
            simp only [Bool.and_eq_true, Bool.not_eq_true', decide_eq_false_iff_not, decide_eq_true_eq] at hc
            obtain ⟨⟨⟨⟨⟨g1, g2⟩, g3⟩, g4⟩, g5⟩, g6⟩ := hc
            have hd := Nat.eq_of_beq_eq_true g1
            subst hd
            subst g3
            have hj : j < strN := Nat.blt_eq.mp g2
            intro L H locs cells slots ls a1 a2 a3 a4 a5 a6 a7 a8 a9 b1
            have hsum := cats_le (L := L) g4
            have hcp := cap_now a7 a8 hcap
            obtain ⟨j1, hj1, hn1, hw1⟩ := arr_ws (tc := tc) (L := L) hq (arr_okP hq (ok_hd (ok_tl (ok_tl a6))))
            rw [arV_i (by omega)] at hw1
            have a6' := ok_tl (ok_tl (ok_tl (ok_tl a6)))
            have key := ((I0 H locs cells slots ls pc k (st.map (avV L)) a2 hcp.1 hcp.2 a3.1).1 j hj hsum dec).2.2.2 (wsE tc L h) j1 (L i cc) n1 (hG h i cc) dp a1.1 a1.2.1 hw1 g5 (Nat.le_of_ble_eq_true g6) (W0.1.w (mk_int (mcx_lt hy) hf (by omega))) (fun H1 locs1 hP hD hS => by
              refine kk L H1 locs1 cells slots ls (RL.set a1 hj1 (h' := sW h i cc (va_cpy (fun k => (txt j).getD k 0) (hG h i cc) 0 dp.toNatClampNeg (txt j).length)) rfl (ev := .inl (tc 1, n1, .inl (va_cpy (fun k => (txt j).getD k 0) (hG h i cc) 0 dp.toNatClampNeg (txt j).length))) ?_ ?_ a1.2.2.2.1 (by rw [hn1]; exact hP) (by rw [hn1]; exact hD)) hS a3 a4 a5 a6' a7 a8 a9 b1
              · rw [hn1]
                refine (celE_arr (h := sW h i cc (va_cpy (fun k => (txt j).getD k 0) (hG h i cc) 0 dp.toNatClampNeg (txt j).length)) (isA_KD hq)).trans ?_
                have e1 : hG (sW h i cc (va_cpy (fun k => (txt j).getD k 0) (hG h i cc) 0 dp.toNatClampNeg (txt j).length)) i cc = va_cpy (fun k => (txt j).getD k 0) (hG h i cc) 0 dp.toNatClampNeg (txt j).length := funext fun k => u2_at k
                rw [arV_i (by omega), e1]
              · rw [hn1]
                intro i' c' hne
                exact celE_congr (fun k => u2_ne hne k) rfl (fun _ => rfl))
            rw [← a1.2.2.2.2.1 j hj] at key
            exact key
        · cases hst
      · cases hst
    | false =>
      rw [h507] at hst
      dsimp only [cond_false] at hst
      cases hk9 : (Nat.beq cd 0 && isK mm st) with
      | false =>
        rw [hk9] at hst
        dsimp only [cond_false] at hst
        cases h2 : Nat.beq cd 2 with
        | true => rw [h2] at hst; exact (ivk_no (lo := lo) (np := pc + 3) (h := h) hst).elim
        | false =>
          rw [h2] at hst
          dsimp only [cond_false] at hst
          cases h0 : Nat.beq cd 0 with
          | true => rw [h0] at hst; exact (ivk_no (lo := lo) (np := pc + 3) (h := h) hst).elim
          | false => rw [h0] at hst; cases hst
      | true =>
        rw [hk9] at hst
        dsimp only [cond_true] at hst
        simp only [Bool.and_eq_true] at hk9
        have hcd := Nat.eq_of_beq_eq_true hk9.1
        subst hcd
        unfold strI at hst
        split at hst
        · split at hst
          · rename_i i cc st
            cases hc : (Nat.beq cc 900 && Nat.blt i strN && Nat.ble (cats st) 8) with
            | false => rw [hc] at hst; cases hst
            | true =>
              rw [hc] at hst
              obtain ⟨rfl, rfl, rfl, rfl⟩ := sNx_inj hst
              simp only [Bool.and_eq_true] at hc
              obtain ⟨⟨g1, g2⟩, g3⟩ := hc
              have hcc := Nat.eq_of_beq_eq_true g1
              subst hcc
              have hi : i < strN := Nat.blt_eq.mp g2
              intro L H locs cells slots ls a1 a2 a3 a4 a5 a6 a7 a8 a9 b1
              have hsum := cats_le (L := L) g3
              have hcp := cap_now a7 a8 hcap
              have key := ((I0 H locs cells slots ls pc k (st.map (avV L)) a2 hcp.1 hcp.2 a3.1).1 i hi hsum dec).1 (W0.1.w (mk_own (mcx_lt hy) hf (by decide))) (kk L H locs cells slots ls a1 a2 a3 a4 a5 (ok_cons trivial (ok_tl a6)) a7 a8 a9 b1)
              rw [← a1.2.2.2.2.1 i hi] at key
              exact key
          · cases hst
        · split at hst
          · rename_i j9 i cc st
            cases hc : (Nat.beq cc 900 && Nat.blt i strN && inb j9 (txt i).length && Nat.ble (cats st) 8) with
            | false => rw [hc] at hst; cases hst
            | true =>
              rw [hc] at hst
              obtain ⟨rfl, rfl, rfl, rfl⟩ := sNx_inj hst
              simp only [Bool.and_eq_true] at hc
              obtain ⟨⟨⟨g1, g2⟩, g4⟩, g3⟩ := hc
              have hcc := Nat.eq_of_beq_eq_true g1
              subst hcc
              have hi : i < strN := Nat.blt_eq.mp g2
              intro L H locs cells slots ls a1 a2 a3 a4 a5 a6 a7 a8 a9 b1
              have hsum := cats_le (L := L) g3
              have hcp := cap_now a7 a8 hcap
              have key := ((I0 H locs cells slots ls pc k (st.map (avV L)) a2 hcp.1 hcp.2 a3.1).1 i hi hsum dec).2.1 j9 g4 (W0.1.w (mk_own (mcx_lt hy) hf (by decide))) (kk L H locs cells slots ls a1 a2 a3 a4 a5 (ok_cons trivial (ok_tl (ok_tl a6))) a7 a8 a9 b1)
              rw [← a1.2.2.2.2.1 i hi] at key
              exact key
          · cases hst
        · split at hst
          · rename_i i cc st
            cases hc : (Nat.beq cc 900 && Nat.blt i strN && Nat.ble (cats st) 8) with
            | false => rw [hc] at hst; cases hst
            | true =>
              rw [hc] at hst
              obtain ⟨rfl, rfl, rfl, rfl⟩ := sNx_inj hst
              simp only [Bool.and_eq_true] at hc
              obtain ⟨⟨g1, g2⟩, g3⟩ := hc
              have hcc := Nat.eq_of_beq_eq_true g1
              subst hcc
              have hi : i < strN := Nat.blt_eq.mp g2
              intro L H locs cells slots ls a1 a2 a3 a4 a5 a6 a7 a8 a9 b1
              have hsum := cats_le (L := L) g3
              have hcp := cap_now a7 a8 hcap
              have key := ((I0 H locs cells slots ls pc k (st.map (avV L)) a2 hcp.1 hcp.2 a3.1).1 i hi hsum dec).2.2.1 (W0.1.w (mk_own (mcx_lt hy) hf (by decide))) (kk L H locs cells slots ls a1 a2 a3 a4 a5 (ok_cons trivial (ok_tl a6)) a7 a8 a9 b1)
              rw [← a1.2.2.2.2.1 i hi] at key
              exact key
          · cases hst
        · cases hst
  · cases hst
theorem go_tsw (F : FX p R s m meth c y) {d a b : Int} {os : Array Int} {d0 : Int} {os0 : Array Int} {len : Nat} (dec : decode (mByt y) pc = .ok (.tableswitch d0 a b os0, len)) (e1 : (pc : Int) + d0 = d) (e2 : os0.map (fun z => (pc : Int) + z) = os) (hp : brPos (.tableswitch d a b os) = true)
    (hst : stp sc y (.tableswitch d a b os) (pc + len) lo st h = some (.inl (pc', lo', st', h'))) (kk : GO p l e R s m args below meth c base D tc adK b0 y L0 n0 c0 k0 Q pc' lo' st' h') : GO p l e R s m args below meth c base D tc adK b0 y L0 n0 c0 k0 Q pc lo st h := by
  have hx := F.1
  have hb := F.2.1
  simp only [brPos, Bool.and_eq_true, decide_eq_true_eq] at hp
  unfold stp at hst
  dsimp only at hst
  split at hst
  · rename_i x st
    split at hst
    · rename_i hout
      obtain ⟨rfl, rfl, rfl, rfl⟩ := sNx_inj hst
      intro L H locs cells slots ls a1 a2 a3 a4 a5 a6 a7 a8 a9 b1
      exact lv_tableOut hx hb dec hout (by rw [e1, Int.toNat_of_nonneg hp.1]) (kk L H locs cells slots ls a1 a2 a3 a4 a5 (ok_tl a6) a7 a8 a9 b1)
    · rename_i hout
      split at hst
      · rename_i t ht
        obtain ⟨rfl, rfl, rfl, rfl⟩ := sNx_inj hst
        intro L H locs cells slots ls a1 a2 a3 a4 a5 a6 a7 a8 a9 b1
        have hin := not_or.mp hout
        have ht0 : 0 ≤ t := by
          have h9 := List.all_eq_true.mp hp.2 t (Array.mem_toList_iff.mpr (Array.mem_of_getElem? ht))
          simpa using h9
        rw [← e2, Array.getElem?_map] at ht
        obtain ⟨t0, g1, g2⟩ := Option.map_eq_some_iff.mp ht
        exact lv_tableIn hx hb dec hin.1 hin.2 g1 (by rw [g2, Int.toNat_of_nonneg ht0]) (kk L H locs cells slots ls a1 a2 a3 a4 a5 (ok_tl a6) a7 a8 a9 b1)
      · cases hst
  · cases hst
theorem go_iald (F : FX p R s m meth c y) (W0 : WX s args D tc base b0 sc adK) (dec : decode (mByt y) pc = .ok (.iaload, 1))
    (hst : aldI sc (fun q => Nat.beq q 0) lo st (pc + 1) h = some (.inl (pc', lo', st', h'))) (kk : GO p l e R s m args below meth c base D tc adK b0 y L0 n0 c0 k0 Q pc' lo' st' h') : GO p l e R s m args below meth c base D tc adK b0 y L0 n0 c0 k0 Q pc lo st h := by
  have hx := F.1
  have hb := F.2.1
  refine go_ald F W0 rfl (fun {H locs cells slots ls rest L i cc q n j x} hq hk hin hP hw kw => ?_) (fun _ => dec) hst kk
  have hq0 := Nat.eq_of_beq_eq_true hq
  subst hq0
  exact va_iald hx hb W0.1.2 hP j 0 (f := hG h i cc) hw rfl hin dec kw
theorem go_bald (F : FX p R s m meth c y) (W0 : WX s args D tc base b0 sc adK) (dec : decode (mByt y) pc = .ok (.baload, 1))
    (hst : aldI sc (fun q => Nat.beq q 1 || Nat.beq q 2) lo st (pc + 1) h = some (.inl (pc', lo', st', h'))) (kk : GO p l e R s m args below meth c base D tc adK b0 y L0 n0 c0 k0 Q pc' lo' st' h') : GO p l e R s m args below meth c base D tc adK b0 y L0 n0 c0 k0 Q pc lo st h := by
  have hx := F.1
  have hb := F.2.1
  refine go_ald F W0 rfl (fun {H locs cells slots ls rest L i cc q n j x} hq hk hin hP hw kw => ?_) (fun q => by cases q) hst kk
  rcases (Bool.or_eq_true _ _).mp hq with hq | hq
  · have hq0 := Nat.eq_of_beq_eq_true hq
    subst hq0
    exact va_bald hx hb W0.1.2 hP j 1 (f := hG h i cc) hw rfl hin dec kw
  · have hq0 := Nat.eq_of_beq_eq_true hq
    subst hq0
    exact va_zald hx hb W0.1.2 hP j 2 (f := hG h i cc) hw rfl hin dec kw
theorem go_iast (F : FX p R s m meth c y) (W0 : WX s args D tc base b0 sc adK) (dec : decode (mByt y) pc = .ok (.iastore, 1))
    (hst : astI (fun q => Nat.beq q 0) lo st (pc + 1) h = some (.inl (pc', lo', st', h'))) (kk : GO p l e R s m args below meth c base D tc adK b0 y L0 n0 c0 k0 Q pc' lo' st' h') : GO p l e R s m args below meth c base D tc adK b0 y L0 n0 c0 k0 Q pc lo st h := by
  have hx := F.1
  have hb := F.2.1
  refine go_ast F W0 (fun q hq => by have := Nat.eq_of_beq_eq_true hq; omega) (fun {H locs cells slots ls rest L i cc q n j x w} hq hk hin hP hD hS hw kw => ?_) hst kk
  have hq0 := Nat.eq_of_beq_eq_true hq
  subst hq0
  exact va_iast hx hb W0.1.2 hP hD hS j 0 (f := hG h i cc) hw rfl hin dec kw
theorem go_bast (F : FX p R s m meth c y) (W0 : WX s args D tc base b0 sc adK) (dec : decode (mByt y) pc = .ok (.bastore, 1))
    (hst : astI (fun q => Nat.beq q 1 || Nat.beq q 2) lo st (pc + 1) h = some (.inl (pc', lo', st', h'))) (kk : GO p l e R s m args below meth c base D tc adK b0 y L0 n0 c0 k0 Q pc' lo' st' h') : GO p l e R s m args below meth c base D tc adK b0 y L0 n0 c0 k0 Q pc lo st h := by
  have hx := F.1
  have hb := F.2.1
  refine go_ast F W0 (fun q hq => by rcases (Bool.or_eq_true _ _).mp hq with hq | hq <;> (have := Nat.eq_of_beq_eq_true hq; omega)) (fun {H locs cells slots ls rest L i cc q n j x w} hq hk hin hP hD hS hw kw => ?_) hst kk
  rcases (Bool.or_eq_true _ _).mp hq with hq | hq
  · have hq0 := Nat.eq_of_beq_eq_true hq
    subst hq0
    exact va_bast hx hb W0.1.2 hP hD hS j 1 (f := hG h i cc) hw rfl hin dec kw
  · have hq0 := Nat.eq_of_beq_eq_true hq
    subst hq0
    exact va_zast hx hb W0.1.2 hP hD hS j 2 (f := hG h i cc) hw rfl hin dec kw
set_option maxHeartbeats 4000000 in
theorem stp_go {i : Instr} (F : FX p R s m meth c y) (W0 : WX s args D tc base b0 sc adK) (I0 : INTR p l e R s m args below meth c base D tc adK y Q) (hE : fnd (code9 y) pc = some (i, np)) (hcap : h'.1.2.1 ≤ R.cells + c0 ∧ h'.1.2.2 ≤ R.slots + k0)
    (hst : stp sc y i np lo st h = some (.inl (pc', lo', st', h'))) (kk : GO p l e R s m args below meth c base D tc adK b0 y L0 n0 c0 k0 Q pc' lo' st' h') : GO p l e R s m args below meth c base D tc adK b0 y L0 n0 c0 k0 Q pc lo st h := by
  have hx := F.1
  have hb := F.2.1
  have hml := F.2.2.1
  have hown := F.2.2.2.1
  have hy : y < 131 := F.2.2.2.2.2.2.2.1
  obtain ⟨i0, len, dec, habs, hnp, hlen⟩ := code_at hy hE
  have hbr := br_at hy hE
  subst hnp
  cases i
  case iconst n =>
    have e0 := absI_nb habs rfl; subst e0; have e1 := hlen rfl; subst e1
    exact go_push (v := vI (Int32.ofInt n)) trivial (fun _ kw => lv_iconst hx hb dec rfl kw) hst kk
  case bipush n =>
    have e0 := absI_nb habs rfl; subst e0; have e1 := hlen rfl; subst e1
    exact go_push (v := vI (Int8.ofInt n).toInt32) trivial (fun _ kw => lv_bipush hx hb dec rfl kw) hst kk
  case sipush n =>
    have e0 := absI_nb habs rfl; subst e0; have e1 := hlen rfl; subst e1
    exact go_push (v := vI (Int16.ofInt n).toInt32) trivial (fun _ kw => lv_sipush hx hb dec rfl kw) hst kk
  case aconst_null =>
    have e0 := absI_nb habs rfl; subst e0; have e1 := hlen rfl; subst e1
    exact go_push (v := vU) trivial (fun _ kw => lv_null hx hb dec kw) hst kk
  case ldc k =>
    have e0 := absI_nb habs rfl; subst e0; have e1 := hlen rfl; subst e1
    unfold stp at hst
    dsimp only at hst
    split at hst
    · rename_i v9 w9 hf
      exact go_push (v := vI v9) trivial (fun _ kw => lv_ldc hx hb hown (W0.1.w (ik_all _ (mcx_lt hy) _ (fnd_mem hf))) dec kw) hst kk
    · split at hst
      · rename_i s9 hf
        exact go_ldc F W0 hf (fun hr kw => va_ldcS hx hb hown hr dec kw) hst kk
      · cases hst
  case iload k =>
    have e0 := absI_nb habs rfl; subst e0; have e1 := hlen rfl; subst e1
    exact go_ldI (fun hl kw => lv_iload hx hb dec hl kw) hst kk
  case iload_n k =>
    have e0 := absI_nb habs rfl; subst e0; have e1 := hlen rfl; subst e1
    exact go_ldI (k := k.val) (fun hl kw => lv_iload_n hx hb dec rfl hl kw) hst kk
  case aload k =>
    have e0 := absI_nb habs rfl; subst e0; have e1 := hlen rfl; subst e1
    exact go_ldA (fun hl kw => lv_aload hx hb dec hl kw) hst kk
  case aload_n k =>
    have e0 := absI_nb habs rfl; subst e0; have e1 := hlen rfl; subst e1
    exact go_ldA (k := k.val) (fun hl kw => lv_aload_n hx hb dec rfl hl kw) hst kk
  case istore k =>
    have e0 := absI_nb habs rfl; subst e0; have e1 := hlen rfl; subst e1
    exact go_stI (fun hh hn kw => lv_istore hx hb dec hh hn rfl kw) hst kk
  case istore_n k =>
    have e0 := absI_nb habs rfl; subst e0; have e1 := hlen rfl; subst e1
    exact go_stI (k := k.val) (fun hh hn kw => lv_istore_n hx hb dec rfl hh hn rfl kw) hst kk
  case astore k =>
    have e0 := absI_nb habs rfl; subst e0; have e1 := hlen rfl; subst e1
    exact go_stA (fun hh hn kw => lv_astore hx hb dec hh hn rfl kw) hst kk
  case astore_n k =>
    have e0 := absI_nb habs rfl; subst e0; have e1 := hlen rfl; subst e1
    exact go_stA (k := k.val) (fun hh hn kw => lv_astore_n hx hb dec rfl hh hn rfl kw) hst kk
  case iinc k n =>
    have e0 := absI_nb habs rfl; subst e0; have e1 := hlen rfl; subst e1
    exact go_iinc F dec hst kk
  case iadd =>
    have e0 := absI_nb habs rfl; subst e0; have e1 := hlen rfl; subst e1
    exact go_bin (f := (· + ·)) (fun kw => lv_iadd hx hb dec kw) hst kk
  case isub =>
    have e0 := absI_nb habs rfl; subst e0; have e1 := hlen rfl; subst e1
    exact go_bin (f := (· - ·)) (fun kw => lv_isub hx hb dec kw) hst kk
  case imul =>
    have e0 := absI_nb habs rfl; subst e0; have e1 := hlen rfl; subst e1
    exact go_bin (f := (· * ·)) (fun kw => lv_imul hx hb dec kw) hst kk
  case iand =>
    have e0 := absI_nb habs rfl; subst e0; have e1 := hlen rfl; subst e1
    exact go_bin (f := (· &&& ·)) (fun kw => lv_iand hx hb dec kw) hst kk
  case ior =>
    have e0 := absI_nb habs rfl; subst e0; have e1 := hlen rfl; subst e1
    exact go_bin (f := (· ||| ·)) (fun kw => lv_ior hx hb dec kw) hst kk
  case ishl =>
    have e0 := absI_nb habs rfl; subst e0; have e1 := hlen rfl; subst e1
    exact go_bin (f := (fun x y => x <<< (y &&& 31))) (fun kw => lv_ishl hx hb dec kw) hst kk
  case ishr =>
    have e0 := absI_nb habs rfl; subst e0; have e1 := hlen rfl; subst e1
    exact go_bin (f := (fun x y => x >>> (y &&& 31))) (fun kw => lv_ishr hx hb dec kw) hst kk
  case idiv =>
    have e0 := absI_nb habs rfl; subst e0; have e1 := hlen rfl; subst e1
    exact go_binD (f := (· / ·)) (fun h0 kw => lv_idiv hx hb dec h0 kw) hst kk
  case irem =>
    have e0 := absI_nb habs rfl; subst e0; have e1 := hlen rfl; subst e1
    exact go_binD (f := (fun x y => x - x / y * y)) (fun h0 kw => lv_irem hx hb dec h0 kw) hst kk
  case i2b =>
    have e0 := absI_nb habs rfl; subst e0; have e1 := hlen rfl; subst e1
    exact go_i2b F dec hst kk
  case i2c =>
    have e0 := absI_nb habs rfl; subst e0; have e1 := hlen rfl; subst e1
    exact go_i2c F dec hst kk
  case dup =>
    have e0 := absI_nb habs rfl; subst e0; have e1 := hlen rfl; subst e1
    exact go_dup F dec hst kk
  case dup2 =>
    have e0 := absI_nb habs rfl; subst e0; have e1 := hlen rfl; subst e1
    exact go_dup2 F dec hst kk
  case dup_x1 =>
    have e0 := absI_nb habs rfl; subst e0; have e1 := hlen rfl; subst e1
    exact go_dup_x1 F dec hst kk
  case pop =>
    have e0 := absI_nb habs rfl; subst e0; have e1 := hlen rfl; subst e1
    exact go_pop F dec hst kk
  case ifCond cc t =>
    obtain ⟨t0, e0, et⟩ := absI_if habs; subst e0; have e1 := hlen rfl; subst e1
    have ht : (pc : Int) + t0 = (t.toNat : Int) := by rw [et, Int.toNat_of_nonneg (of_decide_eq_true hbr)]
    cases cc
    case eq => exact go_br1 (f := fun x => decide (x = 0)) (tg := t.toNat) (fun k1 k2 => lv_if_eq hx hb dec ht (fun q => k1 (decide_eq_true q)) (fun q => k2 (decide_eq_false q))) hst kk
    case ne => exact go_br1 (f := fun x => !decide (x = 0)) (tg := t.toNat) (fun k1 k2 => lv_if_ne hx hb dec ht (fun q => k1 (by simpa using q)) (fun q => k2 (by simpa using q))) hst kk
    case lt => exact go_br1 (f := fun x => decide (x < 0)) (tg := t.toNat) (fun k1 k2 => lv_if_lt hx hb dec ht (fun q => k1 (decide_eq_true q)) (fun q => k2 (decide_eq_false q))) hst kk
    case ge => exact go_br1 (f := fun x => decide (0 ≤ x)) (tg := t.toNat) (fun k1 k2 => lv_if_ge hx hb dec ht (fun q => k1 (decide_eq_true q)) (fun q => k2 (decide_eq_false q))) hst kk
    case gt => exact go_br1 (f := fun x => decide (0 < x)) (tg := t.toNat) (fun k1 k2 => lv_if_gt hx hb dec ht (fun q => k1 (decide_eq_true q)) (fun q => k2 (decide_eq_false q))) hst kk
    case le => exact go_br1 (f := fun x => decide (x ≤ 0)) (tg := t.toNat) (fun k1 k2 => lv_if_le hx hb dec ht (fun q => k1 (decide_eq_true q)) (fun q => k2 (decide_eq_false q))) hst kk
  case if_icmp cc t =>
    obtain ⟨t0, e0, et⟩ := absI_cmp habs; subst e0; have e1 := hlen rfl; subst e1
    have ht : (pc : Int) + t0 = (t.toNat : Int) := by rw [et, Int.toNat_of_nonneg (of_decide_eq_true hbr)]
    cases cc
    case eq => exact go_br2 (f := fun x y => decide (x = y)) (tg := t.toNat) (fun k1 k2 => lv_icmp_eq hx hb dec ht (fun q => k1 (decide_eq_true q)) (fun q => k2 (decide_eq_false q))) hst kk
    case ne => exact go_br2 (f := fun x y => !decide (x = y)) (tg := t.toNat) (fun k1 k2 => lv_icmp_ne hx hb dec ht (fun q => k1 (by simpa using q)) (fun q => k2 (by simpa using q))) hst kk
    case lt => exact go_br2 (f := fun x y => decide (x < y)) (tg := t.toNat) (fun k1 k2 => lv_icmp_lt hx hb dec ht (fun q => k1 (decide_eq_true q)) (fun q => k2 (decide_eq_false q))) hst kk
    case ge => exact go_br2 (f := fun x y => decide (y ≤ x)) (tg := t.toNat) (fun k1 k2 => lv_icmp_ge hx hb dec ht (fun q => k1 (decide_eq_true q)) (fun q => k2 (decide_eq_false q))) hst kk
    case gt => exact go_br2 (f := fun x y => decide (y < x)) (tg := t.toNat) (fun k1 k2 => lv_icmp_gt hx hb dec ht (fun q => k1 (decide_eq_true q)) (fun q => k2 (decide_eq_false q))) hst kk
    case le => exact go_br2 (f := fun x y => decide (x ≤ y)) (tg := t.toNat) (fun k1 k2 => lv_icmp_le hx hb dec ht (fun q => k1 (decide_eq_true q)) (fun q => k2 (decide_eq_false q))) hst kk
  case goto t =>
    obtain ⟨t0, e0, et⟩ := absI_goto habs; subst e0; have e1 := hlen rfl; subst e1
    have ht : (pc : Int) + t0 = (t.toNat : Int) := by rw [et, Int.toNat_of_nonneg (of_decide_eq_true hbr)]
    obtain ⟨q1, q2, q3, q4⟩ := sNx_inj hst
    subst q1; subst q2; subst q3; subst q4
    intro L H locs cells slots ls a1 a2 a3 a4 a5 a6 a7 a8 a9 b1
    exact lv_goto hx hb dec ht (kk L H locs cells slots ls a1 a2 a3 a4 a5 a6 a7 a8 a9 b1)
  case ifnull t =>
    obtain ⟨t0, e0, et⟩ := absI_ifnull habs; subst e0; have e1 := hlen rfl; subst e1
    exact go_null F dec hst kk
  case ifnonnull t =>
    obtain ⟨t0, e0, et⟩ := absI_ifnn habs; subst e0; have e1 := hlen rfl; subst e1
    have ht : (pc : Int) + t0 = (t.toNat : Int) := by rw [et, Int.toNat_of_nonneg (of_decide_eq_true hbr)]
    exact go_nnull F dec ht hst kk
  case tableswitch d a b os =>
    obtain ⟨d0, os0, e0, e1, e2⟩ := absI_tsw habs; subst e0
    exact go_tsw F dec e1 e2 hbr hst kk
  case getfield k =>
    have e0 := absI_nb habs rfl; subst e0; have e1 := hlen rfl; subst e1
    exact go_getf F W0 dec hst kk
  case putfield k =>
    have e0 := absI_nb habs rfl; subst e0; have e1 := hlen rfl; subst e1
    exact go_putf F W0 dec hst kk
  case iaload =>
    have e0 := absI_nb habs rfl; subst e0; have e1 := hlen rfl; subst e1
    exact go_iald F W0 dec hst kk
  case baload =>
    have e0 := absI_nb habs rfl; subst e0; have e1 := hlen rfl; subst e1
    exact go_bald F W0 dec hst kk
  case iastore =>
    have e0 := absI_nb habs rfl; subst e0; have e1 := hlen rfl; subst e1
    exact go_iast F W0 dec hst kk
  case bastore =>
    have e0 := absI_nb habs rfl; subst e0; have e1 := hlen rfl; subst e1
    exact go_bast F W0 dec hst kk
  case aaload =>
    have e0 := absI_nb habs rfl; subst e0; have e1 := hlen rfl; subst e1
    exact go_aald F W0 dec hst kk
  case aastore =>
    have e0 := absI_nb habs rfl; subst e0; have e1 := hlen rfl; subst e1
    exact go_aast F W0 dec hst kk
  case arraylength =>
    have e0 := absI_nb habs rfl; subst e0; have e1 := hlen rfl; subst e1
    exact go_alen F W0 dec hst kk
  case newarray t =>
    have e0 := absI_nb habs rfl; subst e0; have e1 := hlen rfl; subst e1
    exact go_newa F W0 dec hcap hst kk
  case anewarray k =>
    have e0 := absI_nb habs rfl; subst e0; have e1 := hlen rfl; subst e1
    exact go_newq F W0 dec (anq_at hy hE) hcap hst kk
  case new k =>
    have e0 := absI_nb habs rfl; subst e0; have e1 := hlen rfl; subst e1
    unfold stp at hst
    dsimp only at hst
    split at hst
    · rename_i ci w1 w2 w3 hf
      exact go_newc F W0 hf dec hcap hst kk
    · cases hst
  case getstatic k =>
    have e0 := absI_nb habs rfl; subst e0; have e1 := hlen rfl; subst e1
    exact go_gets F W0 I0 dec hcap hst kk
  case invokespecial k =>
    have e0 := absI_nb habs rfl; subst e0; have e1 := hlen rfl; subst e1
    exact go_spec F W0 dec hst kk
  case invokestatic k =>
    have e0 := absI_nb habs rfl; subst e0; have e1 := hlen rfl; subst e1
    exact go_stat F W0 I0 dec hcap hst kk
  case invokevirtual k =>
    have e0 := absI_nb habs rfl; subst e0; have e1 := hlen rfl; subst e1
    exact go_virt F W0 I0 dec hcap hst kk
  case ireturn =>
    unfold stp at hst
    dsimp only at hst
    (try simp only [Bool.cond_eq_ite] at hst)
    repeat' (split at hst)
    all_goals (first | cases hst | (simp only [Option.some.injEq, reduceCtorEq] at hst))
  case areturn =>
    unfold stp at hst
    dsimp only at hst
    (try simp only [Bool.cond_eq_ite] at hst)
    repeat' (split at hst)
    all_goals (first | cases hst | (simp only [Option.some.injEq, reduceCtorEq] at hst))
  case return_ =>
    unfold stp at hst
    dsimp only at hst
    (try simp only [Bool.cond_eq_ite] at hst)
    repeat' (split at hst)
    all_goals (first | cases hst | (simp only [Option.some.injEq, reduceCtorEq] at hst))
  all_goals cases hst
end STPGO
