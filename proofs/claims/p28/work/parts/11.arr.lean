/-! ONE STEP, of arrays and new cells -/
def tyT : Nat → FieldType
  | 0 => .int
  | 1 => .byte
  | 2 => .boolean
  | _ => .object "MountSpaces$Mounts"
theorem narT_byte (x : Int32) : narT 1 x = vp_nar .byte x := rfl
theorem narT_bool (x : Int32) : narT 2 x = vp_nar .boolean x := rfl
section ARR
variable {p : Program} {l : Launch} {e : Env} {R : Room} {s : State} {m : MethodId} {args : Array Value} {below : List Frame} {meth : Method} {c : Code} {base : Nat} {D : va_G} {tc : Nat → ClassId} {adK : Nat → Nat} {b0 y : Nat} {L0 : AD} {n0 c0 k0 : Nat} {Q : State → Prop} {pc np pc' k : Nat} {lo st lo' st' : List AV} {h h' : AH} {sc : SC}
theorem arr_ws {L : AD} {i cc q n : Nat} (hk : isA (hK h i cc) = some (q, n)) (hok : okP h.1.1 (i, cc)) : ∃ j, j < h.1.1 ∧ nm j = (i, cc) ∧ (wsE tc L h)[j]? = some (L i cc, .inl (tc q, arV L h i cc q n)) := by
  obtain ⟨j, hj, hnm⟩ := hok
  refine ⟨j, hj, hnm, ?_⟩
  have hws := ws_at (tc := tc) (L := L) (h := h) hj
  rw [hnm] at hws
  rw [hws, celE_arr (isA_KD hk)]
theorem arr_okP {i cc : Nat} {q : Nat × Nat} {n : Nat} (hk : isA (hK h i cc) = some q) (ho : okA n (i, cc)) : okP n (i, cc) := ho.P (KDA_lt hk)
theorem fst_script {base b0 : Nat} (h : b0 < base) : ¬ (fun q => base ≤ q) b0 := Nat.not_le.mpr h
theorem go_ald (F : FX p R s m meth c y) (W0 : WX s args D tc base b0 sc adK) {t : Nat → Bool} (tn : np = pc + 1)
    (row : ∀ {H : Heap} {locs : List Loc} {cells slots : Nat} {ls : Array Slot} {rest : List Value} {L : AD} {i cc q n j : Nat} {x : Int32}, t q = true → isA (hK h i cc) = some (q, n) → vp_in x n → va_P D cls9 (wsE tc L h) H → (wsE tc L h)[j]? = some (L i cc, .inl (tc q, arV L h i cc q n)) →
      W p l e R s m args below meth c H locs cells slots Q (F0 m (pc + 1) ls (.int (hG h i cc x.toNatClampNeg) :: rest)) → W p l e R s m args below meth c H locs cells slots Q (F0 m pc ls (.int x :: .ref (L i cc) :: rest)))
    (scr : t 0 = true → decode (mByt y) pc = .ok (.iaload, 1))
    (hst : aldI sc t lo st np h = some (.inl (pc', lo', st', h'))) (kk : GO p l e R s m args below meth c base D tc adK b0 y L0 n0 c0 k0 Q pc' lo' st' h') : GO p l e R s m args below meth c base D tc adK b0 y L0 n0 c0 k0 Q pc lo st h := by
  subst tn
  unfold aldI at hst
  split at hst
  · rename_i x i cc st
    intro L H locs cells slots ls a1 a2 a3 a4 a5 a6 a7 a8 a9 b1
    cases h901 : Nat.beq cc 901 with
    | true =>
      rw [h901] at hst
      dsimp only [cond_true] at hst
      cases hb : (t 0 && inb x sc.1) with
      | false => rw [hb] at hst; cases hst
      | true =>
        rw [hb] at hst
        simp only [Bool.and_eq_true] at hb
        obtain ⟨rfl, rfl, rfl, rfl⟩ := sNx_inj hst
        have hcc := Nat.eq_of_beq_eq_true h901
        subst hcc
        have hi : i = 0 := by
          rcases (ok_hd (ok_tl a6) : okA h.1.1 (i, 901)) with q | ⟨q, -⟩ | q
          · exact absurd q.lt (by show ¬ 901 < 91; omega)
          · exact absurd (show (901 : Nat) = 900 from q) (by decide)
          · exact (Prod.mk.inj q).1
        subst hi
        have hL : L 0 901 = b0 := a1.2.2.2.2.2
        have key := va_sld (p := p) (l := l) (e := e) (R := R) (s := s) (m := m) (args := args) (below := below) (meth := meth) (c := c) (H := H) (locs := locs) (cells := cells) (slots := slots) (Q := Q) (cc := mByt y) (pc := pc) (ls := ls) (rest := st.map (avV L)) (A := fun q => base ≤ q) (H0 := s.heap) F.1 F.2.1 W0.2.1 (Nat.lt_of_lt_of_le W0.2.2.1 W0.2.2.2.1) (fst_script W0.2.2.1) a2 (inb_in hb.2) (scr hb.1) (kk L H locs cells slots ls a1 a2 a3 a4 a5 (ok_cons trivial (ok_tl (ok_tl a6))) a7 a8 a9 b1)
        show W p l e R s m args below meth c H locs cells slots Q (F0 m pc ls (.int x :: .ref (L 0 901) :: st.map (avV L)))
        rw [hL]
        exact key
    | false =>
      rw [h901] at hst
      dsimp only [cond_false] at hst
      split at hst
      · rename_i q n hq
        cases hb : (t q && inb x n) with
        | false => rw [hb] at hst; cases hst
        | true =>
          rw [hb] at hst
          simp only [Bool.and_eq_true] at hb
          obtain ⟨rfl, rfl, rfl, rfl⟩ := sNx_inj hst
          obtain ⟨j, hj, hnm, hws⟩ := arr_ws (tc := tc) (L := L) hq (arr_okP hq (ok_hd (ok_tl a6)))
          exact row hb.1 hq (inb_in hb.2) a1.1 hws (kk L H locs cells slots ls a1 a2 a3 a4 a5 (ok_cons trivial (ok_tl (ok_tl a6))) a7 a8 a9 b1)
      · cases hst
  · cases hst
theorem upd_u3 {f : Nat → Nat → Nat → Int32} {i c k : Nat} {v : Int32} : u3 f i c k v i c = upd (f i c) k v := by
  funext j
  rw [u3_at]
  rfl
theorem go_ast (F : FX p R s m meth c y) (W0 : WX s args D tc base b0 sc adK) {t : Nat → Bool} (tq : ∀ q, t q = true → q < 3)
    (row : ∀ {H : Heap} {locs : List Loc} {cells slots : Nat} {ls : Array Slot} {rest : List Value} {L : AD} {i cc q n j : Nat} {x w : Int32}, t q = true → isA (hK h i cc) = some (q, n) → vp_in x n → va_P D cls9 (wsE tc L h) H → va_D (fun q => base ≤ q) (wsE tc L h) → va_S (fun q => base ≤ q) s.heap H locs → (wsE tc L h)[j]? = some (L i cc, .inl (tc q, arV L h i cc q n)) →
      (∀ (H1 : Heap) (locs1 : List Loc), va_P D cls9 ((wsE tc L h).set j (L i cc, .inl (tc q, n, .inl (upd (hG h i cc) x.toNatClampNeg (narT q w))))) H1 → va_D (fun q => base ≤ q) ((wsE tc L h).set j (L i cc, .inl (tc q, n, .inl (upd (hG h i cc) x.toNatClampNeg (narT q w))))) → va_S (fun q => base ≤ q) s.heap H1 locs1 → W p l e R s m args below meth c H1 locs1 cells slots Q (F0 m np ls rest)) →
      W p l e R s m args below meth c H locs cells slots Q (F0 m pc ls (.int w :: .int x :: .ref (L i cc) :: rest)))
    (hst : astI t lo st np h = some (.inl (pc', lo', st', h'))) (kk : GO p l e R s m args below meth c base D tc adK b0 y L0 n0 c0 k0 Q pc' lo' st' h') : GO p l e R s m args below meth c base D tc adK b0 y L0 n0 c0 k0 Q pc lo st h := by
  unfold astI at hst
  split at hst
  · rename_i w x i cc st
    intro L H locs cells slots ls a1 a2 a3 a4 a5 a6 a7 a8 a9 b1
    split at hst
    · rename_i q n hq
      cases hb : (t q && inb x n) with
      | false => rw [hb] at hst; cases hst
      | true =>
        rw [hb] at hst
        simp only [Bool.and_eq_true] at hb
        obtain ⟨rfl, rfl, rfl, rfl⟩ := sNx_inj hst
        obtain ⟨j, hj, hnm, hws⟩ := arr_ws (tc := tc) (L := L) hq (arr_okP hq (ok_hd (ok_tl (ok_tl a6))))
        refine row hb.1 hq (inb_in hb.2) a1.1 a1.2.1 a2 hws (fun H1 locs1 hP hD hS => ?_)
        refine kk L H1 locs1 cells slots ls (RL.set a1 hj (h' := sG h i cc x.toNatClampNeg (narT q w)) rfl (ev := .inl (tc q, n, .inl (upd (hG h i cc) x.toNatClampNeg (narT q w)))) ?_ ?_ a1.2.2.2.1 (by rw [hnm]; exact hP) (by rw [hnm]; exact hD)) hS a3 a4 a5 (ok_tl (ok_tl (ok_tl a6))) a7 a8 a9 b1
        · rw [hnm]
          refine (celE_arr (h := sG h i cc x.toNatClampNeg (narT q w)) (isA_KD hq)).trans ?_
          have h3 := tq q hb.1
          match q, h3 with
          | 0, _ => simp only [arV, hG, sG, upd_u3]
          | 1, _ => simp only [arV, hG, sG, upd_u3]
          | 2, _ => simp only [arV, hG, sG, upd_u3]
        · rw [hnm]
          intro i' c' hne
          exact celE_congr (fun k => u3_ne hne k) rfl (fun _ => rfl)
    · cases hst
  · cases hst
theorem ra_find {U : State} {ty : FieldType} {cA cB : ClassId} (h1 : va_RA U cA ty) (h2 : va_RA U cB ty) : cA = cB := by
  cases ty with
  | object C =>
    obtain ⟨_, _, _, _, _, e1⟩ := h1
    obtain ⟨_, _, _, _, _, e2⟩ := h2
    exact Option.some.inj (e1.symm.trans e2)
  | _ =>
    unfold va_RA at h1 h2
    dsimp only at h1 h2
    rw [h1] at h2
    exact Option.some.inj h2
theorem tys_at {t : Nat} (ht : t < 4) : (tys9 tc)[t]? = some (tc t, tyT t) := by
  match t, ht with
  | 0, _ => rfl
  | 1, _ => rfl
  | 2, _ => rfl
  | 3, _ => rfl
/-- where the next cell lies -/
def nxL (L : AD) (n a : Nat) : AD := fun i c => if (i, c) = nm n then a else L i c
theorem nxL_at {L : AD} {n a : Nat} : nxL L n a (nm n).1 (nm n).2 = a := by
  unfold nxL
  rw [if_pos rfl]
theorem nxL_ne {L : AD} {n a : Nat} {q : Nat × Nat} (h : q ≠ nm n) : nxL L n a q.1 q.2 = L q.1 q.2 := by
  unfold nxL
  rw [if_neg h]
theorem okA_ne {n : Nat} {q : Nat × Nat} (h : okA n q) : q ≠ nm n := by
  intro e
  rcases h with ⟨j, h1, h2⟩ | ⟨h1, -⟩ | h1
  · have := nm_inj (h2.trans e)
    omega
  · have := nm_lt (a := n)
    rw [← e] at this
    omega
  · have := nm_lt (a := n)
    rw [← e, h1] at this
    exact absurd this (by decide)
theorem hG_alc (kd : Nat × Nat) (n i cc k : Nat) : hG (alc h kd n) i cc k = u2 (hG h) (nm h.1.1).1 (nm h.1.1).2 (fun _ => 0) i cc k := rfl
theorem hR_alc (kd : Nat × Nat) (n i cc k : Nat) : hR (alc h kd n) i cc k = u2 (hR h) (nm h.1.1).1 (nm h.1.1).2 (fun _ => none) i cc k := rfl
theorem hK_alc (kd : Nat × Nat) (n : Nat) : hK (alc h kd n) (nm h.1.1).1 (nm h.1.1).2 = kd := if_pos rfl
theorem hK_alc_ne (kd : Nat × Nat) {n i cc : Nat} (e : (i, cc) ≠ ((nm h.1.1).1, (nm h.1.1).2)) : hK (alc h kd n) i cc = hK h i cc := by
  by_cases hc : cc = 0
  · subst hc
    have hi : ¬ i = h.1.1 := fun q => e (by rw [q]; rfl)
    exact if_neg hi
  · rw [hK_0 hc, hK_0 hc]
theorem RL.push {L : AD} {H1 : Heap} {kd : Nat × Nat} {n a : Nat} {ev : va_E} {H : Heap} (hZ : RL base D tc adK b0 L h H) (hlt : h.1.1 < 256) (hev : celE tc (nxL L h.1.1 a) (alc h kd n) (nm h.1.1).1 (nm h.1.1).2 = ev)
    (hP : va_P D cls9 (wsE tc L h ++ [(a, ev)]) H1) (hD : va_D (fun q => base ≤ q) (wsE tc L h ++ [(a, ev)])) : RL base D tc adK b0 (nxL L h.1.1 a) (alc h kd n) H1 := by
  have hne : ∀ j, j < h.1.1 → nm j ≠ nm h.1.1 := fun j hj q => by
    have := nm_inj q
    omega
  have hwp : wsE tc L h ++ [(a, ev)] = wsE tc (nxL L h.1.1 a) (alc h kd n) := by
    refine ws_push rfl nxL_at hev (fun j hj => nxL_ne (hne j hj)) (fun j hj => ?_)
    have hne2 : ((nm j).1, (nm j).2) ≠ ((nm h.1.1).1, (nm h.1.1).2) := hne j hj
    refine celE_congr (fun k => by rw [hG_alc, u2_ne hne2]) (hK_alc_ne kd hne2) (fun k => ?_)
    have e1 : hR (alc h kd n) (nm j).1 (nm j).2 k = hR h (nm j).1 (nm j).2 k := by rw [hR_alc, u2_ne hne2]
    rw [e1]
    cases hq : hR h (nm j).1 (nm j).2 k with
    | none => rfl
    | some q => exact congrArg some (nxL_ne (okA_ne (Or.inl (hZ.2.2.2.1 j hj k q hq))))
  rw [hwp] at hP hD
  refine ⟨hP, hD, hlt, fun j hj k q hq => ?_, fun i hi => ?_, ?_⟩
  · have hj' : j < h.1.1 + 1 := hj
    rcases Nat.lt_succ_iff_lt_or_eq.mp hj' with hj2 | hj2
    · have hne2 : ((nm j).1, (nm j).2) ≠ ((nm h.1.1).1, (nm h.1.1).2) := hne j hj2
      have e1 : hR (alc h kd n) (nm j).1 (nm j).2 k = hR h (nm j).1 (nm j).2 k := by rw [hR_alc, u2_ne hne2]
      rw [e1] at hq
      exact (hZ.2.2.2.1 j hj2 k q hq).mono (Nat.le_succ _)
    · subst hj2
      have e1 : hR (alc h kd n) (nm h.1.1).1 (nm h.1.1).2 k = none := by rw [hR_alc, u2_at]
      rw [e1] at hq
      cases hq
  · rw [show nxL L h.1.1 a i 900 = L i 900 from nxL_ne (q := (i, 900)) (okA_ne (Or.inr (Or.inl ⟨rfl, hi⟩)))]
    exact hZ.2.2.2.2.1 i hi
  · rw [show nxL L h.1.1 a 0 901 = L 0 901 from nxL_ne (q := (0, 901)) (okA_ne (Or.inr (Or.inr rfl)))]
    exact hZ.2.2.2.2.2
/-- what goes on with a new cell -/
theorem go_new {L : AD} {H1 : Heap} {kd : Nat × Nat} {n a : Nat} {locs : List Loc} {cells slots : Nat} {ls : Array Slot} (kk : GO p l e R s m args below meth c base D tc adK b0 y L0 n0 c0 k0 Q np lo (.inr (.inr (.inl (nm h.1.1))) :: st) (alc h kd n)) (hlt : h.1.1 < 256)
    (r1 : RL base D tc adK b0 (nxL L h.1.1 a) (alc h kd n) H1) (r2 : va_S (fun q => base ≤ q) s.heap H1 locs) (a3 : lv_has ls (mmx y) (rlo L 0 lo)) (a4 : lo.length = mmx y) (a5 : ∀ v ∈ lo, okV h.1.1 v) (a6 : ∀ v ∈ st, okV h.1.1 v) (a7 : cells + c0 = h.1.2.1) (a8 : slots + k0 = h.1.2.2) (a9 : ∀ q, okA n0 q → L q.1 q.2 = L0 q.1 q.2) (b1 : n0 ≤ h.1.1) :
    W p l e R s m args below meth c H1 locs (cells + 1) (slots + n) Q (F0 m np ls (.ref a :: st.map (avV L))) := by
  have hLL : ∀ q, okA h.1.1 q → nxL L h.1.1 a q.1 q.2 = L q.1 q.2 := fun q hq => nxL_ne (okA_ne hq)
  have k9 := kk (nxL L h.1.1 a) H1 locs (cells + 1) (slots + n) ls r1 r2 (lv_mono a3 (rlo_congr hLL a5)) a4 (fun v hv => (a5 v hv).mono (Nat.le_succ _)) (ok_cons (v := .inr (.inr (.inl (nm h.1.1)))) (Or.inl ⟨h.1.1, Nat.lt_succ_self _, rfl⟩) (fun v hv => (a6 v hv).mono (Nat.le_succ _)))
    (show cells + 1 + c0 = h.1.2.1 + 1 by omega) (show slots + n + k0 = h.1.2.2 + n by omega) (fun q hq => by rw [hLL q (hq.mono b1)]; exact a9 q hq) (Nat.le_succ_of_le b1)
  rw [List.map_cons, map_congr9 hLL a6] at k9
  rw [show avV (nxL L h.1.1 a) (.inr (.inr (.inl (nm h.1.1)))) = .ref a from congrArg Value.ref nxL_at] at k9
  exact k9
end ARR
