/-! ONE STEP of the small machine is a step of the machine -/
def FX (p : Program) (R : Room) (s : State) (m : MethodId) (meth : Method) (c : Code) (y : Nat) : Prop :=
  p.tables.exec = Jvm.exec ∧ c.code = mByt y ∧ c.maxLocals = mmx y ∧ s.vm.findClass (cnm (mcx y)) = some m.cls ∧ meth.sig.returnType = mRet y ∧ meth.locks = false ∧ (mkd y = 2 → meth.name = "<init>") ∧ y < 131 ∧ 8 ≤ R.frames ∧ 200 ≤ R.locals
/-- what stands in s of the words: the tables', and those that only warming keeps -/
def WD (s : State) (args : Array Value) (D : va_G) (tc : Nat → ClassId) : Prop := (∀ w ∈ lw_tbl, goodWord w = true → w.before args s = true) ∧ va_K D cls9 (tys9 tc) s
theorem WD.w {s : State} {args : Array Value} {D : va_G} {tc : Nat → ClassId} (h : WD s args D tc) {w : Cond} (hm : w ∈ lw_tbl) (hg : goodWord w = true := by rfl) : w.before args s = true := h.1 w hm hg
def GO (p : Program) (l : Launch) (e : Env) (R : Room) (s : State) (m : MethodId) (args : Array Value) (below : List Frame) (meth : Method) (c : Code) (base : Nat) (D : va_G) (tc : Nat → ClassId) (adK : Nat → Nat) (b0 : Nat) (y : Nat) (L0 : AD) (n0 c0 k0 : Nat) (Q : State → Prop) (pc : Nat) (lo st : List AV) (h : AH) : Prop :=
  ∀ (L : AD) (H : Heap) (locs : List Loc) (cells slots : Nat) (ls : Array Slot), RL base D tc adK b0 L h H → va_S (fun q => base ≤ q) s.heap H locs → lv_has ls (mmx y) (rlo L 0 lo) → lo.length = mmx y → (∀ v ∈ lo, okV h.1.1 v) → (∀ v ∈ st, okV h.1.1 v) →
    cells + c0 = h.1.2.1 → slots + k0 = h.1.2.2 → (∀ q, okA n0 q → L q.1 q.2 = L0 q.1 q.2) → n0 ≤ h.1.1 → W p l e R s m args below meth c H locs cells slots Q (F0 m pc ls (st.map (avV L)))
theorem ok_cons {n : Nat} {v : AV} {st : List AV} (hv : okV n v) (h : ∀ w ∈ st, okV n w) : ∀ w ∈ v :: st, okV n w := fun w hw => (List.mem_cons.mp hw).elim (fun e => e ▸ hv) (h w)
theorem ok_tl {n : Nat} {v : AV} {st : List AV} (h : ∀ w ∈ v :: st, okV n w) : ∀ w ∈ st, okV n w := fun w hw => h w (List.mem_cons_of_mem _ hw)
theorem ok_hd {n : Nat} {v : AV} {st : List AV} (h : ∀ w ∈ v :: st, okV n w) : okV n v := h v List.mem_cons_self
theorem ok_set {n : Nat} {v : AV} {lo : List AV} {k : Nat} (hv : okV n v) (h : ∀ w ∈ lo, okV n w) : ∀ w ∈ lo.set k v, okV n w := fun w hw => (List.mem_or_eq_of_mem_set hw).elim (h w) (fun e => e ▸ hv)
theorem rlo_at {L : AD} {ls : Array Slot} {nL : Nat} {lo : List AV} (hl : lv_has ls nL (rlo L 0 lo)) {k : Nat} {v : AV} (h : lo[k]? = some v) (hv : v ≠ vU) : ls[k]? = some (.val (avV L v)) := hl.2.2 (k, avV L v) (rlo_mem.mpr ⟨k, v, by omega, h, hv, rfl⟩)
theorem rlo_set1 {L : AD} {lo : List AV} {k : Nat} {v : AV} (hn : nlo lo k = true) : ∀ q ∈ rlo L 0 (lo.set k v), q ∈ (k, avV L v) :: (rlo L 0 lo).filter (fun q => !(q.1 == k) && !(q.1 + 1 == k && q.2.category == 2)) := by
  intro q hq
  obtain ⟨j, w⟩ := q
  obtain ⟨j', x, h1, h2, h3, h4⟩ := rlo_mem.mp hq
  rw [Nat.zero_add] at h1
  subst h1
  rw [List.getElem?_set] at h2
  by_cases hj : k = j
  · subst hj
    rw [if_pos rfl] at h2
    split at h2
    · cases h2
      rw [h4]
      exact List.mem_cons_self
    · cases h2
  · rw [if_neg hj] at h2
    refine List.mem_cons_of_mem _ (List.mem_filter.mpr ⟨rlo_mem.mpr ⟨j, x, by omega, h2, h3, h4⟩, ?_⟩)
    have a : (j == k) = false := by simpa using fun e => hj e.symm
    simp only [a, Bool.not_false, Bool.true_and, Bool.not_eq_true', Bool.and_eq_false_iff]
    by_cases hk : j + 1 = k
    · right
      subst hk
      simp only [nlo, h2] at hn
      rw [h4]
      match x, hn with
      | .inl _, _ => rfl
      | .inr (.inl _), hn => cases hn
      | .inr (.inr (.inl _)), _ => rfl
      | .inr (.inr (.inr _)), _ => rfl
    · left
      simpa using hk
section STEP
variable {p : Program} {l : Launch} {e : Env} {R : Room} {s : State} {m : MethodId} {args : Array Value} {below : List Frame} {meth : Method} {c : Code} {base : Nat} {D : va_G} {tc : Nat → ClassId} {adK : Nat → Nat} {b0 y : Nat} {L0 : AD} {n0 c0 k0 : Nat} {Q : State → Prop} {pc np pc' k : Nat} {lo st lo' st' : List AV} {h h' : AH}
theorem sNx_inj {pc pc' : Nat} {lo lo' st st' : List AV} {h h' : AH} (q : sNx pc lo st h = some (.inl (pc', lo', st', h'))) : pc = pc' ∧ lo = lo' ∧ st = st' ∧ h = h' := by
  simpa only [sNx, Option.some.injEq, Sum.inl.injEq, Prod.mk.injEq] using q
theorem go_push {v : AV} (hv : okV h.1.1 v) (row : ∀ {H : Heap} {locs : List Loc} {cells slots : Nat} {ls : Array Slot} {rest : List Value} {L : AD}, RL base D tc adK b0 L h H → W p l e R s m args below meth c H locs cells slots Q (F0 m np ls (avV L v :: rest)) → W p l e R s m args below meth c H locs cells slots Q (F0 m pc ls rest))
    (hst : sNx np lo (v :: st) h = some (.inl (pc', lo', st', h'))) (kk : GO p l e R s m args below meth c base D tc adK b0 y L0 n0 c0 k0 Q pc' lo' st' h') : GO p l e R s m args below meth c base D tc adK b0 y L0 n0 c0 k0 Q pc lo st h := by
  obtain ⟨rfl, rfl, rfl, rfl⟩ := sNx_inj hst
  intro L H locs cells slots ls a1 a2 a3 a4 a5 a6 a7 a8 a9 b1
  exact row a1 (kk L H locs cells slots ls a1 a2 a3 a4 a5 (ok_cons hv a6) a7 a8 a9 b1)
theorem go_ldI (row : ∀ {H : Heap} {locs : List Loc} {cells slots : Nat} {ls : Array Slot} {rest : List Value} {x : Int32}, ls[k]? = some (.val (.int x)) → W p l e R s m args below meth c H locs cells slots Q (F0 m np ls (.int x :: rest)) → W p l e R s m args below meth c H locs cells slots Q (F0 m pc ls rest))
    (hst : ldI lo st np k h = some (.inl (pc', lo', st', h'))) (kk : GO p l e R s m args below meth c base D tc adK b0 y L0 n0 c0 k0 Q pc' lo' st' h') : GO p l e R s m args below meth c base D tc adK b0 y L0 n0 c0 k0 Q pc lo st h := by
  unfold ldI at hst
  split at hst
  · rename_i x hx
    obtain ⟨rfl, rfl, rfl, rfl⟩ := sNx_inj hst
    intro L H locs cells slots ls a1 a2 a3 a4 a5 a6 a7 a8 a9 b1
    exact row (rlo_at a3 hx (by intro q; cases q)) (kk L H locs cells slots ls a1 a2 a3 a4 a5 (ok_cons trivial a6) a7 a8 a9 b1)
  · cases hst
theorem go_ldA (row : ∀ {H : Heap} {locs : List Loc} {cells slots : Nat} {ls : Array Slot} {rest : List Value} {x : Nat}, ls[k]? = some (.val (.ref x)) → W p l e R s m args below meth c H locs cells slots Q (F0 m np ls (.ref x :: rest)) → W p l e R s m args below meth c H locs cells slots Q (F0 m pc ls rest))
    (hst : ldA lo st np k h = some (.inl (pc', lo', st', h'))) (kk : GO p l e R s m args below meth c base D tc adK b0 y L0 n0 c0 k0 Q pc' lo' st' h') : GO p l e R s m args below meth c base D tc adK b0 y L0 n0 c0 k0 Q pc lo st h := by
  unfold ldA at hst
  split at hst
  · rename_i x hx
    obtain ⟨rfl, rfl, rfl, rfl⟩ := sNx_inj hst
    intro L H locs cells slots ls a1 a2 a3 a4 a5 a6 a7 a8 a9 b1
    exact row (rlo_at a3 hx (by intro q; cases q)) (kk L H locs cells slots ls a1 a2 a3 a4 a5 (ok_cons (a5 _ (List.mem_of_getElem? hx)) a6) a7 a8 a9 b1)
  · cases hst
theorem go_stI (row : ∀ {H : Heap} {locs : List Loc} {cells slots : Nat} {ls : Array Slot} {rest : List Value} {x : Int32} {nL : Nat} {lv : List (Nat × Value)}, lv_has ls nL lv → k < nL → (∀ ls' : Array Slot, lv_has ls' nL ((k, Value.int x) :: lv.filter (fun q => !(q.1 == k) && !(q.1 + 1 == k && q.2.category == 2))) → W p l e R s m args below meth c H locs cells slots Q (F0 m np ls' rest)) → W p l e R s m args below meth c H locs cells slots Q (F0 m pc ls (.int x :: rest)))
    (hst : stI lo st np k h = some (.inl (pc', lo', st', h'))) (kk : GO p l e R s m args below meth c base D tc adK b0 y L0 n0 c0 k0 Q pc' lo' st' h') : GO p l e R s m args below meth c base D tc adK b0 y L0 n0 c0 k0 Q pc lo st h := by
  unfold stI at hst
  split at hst
  · rename_i x st
    cases hb : (nlo lo k && Nat.blt k lo.length) with
    | false => rw [hb] at hst; cases hst
    | true =>
      rw [hb] at hst
      simp only [Bool.and_eq_true] at hb
      obtain ⟨rfl, rfl, rfl, rfl⟩ := sNx_inj hst
      intro L H locs cells slots ls a1 a2 a3 a4 a5 a6 a7 a8 a9 b1
      refine row a3 (by rw [← a4]; exact Nat.le_of_ble_eq_true hb.2) (fun ls' hl' => ?_)
      exact kk L H locs cells slots ls' a1 a2 (lv_mono hl' (rlo_set1 (v := vI x) hb.1)) (by rw [List.length_set]; exact a4) (ok_set trivial a5) (ok_tl a6) a7 a8 a9 b1
  · cases hst
theorem go_stA (row : ∀ {H : Heap} {locs : List Loc} {cells slots : Nat} {ls : Array Slot} {rest : List Value} {x : Nat} {nL : Nat} {lv : List (Nat × Value)}, lv_has ls nL lv → k < nL → (∀ ls' : Array Slot, lv_has ls' nL ((k, Value.ref x) :: lv.filter (fun q => !(q.1 == k) && !(q.1 + 1 == k && q.2.category == 2))) → W p l e R s m args below meth c H locs cells slots Q (F0 m np ls' rest)) → W p l e R s m args below meth c H locs cells slots Q (F0 m pc ls (.ref x :: rest)))
    (hst : stA lo st np k h = some (.inl (pc', lo', st', h'))) (kk : GO p l e R s m args below meth c base D tc adK b0 y L0 n0 c0 k0 Q pc' lo' st' h') : GO p l e R s m args below meth c base D tc adK b0 y L0 n0 c0 k0 Q pc lo st h := by
  unfold stA at hst
  split at hst
  · rename_i x st
    cases hb : (nlo lo k && Nat.blt k lo.length) with
    | false => rw [hb] at hst; cases hst
    | true =>
      rw [hb] at hst
      simp only [Bool.and_eq_true] at hb
      obtain ⟨rfl, rfl, rfl, rfl⟩ := sNx_inj hst
      intro L H locs cells slots ls a1 a2 a3 a4 a5 a6 a7 a8 a9 b1
      refine row a3 (by rw [← a4]; exact Nat.le_of_ble_eq_true hb.2) (fun ls' hl' => ?_)
      exact kk L H locs cells slots ls' a1 a2 (lv_mono hl' (rlo_set1 (v := .inr (.inr (.inl x))) hb.1)) (by rw [List.length_set]; exact a4) (ok_set (ok_hd a6) a5) (ok_tl a6) a7 a8 a9 b1
  · cases hst
theorem go_bin {f : Int32 → Int32 → Int32} (row : ∀ {H : Heap} {locs : List Loc} {cells slots : Nat} {ls : Array Slot} {rest : List Value} {x y : Int32}, W p l e R s m args below meth c H locs cells slots Q (F0 m np ls (.int (f x y) :: rest)) → W p l e R s m args below meth c H locs cells slots Q (F0 m pc ls (.int y :: .int x :: rest)))
    (hst : bin f lo st np h = some (.inl (pc', lo', st', h'))) (kk : GO p l e R s m args below meth c base D tc adK b0 y L0 n0 c0 k0 Q pc' lo' st' h') : GO p l e R s m args below meth c base D tc adK b0 y L0 n0 c0 k0 Q pc lo st h := by
  unfold bin at hst
  split at hst
  · obtain ⟨rfl, rfl, rfl, rfl⟩ := sNx_inj hst
    intro L H locs cells slots ls a1 a2 a3 a4 a5 a6 a7 a8 a9 b1
    exact row (kk L H locs cells slots ls a1 a2 a3 a4 a5 (ok_cons trivial (ok_tl (ok_tl a6))) a7 a8 a9 b1)
  · cases hst
theorem go_binD {f : Int32 → Int32 → Int32} (row : ∀ {H : Heap} {locs : List Loc} {cells slots : Nat} {ls : Array Slot} {rest : List Value} {x y : Int32}, ¬ y = 0 → W p l e R s m args below meth c H locs cells slots Q (F0 m np ls (.int (f x y) :: rest)) → W p l e R s m args below meth c H locs cells slots Q (F0 m pc ls (.int y :: .int x :: rest)))
    (hst : binD f lo st np h = some (.inl (pc', lo', st', h'))) (kk : GO p l e R s m args below meth c base D tc adK b0 y L0 n0 c0 k0 Q pc' lo' st' h') : GO p l e R s m args below meth c base D tc adK b0 y L0 n0 c0 k0 Q pc lo st h := by
  unfold binD at hst
  split at hst
  · split at hst
    · cases hst
    · rename_i hy
      obtain ⟨rfl, rfl, rfl, rfl⟩ := sNx_inj hst
      intro L H locs cells slots ls a1 a2 a3 a4 a5 a6 a7 a8 a9 b1
      exact row hy (kk L H locs cells slots ls a1 a2 a3 a4 a5 (ok_cons trivial (ok_tl (ok_tl a6))) a7 a8 a9 b1)
  · cases hst
theorem go_br1 {f : Int32 → Bool} {tg : Nat} (row : ∀ {H : Heap} {locs : List Loc} {cells slots : Nat} {ls : Array Slot} {rest : List Value} {x : Int32}, (f x = true → W p l e R s m args below meth c H locs cells slots Q (F0 m tg ls rest)) → (f x = false → W p l e R s m args below meth c H locs cells slots Q (F0 m np ls rest)) → W p l e R s m args below meth c H locs cells slots Q (F0 m pc ls (.int x :: rest)))
    (hst : br1 f lo st np tg h = some (.inl (pc', lo', st', h'))) (kk : GO p l e R s m args below meth c base D tc adK b0 y L0 n0 c0 k0 Q pc' lo' st' h') : GO p l e R s m args below meth c base D tc adK b0 y L0 n0 c0 k0 Q pc lo st h := by
  unfold br1 at hst
  split at hst
  · rename_i x st
    intro L H locs cells slots ls a1 a2 a3 a4 a5 a6 a7 a8 a9 b1
    refine row (fun hf => ?_) (fun hf => ?_)
    · rw [hf] at hst
      obtain ⟨rfl, rfl, rfl, rfl⟩ := sNx_inj hst
      exact kk L H locs cells slots ls a1 a2 a3 a4 a5 (ok_tl a6) a7 a8 a9 b1
    · rw [hf] at hst
      obtain ⟨rfl, rfl, rfl, rfl⟩ := sNx_inj hst
      exact kk L H locs cells slots ls a1 a2 a3 a4 a5 (ok_tl a6) a7 a8 a9 b1
  · cases hst
theorem go_br2 {f : Int32 → Int32 → Bool} {tg : Nat} (row : ∀ {H : Heap} {locs : List Loc} {cells slots : Nat} {ls : Array Slot} {rest : List Value} {x y : Int32}, (f x y = true → W p l e R s m args below meth c H locs cells slots Q (F0 m tg ls rest)) → (f x y = false → W p l e R s m args below meth c H locs cells slots Q (F0 m np ls rest)) → W p l e R s m args below meth c H locs cells slots Q (F0 m pc ls (.int y :: .int x :: rest)))
    (hst : br2 f lo st np tg h = some (.inl (pc', lo', st', h'))) (kk : GO p l e R s m args below meth c base D tc adK b0 y L0 n0 c0 k0 Q pc' lo' st' h') : GO p l e R s m args below meth c base D tc adK b0 y L0 n0 c0 k0 Q pc lo st h := by
  unfold br2 at hst
  split at hst
  · rename_i x st
    intro L H locs cells slots ls a1 a2 a3 a4 a5 a6 a7 a8 a9 b1
    refine row (fun hf => ?_) (fun hf => ?_)
    · rw [hf] at hst
      obtain ⟨rfl, rfl, rfl, rfl⟩ := sNx_inj hst
      exact kk L H locs cells slots ls a1 a2 a3 a4 a5 (ok_tl (ok_tl a6)) a7 a8 a9 b1
    · rw [hf] at hst
      obtain ⟨rfl, rfl, rfl, rfl⟩ := sNx_inj hst
      exact kk L H locs cells slots ls a1 a2 a3 a4 a5 (ok_tl (ok_tl a6)) a7 a8 a9 b1
  · cases hst
end STEP
