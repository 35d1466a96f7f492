/-! A RUN OF THE FAST MACHINE is a run of the small one -/
def CO (sc : SC) (y : Nat) : List ZFO → Nat → Prop
  | [], _ => True
  | op :: rest, pc => ∃ i np, fnd (code9 y) pc = some (i, np) ∧ SIM sc y i np op ∧ CO sc y rest np
def srt : List (Nat × Instr × Nat) → Nat → Bool
  | [], _ => true
  | (pc, _, _) :: K, lo => Nat.ble lo pc && srt K (pc + 1)
def chn : List (Nat × Instr × Nat) → Nat → Nat → Bool
  | [], a, b => Nat.beq a b
  | (pc, _, np) :: K, a, b => Nat.beq pc a && chn K np b
theorem srt_lo : ∀ {K : List (Nat × Instr × Nat)} {lo : Nat}, srt K lo = true → ∀ e ∈ K, lo ≤ e.1 := by
  intro K
  induction K with
  | nil => intro lo h e he; cases he
  | cons x xs ih =>
    intro lo h e he
    obtain ⟨pc, i, np⟩ := x
    rw [srt, Bool.and_eq_true] at h
    rcases List.mem_cons.mp he with z | z
    · rw [z]; exact ble_t h.1
    · have := ih h.2 e z
      have := ble_t h.1
      omega
theorem fnd_srt : ∀ {K : List (Nat × Instr × Nat)} {lo : Nat}, srt K lo = true → ∀ e ∈ K, fnd K e.1 = some e.2 := by
  intro K
  induction K with
  | nil => intro lo h e he; cases he
  | cons x xs ih =>
    intro lo h e he
    obtain ⟨pc, i, np⟩ := x
    rw [srt, Bool.and_eq_true] at h
    rcases List.mem_cons.mp he with z | z
    · rw [z, fnd, Nat.beq_refl]; rfl
    · have h1 := srt_lo h.2 e z
      have h2 : Nat.beq pc e.1 = false := by
        cases hb : Nat.beq pc e.1 with
        | false => rfl
        | true => have := beq_t hb; omega
      rw [fnd, h2]
      exact ih h.2 e z
noncomputable def blk (y : Nat) (K : List (Nat × Instr × Nat)) (rest : List ZFO) : List ZFO := K.foldr (fun e r => den y e.2.1 :: r) rest
theorem CO_blk {sc : SC} {y b : Nat} {rest : List ZFO} (hs : srt (code9 y) 0 = true) (hb : CO sc y rest b) : ∀ {K : List (Nat × Instr × Nat)} {a : Nat}, (∀ e ∈ K, e ∈ code9 y) → chn K a b = true → CO sc y (blk y K rest) a := by
  intro K
  induction K with
  | nil => intro a _ h; rw [chn] at h; rw [beq_t h]; exact hb
  | cons x xs ih =>
    intro a hm h
    obtain ⟨pc, i, np⟩ := x
    rw [chn, Bool.and_eq_true] at h
    have := beq_t h.1
    subst this
    exact ⟨i, np, fnd_srt hs (pc, i, np) (hm _ (List.mem_cons_self ..)), sm_den i, ih (fun e he => hm e (List.mem_cons_of_mem _ he)) h.2⟩
theorem CO_seg {sc : SC} {y : Nat} (na la a b : Nat) {rest : List ZFO} (hs : srt (code9 y) 0 = true) (hb : CO sc y rest b) (hc : chn (((code9 y).drop na).take la) a b = true) : CO sc y (blk y (((code9 y).drop na).take la) rest) a :=
  CO_blk hs hb (fun _ he => List.mem_of_mem_drop (List.mem_of_mem_take he)) hc
theorem co_if {sc : SC} {y t t1 : Nat} {L M : List ZFO} (h1 : CO sc y M t1) (h2 : CO sc y L t) : CO sc y (Bool.rec (motive := fun _ => List ZFO) L M (Nat.beq t t1)) t := by
  cases h : Nat.beq t t1 with
  | false => exact h2
  | true => rw [beq_t h]; exact h1
/-- what is held of each method's code -/
def COK (sc : SC) (y : Nat) : Prop := CO sc y (cdF y) 0 ∧ (∀ t, CO sc y (jF y t) t) ∧ mxF y = mmx y
def COA (sc : SC) : Nat → Prop
  | 0 => True
  | n + 1 => COA sc n ∧ COK sc n
theorem coa_at {sc : SC} : ∀ {n y : Nat}, COA sc n → y < n → COK sc y := by
  intro n
  induction n with
  | zero => intro y h hy; omega
  | succ n ih =>
    intro y h hy
    by_cases e : y = n
    · rw [e]; exact h.2
    · exact ih h.1 (by omega)
theorem pad_some {r : Nat × ZFT} : ∀ {as : List Nat} {n : Nat} {k : List Nat → ZFR}, pad as n k = some r → as.length ≤ n ∧ k (as ++ List.replicate (n - as.length) 4294967296) = some r := by
  intro as
  induction as with
  | nil => intro n k h; exact ⟨Nat.zero_le _, h⟩
  | cons x xs ih =>
    intro n k h
    cases n with
    | zero => cases h
    | succ n =>
      obtain ⟨h1, h2⟩ := ih (n := n) (k := fun ys => k (x :: ys)) h
      refine ⟨Nat.succ_le_succ h1, ?_⟩
      rw [List.length_cons, Nat.succ_sub_succ, List.cons_append]
      exact h2
theorem lo0_dV {as : List Nat} {n : Nat} : lo0 (as.map dV) n = (as ++ List.replicate (n - as.length) 4294967296).map dV := by
  unfold lo0
  rw [elo_dV, List.length_map, List.map_append, List.map_replicate, dV_u]
theorem rV_app (v : Nat) (rest : List Nat) : (rV v).toList ++ rest.map dV = (if v = 34359738368 then rest else v :: rest).map dV := by
  unfold rV
  split <;> rfl
theorem ev_ok {sc : SC} {y : Nat} {call : ZFCL} {rc : Nat → List AV → AH → Option (Option AV × AH)} (hj : ∀ t, CO sc y (jF y t) t)
    (hcall : ∀ (m : Nat) (as : List Nat) (T : ZFT) (q : Nat × ZFT), m < 131 → WFT T → call m as T = some q → rc m (as.map dV) (absH T) = some (rV q.1, absH q.2) ∧ WFT q.2) :
    ∀ (n : Nat) (ops : List ZFO) (pc : Nat) (st lo : List Nat) (T : ZFT) (r : Nat × ZFT), WFT T → CO sc y ops pc → ev call (jF y) n ops st lo T = some r →
      exN sc rc y (code9 y) n pc (lo.map dV) (st.map dV) (absH T) = some (rV r.1, absH r.2) ∧ WFT r.2 := by
  intro n
  induction n with
  | zero => intro ops pc st lo T r hW hc h; cases h
  | succ n ih =>
    intro ops pc st lo T r hW hc h
    cases ops with
    | nil => cases h
    | cons op rest =>
      obtain ⟨i, np, hf, hs, hc2⟩ := hc
      have h2 : op call (ev call (jF y) n rest) (fun t => ev call (jF y) n (jF y t)) st lo T = some r := h
      unfold exN
      rw [hf]
      dsimp only
      rcases hs call _ _ st lo T r hW h2 with ⟨st', lo', T', hW', e, hk⟩ | ⟨t, st', lo', T', hW', e, hk⟩ | ⟨v, e1, e⟩ | ⟨m, as, rs, q, hm, e, hq, hk⟩
      · rw [e]
        exact ih rest np st' lo' T' r hW' hc2 hk
      · rw [e]
        exact ih (jF y t) t st' lo' T' r hW' (hj t) hk
      · rw [e, e1]
        exact ⟨rfl, hW⟩
      · rw [e]
        dsimp only
        obtain ⟨h3, h4⟩ := hcall m as T q hm hW hq
        rw [h3]
        dsimp only
        rw [rV_app]
        exact ih rest np _ lo q.2 r h4 hc2 hk
theorem evM_ok {sc : SC} {N : Nat} (hA : COA sc 131) : ∀ (d y : Nat) (as : List Nat) (T : ZFT) (r : Nat × ZFT), y < 131 → WFT T → evM cdF jF mxF N d y as T = some r →
    runM sc N d y (as.map dV) (absH T) = some (rV r.1, absH r.2) ∧ WFT r.2 := by
  intro d
  induction d with
  | zero => intro y as T r hy hW h; cases h
  | succ d ih =>
    intro y as T r hy hW h
    obtain ⟨k1, k2, k3⟩ := coa_at hA hy
    have h2 : pad as (mxF y) (fun lo => ev (evM cdF jF mxF N d) (jF y) N (cdF y) [] lo T) = some r := h
    obtain ⟨hl, h3⟩ := pad_some h2
    unfold runM
    rw [elo_dV, List.length_map, ← k3, Nat.ble_eq_true_of_le hl, lo0_dV]
    exact ev_ok k2 (fun m as T q hm hW hq => ih m as T q hm hW hq) N (cdF y) 0 [] _ T r hW k1 h3
