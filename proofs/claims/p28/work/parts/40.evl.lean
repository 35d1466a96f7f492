noncomputable def okG (r : ZFR) : Bool := Option.rec (motive := fun _ => Bool) false (fun q => Bool.rec (motive := fun _ => Bool) false (Nat.ble q.2.2.1 7000000) (Nat.beq q.1 1)) r
theorem ev_all : ∀ p s c sp d : Nat, p < 3 → s < 3 → c < 3 → d < 4 → ((c = 0 ∧ sp = 1) ∨ (c ≠ 0 ∧ (sp = 2 ∨ sp = 3))) → okG (runF p s c sp d) = true := sorry
