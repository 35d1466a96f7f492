/-! THE 180 RUNS, evaluated by the kernel (parts 41 to 48 written by wip/p28/mk4.py) -/
noncomputable def okG (r : ZFR) : Bool := Option.rec (motive := fun _ => Bool) false (fun q => Bool.rec (motive := fun _ => Bool) false (Nat.ble q.2.2.1 7000000) (Nat.beq q.1 1)) r
