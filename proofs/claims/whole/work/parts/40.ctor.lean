/-! the constructors, run by the kernel -/
noncomputable def x_r1 : Option (Int × XH) := x_ev 12 3000 81 [.inr (.inr (some (0, 0)))] (1, (fun _ _ _ => 0, fun _ _ _ => none))
noncomputable def x_r2 : Option (Int × XH) := match x_r1 with
  | some (_, σ) => x_ev 12 3000 132 [.inr (.inr (some (56, 0)))] (σ.1 + 1, σ.2)
  | none => none
noncomputable def x_rck (R : XR) (q : Nat × Nat) : Bool := bif Nat.beq (x_sh q.1).1 0 then (List.range (x_N (x_sh q.1).2)).all (fun f => !(x_isr (x_yt (x_sh q.1).2 f)) || decide (R q.1 q.2 f = x_RT 1 q.1 q.2 f))
  else bif Nat.beq (x_sh q.1).1 5 then (List.range (x_sh q.1).2).all (fun f => decide (R q.1 q.2 f = x_RT 1 q.1 q.2 f)) else true
noncomputable def x_t1 : Bool := match x_r1 with
  | some (_, σ) => decide (σ.1 = 207)
  | none => false
theorem x_t1_ok : x_t1 = true := by decide +kernel
