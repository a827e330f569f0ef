/-! block equations of the methods, printed by our own program -/
def x_mem (l : List Nat) (k : Nat) : Bool := match l with
  | [] => false
  | a :: r => bif Nat.beq a k then true else x_mem r k
noncomputable def x_RTn (t : Nat) : Nat → Nat → Nat → Option (Nat × Nat) := fun g i f => bif (bif Nat.blt g 3 then (bif Nat.beq i 0 then false else true) else false) then none else x_RT t g i f
noncomputable abbrev x_S (Z : XZ) (t : Nat) : XH := (x_NC, (Z, x_RTn t))
