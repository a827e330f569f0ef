/-! block equations of the methods, printed by our own program -/
def x_mem (l : List Nat) (k : Nat) : Bool := match l with
  | [] => false
  | a :: r => bif Nat.beq a k then true else x_mem r k
noncomputable abbrev x_S (Z : XZ) (t : Nat) : XH := (x_NC, (Z, x_RT t))
