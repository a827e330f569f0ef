/-! the constructors, run by the kernel -/
noncomputable def x_r1 : Option (Int × XH) := x_ev 60 3000 81 [.inr (.inr (some (0, 0)))] (1, (fun _ _ _ => 0, fun _ _ _ => none))
noncomputable def x_r2 : Option (Int × XH) := match x_r1 with
  | some (_, σ) => x_ev 60 3000 132 [.inr (.inr (some (56, 0)))] (σ.1 + 1, σ.2)
  | none => none
noncomputable def x_rck (R : XR) (q : Nat × Nat) : Bool := bif Nat.beq (x_sh q.1).1 0 then (List.range (x_N (x_sh q.1).2)).all (fun f => !(x_isr (x_yt (x_sh q.1).2 f)) || decide (R q.1 q.2 f = x_RTn 1 q.1 q.2 f))
  else bif Nat.beq (x_sh q.1).1 5 then (List.range (x_sh q.1).2).all (fun f => decide (R q.1 q.2 f = x_RTn 1 q.1 q.2 f)) else true
noncomputable def x_t1 : Bool := match x_r1 with
  | some (_, σ) => decide (σ.1 = 207)
  | none => false
noncomputable def x_t2 : Bool := match x_r2 with
  | some (_, σ) => decide (σ.1 = x_NC)
  | none => false
noncomputable def x_t4 (a n : Nat) : Bool := match x_r2 with
  | some (_, σ) => ((x_aol.drop a).take n).all (x_rck σ.2.2)
  | none => false
def x_fa : List (Nat × Nat × Nat) := [(0, 0, 1), (0, 0, 2), (7, 1, 0), (7, 1, 1), (7, 1, 2), (7, 1, 10), (7, 1, 11), (7, 1, 12), (7, 1, 13), (16, 1, 0), (16, 1, 1), (16, 1, 2), (16, 1, 3), (14, 1, 0), (14, 1, 1), (14, 1, 2), (14, 1, 3), (14, 1, 4), (14, 1, 5), (14, 1, 6), (15, 1, 1), (28, 0, 0), (28, 0, 1), (28, 0, 2), (28, 0, 3), (29, 0, 0), (29, 0, 1), (29, 0, 2), (29, 0, 3), (29, 0, 4), (29, 0, 5), (29, 0, 6), (30, 0, 0), (30, 0, 1), (30, 0, 2), (30, 0, 3), (30, 0, 4), (31, 0, 0), (31, 0, 1), (34, 0, 0), (34, 0, 1), (34, 0, 2), (35, 0, 0)]
def x_fb : List (Nat × Nat × Nat) := [(56, 0, 0), (56, 0, 2), (56, 0, 4), (56, 0, 10), (56, 0, 11), (56, 0, 12), (56, 0, 13), (56, 0, 14), (56, 0, 15), (56, 0, 16), (56, 0, 17), (56, 0, 18), (56, 0, 19), (56, 0, 20), (56, 0, 40), (56, 0, 46), (56, 0, 50), (56, 0, 53), (56, 0, 56), (56, 0, 62), (56, 0, 63), (56, 0, 64), (56, 0, 65), (56, 0, 66), (56, 0, 67), (56, 0, 70), (63, 0, 0), (63, 0, 1), (63, 0, 2), (63, 0, 3), (63, 0, 4), (63, 0, 5), (63, 0, 6), (63, 0, 7), (63, 0, 8), (63, 0, 9), (63, 0, 10), (63, 0, 11), (63, 0, 12), (63, 0, 13), (63, 0, 14), (63, 0, 15), (63, 0, 16), (63, 0, 17), (63, 0, 18), (63, 0, 19), (63, 0, 20), (63, 0, 21), (63, 0, 22), (63, 0, 23), (66, 0, 0), (69, 0, 0), (73, 0, 0), (74, 0, 0), (77, 0, 0), (78, 0, 0), (79, 0, 0), (80, 0, 0), (68, 0, 0), (68, 0, 1), (68, 0, 2), (68, 0, 3), (68, 0, 4), (68, 0, 5), (68, 0, 6), (81, 0, 0), (81, 0, 1), (81, 0, 2), (81, 0, 3), (82, 0, 0), (82, 0, 1), (82, 0, 2), (82, 0, 3), (93, 0, 0), (93, 0, 1), (93, 0, 2), (93, 0, 3), (93, 0, 4), (93, 0, 5), (93, 0, 6), (93, 0, 7), (93, 0, 8), (93, 0, 9), (93, 0, 10), (93, 0, 11), (93, 0, 12), (93, 0, 13), (93, 0, 14), (93, 0, 15), (107, 0, 0), (107, 0, 1), (107, 0, 2)]
noncomputable def x_t5 (l : List (Nat × Nat × Nat)) : Bool := match x_r2 with
  | some (_, σ) => l.all fun q => decide (σ.2.1 q.1 q.2.1 q.2.2 = x_Z0 q.1 q.2.1 q.2.2)
  | none => false
theorem x_t1_ok : x_t1 = true := by decide +kernel
theorem x_t2_ok : x_t2 = true := by decide +kernel
theorem x_t5_a : x_t5 x_fa = true := by decide +kernel
theorem x_t5_b : x_t5 x_fb = true := by decide +kernel
theorem x_t4_0 : x_t4 0 52 = true := by decide +kernel
theorem x_t4_52 : x_t4 52 52 = true := by decide +kernel
theorem x_t4_104 : x_t4 104 52 = true := by decide +kernel
theorem x_t4_156 : x_t4 156 52 = true := by decide +kernel
theorem x_t4_208 : x_t4 208 52 = true := by decide +kernel
