/-! our own machine: numbers, places (a group, a member), and a step of it -/
abbrev XV : Type := Int ⊕ (Int ⊕ Option (Nat × Nat))
abbrev XZ : Type := Nat → Nat → Nat → Int
abbrev XR : Type := Nat → Nat → Nat → Option (Nat × Nat)
abbrev XH : Type := Nat × (XZ × XR)
abbrev XL : Type := List (Option XV)
def cn (z : Int) : Int := (z + 2147483648) % 4294967296 - 2147483648
def cL (z : Int) : Int := (z + 9223372036854775808) % 18446744073709551616 - 9223372036854775808
def x_u (Z : XZ) (g i j : Nat) (v : Int) : XZ := fun g' i' j' => if g' = g ∧ i' = i ∧ j' = j then v else Z g' i' j'
def x_ur (R : XR) (g i j : Nat) (v : Option (Nat × Nat)) : XR := fun g' i' j' => if g' = g ∧ i' = i ∧ j' = j then v else R g' i' j'
def x_cp (Z : XZ) (gs is sp gd id dp n : Nat) : XZ := fun g i j => if g = gd ∧ i = id ∧ dp ≤ j ∧ j < dp + n then Z gs is (sp + (j - dp)) else Z g i j
def x_and (x y : Int) : Int := (Int32.ofInt x &&& Int32.ofInt y).toInt
def x_or (x y : Int) : Int := (Int32.ofInt x ||| Int32.ofInt y).toInt
def x_xor (x y : Int) : Int := (Int32.ofInt x ^^^ Int32.ofInt y).toInt
def x_shl (x y : Int) : Int := x * 2 ^ (y % 32).toNat
def x_shr (x y : Int) : Int := cn x / 2 ^ (y % 32).toNat
def x_ushr (x y : Int) : Int := (x % 4294967296) / 2 ^ (y % 32).toNat
def x_lshl (x y : Int) : Int := x * 2 ^ (y % 64).toNat
def x_lor (x y : Int) : Int := (Int64.ofInt x ||| Int64.ofInt y).toInt
def x_lcmp (x y : Int) : Int := if cL x < cL y then -1 else if cL x = cL y then 0 else 1
def x_i2b (x : Int) : Int := (x + 128) % 256 - 128
def x_i2c (x : Int) : Int := x % 65536
def x_div (x y : Int) : Int := (cn x).tdiv (cn y)
def x_rem (x y : Int) : Int := (cn x).tmod (cn y)
def x_look {α : Type} (l : List (Nat × α)) (k : Nat) : Option α := match l with
  | [] => none
  | (a, v) :: r => bif Nat.beq a k then some v else x_look r k
def x_nth (ls : XL) (k : Nat) : Option XV := match ls, k with
  | [], _ => none
  | a :: _, 0 => a
  | _ :: r, k + 1 => x_nth r k
def x_put (ls : XL) (k : Nat) (v : Option XV) : XL := match ls, k with
  | [], _ => []
  | _ :: r, 0 => v :: r
  | a :: r, k + 1 => a :: x_put r k v
/-- the place ahead holds a long -/
def x_lng (ls : XL) (k : Nat) : Bool := match k with
  | 0 => false
  | k + 1 => match x_nth ls k with
    | some (.inr (.inl _)) => true
    | _ => false
section
variable {α : Type}
def x_1i (kn : α) (st : List XV) (f : Int → List XV → α) : α := match st with
  | .inl x :: r => f x r
  | _ => kn
def x_2i (kn : α) (st : List XV) (f : Int → Int → List XV → α) : α := match st with
  | .inl y :: .inl x :: r => f x y r
  | _ => kn
def x_1l (kn : α) (st : List XV) (f : Int → List XV → α) : α := match st with
  | .inr (.inl x) :: r => f x r
  | _ => kn
def x_2l (kn : α) (st : List XV) (f : Int → Int → List XV → α) : α := match st with
  | .inr (.inl y) :: .inr (.inl x) :: r => f x y r
  | _ => kn
def x_1r (kn : α) (st : List XV) (f : Nat → Nat → List XV → α) : α := match st with
  | .inr (.inr (some (g, i))) :: r => f g i r
  | _ => kn
def x_1q (kn : α) (st : List XV) (f : Option (Nat × Nat) → List XV → α) : α := match st with
  | .inr (.inr q) :: r => f q r
  | _ => kn
def x_pop (kn : α) (n : Nat) (st acc : List XV) (f : List XV → List XV → α) : α := match n, st with
  | 0, st => f acc st
  | _ + 1, [] => kn
  | n + 1, v :: r => x_pop kn n r (v :: acc) f
def x_sw (z lo : Int) (os : List Int) (d : Int) (f : Int → α) : α := match os with
  | [] => f d
  | o :: r => if z = lo then f o else x_sw z (lo + 1) r d f
def x_if (c : ClassFile.Cond) (x : Int) (a b : α) : α := match c with
  | .eq => if cn x = 0 then a else b
  | .ne => if cn x = 0 then b else a
  | .lt => if cn x < 0 then a else b
  | .ge => if cn x < 0 then b else a
  | .gt => if 0 < cn x then a else b
  | .le => if 0 < cn x then b else a
def x_ic (c : ClassFile.Cond) (x y : Int) (a b : α) : α := match c with
  | .eq => if cn x = cn y then a else b
  | .ne => if cn x = cn y then b else a
  | .lt => if cn x < cn y then a else b
  | .ge => if cn x < cn y then b else a
  | .gt => if cn y < cn x then a else b
  | .le => if cn y < cn x then b else a
end
def x_psh (k : Nat) (z : Int) (st : List XV) : List XV := match k with
  | 0 => st
  | 2 => .inr (.inl z) :: st
  | _ => .inl z :: st
noncomputable def x_al (Z : XZ) (g i : Nat) : Nat := bif Nat.beq (x_sh g).1 8 then (Z 2000 0 0).toNat else bif Nat.beq (x_sh g).1 7 then (x_tx i).length else (x_sh g).2
def x_tg (pc : Nat) (off : Int) : Nat := ((pc : Int) + off).toNat
def x_l9 (q : Option (Nat × Nat)) : Bool := match q with
  | some (g, _) => Nat.blt g 900
  | none => true
def x_i4 (q : Option (Nat × Nat)) : Bool := match q with
  | some (ci, _) => Nat.beq ci 4
  | none => false
/-- few values below -/
def x_sm (r : List XV) : Bool := match r with
  | _ :: _ :: _ :: _ :: _ :: _ => false
  | _ => true
def x_at (a : ArrayType) : Nat := match a with
  | .int => 1
  | .byte => 2
  | .boolean => 3
  | .long => 4
  | _ => 99
def x_nx (l : List (Nat × Nat)) (k : Nat) : Option (Nat × Nat) := match l, k with
  | [], _ => none
  | a :: _, 0 => some a
  | _ :: r, k + 1 => x_nx r k
section
variable {α : Type} (kn : α) (kr : Int → XH → α) (kk : Nat → XL → List XV → XH → α) (kc : Nat → List XV → XH → Nat → Nat → XL → List XV → α)
noncomputable def x_gf (j pc : Nat) (ls : XL) (σ : XH) (e : Option (Nat × Nat × Nat × Nat)) (g i : Nat) (r : List XV) : α := match e with
  | none => kn
  | some (ci, f, kd, _) =>
    bif Nat.beq (x_sh g).1 0 && Nat.beq (x_sh g).2 ci then
      (bif Nat.beq kd 2 then kk (pc + 3) ls (.inr (.inr (σ.2.2 g i f)) :: r) σ else kk (pc + 3) ls (.inl (σ.2.1 g i f) :: r) σ)
    else bif Nat.beq (x_sh g).1 6 && Nat.beq 12 ci then
      (bif Nat.beq f 0 then kk (pc + 3) ls (.inr (.inr (some (902, i))) :: r) σ else kk (pc + 3) ls (.inl 0 :: r) σ)
    else kn
noncomputable def x_pf (j pc : Nat) (ls : XL) (σ : XH) (e : Option (Nat × Nat × Nat × Nat)) (st : List XV) : α := match e with
  | none => kn
  | some (ci, f, kd, _) =>
    bif x_fin ci f && !(x_mi j && Nat.beq (x_mo j) ci) then kn
    else bif Nat.beq kd 2 then x_1q kn st fun q r => x_1r kn r fun g i r => bif Nat.beq (x_sh g).1 0 && Nat.beq (x_sh g).2 ci && x_l9 q then kk (pc + 3) ls r (σ.1, (σ.2.1, x_ur σ.2.2 g i f q)) else kn
    else x_1i kn st fun v r => x_1r kn r fun g i r => bif Nat.beq (x_sh g).1 0 && Nat.beq (x_sh g).2 ci then
      (bif Nat.beq kd 1 then (if v = 0 ∨ v = 1 then kk (pc + 3) ls r (σ.1, (x_u σ.2.1 g i f v, σ.2.2)) else kn) else kk (pc + 3) ls r (σ.1, (x_u σ.2.1 g i f v, σ.2.2))) else kn
noncomputable def x_iv (j pc : Nat) (ls : XL) (σ : XH) (e : Option (Nat × Nat × Nat)) (st : List XV) : α := match e with
  | none => kn
  | some (c, na, _) => x_pop kn na st [] fun as r => x_1r kn r fun g i r => bif (Nat.beq (x_sh g).1 0 || Nat.beq (x_sh g).1 6) && Nat.beq (x_sh g).2 (x_mo c) && (Nat.blt c 262 && Nat.beq (x_mq c) 1 && x_sm r) then kc c (.inr (.inr (some (g, i))) :: as) σ (x_mk c) (pc + 3) ls r else kn
noncomputable def x_is (j pc : Nat) (ls : XL) (σ : XH) (e : Option (Nat × Nat × Nat)) (st : List XV) : α := match e with
  | none => kn
  | some (c, na, _) => bif Nat.beq c 1001 then
      (x_1i kn st fun n r => x_1i kn r fun dp r => x_1r kn r fun gd id r => x_1i kn r fun sp r => x_1r kn r fun gs is r =>
        bif Nat.beq (x_sh gd).1 1 && Nat.beq (x_sh gs).1 1 && x_sm r then
          (if 0 ≤ cn sp ∧ 0 ≤ cn dp ∧ 0 ≤ cn n ∧ cn sp + cn n ≤ ((x_sh gs).2 : Int) ∧ cn dp + cn n ≤ ((x_sh gd).2 : Int) then kk (pc + 3) ls r (σ.1, (x_cp σ.2.1 gs is (cn sp).toNat gd id (cn dp).toNat (cn n).toNat, σ.2.2)) else kn) else kn)
    else bif Nat.blt c 262 && Nat.beq (x_mq c) 0 then x_pop kn na st [] fun as r => bif x_sm r then kc c as σ (x_mk c) (pc + 3) ls r else kn else kn
noncomputable def x_ip (j pc : Nat) (ls : XL) (σ : XH) (e : Option (Nat × Nat × Nat)) (st : List XV) : α := match e with
  | none => kn
  | some (c, na, _) => bif Nat.beq c 1000 then x_1r kn st fun g _ r => bif Nat.blt g 900 && x_sm r then kk (pc + 3) ls r σ else kn
    else bif Nat.blt c 262 && x_mi c then x_pop kn na st [] fun as r => x_1r kn r fun g i r => bif Nat.blt g 900 && x_sm r then kc c (.inr (.inr (some (g, i))) :: as) σ 0 (pc + 3) ls r else kn else kn
noncomputable def x_kd (j pc n : Nat) (ls : XL) (σ : XH) (st : List XV) (e : Option (Nat × Int × Nat)) : α := match e with
  | none => kn
  | some (k, v, _) => bif Nat.beq k 2 then kk (pc + n) ls (.inr (.inr (some (901, v.toNat))) :: st) σ else bif Nat.beq k 1 then kk (pc + n) ls (.inr (.inl v) :: st) σ else kk (pc + n) ls (.inl v :: st) σ
noncomputable def x_nw (j pc : Nat) (ls : XL) (σ : XH) (st : List XV) (e : Option (Nat × Nat)) : α := match e with
  | none => kn
  | some (ci, _) => match x_nx x_aol σ.1 with
    | some (g, i) => bif Nat.beq (x_sh g).1 0 && Nat.beq (x_sh g).2 ci then kk (pc + 3) ls (.inr (.inr (some (g, i))) :: st) (σ.1 + 1, σ.2) else kn
    | none => kn
noncomputable def x_na (pc n tag : Nat) (ls : XL) (σ : XH) (st : List XV) : α := x_1i kn st fun m r => match x_nx x_aol σ.1 with
    | some (g, i) => bif Nat.beq (x_sh g).1 tag then (if cn m = ((x_sh g).2 : Int) then kk (pc + n) ls (.inr (.inr (some (g, i))) :: r) (σ.1 + 1, σ.2) else kn) else kn
    | none => kn
/-- one instruction -/
noncomputable def x_one (j pc n : Nat) (ls : XL) (st : List XV) (σ : XH) (i : Instr) : α := match i with
  | .iconst v => kk (pc + n) ls (.inl v :: st) σ
  | .bipush v => kk (pc + n) ls (.inl v :: st) σ
  | .sipush v => kk (pc + n) ls (.inl v :: st) σ
  | .lconst v => kk (pc + n) ls (.inr (.inl ((v : Nat) : Int)) :: st) σ
  | .iload k => match x_nth ls k with
    | some (.inl z) => kk (pc + n) ls (.inl z :: st) σ
    | _ => kn
  | .iload_n k => match x_nth ls k with
    | some (.inl z) => kk (pc + n) ls (.inl z :: st) σ
    | _ => kn
  | .lload k => match x_nth ls k with
    | some (.inr (.inl z)) => kk (pc + n) ls (.inr (.inl z) :: st) σ
    | _ => kn
  | .lload_n k => match x_nth ls k with
    | some (.inr (.inl z)) => kk (pc + n) ls (.inr (.inl z) :: st) σ
    | _ => kn
  | .aload k => match x_nth ls k with
    | some (.inr (.inr (some q))) => bif Nat.blt q.1 903 then kk (pc + n) ls (.inr (.inr (some q)) :: st) σ else kn
    | _ => kn
  | .aload_n k => match x_nth ls k with
    | some (.inr (.inr (some q))) => bif Nat.blt q.1 903 then kk (pc + n) ls (.inr (.inr (some q)) :: st) σ else kn
    | _ => kn
  | .istore k => bif x_lng ls k then kn else x_1i kn st fun z r => kk (pc + n) (x_put ls k (some (.inl z))) r σ
  | .istore_n k => bif x_lng ls k then kn else x_1i kn st fun z r => kk (pc + n) (x_put ls k (some (.inl z))) r σ
  | .lstore k => bif x_lng ls k then kn else x_1l kn st fun z r => kk (pc + n) (x_put (x_put ls k (some (.inr (.inl z)))) (k + 1) none) r σ
  | .lstore_n k => bif x_lng ls k then kn else x_1l kn st fun z r => kk (pc + n) (x_put (x_put ls k (some (.inr (.inl z)))) (k + 1) none) r σ
  | .astore k => bif x_lng ls k then kn else x_1r kn st fun g i r => bif Nat.blt g 903 then kk (pc + n) (x_put ls k (some (.inr (.inr (some (g, i)))))) r σ else kn
  | .astore_n k => bif x_lng ls k then kn else x_1r kn st fun g i r => bif Nat.blt g 903 then kk (pc + n) (x_put ls k (some (.inr (.inr (some (g, i)))))) r σ else kn
  | .iinc k v => match x_nth ls k with
    | some (.inl z) => bif x_lng ls k then kn else kk (pc + n) (x_put ls k (some (.inl (z + v)))) st σ
    | _ => kn
  | .iadd => x_2i kn st fun x y r => kk (pc + n) ls (.inl (x + y) :: r) σ
  | .isub => x_2i kn st fun x y r => kk (pc + n) ls (.inl (x - y) :: r) σ
  | .imul => x_2i kn st fun x y r => kk (pc + n) ls (.inl (x * y) :: r) σ
  | .idiv => x_2i kn st fun x y r => if cn y = 0 then kn else kk (pc + n) ls (.inl (x_div x y) :: r) σ
  | .irem => x_2i kn st fun x y r => if cn y = 0 then kn else kk (pc + n) ls (.inl (x_rem x y) :: r) σ
  | .iand => x_2i kn st fun x y r => kk (pc + n) ls (.inl (x_and x y) :: r) σ
  | .ior => x_2i kn st fun x y r => kk (pc + n) ls (.inl (x_or x y) :: r) σ
  | .ixor => x_2i kn st fun x y r => kk (pc + n) ls (.inl (x_xor x y) :: r) σ
  | .ishl => x_2i kn st fun x y r => kk (pc + n) ls (.inl (x_shl x y) :: r) σ
  | .ishr => x_2i kn st fun x y r => kk (pc + n) ls (.inl (x_shr x y) :: r) σ
  | .iushr => x_2i kn st fun x y r => kk (pc + n) ls (.inl (x_ushr x y) :: r) σ
  | .ladd => x_2l kn st fun x y r => kk (pc + n) ls (.inr (.inl (x + y)) :: r) σ
  | .lmul => x_2l kn st fun x y r => kk (pc + n) ls (.inr (.inl (x * y)) :: r) σ
  | .lor => x_2l kn st fun x y r => kk (pc + n) ls (.inr (.inl (x_lor x y)) :: r) σ
  | .lshl => x_1i kn st fun y r => x_1l kn r fun x r => kk (pc + n) ls (.inr (.inl (x_lshl x y)) :: r) σ
  | .lcmp => x_2l kn st fun x y r => kk (pc + n) ls (.inl (x_lcmp x y) :: r) σ
  | .i2l => x_1i kn st fun x r => kk (pc + n) ls (.inr (.inl (cn x)) :: r) σ
  | .l2i => x_1l kn st fun x r => kk (pc + n) ls (.inl x :: r) σ
  | .i2b => x_1i kn st fun x r => kk (pc + n) ls (.inl (x_i2b x) :: r) σ
  | .i2c => x_1i kn st fun x r => kk (pc + n) ls (.inl (x_i2c x) :: r) σ
  | .dup => match st with
    | .inl z :: r => kk (pc + n) ls (.inl z :: .inl z :: r) σ
    | .inr (.inr q) :: r => kk (pc + n) ls (.inr (.inr q) :: .inr (.inr q) :: r) σ
    | _ => kn
  | .dup2 => match st with
    | .inl z :: .inr (.inr q) :: r => kk (pc + n) ls (.inl z :: .inr (.inr q) :: .inl z :: .inr (.inr q) :: r) σ
    | _ => kn
  | .pop => x_1i kn st fun _ r => kk (pc + n) ls r σ
  | .ifCond c off => x_1i kn st fun x r => x_if c x (kk (x_tg pc off) ls r σ) (kk (pc + n) ls r σ)
  | .if_icmp c off => x_2i kn st fun x y r => x_ic c x y (kk (x_tg pc off) ls r σ) (kk (pc + n) ls r σ)
  | .goto off => kk (x_tg pc off) ls st σ
  | .tableswitch d lo _ os => x_1i kn st fun x r => x_sw (cn x) lo os.toList d fun off => kk (x_tg pc off) ls r σ
  | .ireturn => match st with
    | [.inl z] => match x_mk j with
      | 1 => kr z σ
      | 3 => if z = 0 ∨ z = 1 then kr z σ else kn
      | 4 => if -128 ≤ z ∧ z < 128 then kr z σ else kn
      | 5 => if 0 ≤ z ∧ z < 65536 then kr z σ else kn
      | _ => kn
    | _ => kn
  | .lreturn => match st with
    | [.inr (.inl z)] => bif Nat.beq (x_mk j) 2 then kr z σ else kn
    | _ => kn
  | .return_ => match st with
    | [] => bif Nat.beq (x_mk j) 0 then kr 0 σ else kn
    | _ => kn
  | .iaload => x_1i kn st fun z r => x_1r kn r fun g i r => bif Nat.beq (x_sh g).1 1 then
      (if 0 ≤ cn z ∧ cn z < (x_al σ.2.1 g i : Int) then kk (pc + n) ls (.inl (σ.2.1 g i (cn z).toNat) :: r) σ else kn)
      else bif Nat.beq (x_sh g).1 8 then (if σ.2.1 2000 0 1 = 1 then (if 0 ≤ cn z ∧ cn z < (x_al σ.2.1 g i : Int) then kk (pc + n) ls (.inl (σ.2.1 g i (cn z).toNat) :: r) σ else kn) else kn) else kn
  | .baload => x_1i kn st fun z r => x_1r kn r fun g i r => bif Nat.beq (x_sh g).1 2 || Nat.beq (x_sh g).1 3 then
      (if 0 ≤ cn z ∧ cn z < (x_al σ.2.1 g i : Int) then kk (pc + n) ls (.inl (σ.2.1 g i (cn z).toNat) :: r) σ else kn)
      else bif Nat.beq (x_sh g).1 7 then (if 0 ≤ cn z ∧ cn z < (x_al σ.2.1 g i : Int) then kk (pc + n) ls (.inl ((x_tx i).getD (cn z).toNat 0) :: r) σ else kn) else kn
  | .laload => x_1i kn st fun z r => x_1r kn r fun g i r => bif Nat.beq (x_sh g).1 4 then
      (if 0 ≤ cn z ∧ cn z < (x_al σ.2.1 g i : Int) then kk (pc + n) ls (.inr (.inl (σ.2.1 g i (cn z).toNat)) :: r) σ else kn) else kn
  | .aaload => x_1i kn st fun z r => x_1r kn r fun g i r => bif Nat.beq (x_sh g).1 5 then
      (if 0 ≤ cn z ∧ cn z < (x_al σ.2.1 g i : Int) then kk (pc + n) ls (.inr (.inr (σ.2.2 g i (cn z).toNat)) :: r) σ else kn) else kn
  | .iastore => x_1i kn st fun v r => x_1i kn r fun z r => x_1r kn r fun g i r => bif Nat.beq (x_sh g).1 1 then
      (if 0 ≤ cn z ∧ cn z < (x_al σ.2.1 g i : Int) then kk (pc + n) ls r (σ.1, (x_u σ.2.1 g i (cn z).toNat v, σ.2.2)) else kn) else kn
  | .bastore => x_1i kn st fun v r => x_1i kn r fun z r => x_1r kn r fun g i r => bif Nat.beq (x_sh g).1 2 then
      (if 0 ≤ cn z ∧ cn z < (x_al σ.2.1 g i : Int) then kk (pc + n) ls r (σ.1, (x_u σ.2.1 g i (cn z).toNat (x_i2b v), σ.2.2)) else kn)
      else bif Nat.beq (x_sh g).1 3 then (if 0 ≤ cn z ∧ cn z < (x_al σ.2.1 g i : Int) then kk (pc + n) ls r (σ.1, (x_u σ.2.1 g i (cn z).toNat (v % 2), σ.2.2)) else kn) else kn
  | .lastore => x_1l kn st fun v r => x_1i kn r fun z r => x_1r kn r fun g i r => bif Nat.beq (x_sh g).1 4 then
      (if 0 ≤ cn z ∧ cn z < (x_al σ.2.1 g i : Int) then kk (pc + n) ls r (σ.1, (x_u σ.2.1 g i (cn z).toNat v, σ.2.2)) else kn) else kn
  | .aastore => x_1r kn st fun g2 i2 r => x_1i kn r fun z r => x_1r kn r fun g i r => bif Nat.beq (x_sh g).1 5 && (Nat.beq (x_sh g2).1 0 && Nat.beq (x_sh g2).2 4) then
      (if 0 ≤ cn z ∧ cn z < (x_al σ.2.1 g i : Int) then kk (pc + n) ls r (σ.1, (σ.2.1, x_ur σ.2.2 g i (cn z).toNat (some (g2, i2)))) else kn) else kn
  | .arraylength => x_1r kn st fun g i r => bif Nat.beq (x_sh g).1 0 || Nat.beq (x_sh g).1 6 || Nat.beq (x_sh g).1 9 then kn else bif Nat.beq (x_sh g).1 8 then (if σ.2.1 2000 0 1 = 1 then kk (pc + n) ls (.inl (x_al σ.2.1 g i : Int) :: r) σ else kn) else kk (pc + n) ls (.inl (x_al σ.2.1 g i : Int) :: r) σ
  | .getfield k => x_1r kn st fun g i r => x_gf kn kk j pc ls σ (x_look (x_fl (x_mo j)) k) g i r
  | .putfield k => x_pf kn kk j pc ls σ (x_look (x_fl (x_mo j)) k) st
  | .getstatic k => bif Nat.beq (x_mo j) 12 then (bif Nat.beq k 38 then kk (pc + n) ls (.inl 1 :: st) σ else bif Nat.beq k 1053 then kk (pc + n) ls (.inr (.inr (some (903, 0))) :: st) σ else kn) else kn
  | .ldc k => x_kd kn kk j pc n ls σ st (x_look (x_kl (x_mo j)) k)
  | .ldc_w k => x_kd kn kk j pc n ls σ st (x_look (x_kl (x_mo j)) k)
  | .ldc2_w k => x_kd kn kk j pc n ls σ st (x_look (x_kl (x_mo j)) k)
  | .invokevirtual k => x_iv kn kc j pc ls σ (x_look (x_tl (x_mo j)) k) st
  | .invokestatic k => x_is kn kk kc j pc ls σ (x_look (x_tl (x_mo j)) k) st
  | .invokespecial k => x_ip kn kk kc j pc ls σ (x_look (x_tl (x_mo j)) k) st
  | .new k => x_nw kn kk j pc ls σ st (x_look (x_nl (x_mo j)) k)
  | .newarray a => x_na kn kk pc n (x_at a) ls σ st
  | .anewarray k => bif x_i4 (x_look (x_nl (x_mo j)) k) then x_na kn kk pc n 5 ls σ st else kn
  | _ => kn
noncomputable def x_act (j pc : Nat) (ls : XL) (st : List XV) (σ : XH) : α := match x_ins j pc with
  | none => kn
  | some (i, n) => x_one kn kr kk kc j pc n ls st σ i
end
