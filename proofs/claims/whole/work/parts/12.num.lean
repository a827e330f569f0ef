/-! numbers of the machine and our own -/
theorem cn_eq (z : Int) : (Int32.ofInt z).toInt = cn z := by
  rw [Int32.toInt_ofInt]
  show Int.bmod z 4294967296 = _
  unfold cn Int.bmod
  simp only []
  split <;> omega
theorem cL_eq (z : Int) : (Int64.ofInt z).toInt = cL z := by
  rw [Int64.toInt_ofInt]
  show Int.bmod z 18446744073709551616 = _
  unfold cL Int.bmod
  simp only []
  split <;> omega
theorem n_cn (z : Int) : Int32.ofInt (cn z) = Int32.ofInt z := by rw [← cn_eq, Int32.ofInt_toInt]
theorem n_lt (x y : Int) : Int32.ofInt x < Int32.ofInt y ↔ cn x < cn y := by rw [Int32.lt_iff_toInt_lt, cn_eq, cn_eq]
theorem n_eq (x y : Int) : Int32.ofInt x = Int32.ofInt y ↔ cn x = cn y := by rw [← Int32.toInt_inj, cn_eq, cn_eq]
theorem cn_0 : cn 0 = 0 := by decide
theorem n_e0 (x : Int) : Int32.ofInt x = 0 ↔ cn x = 0 := by
  have h := n_eq x 0
  rw [cn_0] at h
  exact h
theorem n_l0 (x : Int) : Int32.ofInt x < 0 ↔ cn x < 0 := by
  have h := n_lt x 0
  rw [cn_0] at h
  exact h
theorem n_0l (x : Int) : (0 : Int32) < Int32.ofInt x ↔ 0 < cn x := by
  have h := n_lt 0 x
  rw [cn_0] at h
  exact h
theorem n_cl (z : Int) : (Int32.ofInt z).toNatClampNeg = (cn z).toNat := by rw [← cn_eq]; rfl
theorem n_in {z : Int} {n : Nat} : vp_in (Int32.ofInt z) n ↔ 0 ≤ cn z ∧ cn z < (n : Int) := by rw [vp_in_iff, cn_eq]
theorem n_nat (n : Nat) : Int32.ofNat n = Int32.ofInt (n : Int) := (Int32.ofInt_eq_ofNat).symm
theorem n_div (x y : Int) : Int32.ofInt (x_div x y) = Int32.ofInt x / Int32.ofInt y := by
  apply Int32.toInt_inj.mp
  rw [Int32.toInt_div, cn_eq x, cn_eq y, Int32.toInt_ofInt]
  rfl
theorem n_rem (x y : Int) : Int32.ofInt (x_rem x y) = Int32.ofInt x - Int32.ofInt x / Int32.ofInt y * Int32.ofInt y := by
  have h : x_rem x y = cn x - x_div x y * cn y := by
    unfold x_rem x_div
    rw [Int.tmod_def, Int.mul_comm]
  rw [h, Int32.ofInt_sub, Int32.ofInt_mul, n_cn, n_cn, n_div]
theorem n_and (x y : Int) : Int32.ofInt (x_and x y) = Int32.ofInt x &&& Int32.ofInt y := Int32.ofInt_toInt _
theorem n_or (x y : Int) : Int32.ofInt (x_or x y) = Int32.ofInt x ||| Int32.ofInt y := Int32.ofInt_toInt _
theorem n_xor (x y : Int) : Int32.ofInt (x_xor x y) = Int32.ofInt x ^^^ Int32.ofInt y := Int32.ofInt_toInt _
theorem n_lor (x y : Int) : Int64.ofInt (x_lor x y) = Int64.ofInt x ||| Int64.ofInt y := Int64.ofInt_toInt _
theorem n_sm (v : BitVec 32) : ((v &&& 31#32).smod 32#32).toNat = v.toNat % 32 := by
  have h1 : (v &&& 31#32).msb = false := by rw [BitVec.msb_and]; simp
  rw [BitVec.smod_eq, h1]
  have h2 : (32#32).msb = false := by decide
  rw [h2]
  show ((v &&& 31#32) % 32#32).toNat = _
  rw [BitVec.toNat_umod, BitVec.toNat_and]
  show (v.toNat &&& 31) % 32 = v.toNat % 32
  rw [show (31 : Nat) = 2 ^ 5 - 1 from rfl, Nat.and_two_pow_sub_one_eq_mod, Nat.mod_mod]
theorem n_sm64 (v : BitVec 64) : ((v &&& 63#64).smod 64#64).toNat = v.toNat % 64 := by
  have h1 : (v &&& 63#64).msb = false := by rw [BitVec.msb_and]; simp
  rw [BitVec.smod_eq, h1]
  have h2 : (64#64).msb = false := by decide
  rw [h2]
  show ((v &&& 63#64) % 64#64).toNat = _
  rw [BitVec.toNat_umod, BitVec.toNat_and]
  show (v.toNat &&& 63) % 64 = v.toNat % 64
  rw [show (63 : Nat) = 2 ^ 6 - 1 from rfl, Nat.and_two_pow_sub_one_eq_mod, Nat.mod_mod]
theorem n_tn (y : Int) : (BitVec.ofInt 32 y).toNat % 32 = (y % 32).toNat := by
  rw [BitVec.toNat_ofInt]
  omega
theorem n_shl (x y : Int) : Int32.ofInt (x_shl x y) = Int32.ofInt x <<< (Int32.ofInt y &&& 31) := by
  apply Int32.toBitVec.inj
  show BitVec.ofInt 32 (x_shl x y) = BitVec.ofInt 32 x <<< ((BitVec.ofInt 32 y &&& 31#32).smod 32#32)
  apply BitVec.eq_of_toInt_eq
  rw [BitVec.shiftLeft_eq', n_sm, n_tn]
  rw [BitVec.toInt_shiftLeft, BitVec.toInt_ofInt]
  unfold x_shl
  rw [BitVec.toNat_ofInt]
  generalize (y % 32).toNat = k
  rw [Nat.shiftLeft_eq]
  have e : ((((x % ((2 ^ 32 : Nat) : Int)).toNat * 2 ^ k : Nat)) : Int) = (x % ((2 ^ 32 : Nat) : Int)) * 2 ^ k := by
    rw [Int.natCast_mul, Int.toNat_of_nonneg (Int.emod_nonneg _ (by decide)), Int.natCast_pow]
    rfl
  rw [e, Int.emod_mul_bmod_congr]
theorem n_shr (x y : Int) : Int32.ofInt (x_shr x y) = Int32.ofInt x >>> (Int32.ofInt y &&& 31) := by
  apply Int32.toInt_inj.mp
  show _ = (BitVec.sshiftRight' (BitVec.ofInt 32 x) ((BitVec.ofInt 32 y &&& 31#32).smod 32#32)).toInt
  rw [BitVec.sshiftRight_eq', n_sm, n_tn, BitVec.toInt_sshiftRight]
  have h : (BitVec.ofInt 32 x).toInt = cn x := cn_eq x
  rw [h, cn_eq, Int.shiftRight_eq_div_pow]
  unfold x_shr
  generalize (y % 32).toNat = k
  have hb : -2147483648 ≤ cn x ∧ cn x < 2147483648 := by unfold cn; omega
  have hp : (0 : Int) < 2 ^ k := Int.pow_pos (by decide)
  have e : ((2 ^ k : Nat) : Int) = 2 ^ k := by rw [Int.natCast_pow]; rfl
  rw [e]
  have b1 : -2147483648 ≤ cn x / 2 ^ k := by
    apply Int.le_ediv_of_mul_le hp
    have : (1 : Int) ≤ 2 ^ k := hp
    omega
  have b2 : cn x / 2 ^ k < 2147483648 := by
    apply Int.ediv_lt_of_lt_mul hp
    have : (1 : Int) ≤ 2 ^ k := hp
    omega
  generalize cn x / 2 ^ k = w at b1 b2
  unfold cn
  omega
theorem n_ushr (x y : Int) : ((Int32.ofInt x).toUInt32 >>> ((Int32.ofInt y).toUInt32 &&& Int32.toUInt32 31)).toInt32 = Int32.ofInt (x_ushr x y) := by
  apply Int32.toBitVec.inj
  show (BitVec.ofInt 32 x) >>> (((BitVec.ofInt 32 y) &&& 31#32) % 32#32) = BitVec.ofInt 32 (x_ushr x y)
  apply BitVec.eq_of_toNat_eq
  have h1 : (((BitVec.ofInt 32 y) &&& 31#32) % 32#32).toNat = (y % 32).toNat := by
    rw [BitVec.toNat_umod, BitVec.toNat_and]
    show ((BitVec.ofInt 32 y).toNat &&& 31) % 32 = _
    rw [show (31 : Nat) = 2 ^ 5 - 1 from rfl, Nat.and_two_pow_sub_one_eq_mod, Nat.mod_mod, n_tn]
  rw [BitVec.ushiftRight_eq', h1, BitVec.toNat_ushiftRight, BitVec.toNat_ofInt, BitVec.toNat_ofInt, Nat.shiftRight_eq_div_pow]
  unfold x_ushr
  generalize (y % 32).toNat = k
  have hx : 0 ≤ x % 4294967296 ∧ x % 4294967296 < 4294967296 := by omega
  have e : ((2 ^ 32 : Nat) : Int) = 4294967296 := rfl
  rw [e]
  generalize x % 4294967296 = w at hx
  obtain ⟨v, rfl⟩ := Int.eq_ofNat_of_zero_le hx.1
  have e2 : ((v : Int) / 2 ^ k) = ((v / 2 ^ k : Nat) : Int) := by
    rw [Int.natCast_ediv, Int.natCast_pow]; rfl
  rw [e2]
  have hv : v / 2 ^ k ≤ v := Nat.div_le_self _ _
  omega
