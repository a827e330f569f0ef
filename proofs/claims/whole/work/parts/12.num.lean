/-! numbers of the machine and our own -/
theorem cn_eq (z : Int) : (Int32.ofInt z).toInt = cn z := by
  rw [Int32.toInt_ofInt]
  show Int.bmod z 4294967296 = _
  unfold cn Int.bmod
  simp only []
  split <;> omega
theorem cL_eq (z : Int) : (Int64.ofInt z).toInt = cL z := by
  rw [Int64.toInt_ofInt]
  show Int.bmod z 18446744073709551616 = _
  unfold cL Int.bmod
  simp only []
  split <;> omega
theorem n_cn (z : Int) : Int32.ofInt (cn z) = Int32.ofInt z := by rw [← cn_eq, Int32.ofInt_toInt]
theorem n_lt (x y : Int) : Int32.ofInt x < Int32.ofInt y ↔ cn x < cn y := by rw [Int32.lt_iff_toInt_lt, cn_eq, cn_eq]
theorem n_eq (x y : Int) : Int32.ofInt x = Int32.ofInt y ↔ cn x = cn y := by rw [← Int32.toInt_inj, cn_eq, cn_eq]
theorem cn_0 : cn 0 = 0 := by decide
theorem n_e0 (x : Int) : Int32.ofInt x = 0 ↔ cn x = 0 := by
  have h := n_eq x 0
  rw [cn_0] at h
  exact h
theorem n_l0 (x : Int) : Int32.ofInt x < 0 ↔ cn x < 0 := by
  have h := n_lt x 0
  rw [cn_0] at h
  exact h
theorem n_0l (x : Int) : (0 : Int32) < Int32.ofInt x ↔ 0 < cn x := by
  have h := n_lt 0 x
  rw [cn_0] at h
  exact h
theorem n_cl (z : Int) : (Int32.ofInt z).toNatClampNeg = (cn z).toNat := by rw [← cn_eq]; rfl
theorem n_in {z : Int} {n : Nat} : vp_in (Int32.ofInt z) n ↔ 0 ≤ cn z ∧ cn z < (n : Int) := by rw [vp_in_iff, cn_eq]
theorem n_nat (n : Nat) : Int32.ofNat n = Int32.ofInt (n : Int) := (Int32.ofInt_eq_ofNat).symm
theorem n_div (x y : Int) : Int32.ofInt (x_div x y) = Int32.ofInt x / Int32.ofInt y := by
  apply Int32.toInt_inj.mp
  rw [Int32.toInt_div, cn_eq x, cn_eq y, Int32.toInt_ofInt]
  rfl
theorem n_rem (x y : Int) : Int32.ofInt (x_rem x y) = Int32.ofInt x - Int32.ofInt x / Int32.ofInt y * Int32.ofInt y := by
  have h : x_rem x y = cn x - x_div x y * cn y := by
    unfold x_rem x_div
    rw [Int.tmod_def, Int.mul_comm]
  rw [h, Int32.ofInt_sub, Int32.ofInt_mul, n_cn, n_cn, n_div]
theorem n_and (x y : Int) : Int32.ofInt (x_and x y) = Int32.ofInt x &&& Int32.ofInt y := Int32.ofInt_toInt _
theorem n_or (x y : Int) : Int32.ofInt (x_or x y) = Int32.ofInt x ||| Int32.ofInt y := Int32.ofInt_toInt _
theorem n_xor (x y : Int) : Int32.ofInt (x_xor x y) = Int32.ofInt x ^^^ Int32.ofInt y := Int32.ofInt_toInt _
theorem n_lor (x y : Int) : Int64.ofInt (x_lor x y) = Int64.ofInt x ||| Int64.ofInt y := Int64.ofInt_toInt _
theorem n_sm (v : BitVec 32) : ((v &&& 31#32).smod 32#32).toNat = v.toNat % 32 := by
  have h1 : (v &&& 31#32).msb = false := by rw [BitVec.msb_and, show (31#32).msb = false by decide, Bool.and_false]
  rw [BitVec.smod_eq, h1]
  have h2 : (32#32).msb = false := by decide
  rw [h2]
  show ((v &&& 31#32) % 32#32).toNat = _
  rw [BitVec.toNat_umod, BitVec.toNat_and]
  show (v.toNat &&& 31) % 32 = v.toNat % 32
  rw [show (31 : Nat) = 2 ^ 5 - 1 from rfl, Nat.and_two_pow_sub_one_eq_mod, Nat.mod_mod]
theorem n_sm64 (v : BitVec 64) : ((v &&& 63#64).smod 64#64).toNat = v.toNat % 64 := by
  have h1 : (v &&& 63#64).msb = false := by rw [BitVec.msb_and, show (63#64).msb = false by decide, Bool.and_false]
  rw [BitVec.smod_eq, h1]
  have h2 : (64#64).msb = false := by decide
  rw [h2]
  show ((v &&& 63#64) % 64#64).toNat = _
  rw [BitVec.toNat_umod, BitVec.toNat_and]
  show (v.toNat &&& 63) % 64 = v.toNat % 64
  rw [show (63 : Nat) = 2 ^ 6 - 1 from rfl, Nat.and_two_pow_sub_one_eq_mod, Nat.mod_mod]
theorem n_tn (y : Int) : (BitVec.ofInt 32 y).toNat % 32 = (y % 32).toNat := by
  rw [BitVec.toNat_ofInt]
  omega
theorem n_shl (x y : Int) : Int32.ofInt (x_shl x y) = Int32.ofInt x <<< (Int32.ofInt y &&& 31) := by
  apply Int32.toBitVec.inj
  show BitVec.ofInt 32 (x_shl x y) = BitVec.ofInt 32 x <<< ((BitVec.ofInt 32 y &&& 31#32).smod 32#32)
  apply BitVec.eq_of_toInt_eq
  rw [BitVec.shiftLeft_eq', n_sm, n_tn]
  rw [BitVec.toInt_shiftLeft, BitVec.toInt_ofInt]
  unfold x_shl
  rw [BitVec.toNat_ofInt]
  generalize (y % 32).toNat = k
  rw [Nat.shiftLeft_eq]
  have e : ((((x % ((2 ^ 32 : Nat) : Int)).toNat * 2 ^ k : Nat)) : Int) = (x % ((2 ^ 32 : Nat) : Int)) * 2 ^ k := by
    rw [Int.natCast_mul, Int.toNat_of_nonneg (Int.emod_nonneg _ (by decide)), Int.natCast_pow]
    rfl
  rw [e]
  have e2 : (x * 2 ^ k) % ((2 ^ 32 : Nat) : Int) = (x % ((2 ^ 32 : Nat) : Int) * 2 ^ k) % ((2 ^ 32 : Nat) : Int) := by
    have e3 := Int.mul_emod (x % ((2 ^ 32 : Nat) : Int)) (2 ^ k) ((2 ^ 32 : Nat) : Int)
    rw [Int.emod_emod] at e3
    exact (Int.mul_emod x _ _).trans e3.symm
  unfold Int.bmod
  rw [e2]
theorem n_shr (x y : Int) : Int32.ofInt (x_shr x y) = Int32.ofInt x >>> (Int32.ofInt y &&& 31) := by
  apply Int32.toInt_inj.mp
  show _ = (BitVec.sshiftRight' (BitVec.ofInt 32 x) ((BitVec.ofInt 32 y &&& 31#32).smod 32#32)).toInt
  rw [BitVec.sshiftRight_eq', n_sm, n_tn, BitVec.toInt_sshiftRight]
  have h : (BitVec.ofInt 32 x).toInt = cn x := cn_eq x
  rw [h, cn_eq, Int.shiftRight_eq_div_pow]
  unfold x_shr
  generalize (y % 32).toNat = k
  have hb : -2147483648 ≤ cn x ∧ cn x < 2147483648 := by unfold cn; omega
  have hp : (0 : Int) < 2 ^ k := Int.pow_pos (by decide)
  have e : ((2 ^ k : Nat) : Int) = 2 ^ k := by rw [Int.natCast_pow]; rfl
  rw [e]
  have b1 : -2147483648 ≤ cn x / 2 ^ k := by
    apply Int.le_ediv_of_mul_le hp
    have : (1 : Int) ≤ 2 ^ k := hp
    omega
  have b2 : cn x / 2 ^ k < 2147483648 := by
    apply Int.ediv_lt_of_lt_mul hp
    have : (1 : Int) ≤ 2 ^ k := hp
    omega
  generalize cn x / 2 ^ k = w at b1 b2
  unfold cn
  omega
theorem n_ushr (x y : Int) : ((Int32.ofInt x).toUInt32 >>> ((Int32.ofInt y).toUInt32 &&& Int32.toUInt32 31)).toInt32 = Int32.ofInt (x_ushr x y) := by
  apply Int32.toBitVec.inj
  show (BitVec.ofInt 32 x) >>> (((BitVec.ofInt 32 y) &&& 31#32) % 32#32) = BitVec.ofInt 32 (x_ushr x y)
  apply BitVec.eq_of_toNat_eq
  have h1 : (((BitVec.ofInt 32 y) &&& 31#32) % 32#32).toNat = (y % 32).toNat := by
    rw [BitVec.toNat_umod, BitVec.toNat_and]
    show ((BitVec.ofInt 32 y).toNat &&& 31) % 32 = _
    rw [show (31 : Nat) = 2 ^ 5 - 1 from rfl, Nat.and_two_pow_sub_one_eq_mod, Nat.mod_mod, n_tn]
  rw [BitVec.ushiftRight_eq', h1, BitVec.toNat_ushiftRight, BitVec.toNat_ofInt, BitVec.toNat_ofInt, Nat.shiftRight_eq_div_pow]
  unfold x_ushr
  generalize (y % 32).toNat = k
  have hx : 0 ≤ x % 4294967296 ∧ x % 4294967296 < 4294967296 := by omega
  have e : ((2 ^ 32 : Nat) : Int) = 4294967296 := rfl
  rw [e]
  generalize x % 4294967296 = w at hx
  obtain ⟨v, rfl⟩ := Int.eq_ofNat_of_zero_le hx.1
  have e2 : ((v : Int) / 2 ^ k) = ((v / 2 ^ k : Nat) : Int) := by
    rw [Int.natCast_ediv, Int.natCast_pow]; rfl
  rw [e2]
  have hv : v / 2 ^ k ≤ v := Nat.div_le_self _ _
  rw [Int.toNat_natCast]
  generalize v / 2 ^ k = w at hv
  omega
theorem n_lshl (x y : Int) : Int64.ofInt x <<< ((Int32.ofInt y).toInt64 &&& 63) = Int64.ofInt (x_lshl x y) := by
  apply Int64.toBitVec.inj
  show BitVec.ofInt 64 x <<< (((BitVec.ofInt 32 y).signExtend 64 &&& 63#64).smod 64#64) = BitVec.ofInt 64 (x_lshl x y)
  have hk : ((BitVec.ofInt 32 y).signExtend 64).toNat % 64 = (y % 64).toNat := by
    have h1 : ((BitVec.ofInt 32 y).signExtend 64).toInt = cn y := by
      rw [BitVec.toInt_signExtend_of_le (by decide)]
      exact cn_eq y
    have h2 := BitVec.toInt_eq_toNat_bmod ((BitVec.ofInt 32 y).signExtend 64)
    rw [h1] at h2
    unfold Int.bmod at h2
    unfold cn at h2
    simp only [] at h2
    split at h2 <;> omega
  apply BitVec.eq_of_toInt_eq
  rw [BitVec.shiftLeft_eq', n_sm64, hk]
  rw [BitVec.toInt_shiftLeft, BitVec.toInt_ofInt]
  unfold x_lshl
  rw [BitVec.toNat_ofInt]
  generalize (y % 64).toNat = k
  rw [Nat.shiftLeft_eq]
  have e : ((((x % ((2 ^ 64 : Nat) : Int)).toNat * 2 ^ k : Nat)) : Int) = (x % ((2 ^ 64 : Nat) : Int)) * 2 ^ k := by
    rw [Int.natCast_mul, Int.toNat_of_nonneg (Int.emod_nonneg _ (by decide)), Int.natCast_pow]
    rfl
  rw [e]
  have e2 : (x * 2 ^ k) % ((2 ^ 64 : Nat) : Int) = (x % ((2 ^ 64 : Nat) : Int) * 2 ^ k) % ((2 ^ 64 : Nat) : Int) := by
    have e3 := Int.mul_emod (x % ((2 ^ 64 : Nat) : Int)) (2 ^ k) ((2 ^ 64 : Nat) : Int)
    rw [Int.emod_emod] at e3
    exact (Int.mul_emod x _ _).trans e3.symm
  unfold Int.bmod
  rw [e2]
theorem n_lcmp (x y : Int) : lg_cmp (Int64.ofInt x) (Int64.ofInt y) = Int32.ofInt (x_lcmp x y) := by
  unfold lg_cmp x_lcmp
  have h1 : (Int64.ofInt x > Int64.ofInt y) ↔ cL y < cL x := by
    show Int64.ofInt y < Int64.ofInt x ↔ _
    rw [Int64.lt_iff_toInt_lt, cL_eq, cL_eq]
  have h2 : (Int64.ofInt x = Int64.ofInt y) ↔ cL x = cL y := by rw [← Int64.toInt_inj, cL_eq, cL_eq]
  by_cases a : cL y < cL x
  · rw [if_pos (h1.mpr a), if_neg (by omega), if_neg (by omega)]; rfl
  · rw [if_neg (fun h => a (h1.mp h))]
    by_cases b : cL x = cL y
    · rw [if_pos (h2.mpr b), if_neg (by omega), if_pos b]; rfl
    · rw [if_neg (fun h => b (h2.mp h)), if_pos (by omega)]; rfl
theorem n_i2l (x : Int) : (Int32.ofInt x).toInt64 = Int64.ofInt (cn x) := by
  apply Int64.toInt_inj.mp
  rw [Int32.toInt_toInt64, cn_eq, cL_eq]
  unfold cL cn
  omega
theorem n_l2i (x : Int) : (Int64.ofInt x).toInt32 = Int32.ofInt x := Int64.toInt32_ofInt
theorem n_i2b (x : Int) : (Int32.ofInt x).toInt8.toInt32 = Int32.ofInt (x_i2b x) := by
  apply Int32.toInt_inj.mp
  rw [Int32.toInt8_ofInt, Int8.toInt_toInt32, Int8.toInt_ofInt, cn_eq]
  show Int.bmod x 256 = _
  unfold Int.bmod cn x_i2b
  simp only []
  split <;> omega
theorem n_i2c (x : Int) : ((Int32.ofInt x).toUInt32 % 65536).toInt32 = Int32.ofInt (x_i2c x) := by
  apply Int32.toBitVec.inj
  show (BitVec.ofInt 32 x) % 65536#32 = BitVec.ofInt 32 (x_i2c x)
  apply BitVec.eq_of_toNat_eq
  rw [BitVec.toNat_umod, BitVec.toNat_ofInt, BitVec.toNat_ofInt]
  unfold x_i2c
  show (x % 4294967296).toNat % 65536 = (x % 65536 % 4294967296).toNat
  omega
theorem n_bi (n : Int) (h : -128 ≤ n ∧ n < 128) : (Int8.ofInt n).toInt32 = Int32.ofInt n := by
  apply Int32.toInt_inj.mp
  rw [Int8.toInt_toInt32, Int8.toInt_ofInt, cn_eq]
  show Int.bmod n 256 = _
  unfold Int.bmod cn
  simp only []
  split <;> omega
theorem n_si (n : Int) (h : -32768 ≤ n ∧ n < 32768) : (Int16.ofInt n).toInt32 = Int32.ofInt n := by
  apply Int32.toInt_inj.mp
  rw [Int16.toInt_toInt32, Int16.toInt_ofInt, cn_eq]
  show Int.bmod n 65536 = _
  unfold Int.bmod cn
  simp only []
  split <;> omega
theorem n_byte (v : Int) : vp_nar .byte (Int32.ofInt v) = Int32.ofInt (x_i2b v) := by rw [vp_nar_byte, n_i2b]
theorem n_z1 (v : Int) : Int32.ofInt v &&& 1 = Int32.ofInt (v % 2) := by
  apply Int32.toBitVec.inj
  show BitVec.ofInt 32 v &&& 1#32 = BitVec.ofInt 32 (v % 2)
  apply BitVec.eq_of_toNat_eq
  rw [BitVec.toNat_and, BitVec.toNat_ofInt, BitVec.toNat_ofInt]
  show (v % 4294967296).toNat &&& 1 = (v % 2 % 4294967296).toNat
  rw [Nat.and_one_is_mod]
  omega
theorem n_bool (v : Int) : vp_nar .boolean (Int32.ofInt v) = Int32.ofInt (v % 2) := by
  show Int32.ofInt v &&& 1 = _
  exact n_z1 v
