/-! lengths, goals of jumps, links -/
def x_ln (i : Instr) : Nat := match i with
  | .iload _ | .lload _ | .aload _ | .istore _ | .lstore _ | .astore _ | .ldc _ | .newarray _ | .bipush _ => 2
  | .iinc _ _ | .ldc_w _ | .ldc2_w _ | .getfield _ | .putfield _ | .getstatic _ | .invokevirtual _ | .invokestatic _ | .invokespecial _ | .new _ | .anewarray _ | .sipush _ | .goto _ | .ifCond _ _ | .if_icmp _ _ => 3
  | _ => 1
def x_iok (pc : Nat) (i : Instr) (n : Nat) : Bool := match i with
  | .bipush v => decide (n = 2) && decide (-128 ≤ v ∧ v < 128)
  | .sipush v => decide (n = 3) && decide (-32768 ≤ v ∧ v < 32768)
  | .goto off => decide (n = 3) && decide (0 ≤ (pc : Int) + off)
  | .ifCond _ off => decide (n = 3) && decide (0 ≤ (pc : Int) + off)
  | .if_icmp _ off => decide (n = 3) && decide (0 ≤ (pc : Int) + off)
  | .tableswitch d lo hi os => decide (0 ≤ (pc : Int) + d) && os.toList.all (fun off => decide (0 ≤ (pc : Int) + off)) && decide ((os.toList.length : Int) = hi - lo + 1)
  | i => decide (n = x_ln i)
def x_kok (mx : Nat) (i : Instr) : Bool := match i with
  | .istore k | .astore k | .iinc k _ => decide (k < mx)
  | .istore_n k | .astore_n k => decide ((k : Nat) < mx)
  | .lstore k => decide (k + 1 < mx)
  | .lstore_n k => decide ((k : Nat) + 1 < mx)
  | _ => true
noncomputable def x_jok (j : Nat) (i : Instr) : Bool := match i with
  | .ldc k => (x_kl (x_mo j)).all fun e => decide (e.1 = k → e.2.1 ≠ 1)
  | .ldc_w k => (x_kl (x_mo j)).all fun e => decide (e.1 = k → e.2.1 ≠ 1 ∧ e.2.1 ≠ 2)
  | .ldc2_w k => (x_kl (x_mo j)).all fun e => decide (e.1 = k → e.2.1 = 1)
  | _ => true
noncomputable def x_lok (j : Nat) : Bool := (List.range (x_ml j)).all fun pc => match x_cd j pc with
  | none => true
  | some (i, n) => x_iok pc i n && x_kok (x_mx j) i && x_jok j i
theorem x_lok_0 : ∀ j, j < 60 → x_lok (j + 0) = true := by decide +kernel
theorem x_lok_60 : ∀ j, j < 60 → x_lok (j + 60) = true := by decide +kernel
theorem x_lok_120 : ∀ j, j < 60 → x_lok (j + 120) = true := by decide +kernel
theorem x_lok_180 : ∀ j, j < 60 → x_lok (j + 180) = true := by decide +kernel
theorem x_lok_240 : ∀ j, j < 22 → x_lok (j + 240) = true := by decide +kernel
theorem x_lok_all : ∀ j, 0 ≤ j → j < 262 → x_lok j = true := by
  intro j h1 h2
  by_cases h : j < 60
  · have := x_lok_0 (j - 0) (by omega)
    rwa [Nat.sub_add_cancel (by omega)] at this
  by_cases h : j < 120
  · have := x_lok_60 (j - 60) (by omega)
    rwa [Nat.sub_add_cancel (by omega)] at this
  by_cases h : j < 180
  · have := x_lok_120 (j - 120) (by omega)
    rwa [Nat.sub_add_cancel (by omega)] at this
  by_cases h : j < 240
  · have := x_lok_180 (j - 180) (by omega)
    rwa [Nat.sub_add_cancel (by omega)] at this
  by_cases h : j < 262
  · have := x_lok_240 (j - 240) (by omega)
    rwa [Nat.sub_add_cancel (by omega)] at this
  omega
theorem x_insok {j pc n : Nat} {i : Instr} (hj : j < 262) (h : x_ins j pc = some (i, n)) : x_iok pc i n = true ∧ x_kok (x_mx j) i = true ∧ x_jok j i = true := by
  unfold x_ins at h
  cases hb : Nat.blt pc (x_ml j) with
  | false => rw [hb] at h; cases h
  | true =>
    rw [hb] at h
    have h' : x_cd j pc = some (i, n) := h
    have hlt : pc < x_ml j := by
      rw [Nat.blt_eq] at hb
      exact hb
    have h1 := List.all_eq_true.mp (x_lok_all j (Nat.zero_le _) hj) pc (List.mem_range.mpr hlt)
    rw [h'] at h1
    simp only [Bool.and_eq_true] at h1
    exact ⟨h1.1.1, h1.1.2, h1.2⟩
noncomputable def x_tlok (o : Nat) (e : Nat × (Nat × Nat × Nat)) : Bool := match e with
  | (idx, (c, na, p)) => bif Nat.blt c 262 then decide ((parseMethodDescriptor (x_y c).desc).map (fun d => d.parameters.length) = some na) && decide (1 ≤ c) && (decide (lw_tbl[p]? = some (.methodLink (x_nm o) idx (x_y c))) || (decide (o = 6) && decide (idx = 122) && decide (x_y c = ⟨"LostBuyer", "within", "(II)I"⟩)))
      else bif Nat.beq c 1000 then decide (lw_tbl[p]? = some (.methodLink (x_nm o) idx objectInit)) else decide (c = 1001) && decide (na = 5) && decide (lw_tbl[p]? = some (.methodLink (x_nm o) idx arraycopyName))
theorem x_tl_ok : ∀ o, o < 16 → (x_tl o).all (x_tlok o) = true := by decide +kernel
noncomputable def x_klok (o : Nat) (e : Nat × (Nat × Int × Nat)) : Bool := match e with
  | (idx, (k, v, p)) => bif Nat.beq k 2 then decide (o = 5) && (decide (idx = 49 ∧ v = 0) || decide (idx = 36 ∧ v = 1)) else bif Nat.beq k 1 then decide (lw_tbl[p]? = some (.constantLong (x_nm o) idx (Int64.ofInt v))) else decide (lw_tbl[p]? = some (.constant (x_nm o) idx (Int32.ofInt v)))
theorem x_kl_ok : ∀ o, o < 16 → (x_kl o).all (x_klok o) = true := by decide +kernel
noncomputable def x_nlok (o : Nat) (e : Nat × (Nat × Nat)) : Bool := match e with
  | (idx, (ci, p)) => decide (ci < 10) && decide (lw_tbl[p]? = some (.classLink (x_nm o) idx (x_nm ci))) && decide (Cond.instantiable (x_nm ci) (x_N ci) ∈ lw_tbl) && decide (Cond.initialized (x_nm ci) ∈ lw_tbl)
theorem x_nl_ok : ∀ o, o < 16 → (x_nl o).all (x_nlok o) = true := by decide +kernel
theorem x_within : ∀ c, c < 262 → x_y c = ⟨"LostBuyer", "within", "(II)I"⟩ → x_mq c = 0 := by decide +kernel
theorem x_g1 : Cond.instanceMethod objectInit ∈ lw_tbl ∧ Cond.static arraycopyName ∈ lw_tbl ∧ Cond.native arraycopyName ∈ lw_tbl ∧ Cond.initialized "java/lang/System" ∈ lw_tbl ∧ Cond.arrayClass .int ∈ lw_tbl ∧ Cond.arrayClass .byte ∈ lw_tbl ∧ Cond.arrayClass .boolean ∈ lw_tbl ∧ Cond.arrayClass .long ∈ lw_tbl := by decide +kernel
theorem x_g2 : Cond.fieldLink "java/lang/String" 38 "java/lang/String" "COMPACT_STRINGS" "Z" ∈ lw_tbl ∧ Cond.fieldLink "java/lang/String" 1053 "jdk/internal/util/Preconditions" "SIOOBE_FORMATTER" "Ljava/util/function/BiFunction;" ∈ lw_tbl := by decide +kernel
theorem x_g3 : lw_tbl[120]? = some (Cond.code objectInit ⟨#[0xb1]⟩ 1 none) := by rfl
