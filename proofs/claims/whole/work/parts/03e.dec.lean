/-! the code as it stands -/
noncomputable def x_decr (j a n : Nat) : Bool := (List.range n).all fun k => match x_cd j (k + a) with
  | none => true
  | some (i, n) => decide (decode (x_b j) (k + a) = .ok (i, n))
theorem x_dec_0_0 : x_decr 0 0 120 = true := by decide +kernel
theorem x_dec_0_120 : x_decr 0 120 120 = true := by decide +kernel
theorem x_dec_0_240 : x_decr 0 240 120 = true := by decide +kernel
theorem x_dec_0_360 : x_decr 0 360 120 = true := by decide +kernel
theorem x_dec_0_480 : x_decr 0 480 120 = true := by decide +kernel
theorem x_dec_0_600 : x_decr 0 600 120 = true := by decide +kernel
theorem x_dec_0_720 : x_decr 0 720 120 = true := by decide +kernel
theorem x_dec_0_840 : x_decr 0 840 120 = true := by decide +kernel
theorem x_dec_0_960 : x_decr 0 960 120 = true := by decide +kernel
theorem x_dec_0_1080 : x_decr 0 1080 120 = true := by decide +kernel
theorem x_dec_0_1200 : x_decr 0 1200 120 = true := by decide +kernel
theorem x_dec_0_1320 : x_decr 0 1320 120 = true := by decide +kernel
theorem x_dec_0_1440 : x_decr 0 1440 55 = true := by decide +kernel
theorem x_dec_0 : ∀ j, j < 1 → x_dec (j + 0) = true := by
  intro j hj
  rw [show j = 0 by omega, Nat.zero_add]
  refine List.all_eq_true.mpr fun pc hpc => ?_
  have hlt : pc < 1495 := List.mem_range.mp hpc
  by_cases h : pc < 120
  · have := List.all_eq_true.mp x_dec_0_0 (pc - 0) (List.mem_range.mpr (by omega))
    rwa [Nat.sub_add_cancel (by omega)] at this
  by_cases h : pc < 240
  · have := List.all_eq_true.mp x_dec_0_120 (pc - 120) (List.mem_range.mpr (by omega))
    rwa [Nat.sub_add_cancel (by omega)] at this
  by_cases h : pc < 360
  · have := List.all_eq_true.mp x_dec_0_240 (pc - 240) (List.mem_range.mpr (by omega))
    rwa [Nat.sub_add_cancel (by omega)] at this
  by_cases h : pc < 480
  · have := List.all_eq_true.mp x_dec_0_360 (pc - 360) (List.mem_range.mpr (by omega))
    rwa [Nat.sub_add_cancel (by omega)] at this
  by_cases h : pc < 600
  · have := List.all_eq_true.mp x_dec_0_480 (pc - 480) (List.mem_range.mpr (by omega))
    rwa [Nat.sub_add_cancel (by omega)] at this
  by_cases h : pc < 720
  · have := List.all_eq_true.mp x_dec_0_600 (pc - 600) (List.mem_range.mpr (by omega))
    rwa [Nat.sub_add_cancel (by omega)] at this
  by_cases h : pc < 840
  · have := List.all_eq_true.mp x_dec_0_720 (pc - 720) (List.mem_range.mpr (by omega))
    rwa [Nat.sub_add_cancel (by omega)] at this
  by_cases h : pc < 960
  · have := List.all_eq_true.mp x_dec_0_840 (pc - 840) (List.mem_range.mpr (by omega))
    rwa [Nat.sub_add_cancel (by omega)] at this
  by_cases h : pc < 1080
  · have := List.all_eq_true.mp x_dec_0_960 (pc - 960) (List.mem_range.mpr (by omega))
    rwa [Nat.sub_add_cancel (by omega)] at this
  by_cases h : pc < 1200
  · have := List.all_eq_true.mp x_dec_0_1080 (pc - 1080) (List.mem_range.mpr (by omega))
    rwa [Nat.sub_add_cancel (by omega)] at this
  by_cases h : pc < 1320
  · have := List.all_eq_true.mp x_dec_0_1200 (pc - 1200) (List.mem_range.mpr (by omega))
    rwa [Nat.sub_add_cancel (by omega)] at this
  by_cases h : pc < 1440
  · have := List.all_eq_true.mp x_dec_0_1320 (pc - 1320) (List.mem_range.mpr (by omega))
    rwa [Nat.sub_add_cancel (by omega)] at this
  by_cases h : pc < 1495
  · have := List.all_eq_true.mp x_dec_0_1440 (pc - 1440) (List.mem_range.mpr (by omega))
    rwa [Nat.sub_add_cancel (by omega)] at this
  omega
theorem x_dec_1 : ∀ j, j < 25 → x_dec (j + 1) = true := by decide +kernel
theorem x_dec_26 : ∀ j, j < 22 → x_dec (j + 26) = true := by decide +kernel
theorem x_dec_48 : ∀ j, j < 21 → x_dec (j + 48) = true := by decide +kernel
theorem x_dec_69 : ∀ j, j < 23 → x_dec (j + 69) = true := by decide +kernel
theorem x_dec_92 : ∀ j, j < 22 → x_dec (j + 92) = true := by decide +kernel
theorem x_dec_114 : ∀ j, j < 18 → x_dec (j + 114) = true := by decide +kernel
theorem x_dec_132_0 : x_decr 132 0 120 = true := by decide +kernel
theorem x_dec_132_120 : x_decr 132 120 120 = true := by decide +kernel
theorem x_dec_132_240 : x_decr 132 240 120 = true := by decide +kernel
theorem x_dec_132_360 : x_decr 132 360 120 = true := by decide +kernel
theorem x_dec_132_480 : x_decr 132 480 120 = true := by decide +kernel
theorem x_dec_132_600 : x_decr 132 600 120 = true := by decide +kernel
theorem x_dec_132_720 : x_decr 132 720 120 = true := by decide +kernel
theorem x_dec_132_840 : x_decr 132 840 120 = true := by decide +kernel
theorem x_dec_132_960 : x_decr 132 960 5 = true := by decide +kernel
theorem x_dec_132 : ∀ j, j < 1 → x_dec (j + 132) = true := by
  intro j hj
  rw [show j = 0 by omega, Nat.zero_add]
  refine List.all_eq_true.mpr fun pc hpc => ?_
  have hlt : pc < 965 := List.mem_range.mp hpc
  by_cases h : pc < 120
  · have := List.all_eq_true.mp x_dec_132_0 (pc - 0) (List.mem_range.mpr (by omega))
    rwa [Nat.sub_add_cancel (by omega)] at this
  by_cases h : pc < 240
  · have := List.all_eq_true.mp x_dec_132_120 (pc - 120) (List.mem_range.mpr (by omega))
    rwa [Nat.sub_add_cancel (by omega)] at this
  by_cases h : pc < 360
  · have := List.all_eq_true.mp x_dec_132_240 (pc - 240) (List.mem_range.mpr (by omega))
    rwa [Nat.sub_add_cancel (by omega)] at this
  by_cases h : pc < 480
  · have := List.all_eq_true.mp x_dec_132_360 (pc - 360) (List.mem_range.mpr (by omega))
    rwa [Nat.sub_add_cancel (by omega)] at this
  by_cases h : pc < 600
  · have := List.all_eq_true.mp x_dec_132_480 (pc - 480) (List.mem_range.mpr (by omega))
    rwa [Nat.sub_add_cancel (by omega)] at this
  by_cases h : pc < 720
  · have := List.all_eq_true.mp x_dec_132_600 (pc - 600) (List.mem_range.mpr (by omega))
    rwa [Nat.sub_add_cancel (by omega)] at this
  by_cases h : pc < 840
  · have := List.all_eq_true.mp x_dec_132_720 (pc - 720) (List.mem_range.mpr (by omega))
    rwa [Nat.sub_add_cancel (by omega)] at this
  by_cases h : pc < 960
  · have := List.all_eq_true.mp x_dec_132_840 (pc - 840) (List.mem_range.mpr (by omega))
    rwa [Nat.sub_add_cancel (by omega)] at this
  by_cases h : pc < 965
  · have := List.all_eq_true.mp x_dec_132_960 (pc - 960) (List.mem_range.mpr (by omega))
    rwa [Nat.sub_add_cancel (by omega)] at this
  omega
theorem x_dec_133 : ∀ j, j < 21 → x_dec (j + 133) = true := by decide +kernel
theorem x_dec_154_0 : x_decr 154 0 120 = true := by decide +kernel
theorem x_dec_154_120 : x_decr 154 120 120 = true := by decide +kernel
theorem x_dec_154_240 : x_decr 154 240 120 = true := by decide +kernel
theorem x_dec_154_360 : x_decr 154 360 108 = true := by decide +kernel
theorem x_dec_154 : ∀ j, j < 1 → x_dec (j + 154) = true := by
  intro j hj
  rw [show j = 0 by omega, Nat.zero_add]
  refine List.all_eq_true.mpr fun pc hpc => ?_
  have hlt : pc < 468 := List.mem_range.mp hpc
  by_cases h : pc < 120
  · have := List.all_eq_true.mp x_dec_154_0 (pc - 0) (List.mem_range.mpr (by omega))
    rwa [Nat.sub_add_cancel (by omega)] at this
  by_cases h : pc < 240
  · have := List.all_eq_true.mp x_dec_154_120 (pc - 120) (List.mem_range.mpr (by omega))
    rwa [Nat.sub_add_cancel (by omega)] at this
  by_cases h : pc < 360
  · have := List.all_eq_true.mp x_dec_154_240 (pc - 240) (List.mem_range.mpr (by omega))
    rwa [Nat.sub_add_cancel (by omega)] at this
  by_cases h : pc < 468
  · have := List.all_eq_true.mp x_dec_154_360 (pc - 360) (List.mem_range.mpr (by omega))
    rwa [Nat.sub_add_cancel (by omega)] at this
  omega
theorem x_dec_155 : ∀ j, j < 22 → x_dec (j + 155) = true := by decide +kernel
theorem x_dec_177 : ∀ j, j < 24 → x_dec (j + 177) = true := by decide +kernel
theorem x_dec_201 : ∀ j, j < 25 → x_dec (j + 201) = true := by decide +kernel
theorem x_dec_226 : ∀ j, j < 17 → x_dec (j + 226) = true := by decide +kernel
theorem x_dec_243 : ∀ j, j < 19 → x_dec (j + 243) = true := by decide +kernel
theorem x_dec_all : ∀ j, j < 262 → x_dec j = true := by
  intro j h2
  by_cases h : j < 1
  · have := x_dec_0 (j - 0) (by omega)
    rwa [Nat.sub_add_cancel (by omega)] at this
  by_cases h : j < 26
  · have := x_dec_1 (j - 1) (by omega)
    rwa [Nat.sub_add_cancel (by omega)] at this
  by_cases h : j < 48
  · have := x_dec_26 (j - 26) (by omega)
    rwa [Nat.sub_add_cancel (by omega)] at this
  by_cases h : j < 69
  · have := x_dec_48 (j - 48) (by omega)
    rwa [Nat.sub_add_cancel (by omega)] at this
  by_cases h : j < 92
  · have := x_dec_69 (j - 69) (by omega)
    rwa [Nat.sub_add_cancel (by omega)] at this
  by_cases h : j < 114
  · have := x_dec_92 (j - 92) (by omega)
    rwa [Nat.sub_add_cancel (by omega)] at this
  by_cases h : j < 132
  · have := x_dec_114 (j - 114) (by omega)
    rwa [Nat.sub_add_cancel (by omega)] at this
  by_cases h : j < 133
  · have := x_dec_132 (j - 132) (by omega)
    rwa [Nat.sub_add_cancel (by omega)] at this
  by_cases h : j < 154
  · have := x_dec_133 (j - 133) (by omega)
    rwa [Nat.sub_add_cancel (by omega)] at this
  by_cases h : j < 155
  · have := x_dec_154 (j - 154) (by omega)
    rwa [Nat.sub_add_cancel (by omega)] at this
  by_cases h : j < 177
  · have := x_dec_155 (j - 155) (by omega)
    rwa [Nat.sub_add_cancel (by omega)] at this
  by_cases h : j < 201
  · have := x_dec_177 (j - 177) (by omega)
    rwa [Nat.sub_add_cancel (by omega)] at this
  by_cases h : j < 226
  · have := x_dec_201 (j - 201) (by omega)
    rwa [Nat.sub_add_cancel (by omega)] at this
  by_cases h : j < 243
  · have := x_dec_226 (j - 226) (by omega)
    rwa [Nat.sub_add_cancel (by omega)] at this
  by_cases h : j < 262
  · have := x_dec_243 (j - 243) (by omega)
    rwa [Nat.sub_add_cancel (by omega)] at this
  omega
theorem x_decode {j pc n : Nat} {i : Instr} (hj : j < 262) (h : x_ins j pc = some (i, n)) : decode (x_b j) pc = .ok (i, n) := by
  unfold x_ins at h
  cases hb : Nat.blt pc (x_ml j) with
  | false => rw [hb] at h; cases h
  | true =>
    rw [hb] at h
    have h' : x_cd j pc = some (i, n) := h
    have hlt : pc < x_ml j := by
      rw [Nat.blt_eq] at hb
      exact hb
    have h1 := List.all_eq_true.mp (x_dec_all j hj) pc (List.mem_range.mpr hlt)
    rw [h'] at h1
    exact of_decide_eq_true h1
