/-! the class scans a text -/
def t_e (W : Nat → Int) (n p : Nat) : Nat := if n ≤ p then n else if bL (W p) = true then q_run bL W n p else if bD (W p) = true then q_run bD W n p else p + 1
noncomputable def t_w (W : Nat → Int) (n p : Nat) : Int := q_wa (x_tx 0) W p (q_run bL W n p - p) 0 0
noncomputable def t_k (W : Nat → Int) (n p : Nat) : Int := if n ≤ p then 256 else if bL (W p) = true then (if 8 < q_run bL W n p - p then 257 else if t_w W n p = -1 then 258 else 260 + t_w W n p) else if bD (W p) = true then (if 4 < q_run bD W n p - p then 257 else 259) else if W p ∈ x_tx 1 then W p else 257
def q_c8 (W : Nat → Int) (p k : Nat) : Int := match k with
  | 0 => 0
  | k + 1 => x_lor (x_lshl (q_c8 W p k) 8) (W (p + k))
def q_dv (W : Nat → Int) (p k : Nat) : Int := match k with
  | 0 => 0
  | k + 1 => q_dv W p k * 10 + (W (p + k) - 48)
def t_v (W : Nat → Int) (n p : Nat) : Int := if bL (W p) = true then q_c8 W p (q_run bL W n p - p) else q_dv W p (q_run bD W n p - p)
theorem q_wa_b (cs : List Int) (W : Nat → Int) (p len : Nat) : ∀ (w al : Int), 0 ≤ w → q_wa cs W p len w al = -1 ∨ (w ≤ q_wa cs W p len w al ∧ q_wa cs W p len w al ≤ w + cs.length) := by
  induction cs with
  | nil => intro w al hw; exact .inl rfl
  | cons c cs ih =>
    intro w al hw
    rw [q_wa, List.length_cons]
    have i1 := ih (w + 1) 0 (by omega)
    have i2 := ih w (-1) hw
    have i3 := ih w (al + 1) hw
    split
    · split
      · omega
      · omega
    · split
      · omega
      · split
        · split <;> omega
        · omega
theorem t_w_b (W : Nat → Int) (n p : Nat) : t_w W n p = -1 ∨ (0 ≤ t_w W n p ∧ t_w W n p ≤ 133) := by
  have := q_wa_b (x_tx 0) W p (q_run bL W n p - p) 0 0 (by omega)
  have hl := tx0_len
  unfold t_w; omega
theorem c_let {Z : XZ} {W : Nat → Int} {n p j d : Nat} (hX : TX Z 1 W n) (hj : j < 402) (hp : p < n) (h5 : Z 5 0 j = (p : Int)) (hL : bL (W p) = true) (hd : 6 ≤ d) (t : Nat) : ∃ Z' : XZ, x_CALL d 48 [.inr (.inr (some (3, 0))), .inl ((j : Int)), .inr (.inr (some (1, 0))), .inl ((n : Int))] (x_S Z t) = some ((t_e W n p : Int), x_S Z' t) ∧ Z' 4 0 j = t_k W n p ∧ Z' 6 0 j = t_v W n p ∧ ∀ g m i, ¬ ((g = 4 ∨ g = 6) ∧ i = j) → Z' g m i = Z g m i := by
  have hn := hX.1
  have bj : 0 ≤ (j : Int) ∧ (j : Int) < 402 := by omega
  obtain ⟨r1, r2, r3, r4⟩ := q_run_spec (P := bL) (W := W) (n := n) (n - p) p (by omega)
  have hte : t_e W n p = q_run bL W n p := by unfold t_e; rw [if_neg (by omega), if_pos hL]
  have htv : t_v W n p = q_c8 W p (q_run bL W n p - p) := by unfold t_v; rw [if_pos hL]
  have htk : t_k W n p = if 8 < q_run bL W n p - p then 257 else if t_w W n p = -1 then 258 else 260 + t_w W n p := by unfold t_k; rw [if_neg (by omega), if_pos hL]
  rw [hte, htv, htk]
  have hX1 : ∀ x, TX (x_u Z 6 0 j x) 1 W n := fun x => hX.congr (fun i => x_u_ne (by omega))
  have fin : ∃ Z' : XZ, (if 0 ≤ (j : Int) ∧ (j : Int) < 402 then (if 8 < cn ((q_run bL W n p : Int) - (p : Int)) then (if 0 ≤ (j : Int) ∧ (j : Int) < 402 then (some ((q_run bL W n p : Int), (x_S (x_u (x_u Z 6 0 j (q_c8 W p (q_run bL W n p - p))) 4 0 j 257) t))) else none) else ((x_CALL (d - 1) 50 [.inr (.inr (some (1, 0))), .inl ((p : Int)), .inl ((q_run bL W n p : Int) - (p : Int))] (x_S (x_u Z 6 0 j (q_c8 W p (q_run bL W n p - p))) t)).bind fun q => x_EX (d - 1) 48 99 [some (.inr (.inr (some (3, 0)))), some (.inl (j : Int)), some (.inr (.inr (some (1, 0)))), some (.inl (n : Int)), some (.inl (p : Int)), some (.inl (q_run bL W n p : Int)), some (.inr (.inl (q_c8 W p (q_run bL W n p - p)))), none, none] [.inl q.1] q.2)) else none) = some ((q_run bL W n p : Int), x_S Z' t) ∧ Z' 4 0 j = (if 8 < q_run bL W n p - p then 257 else if t_w W n p = -1 then 258 else 260 + t_w W n p) ∧ Z' 6 0 j = q_c8 W p (q_run bL W n p - p) ∧ ∀ g m i, ¬ ((g = 4 ∨ g = 6) ∧ i = j) → Z' g m i = Z g m i := by
    rw [if_pos bj, cn_nt (z := (q_run bL W n p : Int) - (p : Int)) (n := q_run bL W n p - p) (by omega) (by omega)]
    by_cases h8 : 8 < q_run bL W n p - p
    · rw [if_pos (by omega), if_pos bj, if_pos h8]
      exact ⟨_, rfl, x_u_eq, by rw [x_u_ne (by omega), x_u_eq], fun g m i hg => by rw [x_u_ne (by omega), x_u_ne (by omega)]⟩
    · rw [if_neg (by omega), if_neg h8, show (q_run bL W n p : Int) - (p : Int) = ((q_run bL W n p - p : Nat) : Int) by omega, c_word (hX1 _) (by omega) (by omega) t, Option.bind_some, B48_99]
      have hwb := t_w_b W n p
      have hw : q_wa (x_tx 0) W p (q_run bL W n p - p) 0 0 = t_w W n p := rfl
      rw [hw, cn_id (z := t_w W n p) (by omega) (by omega), cn_nt (z := (j : Int)) rfl (by omega), Int.toNat_natCast]
      by_cases h1 : t_w W n p = -1
      · rw [if_pos h1, if_pos bj, if_pos h1]
        exact ⟨_, rfl, x_u_eq, by rw [x_u_ne (by omega), x_u_eq], fun g m i hg => by rw [x_u_ne (by omega), x_u_ne (by omega)]⟩
      · rw [if_neg h1, if_pos bj, if_neg h1]
        exact ⟨_, rfl, x_u_eq, by rw [x_u_ne (by omega), x_u_eq], fun g m i hg => by rw [x_u_ne (by omega), x_u_ne (by omega)]⟩
  obtain ⟨Z', fe, f2, f3, f4⟩ := fin
  refine ⟨Z', ?_, f2, f3, f4⟩
  have loop : ∀ (k i : Nat), i + k = q_run bL W n p → p ≤ i → x_EX (d - 1) 48 15 [some (.inr (.inr (some (3, 0)))), some (.inl (j : Int)), some (.inr (.inr (some (1, 0)))), some (.inl (n : Int)), some (.inl (p : Int)), some (.inl (i : Int)), some (.inr (.inl (q_c8 W p (i - p)))), none, none] [] (x_S Z t) = some ((q_run bL W n p : Int), x_S Z' t) := by
    intro k
    induction k with
    | zero =>
      intro i hi hpi
      obtain rfl : i = q_run bL W n p := by omega
      rw [B48_15, cn_nt (z := (j : Int)) rfl (by omega), Int.toNat_natCast, cn_nt (z := (q_run bL W n p : Int)) rfl (by omega), cn_nt (z := (n : Int)) rfl (by omega)]
      by_cases hen : q_run bL W n p < n
      · obtain ⟨z1, z2, z3⟩ := hX.2 _ hen
        have hnl := r4 hen
        have hnl' : ¬ (97 ≤ W (q_run bL W n p) ∧ W (q_run bL W n p) ≤ 122) := fun e => hnl ((bL_i _).2 e)
        have bi : 0 ≤ (q_run bL W n p : Int) ∧ (q_run bL W n p : Int) < 2000 := by omega
        rw [if_pos (by omega), if_pos bi, Int.toNat_natCast, z1, cn_id (z := W (q_run bL W n p)) (by omega) (by omega)]
        by_cases hlt : W (q_run bL W n p) < 97
        · rw [if_pos hlt]; exact fe
        · rw [if_neg hlt, if_pos bi, if_pos (by omega)]; exact fe
      · rw [if_neg (by omega)]; exact fe
    | succ k ih =>
      intro i hi hpi
      have hin : i < n := by omega
      obtain ⟨z1, z2, z3⟩ := hX.2 i hin
      have hl := (bL_i _).1 (r3 i hpi (by omega))
      have bi : 0 ≤ (i : Int) ∧ (i : Int) < 2000 := by omega
      have ih' := ih (i + 1) (by omega) (by omega)
      rw [show i + 1 - p = (i - p) + 1 by omega, q_c8, show p + (i - p) = i by omega] at ih'
      rw [B48_15, cn_nt (z := (i : Int)) rfl (by omega), cn_nt (z := (n : Int)) rfl (by omega), if_pos (by omega), if_pos bi, Int.toNat_natCast, z1, cn_id (z := W i) (by omega) (by omega), if_neg (by omega), if_pos bi, if_neg (by omega), if_pos bi]
      exact ih'
  rw [C48 _ _ _ _ _ (by omega), cn_nt (z := (j : Int)) rfl (by omega), if_pos bj, Int.toNat_natCast, h5]
  have l0 := loop (q_run bL W n p - p) p (by omega) (Nat.le_refl p)
  rw [Nat.sub_self] at l0
  exact l0
theorem c_dig {Z : XZ} {W : Nat → Int} {n p j d : Nat} (hX : TX Z 1 W n) (hj : j < 402) (hp : p < n) (h5 : Z 5 0 j = (p : Int)) (hL : ¬ bL (W p) = true) (hD : bD (W p) = true) (hd : 1 ≤ d) (t : Nat) : ∃ Z' : XZ, x_CALL d 49 [.inr (.inr (some (3, 0))), .inl ((j : Int)), .inr (.inr (some (1, 0))), .inl ((n : Int))] (x_S Z t) = some ((t_e W n p : Int), x_S Z' t) ∧ Z' 4 0 j = t_k W n p ∧ Z' 6 0 j = t_v W n p ∧ ∀ g m i, ¬ ((g = 4 ∨ g = 6) ∧ i = j) → Z' g m i = Z g m i := by
  have hn := hX.1
  have bj : 0 ≤ (j : Int) ∧ (j : Int) < 402 := by omega
  obtain ⟨r1, r2, r3, r4⟩ := q_run_spec (P := bD) (W := W) (n := n) (n - p) p (by omega)
  have hte : t_e W n p = q_run bD W n p := by unfold t_e; rw [if_neg (by omega), if_neg hL, if_pos hD]
  have htv : t_v W n p = q_dv W p (q_run bD W n p - p) := by unfold t_v; rw [if_neg hL]
  have htk : t_k W n p = if 4 < q_run bD W n p - p then 257 else 259 := by unfold t_k; rw [if_neg (by omega), if_neg hL, if_pos hD]
  rw [hte, htv, htk]
  have fin : ∃ Z' : XZ, (if 0 ≤ (j : Int) ∧ (j : Int) < 402 then (if 4 < cn ((q_run bD W n p : Int) - (p : Int)) then (if 0 ≤ (j : Int) ∧ (j : Int) < 402 then (some ((q_run bD W n p : Int), (x_S (x_u (x_u Z 6 0 j (q_dv W p (q_run bD W n p - p))) 4 0 j 257) t))) else none) else (if 0 ≤ (j : Int) ∧ (j : Int) < 402 then (some ((q_run bD W n p : Int), (x_S (x_u (x_u Z 6 0 j (q_dv W p (q_run bD W n p - p))) 4 0 j 259) t))) else none)) else none) = some ((q_run bD W n p : Int), x_S Z' t) ∧ Z' 4 0 j = (if 4 < q_run bD W n p - p then 257 else 259) ∧ Z' 6 0 j = q_dv W p (q_run bD W n p - p) ∧ ∀ g m i, ¬ ((g = 4 ∨ g = 6) ∧ i = j) → Z' g m i = Z g m i := by
    rw [if_pos bj, cn_nt (z := (q_run bD W n p : Int) - (p : Int)) (n := q_run bD W n p - p) (by omega) (by omega)]
    by_cases h8 : 4 < q_run bD W n p - p
    · rw [if_pos (by omega), if_pos bj, if_pos h8]
      exact ⟨_, rfl, x_u_eq, by rw [x_u_ne (by omega), x_u_eq], fun g m i hg => by rw [x_u_ne (by omega), x_u_ne (by omega)]⟩
    · rw [if_neg (by omega), if_pos bj, if_neg h8]
      exact ⟨_, rfl, x_u_eq, by rw [x_u_ne (by omega), x_u_eq], fun g m i hg => by rw [x_u_ne (by omega), x_u_ne (by omega)]⟩
  obtain ⟨Z', fe, f2, f3, f4⟩ := fin
  refine ⟨Z', ?_, f2, f3, f4⟩
  have loop : ∀ (k i : Nat), i + k = q_run bD W n p → p ≤ i → x_EX (d - 1) 49 15 [some (.inr (.inr (some (3, 0)))), some (.inl (j : Int)), some (.inr (.inr (some (1, 0)))), some (.inl (n : Int)), some (.inl (p : Int)), some (.inl (i : Int)), some (.inr (.inl (q_dv W p (i - p)))), none] [] (x_S Z t) = some ((q_run bD W n p : Int), x_S Z' t) := by
    intro k
    induction k with
    | zero =>
      intro i hi hpi
      obtain rfl : i = q_run bD W n p := by omega
      rw [B49_15, cn_nt (z := (j : Int)) rfl (by omega), Int.toNat_natCast, cn_nt (z := (q_run bD W n p : Int)) rfl (by omega), cn_nt (z := (n : Int)) rfl (by omega)]
      by_cases hen : q_run bD W n p < n
      · obtain ⟨z1, z2, z3⟩ := hX.2 _ hen
        have hnl := r4 hen
        have hnl' : ¬ (48 ≤ W (q_run bD W n p) ∧ W (q_run bD W n p) ≤ 57) := fun e => hnl ((bD_i _).2 e)
        have bi : 0 ≤ (q_run bD W n p : Int) ∧ (q_run bD W n p : Int) < 2000 := by omega
        rw [if_pos (by omega), if_pos bi, Int.toNat_natCast, z1, cn_id (z := W (q_run bD W n p)) (by omega) (by omega)]
        by_cases hlt : W (q_run bD W n p) < 48
        · rw [if_pos hlt]; exact fe
        · rw [if_neg hlt, if_pos bi, if_pos (by omega)]; exact fe
      · rw [if_neg (by omega)]; exact fe
    | succ k ih =>
      intro i hi hpi
      have hin : i < n := by omega
      obtain ⟨z1, z2, z3⟩ := hX.2 i hin
      have hl := (bD_i _).1 (r3 i hpi (by omega))
      have bi : 0 ≤ (i : Int) ∧ (i : Int) < 2000 := by omega
      have ih' := ih (i + 1) (by omega) (by omega)
      rw [show i + 1 - p = (i - p) + 1 by omega, q_dv, show p + (i - p) = i by omega] at ih'
      rw [B49_15, cn_nt (z := (i : Int)) rfl (by omega), cn_nt (z := (n : Int)) rfl (by omega), if_pos (by omega), if_pos bi, Int.toNat_natCast, z1, cn_id (z := W i) (by omega) (by omega), if_neg (by omega), if_pos bi, if_neg (by omega), if_pos bi, cn_id (z := W i - 48) (by omega) (by omega)]
      exact ih'
  rw [C49 _ _ _ _ _ (by omega), cn_nt (z := (j : Int)) rfl (by omega), if_pos bj, Int.toNat_natCast, h5]
  have l0 := loop (q_run bD W n p - p) p (by omega) (Nat.le_refl p)
  rw [Nat.sub_self] at l0
  exact l0
