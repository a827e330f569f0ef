/-! the model cuts a text: one token -/
def mW (W : Nat → Int) (n i : Nat) : Int := if i < n then W i else 0
theorem m_byte2 {Z : XZ} {W : Nat → Int} {n i d : Nat} (hX : TX Z 58 W n) (h4 : Z 56 0 4 = (n : Int)) (hi : i < 5000) (hd : 1 ≤ d) (t : Nat) : x_CALL d 136 [.inr (.inr (some (56, 0))), .inl ((i : Int))] (x_S Z t) = some (mW W n i % 256, x_S Z t) := by
  rw [m_byte hX h4 hi hd t]; unfold mW
  by_cases h : i < n
  · rw [if_pos h, if_pos h]
  · rw [if_neg h, if_neg h]; rfl
theorem mW_b {Z : XZ} {W : Nat → Int} {n : Nat} (hX : TX Z 58 W n) (i : Nat) : -128 ≤ mW W n i ∧ mW W n i < 128 := by
  unfold mW
  by_cases h : i < n
  · rw [if_pos h]; exact (hX.2 i h).2
  · rw [if_neg h]; omega
theorem mW_lt {W : Nat → Int} {n i : Nat} (h : i < n) : mW W n i = W i := by unfold mW; rw [if_pos h]
theorem mW_stop {W : Nat → Int} {n p : Nat} {P : Int → Bool} (h0 : ¬ P 0 = true) (hp : p < n) : ¬ P (mW W n (q_run P W n p)) = true := by
  obtain ⟨r1, r2, r3, r4⟩ := q_run_spec (P := P) (W := W) (n := n) (n - p) p (by omega)
  unfold mW
  by_cases h : q_run P W n p < n
  · rw [if_pos h]; exact r4 h
  · rw [if_neg h]; exact h0
theorem m_lets {Z : XZ} {W : Nat → Int} {n p d : Nat} (hX : TX Z 58 W n) (h4 : Z 56 0 4 = (n : Int)) (hp : p < n) (hd : 1 ≤ d) (t : Nat) (a2 : Int) (o6 o7 : Option XV) : ∀ (r k : Nat), k + r = q_run bL W n p - p → x_EX d 142 85 [some (.inr (.inr (some (56, 0)))), some (.inl ((p : Int))), some (.inl a2), some (.inl ((k : Int))), some (.inr (.inl (v_27 (fun i => W (p + i) - 96) (min k 8)))), none, o6, o7] [] (x_S Z t) = x_EX d 142 95 [some (.inr (.inr (some (56, 0)))), some (.inl ((p : Int))), some (.inl a2), some (.inl (((q_run bL W n p - p : Nat) : Int))), some (.inr (.inl (v_27 (fun i => W (p + i) - 96) (min (q_run bL W n p - p) 8)))), none, o6, o7] [.inl 0] (x_S Z t) := by
  have hn := hX.1
  obtain ⟨r1, r2, r3, r4⟩ := q_run_spec (P := bL) (W := W) (n := n) (n - p) p (by omega)
  intro r
  induction r with
  | zero =>
    intro k hk
    have hkl : k = q_run bL W n p - p := by omega
    have hb := mW_b hX (p + k)
    have hs : ¬ bL (mW W n (p + k)) = true := by
      have := mW_stop (W := W) (n := n) (p := p) (P := bL) (by decide) hp
      rw [show p + k = q_run bL W n p by omega]; exact this
    rw [B142_85, ← Int.natCast_add, m_byte2 hX h4 (by omega) hd t, Option.bind_some, B142_92, m_letr hb.1 hb.2 hd t, Option.bind_some, if_neg hs, hkl]
  | succ r ih =>
    intro k hk
    have hb := mW_b hX (p + k)
    have hl := r3 (p + k) (by omega) (by omega)
    have hm : mW W n (p + k) = W (p + k) := mW_lt (by omega)
    have hl' := (bL_i _).1 hl
    rw [B142_85, ← Int.natCast_add, m_byte2 hX h4 (by omega) hd t, Option.bind_some, B142_92, m_letr hb.1 hb.2 hd t, Option.bind_some, if_pos (by rw [hm]; exact hl), B142_95, if_neg cn_1n, cn_nt (z := (k : Int)) rfl (by omega)]
    have ih' := ih (k + 1) (by omega)
    by_cases h8 : k < 8
    · rw [if_pos (by omega), ← Int.natCast_add, m_byte2 hX h4 (by omega) hd t, Option.bind_some, B142_113, C139 _ _ _ _ _ (by omega), hm, cn_id (z := W (p + k) % 256) (by omega) (by omega), if_neg (by omega), Option.bind_some, B142_116, cn_id (z := W (p + k) % 256 - 97 + 1) (by omega) (by omega)]
      rw [show min (k + 1) 8 = min k 8 + 1 by omega, v_27] at ih'
      rw [show (27 : Int) * v_27 (fun i => W (p + i) - 96) (min k 8) + (W (p + k) % 256 - 97 + 1) = 27 * v_27 (fun i => W (p + i) - 96) (min k 8) + (fun i => W (p + i) - 96) (min k 8) by
        rw [show min k 8 = k by omega]
        show 27 * v_27 (fun i => W (p + i) - 96) k + (W (p + k) % 256 - 97 + 1) = 27 * v_27 (fun i => W (p + i) - 96) k + (W (p + k) - 96)
        omega]
      exact ih'
    · rw [if_neg (by omega)]
      rw [show min (k + 1) 8 = min k 8 by omega] at ih'
      exact ih'
theorem key_b : ∀ k : Fin 24, 0 ≤ x_Z0 63 0 k.val ∧ x_Z0 63 0 k.val < 9223372036854775808 := by decide +kernel
theorem m_keysl {Z : XZ} {W : Nat → Int} {n p d : Nat} (hK : ∀ k, k < 24 → Z 63 0 k = x_Z0 63 0 k) (hp : p < n) (h8 : q_run bL W n p - p ≤ 8) (t : Nat) (a1 a2 a3 : Int) : ∀ (r k : Nat), k + r = 24 → x_EX d 142 146 [some (.inr (.inr (some (56, 0)))), some (.inl a1), some (.inl a2), some (.inl a3), some (.inr (.inl (v_27 (fun i => W (p + i) - 96) (q_run bL W n p - p)))), none, some (.inl ((if 0 ≤ t_w W n p ∧ t_w W n p < (k : Int) then 20 + t_w W n p else 1))), some (.inl ((k : Int)))] [] (x_S Z t) = (x_CALL d 141 [.inr (.inr (some (56, 0))), .inl (if t_w W n p = -1 then 1 else 20 + t_w W n p), .inl a1, .inl 0, .inr (.inl (v_27 (fun i => W (p + i) - 96) (q_run bL W n p - p)))] (x_S Z t)).bind fun q => x_EX d 142 189 [some (.inr (.inr (some (56, 0)))), some (.inl a1), some (.inl a2), some (.inl a3), some (.inr (.inl (v_27 (fun i => W (p + i) - 96) (q_run bL W n p - p)))), none, some (.inl ((if t_w W n p = -1 then 1 else 20 + t_w W n p))), some (.inl 24)] [] q.2 := by
  have hw := t_w_24 W n p
  obtain ⟨r1, r2, r3, r4⟩ := q_run_spec (P := bL) (W := W) (n := n) (n - p) p (by omega)
  have hf : ∀ i, i < q_run bL W n p - p → 1 ≤ W (p + i) - 96 ∧ W (p + i) - 96 < 27 := fun i hi => by
    have := (bL_i _).1 (r3 (p + i) (by omega) (by omega)); omega
  have hv0 := (v_27_nn (f := fun i => W (p + i) - 96) (k := q_run bL W n p - p) hf).1
  have hv1 := v_27_lt (f := fun i => W (p + i) - 96) (q_run bL W n p - p) h8 hf
  have hv2 : 27 ^ (q_run bL W n p - p) ≤ 27 ^ 8 := Nat.pow_le_pow_right (by decide) h8
  have hv3 : (27 : Nat) ^ 8 < 9223372036854775808 := by decide
  intro r
  induction r with
  | zero =>
    intro k hk
    obtain rfl : k = 24 := by omega
    rw [B142_146, cn_id (z := ((24 : Nat) : Int)) (by decide) (by decide), if_neg (by decide)]
    have : (if 0 ≤ t_w W n p ∧ t_w W n p < ((24 : Nat) : Int) then 20 + t_w W n p else 1) = (if t_w W n p = -1 then 1 else 20 + t_w W n p) := by
      rcases hw with h | h
      · rw [if_pos h, if_neg (by omega)]
      · rw [if_pos (by omega), if_neg (by omega)]
    rw [this]; rfl
  | succ r ih =>
    intro k hk
    have bk : 0 ≤ (k : Int) ∧ (k : Int) < 24 := by omega
    have hkb := key_b ⟨k, by omega⟩
    have hki := key_iff (W := W) (n := n) (p := p) (k := k) hp (by omega)
    rw [B142_146, cn_nt (z := (k : Int)) rfl (by omega), if_pos (by omega), if_pos bk, Int.toNat_natCast, hK k (by omega)]
    have ih' := ih (k + 1) (by omega)
    by_cases he : t_w W n p = (k : Int)
    · rw [if_pos ((x_lcmp_0 ⟨hkb.1, hkb.2⟩ ⟨hv0, by omega⟩).2 (hki.2 he))]
      rw [if_pos (by omega), he] at ih'
      rw [he]
      exact ih'
    · rw [if_neg (fun e => he (hki.1 ((x_lcmp_0 ⟨hkb.1, hkb.2⟩ ⟨hv0, by omega⟩).1 e)))]
      have : (if 0 ≤ t_w W n p ∧ t_w W n p < ((k + 1 : Nat) : Int) then 20 + t_w W n p else 1) = (if 0 ≤ t_w W n p ∧ t_w W n p < (k : Int) then 20 + t_w W n p else 1) := by
        by_cases h : 0 ≤ t_w W n p ∧ t_w W n p < (k : Int)
        · rw [if_pos h, if_pos (by omega)]
        · rw [if_neg h, if_neg (by omega)]
      rw [this] at ih'
      exact ih'
theorem m_digs {Z : XZ} {W : Nat → Int} {n p d : Nat} (hX : TX Z 58 W n) (h4 : Z 56 0 4 = (n : Int)) (hp : p < n) (hd : 1 ≤ d) (t : Nat) (a2 : Int) (o5 o6 o7 : Option XV) : ∀ (r k : Nat), k + r = q_run bD W n p - p → x_EX d 142 208 [some (.inr (.inr (some (56, 0)))), some (.inl ((p : Int))), some (.inl a2), some (.inl ((k : Int))), some (.inl ((q_dv W p (min k 4)))), o5, o6, o7] [] (x_S Z t) = x_EX d 142 218 [some (.inr (.inr (some (56, 0)))), some (.inl ((p : Int))), some (.inl a2), some (.inl (((q_run bD W n p - p : Nat) : Int))), some (.inl ((q_dv W p (min (q_run bD W n p - p) 4)))), o5, o6, o7] [.inl 0] (x_S Z t) := by
  have hn := hX.1
  obtain ⟨r1, r2, r3, r4⟩ := q_run_spec (P := bD) (W := W) (n := n) (n - p) p (by omega)
  intro r
  induction r with
  | zero =>
    intro k hk
    have hkl : k = q_run bD W n p - p := by omega
    have hb := mW_b hX (p + k)
    have hs : ¬ bD (mW W n (p + k)) = true := by
      have := mW_stop (W := W) (n := n) (p := p) (P := bD) (by decide) hp
      rw [show p + k = q_run bD W n p by omega]; exact this
    rw [B142_208, ← Int.natCast_add, m_byte2 hX h4 (by omega) hd t, Option.bind_some, B142_215, m_digt hb.1 hb.2 hd t, Option.bind_some, if_neg hs, hkl]
  | succ r ih =>
    intro k hk
    have hb := mW_b hX (p + k)
    have hl := r3 (p + k) (by omega) (by omega)
    have hm : mW W n (p + k) = W (p + k) := mW_lt (by omega)
    have hl' := (bD_i _).1 hl
    rw [B142_208, ← Int.natCast_add, m_byte2 hX h4 (by omega) hd t, Option.bind_some, B142_215, m_digt hb.1 hb.2 hd t, Option.bind_some, if_pos (by rw [hm]; exact hl), B142_218, if_neg cn_1n, cn_nt (z := (k : Int)) rfl (by omega)]
    have ih' := ih (k + 1) (by omega)
    by_cases h8 : k < 4
    · rw [if_pos (by omega), ← Int.natCast_add, m_byte2 hX h4 (by omega) hd t, Option.bind_some, B142_238, hm]
      rw [show min (k + 1) 4 = min k 4 + 1 by omega, q_dv] at ih'
      rw [show (10 : Int) * q_dv W p (min k 4) + W (p + k) % 256 - 48 = q_dv W p (min k 4) * 10 + (W (p + min k 4) - 48) by
        rw [show min k 4 = k by omega]; omega]
      exact ih'
    · rw [if_neg (by omega)]
      rw [show min (k + 1) 4 = min k 4 by omega] at ih'
      exact ih'
