/-! sets as bits; corner, count -/
theorem bv_nat {a : Nat} (ha : a < 4294967296) : (BitVec.ofInt 32 (a : Int)).toNat = a := by
  rw [BitVec.ofInt_natCast, BitVec.toNat_ofNat]; exact Nat.mod_eq_of_lt ha
theorem x_or_nat {a b : Nat} (ha : a < 2147483648) (hb : b < 2147483648) : x_or (a : Int) (b : Int) = ((a ||| b : Nat) : Int) := by
  have hlt : a ||| b < 2 ^ 31 := Nat.or_lt_two_pow ha hb
  show (BitVec.ofInt 32 (a : Int) ||| BitVec.ofInt 32 (b : Int)).toInt = _
  have e : (BitVec.ofInt 32 (a : Int) ||| BitVec.ofInt 32 (b : Int)).toNat = a ||| b := by rw [BitVec.toNat_or, bv_nat (by omega), bv_nat (by omega)]
  rw [BitVec.toInt_eq_toNat_of_lt (by rw [e]; omega), e]
theorem x_and_nat {a b : Nat} (ha : a < 2147483648) (hb : b < 2147483648) : x_and (a : Int) (b : Int) = ((a &&& b : Nat) : Int) := by
  have hlt : a &&& b < 2 ^ 31 := Nat.lt_of_le_of_lt Nat.and_le_left ha
  show (BitVec.ofInt 32 (a : Int) &&& BitVec.ofInt 32 (b : Int)).toInt = _
  have e : (BitVec.ofInt 32 (a : Int) &&& BitVec.ofInt 32 (b : Int)).toNat = a &&& b := by rw [BitVec.toNat_and, bv_nat (by omega), bv_nat (by omega)]
  rw [BitVec.toInt_eq_toNat_of_lt (by rw [e]; omega), e]
theorem x_shl_1 {k : Nat} (hk : k < 32) : x_shl 1 (k : Int) = ((2 ^ k : Nat) : Int) := by
  unfold x_shl
  rw [show ((k : Int) % 32).toNat = k by omega, Int.one_mul]
  simp
theorem two_or {a n : Nat} (h : a < 2 ^ n) : a ||| 2 ^ n = a + 2 ^ n := by
  have := Nat.two_pow_add_eq_or_of_lt h 1
  rw [Nat.mul_one] at this
  rw [Nat.or_comm, ← this]; omega
def q_bs (p : Nat → Bool) (n : Nat) : Nat := match n with
  | 0 => 0
  | n + 1 => q_bs p n + (if p n = true then 2 ^ n else 0)
theorem q_bs_lt (p : Nat → Bool) (n : Nat) : q_bs p n < 2 ^ n := by
  induction n with
  | zero => show 0 < 1; decide
  | succ n ih => unfold q_bs; rw [Nat.pow_succ]; split <;> omega
theorem q_bs_or {p : Nat → Bool} {n : Nat} (hn : n < 31) : x_or (q_bs p n : Int) (x_shl 1 (n : Int)) = ((q_bs p n + 2 ^ n : Nat) : Int) := by
  have h1 := q_bs_lt p n
  have h2 : 2 ^ n < 2147483648 := Nat.pow_lt_pow_right (by decide) (show n < 31 from hn)
  rw [x_shl_1 (by omega), x_or_nat (by omega) h2, two_or h1]
theorem q_bs_b {p : Nat → Bool} {n : Nat} (hn : n < 31) : q_bs p n < 2147483648 := by
  have h1 := q_bs_lt p n
  have h2 : 2 ^ n < 2147483648 := Nat.pow_lt_pow_right (by decide) (show n < 31 from hn)
  omega
theorem q_bt_app (l : List Nat) (n : Nat) : q_bt (l ++ [n]) = q_bt l + 2 ^ n := by
  induction l with
  | nil => simp [q_bt]
  | cons a l ih => rw [List.cons_append, q_bt, q_bt, ih]; omega
theorem q_bt_bs (T : PT) (c n : Nat) : q_bt (q_lu T c n) = q_bs (q_e T c) n := by
  induction n with
  | zero => rfl
  | succ n ih =>
    rw [q_lu_succ, q_bs]
    by_cases h : q_e T c n = true
    · rw [if_pos h, if_pos h, q_bt_app, ih]
    · rw [if_neg h, if_neg h, List.append_nil, ih]; rfl
section
variable {Z : XZ} {v : Nat} {T : PT} {d : Nat}
theorem m_bits_loop (hM : MT Z v T) (hT : TOK T) (hd : 1 ≤ d) (t : Nat) {c : Nat} (hc : c < 1000) : ∀ (n l : Nat), l + n = T 1 0 → x_EX d 195 4 [some (.inr (.inr (some (56, 0)))), some (.inl ((c : Int))), some (.inl ((q_bs (q_e T c) l : Int))), some (.inl ((l : Int)))] [] (x_S Z t) = some ((q_bs (q_e T c) (T 1 0) : Int), x_S Z t) := by
  obtain ⟨hv, h18, ⟨_, h1, _, _, _, _, _⟩, _⟩ := id hM
  have hl10 : T 1 0 ≤ 10 := hT.2.1
  intro n
  induction n with
  | zero =>
    intro l hl
    rw [B195_4, h18, cn_nt (z := (v : Int)) rfl (by omega), Int.toNat_natCast, h1, if_pos (by omega), cn_nt (z := (T 1 0 : Int)) rfl (by omega), cn_nt (z := (l : Int)) rfl (by omega), if_neg (by omega)]
    rw [show l = T 1 0 by omega]
  | succ n ih =>
    intro l hl
    rw [B195_4, h18, cn_nt (z := (v : Int)) rfl (by omega), Int.toNat_natCast, h1, if_pos (by omega), cn_nt (z := (T 1 0 : Int)) rfl (by omega), cn_nt (z := (l : Int)) rfl (by omega), if_pos (by omega), m_end hM hT hd t (by omega) hc, Option.bind_some, B195_23]
    have := ih (l + 1) (by omega)
    rw [q_bs] at this
    by_cases h : q_e T c l = true
    · rw [if_pos h] at this ⊢
      rw [if_neg cn_1n, q_bs_or (by omega)]
      exact this
    · rw [if_neg h] at this ⊢
      rw [if_pos cn_0]
      exact this
theorem m_bits (hM : MT Z v T) (hT : TOK T) (hd : 2 ≤ d) (t : Nat) {c : Nat} (hc : c < 1000) : x_CALL d 195 [.inr (.inr (some (56, 0))), .inl ((c : Int))] (x_S Z t) = some ((q_bt (q_ln T c) : Int), x_S Z t) := by
  rw [C195 _ _ _ _ (by omega)]
  have := m_bits_loop (d := d - 1) hM hT (by omega) t hc (T 1 0) 0 (by omega)
  unfold q_ln
  rw [q_bt_bs]
  exact this
end
theorem s4_ok : p_s4 PI := by
  intro a b ha hb Z t ⟨T, F, N, H, K, v, u, nx, h⟩
  obtain ⟨ht, hT, hC, hM, hL, hML, hS, hR, hN, hH, _⟩ := id h
  have t0 : T 0 0 ≤ 7 := hT.1
  have t1 : T 1 0 ≤ 10 := hT.2.1
  have c1 := C88 60 Z t a b (by decide)
  have m1 := C194 60 Z t a b (by decide)
  rw [c_hasC hC hT (by decide), Option.bind_some, B88_8, cn_id ha.1 ha.2, cn_id hb.1 hb.2] at c1
  rw [m_isC hM hT (by decide), Option.bind_some, B194_5, cn_id ha.1 ha.2] at m1
  by_cases hin : 0 ≤ a ∧ a < (T 0 0 : Int)
  case neg =>
    rw [if_pos (ite_00 _ hin)] at c1 m1; exact p_fin h c1 keepQ.rfl' m1 keepQ.rfl' rfl
  obtain ⟨c, rfl⟩ := Int.eq_ofNat_of_zero_le hin.1
  have hc : c < T 0 0 := by omega
  have hv := hM.1
  obtain ⟨r1, r2, r3, r4, _⟩ := hC.2.1 c hc
  have r5 := hS.1 c (by omega)
  have n1 := hN.2.1 c (by omega)
  have hsg : q_sg N c ≤ 9 := by unfold q_sg; omega
  obtain ⟨Z2, g1, g2, g3, g4, g5, _⟩ := m_crr h.mi hT hH.2.2.1 (d := 59) (by decide) t
  have hM2 := g2.1
  have bc : 0 ≤ (c : Int) ∧ (c : Int) < 7 := by omega
  rw [if_neg (ite_01 _ hin)] at c1
  simp only [if_pos bc, Int.toNat_natCast, r1, r2, r3, r5] at c1
  have bv : 0 ≤ ((7 * v + c : Nat) : Int) ∧ ((7 * v + c : Nat) : Int) < 14 := by omega
  rw [if_neg (ite_01 _ hin), g1, Option.bind_some, B194_14, cn_id hb.1 hb.2, hM2.2.1, cn_nt (z := 7 * (v : Int) + (c : Int)) (n := 7 * v + c) (by omega) (by omega), if_pos bv, Int.toNat_natCast, hM2.2.2.2.1 c hc, m_bits hM2 hT (by decide) t (by omega), Option.bind_some, B194_64] at m1
  by_cases b0 : b = 0
  · rw [if_pos b0] at c1 m1; exact p_fin h c1 keepQ.rfl' m1 g5 rfl
  rw [if_neg b0] at c1 m1
  by_cases b1 : b = 1
  · rw [if_pos b1] at c1 m1; exact p_fin h c1 keepQ.rfl' m1 g5 rfl
  rw [if_neg b1] at c1 m1
  by_cases b2 : b = 2
  · have hdg := q_dg_le hT c
    have e0 : x_CALL 59 184 [.inr (.inr (some (56, 0))), .inl ((c : Int)), .inl 0] (x_S Z2 t) = _ := m_lnBy hM2 hT g3 hN (d := 59) (by decide) t (c := c) (b := 0) (by omega) (by omega)
    rw [if_pos b2, cn_nt (z := (q_dg T c : Int)) rfl (by omega)] at c1
    rw [if_pos b2, e0, Option.bind_some, B194_71, Nat.add_zero] at m1
    by_cases h0 : q_dg T c = 0
    · rw [if_pos (by omega), B88_98] at c1
      rw [if_pos h0] at m1
      exact p_fin h c1 keepQ.rfl' m1 g5 rfl
    · rw [if_neg (by omega), c_laneAt hC hT (by decide) t hc (by omega), Option.bind_some, B88_98, if_neg h0] at c1
      rw [if_neg h0] at m1
      exact p_fin h c1 keepQ.rfl' m1 g5 rfl
  rw [if_neg b2] at c1 m1
  by_cases b3 : b = 3
  · have t10 : T 10 0 < T 0 0 := hT.2.2.2.2.2.2.1 (by omega)
    have hh : q_ho T = (T 10 0 : Int) := by unfold q_ho; rw [if_neg (by omega)]
    rw [if_pos b3, hC.1 10 (by omega), cn_nt (z := (T 10 0 : Int)) rfl (by omega)] at c1
    rw [if_pos b3, m_house hM2 hT (by decide) t, Option.bind_some, B194_76, hh, cn_nt (z := (T 10 0 : Int)) rfl (by omega), cn_nt (z := (c : Int)) rfl (by omega)] at m1
    by_cases h10 : c = T 10 0
    · rw [if_pos (by omega)] at c1 m1; exact p_fin h c1 keepQ.rfl' m1 g5 rfl
    · rw [if_neg (by omega)] at c1 m1; exact p_fin h c1 keepQ.rfl' m1 g5 rfl
  rw [if_neg b3] at c1 m1
  exact p_fin h c1 keepQ.rfl' m1 g5 rfl
theorem c_who_loop {Z : XZ} {N : PN} {d n w : Nat} (hS : CS Z 0 N) (hN : NOK N) (hn : n ≤ 5) (hw : w < 100) (t : Nat) : ∀ (j k : Nat), k + j = n → x_EX d 43 5 [some (.inr (.inr (some (28, 0)))), some (.inl ((w : Int))), some (.inl ((n : Int))), some (.inl ((q_bs (fun i => N i == (w : Int)) k : Int))), some (.inl ((k : Int)))] [] (x_S Z t) = some ((q_bs (fun i => N i == (w : Int)) n : Int), x_S Z t) := by
  intro j
  induction j with
  | zero =>
    intro k hk
    obtain rfl : k = n := by omega
    rw [B43_5, if_neg (Int.lt_irrefl _)]
  | succ j ih =>
    intro k hk
    have nk := hN.1 k (by omega)
    rw [B43_5, cn_nt (z := (k : Int)) rfl (by omega), cn_nt (z := (n : Int)) rfl (by omega), if_pos (by omega), if_pos (by omega), if_pos (by omega), Int.toNat_natCast, hS.2.1 k (by omega), cn_id (z := N k) (by omega) (by omega), cn_nt (z := (w : Int)) rfl (by omega)]
    have := ih (k + 1) (by omega)
    rw [q_bs] at this
    by_cases h : N k = (w : Int)
    · rw [if_pos (by simp [h])] at this
      rw [if_pos h, q_bs_or (by omega)]
      exact this
    · rw [if_neg (by simp [h])] at this
      rw [if_neg h]
      exact this
theorem c_who {Z : XZ} {N : PN} {d n w : Nat} (hS : CS Z 0 N) (hN : NOK N) (hn : n ≤ 5) (hw : w < 100) (hd : 1 ≤ d) (t : Nat) : x_CALL d 43 [.inr (.inr (some (28, 0))), .inl ((w : Int)), .inl ((n : Int))] (x_S Z t) = some ((q_bs (fun i => N i == (w : Int)) n : Int), x_S Z t) := by
  rw [C43 _ _ _ _ _ _ (by omega)]
  exact c_who_loop hS hN hn hw t n 0 (by omega)
theorem m_who_loop {Z : XZ} {T : PT} {v : Nat} {N : PN} {d w : Nat} (hM : MT Z v T) (hT : TOK T) (hR : MR Z 93 0 N) (hN : NOK N) (hw : w < 100) (t : Nat) : ∀ (j k : Nat), k + j = T 2 0 → x_EX d 245 4 [some (.inr (.inr (some (56, 0)))), some (.inl ((w : Int))), some (.inl ((q_bs (fun i => N i == (w : Int)) k : Int))), some (.inl ((k : Int)))] [] (x_S Z t) = some ((q_bs (fun i => N i == (w : Int)) (T 2 0) : Int), x_S Z t) := by
  have t2 : T 2 0 ≤ 5 := hT.2.2.1
  obtain ⟨hv, h18, ⟨_, _, h1, _, _, _, _⟩, _⟩ := id hM
  intro j
  induction j with
  | zero =>
    intro k hk
    obtain rfl : k = T 2 0 := by omega
    rw [B245_4, h18, cn_nt (z := (v : Int)) rfl (by omega), Int.toNat_natCast, h1, if_pos (by omega), if_neg (Int.lt_irrefl _)]
  | succ j ih =>
    intro k hk
    have nk := hN.1 k (by omega)
    have rk := hR k (by omega)
    rw [Nat.zero_add] at rk
    rw [B245_4, h18, cn_nt (z := (v : Int)) rfl (by omega), Int.toNat_natCast, h1, if_pos (by omega), cn_nt (z := (T 2 0 : Int)) rfl (by omega), cn_nt (z := (k : Int)) rfl (by omega), if_pos (by omega), if_pos (by omega), Int.toNat_natCast, rk, cn_id (z := N k) (by omega) (by omega), cn_nt (z := (w : Int)) rfl (by omega)]
    have := ih (k + 1) (by omega)
    rw [q_bs] at this
    by_cases h : N k = (w : Int)
    · rw [if_pos (by simp [h])] at this
      rw [if_pos h, q_bs_or (by omega)]
      exact this
    · rw [if_neg (by simp [h])] at this
      rw [if_neg h]
      exact this
theorem m_who {Z : XZ} {T : PT} {v : Nat} {N : PN} {d w : Nat} (hM : MT Z v T) (hT : TOK T) (hR : MR Z 93 0 N) (hN : NOK N) (hw : w < 100) (hd : 1 ≤ d) (t : Nat) : x_CALL d 245 [.inr (.inr (some (56, 0))), .inl ((w : Int))] (x_S Z t) = some ((q_bs (fun i => N i == (w : Int)) (T 2 0) : Int), x_S Z t) := by
  rw [C245 _ _ _ _ (by omega)]
  exact m_who_loop hM hT hR hN hw t (T 2 0) 0 (by omega)
theorem c_bare_loop {Z : XZ} {T : PT} {t : Nat} {d : Nat} (hC : CT Z t T) (hT : TOK T) : ∀ (j k : Nat), k + j = T 0 0 → x_EX d 61 4 [some (.inr (.inr (some (7, t)))), some (.inl ((q_bs (fun c => q_dg T c == 0) k : Int))), some (.inl ((k : Int)))] [] (x_S Z t) = some ((q_bs (fun c => q_dg T c == 0) (T 0 0) : Int), x_S Z t) := by
  have t0 : T 0 0 ≤ 7 := hT.1
  intro j
  induction j with
  | zero =>
    intro k hk
    obtain rfl : k = T 0 0 := by omega
    rw [B61_4, hC.1 0 (by omega), if_neg (Int.lt_irrefl _)]
  | succ j ih =>
    intro k hk
    have hdg := q_dg_le hT k
    rw [B61_4, hC.1 0 (by omega), cn_nt (z := (k : Int)) rfl (by omega), cn_nt (z := (T 0 0 : Int)) rfl (by omega), if_pos (by omega), if_pos (by omega), Int.toNat_natCast, (hC.2.1 k (by omega)).2.1, cn_nt (z := (q_dg T k : Int)) rfl (by omega)]
    have := ih (k + 1) (by omega)
    rw [q_bs] at this
    by_cases h : q_dg T k = 0
    · rw [if_pos (by simp [h])] at this
      rw [if_pos (by omega), q_bs_or (by omega)]
      exact this
    · rw [if_neg (by simp [h])] at this
      rw [if_neg (by omega)]
      exact this
theorem m_bare_loop {Z : XZ} {T : PT} {v : Nat} {d : Nat} (hM : MT Z v T) (hT : TOK T) (hd : 2 ≤ d) (t : Nat) (a : Int) : ∀ (j k : Nat), k + j = T 0 0 → x_EX d 246 265 [some (.inr (.inr (some (56, 0)))), some (.inl a), some (.inl ((q_bs (fun c => q_dg T c == 0) k : Int))), some (.inl ((k : Int)))] [] (x_S Z t) = some ((q_bs (fun c => q_dg T c == 0) (T 0 0) : Int), x_S Z t) := by
  have t0 : T 0 0 ≤ 7 := hT.1
  obtain ⟨hv, h18, ⟨h1, _, _, _, _, _, _⟩, _⟩ := id hM
  intro j
  induction j with
  | zero =>
    intro k hk
    obtain rfl : k = T 0 0 := by omega
    rw [B246_265, h18, cn_nt (z := (v : Int)) rfl (by omega), Int.toNat_natCast, h1, if_pos (by omega), if_neg (Int.lt_irrefl _)]
  | succ j ih =>
    intro k hk
    have hdg := q_dg_le hT k
    rw [B246_265, h18, cn_nt (z := (v : Int)) rfl (by omega), Int.toNat_natCast, h1, if_pos (by omega), cn_nt (z := (T 0 0 : Int)) rfl (by omega), cn_nt (z := (k : Int)) rfl (by omega), if_pos (by omega), m_lan hM hT hd t (by omega), Option.bind_some, B246_283, cn_nt (z := (q_dg T k : Int)) rfl (by omega)]
    have := ih (k + 1) (by omega)
    rw [q_bs] at this
    by_cases h : q_dg T k = 0
    · rw [if_pos (by simp [h])] at this
      rw [if_pos (by omega), q_bs_or (by omega)]
      exact this
    · rw [if_neg (by simp [h])] at this
      rw [if_neg (by omega)]
      exact this
def q_sm (f : Nat → Nat) (n : Nat) : Nat := match n with
  | 0 => 0
  | n + 1 => q_sm f n + f n
theorem c_sum8_loop {Z : XZ} {T : PT} {t : Nat} {d : Nat} (hC : CT Z t T) (hT : TOK T) : ∀ (j k : Nat), k + j = T 0 0 → x_EX d 130 4 [some (.inr (.inr (some (8, t)))), some (.inl ((T 0 0 : Int))), some (.inl ((q_sm (T 3) k : Int))), some (.inl ((k : Int)))] [] (x_S Z t) = some ((q_sm (T 3) (T 0 0) : Int), x_S Z t) := by
  have t0 : T 0 0 ≤ 7 := hT.1
  intro j
  induction j with
  | zero =>
    intro k hk
    obtain rfl : k = T 0 0 := by omega
    rw [B130_4_g8, if_neg (Int.lt_irrefl _)]
  | succ j ih =>
    intro k hk
    rw [B130_4_g8, B130_12_g8, cn_nt (z := (k : Int)) rfl (by omega), cn_nt (z := (T 0 0 : Int)) rfl (by omega), cn_id (z := 7) (by decide) (by decide), if_pos (by omega), if_pos (by omega), if_pos (by omega), Int.toNat_natCast, (hC.2.1 k (by omega)).1]
    exact ih (k + 1) (by omega)
theorem c_sum11_loop {Z : XZ} {T : PT} {t : Nat} {d : Nat} (hC : CT Z t T) (hT : TOK T) : ∀ (j k : Nat), k + j = T 1 0 → x_EX d 130 4 [some (.inr (.inr (some (11, t)))), some (.inl ((T 1 0 : Int))), some (.inl ((q_sm (T 6) k : Int))), some (.inl ((k : Int)))] [] (x_S Z t) = some ((q_sm (T 6) (T 1 0) : Int), x_S Z t) := by
  have t1 : T 1 0 ≤ 10 := hT.2.1
  intro j
  induction j with
  | zero =>
    intro k hk
    obtain rfl : k = T 1 0 := by omega
    rw [B130_4_g11, if_neg (Int.lt_irrefl _)]
  | succ j ih =>
    intro k hk
    rw [B130_4_g11, B130_12_g11, cn_nt (z := (k : Int)) rfl (by omega), cn_nt (z := (T 1 0 : Int)) rfl (by omega), cn_id (z := 10) (by decide) (by decide), if_pos (by omega), if_pos (by omega), if_pos (by omega), Int.toNat_natCast, (hC.2.2.1 k (by omega)).2.2]
    exact ih (k + 1) (by omega)
theorem m_sum8_loop {Z : XZ} {T : PT} {v : Nat} {d : Nat} (hM : MT Z v T) (hT : TOK T) (t : Nat) (a : Int) : ∀ (j k : Nat), k + j = T 0 0 → x_EX d 246 302 [some (.inr (.inr (some (56, 0)))), some (.inl a), some (.inl ((q_sm (T 3) k : Int))), some (.inl ((k : Int)))] [] (x_S Z t) = some ((q_sm (T 3) (T 0 0) : Int), x_S Z t) := by
  have t0 : T 0 0 ≤ 7 := hT.1
  obtain ⟨hv, h18, ⟨h1, _, _, _, _, _, _⟩, h2, _⟩ := id hM
  intro j
  induction j with
  | zero =>
    intro k hk
    obtain rfl : k = T 0 0 := by omega
    rw [B246_302, h18, cn_nt (z := (v : Int)) rfl (by omega), Int.toNat_natCast, h1, if_pos (by omega), if_neg (Int.lt_irrefl _)]
  | succ j ih =>
    intro k hk
    rw [B246_302, h18, cn_nt (z := (v : Int)) rfl (by omega), Int.toNat_natCast, h1, if_pos (by omega), cn_nt (z := (T 0 0 : Int)) rfl (by omega), cn_nt (z := (k : Int)) rfl (by omega), if_pos (by omega), cn_nt (z := 7 * (v : Int) + (k : Int)) (n := 7 * v + k) (by omega) (by omega), if_pos (by omega), Int.toNat_natCast, h2 k (by omega)]
    exact ih (k + 1) (by omega)
theorem m_sum11_loop {Z : XZ} {T : PT} {v : Nat} {d : Nat} (hM : MT Z v T) (hT : TOK T) (t : Nat) (a : Int) : ∀ (j k : Nat), k + j = T 1 0 → x_EX d 246 225 [some (.inr (.inr (some (56, 0)))), some (.inl a), some (.inl ((q_sm (T 6) k : Int))), some (.inl ((k : Int)))] [] (x_S Z t) = some ((q_sm (T 6) (T 1 0) : Int), x_S Z t) := by
  have t1 : T 1 0 ≤ 10 := hT.2.1
  obtain ⟨hv, h18, ⟨_, h1, _, _, _, _, _⟩, _, h2, _⟩ := id hM
  intro j
  induction j with
  | zero =>
    intro k hk
    obtain rfl : k = T 1 0 := by omega
    rw [B246_225, h18, cn_nt (z := (v : Int)) rfl (by omega), Int.toNat_natCast, h1, if_pos (by omega), if_neg (Int.lt_irrefl _)]
  | succ j ih =>
    intro k hk
    rw [B246_225, h18, cn_nt (z := (v : Int)) rfl (by omega), Int.toNat_natCast, h1, if_pos (by omega), cn_nt (z := (T 1 0 : Int)) rfl (by omega), cn_nt (z := (k : Int)) rfl (by omega), if_pos (by omega), cn_nt (z := 10 * (v : Int) + (k : Int)) (n := 10 * v + k) (by omega) (by omega), if_pos (by omega), Int.toNat_natCast, (h2 k (by omega)).2.2]
    exact ih (k + 1) (by omega)
def q_01 (z : Int) : Int := if cn z = 0 then 0 else 1
theorem c_slot1 {Z : XZ} {d : Nat} (t : Nat) (a : Int) {k : Nat} (hk : k < 3) : x_EX d 129 4 [some (.inr (.inr (some (0, 0)))), some (.inl a), some (.inl ((k : Int)))] [] (x_S Z t) = x_EX d 129 4 [some (.inr (.inr (some (0, 0)))), some (.inl (a + q_01 (Z 34 0 k))), some (.inl ((k : Int) + 1))] [] (x_S Z t) := by
  rw [B129_4, cn_nt (z := (k : Int)) rfl (by omega), if_pos (by omega), if_pos (by omega), Int.toNat_natCast]
  unfold q_01
  by_cases h : cn (Z 34 0 k) = 0
  · rw [if_pos h, if_pos h, Int.add_zero]
  · rw [if_neg h, if_neg h]
theorem c_slots {Z : XZ} {d : Nat} (hd : 1 ≤ d) (t : Nat) : x_CALL d 129 [.inr (.inr (some (0, 0)))] (x_S Z t) = some (q_01 (Z 34 0 0) + q_01 (Z 34 0 1) + q_01 (Z 34 0 2), x_S Z t) := by
  rw [C129 _ _ _ (by omega)]
  have h0 := c_slot1 (Z := Z) (d := d - 1) t 0 (k := 0) (by decide)
  have h1 := c_slot1 (Z := Z) (d := d - 1) t (0 + q_01 (Z 34 0 0)) (k := 1) (by decide)
  have h2 := c_slot1 (Z := Z) (d := d - 1) t (0 + q_01 (Z 34 0 0) + q_01 (Z 34 0 1)) (k := 2) (by decide)
  refine (h0.trans (h1.trans h2)).trans ?_
  rw [B129_4, if_neg (by decide), Int.zero_add]
theorem s42_ok : p_s42 PI := by
  intro a ha Z t ⟨T, F, N, H, K, v, u, nx, h⟩
  obtain ⟨ht, hT, hC, hM, hL, hML, hS, hR, hN, hH, hK, ⟨nn, n1, n2, n3, _⟩, ⟨tn, t1, t2, t3, _⟩⟩ := id h
  have u5 : T 2 0 ≤ 5 := hT.2.2.1
  have u0 : T 0 0 ≤ 7 := hT.1
  obtain ⟨hv, h18, ⟨v0, v1, v2, _⟩, _⟩ := id hM
  have rr : ∀ k, k < 16 → Z 93 0 k = N k := fun k hk => by have := hR k hk; rwa [Nat.zero_add] at this
  have c1 := C128 60 Z t a (by decide)
  have m1 := C246 60 Z t a (by decide)
  have bv : 0 ≤ (v : Int) ∧ (v : Int) < 2 := by omega
  rw [cn_id ha.1 ha.2] at c1 m1
  rw [h18, cn_nt (z := (v : Int)) rfl (by omega)] at m1
  simp only [if_pos bv, Int.toNat_natCast] at m1
  by_cases a0 : a = 0
  · rw [if_pos a0] at c1 m1; exact p_fin h c1 keepQ.rfl' m1 keepQ.rfl' (by rw [hC.1 0 (by omega), v0])
  rw [if_neg a0] at c1 m1
  by_cases a1 : a = 1
  · rw [if_pos a1] at c1 m1; exact p_fin h c1 keepQ.rfl' m1 keepQ.rfl' (by rw [hC.1 1 (by omega), v1])
  rw [if_neg a1] at c1 m1
  by_cases a2 : a = 2
  · rw [if_pos a2] at c1 m1; exact p_fin h c1 keepQ.rfl' m1 keepQ.rfl' (by rw [hC.1 2 (by omega), v2])
  rw [if_neg a2] at c1 m1
  by_cases a3 : a = 3
  · rw [if_pos a3] at c1 m1; exact p_fin h c1 keepQ.rfl' m1 keepQ.rfl' (by rw [hS.2.2.1, rr 13 (by decide)])
  rw [if_neg a3] at c1 m1
  by_cases a4 : a = 4
  · rw [if_pos a4] at c1 m1; exact p_fin h c1 keepQ.rfl' m1 keepQ.rfl' (by rw [hS.2.2.2.1, rr 12 (by decide)])
  rw [if_neg a4] at c1 m1
  by_cases a5 : a = 5
  · rw [if_pos a5] at c1 m1; exact p_fin h c1 keepQ.rfl' m1 keepQ.rfl' (by rw [hS.2.2.2.2.1, rr 15 (by decide)])
  rw [if_neg a5] at c1 m1
  by_cases a6 : a = 6
  · rw [if_pos a6] at c1 m1; exact p_fin h c1 keepQ.rfl' m1 keepQ.rfl' (by rw [hS.2.2.2.2.2, rr 14 (by decide)])
  rw [if_neg a6] at c1 m1
  by_cases a7 : a = 7
  · have w1 : x_CALL 59 43 [.inr (.inr (some (28, 0))), .inl 0, .inl ((T 2 0 : Int))] (x_S Z t) = _ := c_who (w := 0) hS hN u5 (by decide) (d := 59) (by decide) t
    have w2 : x_CALL 59 245 [.inr (.inr (some (56, 0))), .inl 0] (x_S Z t) = _ := m_who (w := 0) hM hT hR hN (by decide) (d := 59) (by decide) t
    rw [if_pos a7, hC.1 2 (by omega), w1, Option.bind_some, B128_155] at c1
    rw [if_pos a7, w2, Option.bind_some, B246_151] at m1
    exact p_fin h c1 keepQ.rfl' m1 keepQ.rfl' rfl
  rw [if_neg a7] at c1 m1
  by_cases a8 : a = 8
  · rw [if_pos a8] at c1 m1; exact p_fin h c1 keepQ.rfl' m1 keepQ.rfl' (by rw [t2, t3])
  rw [if_neg a8] at c1 m1
  by_cases a9 : a = 9
  · rw [if_pos a9] at c1 m1; exact p_fin h c1 keepQ.rfl' m1 keepQ.rfl' (by rw [hH.1, hH.2.1])
  rw [if_neg a9] at c1 m1
  by_cases a10 : a = 10
  · rw [if_pos a10] at c1 m1; exact p_fin h c1 keepQ.rfl' m1 keepQ.rfl' (by rw [n2, n3])
  rw [if_neg a10] at c1 m1
  by_cases a11 : a = 11
  · rw [if_pos a11, c_slots (by decide), Option.bind_some, B128_181, (hK 0 (by decide)).1, (hK 1 (by decide)).1, (hK 2 (by decide)).1] at c1
    rw [if_pos a11] at m1
    have m2 : x_CALL 60 246 [.inr (.inr (some (56, 0))), .inl a] (x_S Z t) = some (q_01 (Z 107 0 0) + q_01 (Z 107 0 1) + q_01 (Z 107 0 2), x_S Z t) := by
      rw [m1]
      unfold q_01
      by_cases g0 : cn (Z 107 0 0) = 0
      · rw [if_pos g0, if_pos g0]
        by_cases g1 : cn (Z 107 0 1) = 0
        · rw [if_pos g1, if_pos g1]
          by_cases g2 : cn (Z 107 0 2) = 0
          · rw [if_pos g2, if_pos g2]
          · rw [if_neg g2, if_neg g2]
        · rw [if_neg g1, if_neg g1]
          by_cases g2 : cn (Z 107 0 2) = 0
          · rw [if_pos g2, if_pos g2]
          · rw [if_neg g2, if_neg g2]
      · rw [if_neg g0, if_neg g0]
        by_cases g1 : cn (Z 107 0 1) = 0
        · rw [if_pos g1, if_pos g1]
          by_cases g2 : cn (Z 107 0 2) = 0
          · rw [if_pos g2, if_pos g2]
          · rw [if_neg g2, if_neg g2]
        · rw [if_neg g1, if_neg g1]
          by_cases g2 : cn (Z 107 0 2) = 0
          · rw [if_pos g2, if_pos g2]
          · rw [if_neg g2, if_neg g2]
    exact p_fin h c1 keepQ.rfl' m2 keepQ.rfl' rfl
  rw [if_neg a11] at c1 m1
  by_cases a12 : a = 12
  · rw [if_pos a12, hC.1 0 (by omega), hC.1 10 (by omega), cn_nt (z := (T 0 0 : Int)) rfl (by omega)] at c1
    rw [if_pos a12, m_house hM hT (by decide) t, Option.bind_some, B246_216] at m1
    unfold q_ho at m1
    by_cases h0 : T 0 0 = 0
    · rw [if_pos (by omega)] at c1
      rw [if_pos h0] at m1; exact p_fin h c1 keepQ.rfl' m1 keepQ.rfl' rfl
    · rw [if_neg (by omega)] at c1
      rw [if_neg h0] at m1; exact p_fin h c1 keepQ.rfl' m1 keepQ.rfl' rfl
  rw [if_neg a12] at c1 m1
  by_cases a13 : a = 13
  · have w1 : x_CALL 59 43 [.inr (.inr (some (28, 0))), .inl 1, .inl ((T 2 0 : Int))] (x_S Z t) = _ := c_who (w := 1) hS hN u5 (by decide) (d := 59) (by decide) t
    have w2 : x_CALL 59 245 [.inr (.inr (some (56, 0))), .inl 1] (x_S Z t) = _ := m_who (w := 1) hM hT hR hN (by decide) (d := 59) (by decide) t
    rw [if_pos a13, hC.1 2 (by omega), w1, Option.bind_some, B128_220] at c1
    rw [if_pos a13, w2, Option.bind_some, B246_222] at m1
    exact p_fin h c1 keepQ.rfl' m1 keepQ.rfl' rfl
  rw [if_neg a13] at c1 m1
  by_cases a14 : a = 14
  · have w1 : x_CALL 59 130 [.inr (.inr (some (11, t))), .inl ((T 1 0 : Int))] (x_S Z t) = _ := (C130_g11 59 Z t t _ (by decide)).trans (c_sum11_loop hC hT (T 1 0) 0 (by omega))
    rw [if_pos a14, hC.1 1 (by omega), w1, Option.bind_some, B128_238] at c1
    rw [if_pos a14] at m1
    exact p_fin h c1 keepQ.rfl' (m1.trans (m_sum11_loop hM hT t a (T 1 0) 0 (by omega))) keepQ.rfl' rfl
  rw [if_neg a14] at c1 m1
  by_cases a15 : a = 15
  · have w1 : x_CALL 59 61 [.inr (.inr (some (7, t)))] (x_S Z t) = _ := (C61 59 Z t t (by decide)).trans (c_bare_loop hC hT (T 0 0) 0 (by omega))
    rw [if_pos a15, w1, Option.bind_some, B128_246] at c1
    rw [if_pos a15] at m1
    exact p_fin h c1 keepQ.rfl' (m1.trans (m_bare_loop hM hT (by decide) t a (T 0 0) 0 (by omega))) keepQ.rfl' rfl
  rw [if_neg a15] at c1 m1
  by_cases a16 : a = 16
  · have w1 : x_CALL 59 130 [.inr (.inr (some (8, t))), .inl ((T 0 0 : Int))] (x_S Z t) = _ := (C130_g8 59 Z t t _ (by decide)).trans (c_sum8_loop hC hT (T 0 0) 0 (by omega))
    rw [if_pos a16, hC.1 0 (by omega), w1, Option.bind_some, B128_264] at c1
    rw [if_pos a16] at m1
    exact p_fin h c1 keepQ.rfl' (m1.trans (m_sum8_loop hM hT t a (T 0 0) 0 (by omega))) keepQ.rfl' rfl
  rw [if_neg a16] at c1 m1
  exact p_fin h c1 keepQ.rfl' m1 keepQ.rfl' rfl
