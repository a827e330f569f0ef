/-! passes, uses, afraid, twice -/
theorem bit_t (x c : Nat) : (x &&& 2 ^ c = 0) ↔ ¬ x / 2 ^ c % 2 = 1 := by
  have hd := Nat.testBit_eq_decide_div_mod_eq (x := x) (i := c)
  constructor
  · intro h0 h1
    rw [decide_eq_true h1] at hd
    have h2 : (x &&& 2 ^ c).testBit c = true := by rw [Nat.testBit_and, hd, Nat.testBit_two_pow_self]; rfl
    rw [h0, Nat.zero_testBit] at h2
    exact absurd h2 (by decide)
  · intro h1
    rw [decide_eq_false h1] at hd
    apply Nat.eq_of_testBit_eq
    intro i
    rw [Nat.testBit_and, Nat.testBit_two_pow, Nat.zero_testBit]
    by_cases hi : c = i
    · subst hi; rw [hd]; rfl
    · simp [hi]
theorem bit_m {x c : Nat} (hx : x < 2147483648) (hc : c < 32) : cn (x_and (x_shr (x : Int) (c : Int)) 1) = 1 ↔ x / 2 ^ c % 2 = 1 := by
  have h1 : x / 2 ^ c < 2147483648 := Nat.lt_of_le_of_lt (Nat.div_le_self _ _) hx
  rw [x_shr_nat hx hc, show (1 : Int) = ((1 : Nat) : Int) from rfl, x_and_nat h1 (by decide), Nat.and_one_is_mod, cn_nt rfl (by omega)]
  omega
theorem bit_c {x c : Nat} (hx : x < 2147483648) (hc : c < 31) : cn (x_and (x : Int) ((2 ^ c : Nat) : Int)) = 0 ↔ ¬ x / 2 ^ c % 2 = 1 := by
  have h2 : 2 ^ c < 2147483648 := Nat.pow_lt_pow_right (by decide) (show c < 31 from hc)
  have h3 : x &&& 2 ^ c ≤ x := Nat.and_le_left
  rw [x_and_nat hx h2, cn_nt rfl (by omega), ← bit_t]
  omega
def q_gp (T : PT) (F : PF) (N : PN) (s c m : Nat) : Nat := if w_co T N s m 8 / 2 ^ c % 2 = 1 then w_ca T F N s m 8 else 0
def q_gu (T : PT) (F : PF) (N : PN) (s c m : Nat) : Nat := if w_la T N s m 8 / 2 ^ c % 2 = 1 then w_ca T F N s m 8 else 0
theorem m_pass {T : PT} {F : PF} {N : PN} {Z2 : XZ} {s v c : Nat} (hT : TOK T) (hs : s < T 2 0) (hE : ME T F N s v Z2) (hc : c < 7) (t : Nat) : ∃ (r : Int) (Z' : XZ), x_CALL 59 219 [.inr (.inr (some (56, 0))), .inl ((s : Int)), .inl ((c : Int))] (x_S Z2 t) = some (r, x_S Z' t) ∧ cn r = cn (q_sl (q_gp T F N s c) (List.range 256) : Int) ∧ kM Z2 Z' := by
  obtain ⟨r, Z', f1, f2, f3⟩ := m_sum (L := fun acc n Z => x_EX 58 219 5 [some (.inr (.inr (some (56, 0)))), some (.inl ((s : Int))), some (.inl ((c : Int))), some (.inl acc), some (.inl n)] [] (x_S Z t)) (g := q_gp T F N s c) (d := 58) (t := t) hT hs (by decide) hE (by
    intro acc set Z Z1 hset hE1 hL1 w1
    show ∃ acc' Z2, x_EX 58 219 5 [some (.inr (.inr (some (56, 0)))), some (.inl ((s : Int))), some (.inl ((c : Int))), some (.inl acc), some (.inl ((set : Int)))] [] (x_S Z t) = x_EX 58 219 5 [some (.inr (.inr (some (56, 0)))), some (.inl ((s : Int))), some (.inl ((c : Int))), some (.inl acc'), some (.inl (((set + 1 : Nat) : Int)))] [] (x_S Z2 t) ∧ _
    rw [B219_5, cn_nt (z := (set : Int)) rfl (by omega), if_pos (by omega), w1, Option.bind_some]
    have hco := w_co_lt (N := N) (set := set) hT hs 8
    rw [B219_20, hL1.2.2.2.1]
    unfold q_gp
    by_cases hb : w_co T N s set 8 / 2 ^ c % 2 = 1
    · rw [if_pos ((bit_m (by omega) (by omega)).2 hb), if_pos hb]
      exact ⟨_, _, rfl, cn_ad hL1.cas, fun _ _ _ _ => rfl⟩
    · rw [if_neg (fun e => hb ((bit_m (by omega) (by omega)).1 e)), if_neg hb]
      exact ⟨_, _, rfl, by rw [show acc + ((0 : Nat) : Int) = acc from Int.add_zero _], fun _ _ _ _ => rfl⟩) (by
    intro acc Z
    show x_EX 58 219 5 [some (.inr (.inr (some (56, 0)))), some (.inl ((s : Int))), some (.inl ((c : Int))), some (.inl acc), some (.inl 256)] [] (x_S Z t) = _
    rw [B219_5, if_neg (by decide)]) 256 0 0 Z2 (by omega) (fun _ _ _ _ => rfl)
  rw [C219 _ _ _ _ _ (by decide)]
  exact ⟨r, Z', f1, by rw [f2, Int.zero_add, range_sl], f3⟩
theorem c_pass {T : PT} {F : PF} {N : PN} {Z0 : XZ} {s c : Nat} (hT : TOK T) (hs : s < T 2 0) (hG : GR T F N s 8 Z0) (hc : c < 7) (t : Nat) : ∃ (r : Int) (Z' : XZ), x_CALL 59 72 [.inr (.inr (some (41, 0))), .inr (.inr (some (47, 0))), .inl (((2 ^ c : Nat) : Int))] (x_S Z0 t) = some (r, x_S Z' t) ∧ cn r = cn (q_sl (q_gp T F N s c) (List.range 256) : Int) ∧ kC Z0 Z' := by
  have hr8 := w_rows_len T F N s 8
  obtain ⟨r, Z', f1, f2, f3⟩ := c_sum (L := fun acc n Z => x_EX 58 72 5 [some (.inr (.inr (some (41, 0)))), some (.inr (.inr (some (47, 0)))), some (.inl (((2 ^ c : Nat) : Int))), some (.inl acc), some (.inl n)] [] (x_S Z t)) (g := q_gp T F N s c) (R := w_rows T F N s 8) (Z0 := Z0) (t := t) (by
    intro acc n Z hn hk
    have hRn := hG.row hk hn
    have hW := hG.1.congr (fun g m i hg => hk g m i (by omega))
    have h6 := rows_lt T F N s hn
    have b6 : 0 ≤ (n : Int) ∧ (n : Int) < 256 := by omega
    show ∃ acc' Z2, x_EX 58 72 5 [some (.inr (.inr (some (41, 0)))), some (.inr (.inr (some (47, 0)))), some (.inl (((2 ^ c : Nat) : Int))), some (.inl acc), some (.inl ((n : Int)))] [] (x_S Z t) = x_EX 58 72 5 [some (.inr (.inr (some (41, 0)))), some (.inr (.inr (some (47, 0)))), some (.inl (((2 ^ c : Nat) : Int))), some (.inl acc'), some (.inl (((n + 1 : Nat) : Int)))] [] (x_S Z2 t) ∧ _
    rw [B72_5_g47, hk 41 0 0 (by omega), hG.2.1, cn_nt (z := (n : Int)) rfl (by omega), cn_nt (z := ((w_rows T F N s 8).length : Int)) rfl (by omega), if_pos (by omega)]
    have hco := w_co_lt (N := N) (set := (w_rows T F N s 8).getD n 0) hT hs 8
    rw [if_pos b6, Int.toNat_natCast, hRn.1.2.2.2.2.1]
    unfold q_gp
    by_cases hb : w_co T N s ((w_rows T F N s 8).getD n 0) 8 / 2 ^ c % 2 = 1
    · rw [if_neg (fun e => (bit_c (by omega) (by omega)).1 e hb), if_pos b6, if_pos hb]
      exact ⟨_, _, rfl, cn_ad hRn.cas, hk⟩
    · rw [if_pos ((bit_c (by omega) (by omega)).2 hb), if_neg hb]
      exact ⟨_, _, rfl, by rw [show acc + ((0 : Nat) : Int) = acc from Int.add_zero _], hk⟩) (by
    intro acc Z hk
    show x_EX 58 72 5 [some (.inr (.inr (some (41, 0)))), some (.inr (.inr (some (47, 0)))), some (.inl (((2 ^ c : Nat) : Int))), some (.inl acc), some (.inl (((w_rows T F N s 8).length : Int)))] [] (x_S Z t) = _
    rw [B72_5_g47, hk 41 0 0 (by omega), hG.2.1, if_neg (Int.lt_irrefl _)]) (w_rows T F N s 8).length 0 0 Z0 (by omega) (fun _ _ _ _ => rfl)
  rw [C72_g47 _ _ _ _ (by decide)]
  exact ⟨r, Z', f1, by rw [f2, Int.zero_add, List.drop_zero, q_sl_rows (fun m hm => by unfold q_gp; split; exact hm; rfl)], f3⟩
theorem c_use {T : PT} {F : PF} {N : PN} {Z0 : XZ} {s c : Nat} (hT : TOK T) (hs : s < T 2 0) (hG : GR T F N s 8 Z0) (hc : c < 10) (t : Nat) : ∃ (r : Int) (Z' : XZ), x_CALL 59 72 [.inr (.inr (some (41, 0))), .inr (.inr (some (48, 0))), .inl (((2 ^ c : Nat) : Int))] (x_S Z0 t) = some (r, x_S Z' t) ∧ cn r = cn (q_sl (q_gu T F N s c) (List.range 256) : Int) ∧ kC Z0 Z' := by
  have hr8 := w_rows_len T F N s 8
  obtain ⟨r, Z', f1, f2, f3⟩ := c_sum (L := fun acc n Z => x_EX 58 72 5 [some (.inr (.inr (some (41, 0)))), some (.inr (.inr (some (48, 0)))), some (.inl (((2 ^ c : Nat) : Int))), some (.inl acc), some (.inl n)] [] (x_S Z t)) (g := q_gu T F N s c) (R := w_rows T F N s 8) (Z0 := Z0) (t := t) (by
    intro acc n Z hn hk
    have hRn := hG.row hk hn
    have hW := hG.1.congr (fun g m i hg => hk g m i (by omega))
    have h6 := rows_lt T F N s hn
    have b6 : 0 ≤ (n : Int) ∧ (n : Int) < 256 := by omega
    show ∃ acc' Z2, x_EX 58 72 5 [some (.inr (.inr (some (41, 0)))), some (.inr (.inr (some (48, 0)))), some (.inl (((2 ^ c : Nat) : Int))), some (.inl acc), some (.inl ((n : Int)))] [] (x_S Z t) = x_EX 58 72 5 [some (.inr (.inr (some (41, 0)))), some (.inr (.inr (some (48, 0)))), some (.inl (((2 ^ c : Nat) : Int))), some (.inl acc'), some (.inl (((n + 1 : Nat) : Int)))] [] (x_S Z2 t) ∧ _
    rw [B72_5_g48, hk 41 0 0 (by omega), hG.2.1, cn_nt (z := (n : Int)) rfl (by omega), cn_nt (z := ((w_rows T F N s 8).length : Int)) rfl (by omega), if_pos (by omega)]
    have hco := w_la_lt (N := N) (s := s) (set := (w_rows T F N s 8).getD n 0) hT 8
    rw [if_pos b6, Int.toNat_natCast, hRn.1.2.2.2.2.2.1]
    unfold q_gu
    by_cases hb : w_la T N s ((w_rows T F N s 8).getD n 0) 8 / 2 ^ c % 2 = 1
    · rw [if_neg (fun e => (bit_c (by omega) (by omega)).1 e hb), if_pos b6, if_pos hb]
      exact ⟨_, _, rfl, cn_ad hRn.cas, hk⟩
    · rw [if_pos ((bit_c (by omega) (by omega)).2 hb), if_neg hb]
      exact ⟨_, _, rfl, by rw [show acc + ((0 : Nat) : Int) = acc from Int.add_zero _], hk⟩) (by
    intro acc Z hk
    show x_EX 58 72 5 [some (.inr (.inr (some (41, 0)))), some (.inr (.inr (some (48, 0)))), some (.inl (((2 ^ c : Nat) : Int))), some (.inl acc), some (.inl (((w_rows T F N s 8).length : Int)))] [] (x_S Z t) = _
    rw [B72_5_g48, hk 41 0 0 (by omega), hG.2.1, if_neg (Int.lt_irrefl _)]) (w_rows T F N s 8).length 0 0 Z0 (by omega) (fun _ _ _ _ => rfl)
  rw [C72_g48 _ _ _ _ (by decide)]
  exact ⟨r, Z', f1, by rw [f2, Int.zero_add, List.drop_zero, q_sl_rows (fun m hm => by unfold q_gu; split; exact hm; rfl)], f3⟩
theorem s19_ok : p_s19 PI := by
  intro a b ha hb Z t ⟨T, F, N, H, K, v, u, nx, h⟩
  obtain ⟨ht, hT, hC, hM, hL, hML, hS, hR, hN, hH, _⟩ := id h
  have c1 := C103 60 Z t a b (by decide)
  rw [c_hasS hC hT (by decide), Option.bind_some, B103_8, cn_id ha.1 ha.2] at c1
  have m1 : ∀ Z1, MT Z1 v T → x_CALL 60 220 [.inr (.inr (some (56, 0))), .inl a, .inl b] (x_S Z1 t) = _ := fun Z1 hM1 => by rw [C220 60 Z1 t a b (by decide), m_isS hM1 hT (by decide), Option.bind_some, B220_5, cn_id ha.1 ha.2]
  by_cases h1 : 0 ≤ a ∧ a < (T 2 0 : Int)
  case neg =>
    have m2 := m1 Z hM
    rw [if_pos (ite_00 _ h1)] at c1 m2; exact p_fin h c1 keepQ.rfl' m2 keepQ.rfl' rfl
  obtain ⟨s, rfl⟩ := Int.eq_ofNat_of_zero_le h1.1
  have hs : s < T 2 0 := by omega
  have t0 : T 0 0 ≤ 7 := hT.1
  rw [if_neg (ite_01 _ h1), c_hasC hC hT (by decide), Option.bind_some, B103_19, cn_id hb.1 hb.2] at c1
  have m3 : ∀ Z1, MT Z1 v T → x_CALL 60 220 [.inr (.inr (some (56, 0))), .inl ((s : Int)), .inl b] (x_S Z1 t) = _ := fun Z1 hM1 => by rw [m1 Z1 hM1, if_neg (ite_01 _ h1), m_isC hM1 hT (by decide), Option.bind_some, B220_13, cn_id hb.1 hb.2]
  by_cases h2 : 0 ≤ b ∧ b < (T 0 0 : Int)
  case neg =>
    have m2 := m3 Z hM
    rw [if_pos (ite_00 _ h2)] at c1 m2; exact p_fin h c1 keepQ.rfl' m2 keepQ.rfl' rfl
  obtain ⟨c, rfl⟩ := Int.eq_ofNat_of_zero_le h2.1
  refine q_one h (X := cn (q_sl (q_gp T F N s c) (List.range 256) : Int)) ?_ (fun Z1 hI => ?_)
  · obtain ⟨Z0, e1, hG, e3⟩ := c_all (d := 59) (m := 0) hC hT hL hS hN (by decide) hs
    have hr8 := w_rows_len T F N s 8
    obtain ⟨r, Z', f1, f2, f3⟩ := c_pass (c := c) hT hs hG (by omega) t
    rw [if_neg (ite_01 _ h2), e1, Option.bind_some, B103_40, x_shl_1 (by omega), f1, Option.bind_some, B103_57] at c1
    exact ⟨r, Z', c1, f2, (kq_cw e3).trans (kq_kC f3)⟩
  · obtain ⟨Z2, g1, hE, g3⟩ := m_cps hI hT hN hH.2.2.1 (d := 59) (by decide) t (s := s) hs
    obtain ⟨r, Z', f1, f2, f3⟩ := m_pass (c := c) hT hs hE (by omega) t
    have m2 := m3 Z1 hI.1
    rw [if_neg (ite_01 _ h2), g1, Option.bind_some, B220_23, f1, Option.bind_some, B220_29] at m2
    exact ⟨r, Z', m2, f2, g3.trans (kq_kM f3)⟩
theorem s24_ok : p_s24 PI := by
  intro a b ha hb Z t ⟨T, F, N, H, K, v, u, nx, h⟩
  obtain ⟨ht, hT, hC, hM, hL, hML, hS, hR, hN, hH, _⟩ := id h
  have c1 := C109 60 Z t a b (by decide)
  rw [c_hasS hC hT (by decide), Option.bind_some, B109_8, cn_id ha.1 ha.2] at c1
  have m1 : ∀ Z1, MT Z1 v T → x_CALL 60 225 [.inr (.inr (some (56, 0))), .inl a, .inl b] (x_S Z1 t) = _ := fun Z1 hM1 => by rw [C225 60 Z1 t a b (by decide), m_isS hM1 hT (by decide), Option.bind_some, B225_5, cn_id ha.1 ha.2]
  by_cases h1 : 0 ≤ a ∧ a < (T 2 0 : Int)
  case neg =>
    have m2 := m1 Z hM
    rw [if_pos (ite_00 _ h1)] at c1 m2; exact p_fin h c1 keepQ.rfl' m2 keepQ.rfl' rfl
  obtain ⟨s, rfl⟩ := Int.eq_ofNat_of_zero_le h1.1
  have hs : s < T 2 0 := by omega
  have t1 : T 1 0 ≤ 10 := hT.2.1
  rw [if_neg (ite_01 _ h1), c_hasL hC hT (by decide), Option.bind_some, B109_19, cn_id hb.1 hb.2] at c1
  have m3 : ∀ Z1, MT Z1 v T → x_CALL 60 225 [.inr (.inr (some (56, 0))), .inl ((s : Int)), .inl b] (x_S Z1 t) = _ := fun Z1 hM1 => by rw [m1 Z1 hM1, if_neg (ite_01 _ h1), m_isL hM1 hT (by decide), Option.bind_some, B225_13, cn_id hb.1 hb.2]
  by_cases h2 : 0 ≤ b ∧ b < (T 1 0 : Int)
  case neg =>
    have m2 := m3 Z hM
    rw [if_pos (ite_00 _ h2)] at c1 m2; exact p_fin h c1 keepQ.rfl' m2 keepQ.rfl' rfl
  obtain ⟨c, rfl⟩ := Int.eq_ofNat_of_zero_le h2.1
  refine q_one h (X := cn (q_sl (q_gu T F N s c) (List.range 256) : Int)) ?_ (fun Z1 hI => ?_)
  · obtain ⟨Z0, e1, hG, e3⟩ := c_all (d := 59) (m := 0) hC hT hL hS hN (by decide) hs
    have hr8 := w_rows_len T F N s 8
    obtain ⟨r, Z', f1, f2, f3⟩ := c_use (c := c) hT hs hG (by omega) t
    rw [if_neg (ite_01 _ h2), e1, Option.bind_some, B109_40, x_shl_1 (by omega), f1, Option.bind_some, B109_57] at c1
    exact ⟨r, Z', c1, f2, (kq_cw e3).trans (kq_kC f3)⟩
  · obtain ⟨Z2, g1, hE, g3⟩ := m_cps hI hT hN hH.2.2.1 (d := 59) (by decide) t (s := s) hs
    obtain ⟨r, Z', f1, f2, f3⟩ := m_sum (L := fun acc n Z => x_EX 59 225 28 [some (.inr (.inr (some (56, 0)))), some (.inl ((s : Int))), some (.inl ((c : Int))), some (.inl acc), some (.inl n)] [] (x_S Z t)) (g := q_gu T F N s c) (d := 59) (t := t) hT hs (by decide) hE (by
      intro acc set Z Z1 hset hE1 hL1 w1
      show ∃ acc' Z2, x_EX 59 225 28 [some (.inr (.inr (some (56, 0)))), some (.inl ((s : Int))), some (.inl ((c : Int))), some (.inl acc), some (.inl ((set : Int)))] [] (x_S Z t) = x_EX 59 225 28 [some (.inr (.inr (some (56, 0)))), some (.inl ((s : Int))), some (.inl ((c : Int))), some (.inl acc'), some (.inl (((set + 1 : Nat) : Int)))] [] (x_S Z2 t) ∧ _
      rw [B225_28, cn_nt (z := (set : Int)) rfl (by omega), if_pos (by omega), w1, Option.bind_some]
      have hco := w_la_lt (N := N) (s := s) (set := set) hT 8
      rw [B225_43, hL1.2.2.1]
      unfold q_gu
      by_cases hb : w_la T N s set 8 / 2 ^ c % 2 = 1
      · rw [if_pos ((bit_m (by omega) (by omega)).2 hb), if_pos hb]
        exact ⟨_, _, rfl, cn_ad hL1.cas, fun _ _ _ _ => rfl⟩
      · rw [if_neg (fun e => hb ((bit_m (by omega) (by omega)).1 e)), if_neg hb]
        exact ⟨_, _, rfl, by rw [show acc + ((0 : Nat) : Int) = acc from Int.add_zero _], fun _ _ _ _ => rfl⟩) (by
      intro acc Z
      show x_EX 59 225 28 [some (.inr (.inr (some (56, 0)))), some (.inl ((s : Int))), some (.inl ((c : Int))), some (.inl acc), some (.inl 256)] [] (x_S Z t) = _
      rw [B225_28, if_neg (by decide)]) 256 0 0 Z2 (by omega) (fun _ _ _ _ => rfl)
    have m2 := m3 Z1 hI.1
    rw [if_neg (ite_01 _ h2), g1, Option.bind_some, B225_23] at m2
    exact ⟨r, Z', m2.trans f1, by rw [f2, Int.zero_add, range_sl], g3.trans (kq_kM f3)⟩
theorem s22_ok : p_s22 PI := by
  intro a b ha hb Z t ⟨T, F, N, H, K, v, u, nx, h⟩
  obtain ⟨ht, hT, hC, hM, hL, hML, hS, hR, hN, hH, _⟩ := id h
  have c1 := C106 60 Z t a b (by decide)
  rw [c_hasS hC hT (by decide), Option.bind_some, B106_8, cn_id ha.1 ha.2] at c1
  have m1 : ∀ Z1, MT Z1 v T → x_CALL 60 223 [.inr (.inr (some (56, 0))), .inl a, .inl b] (x_S Z1 t) = _ := fun Z1 hM1 => by rw [C223 60 Z1 t a b (by decide), m_isS hM1 hT (by decide), Option.bind_some, B223_5, cn_id ha.1 ha.2]
  by_cases h1 : 0 ≤ a ∧ a < (T 2 0 : Int)
  case neg =>
    have m2 := m1 Z hM
    rw [if_pos (ite_00 _ h1)] at c1 m2; exact p_fin h c1 keepQ.rfl' m2 keepQ.rfl' rfl
  obtain ⟨s, rfl⟩ := Int.eq_ofNat_of_zero_le h1.1
  have hs : s < T 2 0 := by omega
  rw [if_neg (ite_01 _ h1), cn_id hb.1 hb.2] at c1
  have m3 : ∀ Z1, MT Z1 v T → x_CALL 60 223 [.inr (.inr (some (56, 0))), .inl ((s : Int)), .inl b] (x_S Z1 t) = _ := fun Z1 hM1 => by rw [m1 Z1 hM1, if_neg (ite_01 _ h1), m_in (by decide), Option.bind_some, B223_16, cn_id hb.1 hb.2, cn_id (z := 0) (by decide) (by decide), cn_id (z := 999) (by decide) (by decide)]
  by_cases h2 : 0 ≤ b ∧ b ≤ 999
  case neg =>
    have m2 := m3 Z hM
    rw [if_pos (ite_00 _ h2)] at m2
    by_cases h0 : b < 0
    · rw [if_pos h0] at c1; exact p_fin h c1 keepQ.rfl' m2 keepQ.rfl' rfl
    · rw [if_neg h0, if_pos (by omega)] at c1; exact p_fin h c1 keepQ.rfl' m2 keepQ.rfl' rfl
  obtain ⟨fv, rfl⟩ := Int.eq_ofNat_of_zero_le h2.1
  refine q_one h (X := cn (q_sl (q_gf T F N s fv) (List.range 256) : Int)) ?_ (fun Z1 hI => ?_)
  · obtain ⟨r, Z1, e1, e2, e3⟩ := c_coming (d := 59) (s := s) (fv := fv) hC hT hL hS hN (by decide) hs (by omega)
    rw [if_neg (by omega), if_neg (by omega), e1, Option.bind_some, B106_30] at c1
    exact ⟨r, Z1, c1, e2, e3⟩
  · obtain ⟨Z2, g1, hE, g3⟩ := m_cps hI hT hN hH.2.2.1 (d := 59) (by decide) t (s := s) hs
    obtain ⟨r, Z', f1, f2, f3⟩ := m_sum (L := fun acc n Z => x_EX 59 223 31 [some (.inr (.inr (some (56, 0)))), some (.inl ((s : Int))), some (.inl ((fv : Int))), some (.inl acc), some (.inl n)] [] (x_S Z t)) (g := q_gf T F N s fv) (d := 59) (t := t) hT hs (by decide) hE (by
      intro acc set Z Z1 hset hE1 hL1 w1
      show ∃ acc' Z2, x_EX 59 223 31 [some (.inr (.inr (some (56, 0)))), some (.inl ((s : Int))), some (.inl ((fv : Int))), some (.inl acc), some (.inl ((set : Int)))] [] (x_S Z t) = x_EX 59 223 31 [some (.inr (.inr (some (56, 0)))), some (.inl ((s : Int))), some (.inl ((fv : Int))), some (.inl acc'), some (.inl (((set + 1 : Nat) : Int)))] [] (x_S Z2 t) ∧ _
      rw [B223_31, cn_nt (z := (set : Int)) rfl (by omega), if_pos (by omega), w1, Option.bind_some]
      have hcl := w_ca_le T F N s set 8
      rw [B223_46, hL1.2.2.2.2.1]
      unfold q_gf
      by_cases hz : w_ca T F N s set 8 = 0
      · have e0 : (if w_come T N s set = true then (if fv ≤ w_am T F N s 2 set then w_ca T F N s set 8 else 0) else 0) = 0 := by rw [hz]; split; split <;> rfl; rfl
        rw [if_neg (by omega), e0]
        exact ⟨_, _, rfl, by rw [show acc + ((0 : Nat) : Int) = acc from Int.add_zero _], fun _ _ _ _ => rfl⟩
      · rw [if_pos (by omega), m_come hE1.1 hT hL1 (by decide) t hs, Option.bind_some, B223_57]
        by_cases hb : w_come T N s set = true
        · have hmi := w_mi_le (N := N) (s := s) (set := set) hT 8
          have ha := w_am_eq (F := F) (N := N) (s := s) (k := 2) (m := set) hT
          obtain ⟨r, Z3, g1, g2, g3⟩ := m_amount (d := 59) (s := s) (k := 2) (mi := w_mi T N s set 8) hE1.1 hE1.2.1 hT hE1.2.2.1 hN (by decide) t hs (by decide) (by omega)
          have k3 : kM Z1 Z3 := fun g m i hg => g3 g m i (by unfold wsc at hg; omega) (by unfold wsc at hg; omega) (by unfold wsc at hg; omega)
          have c66 : cn (Z3 56 0 66) = cn (w_ca T F N s set 8 : Int) := by rw [g3 56 0 66 (by decide) (by decide) (by decide)]; exact hL1.cas
          rw [if_neg (ite_01 _ hb), if_pos hb, hL1.2.1, show (2 : Int) = ((2 : Nat) : Int) from rfl, g1, Option.bind_some, B223_70, g2, ha.1, cn_nt (z := (fv : Int)) rfl (by omega)]
          by_cases hle : fv ≤ w_am T F N s 2 set
          · rw [if_neg (by omega), if_pos hle]
            exact ⟨_, _, rfl, cn_ad c66, k3⟩
          · rw [if_pos (by omega), if_neg hle]
            exact ⟨_, _, rfl, by rw [show acc + ((0 : Nat) : Int) = acc from Int.add_zero _], k3⟩
        · rw [if_pos (ite_00 _ hb), if_neg hb]
          exact ⟨_, _, rfl, by rw [show acc + ((0 : Nat) : Int) = acc from Int.add_zero _], fun _ _ _ _ => rfl⟩) (by
      intro acc Z
      show x_EX 59 223 31 [some (.inr (.inr (some (56, 0)))), some (.inl ((s : Int))), some (.inl ((fv : Int))), some (.inl acc), some (.inl 256)] [] (x_S Z t) = _
      rw [B223_31, if_neg (by decide)]) 256 0 0 Z2 (by omega) (fun _ _ _ _ => rfl)
    have m2 := m3 Z1 hI.1
    rw [if_neg (ite_01 _ h2), g1, Option.bind_some, B223_26] at m2
    exact ⟨r, Z', m2.trans f1, by rw [f2, Int.zero_add, range_sl], g3.trans (kq_kM f3)⟩
def q_pc (x n : Nat) : Nat := match n with
  | 0 => 0
  | n + 1 => q_pc x n + x / 2 ^ n % 2
theorem q_pc_tab : ∀ x : Fin 128, ∀ c : Fin 7, (x.val &&& 2 ^ c.val = 0 → q_pc (x.val ||| 2 ^ c.val) 10 = q_pc x.val 10 + 1) ∧ (¬ x.val &&& 2 ^ c.val = 0 → x.val ||| 2 ^ c.val = x.val) := by decide +kernel
theorem q_pc_one : ∀ c : Fin 7, q_pc (2 ^ c.val) 10 = 1 := by decide +kernel
theorem w_ag_pc {T : PT} {N : PN} {s set : Nat} (hT : TOK T) (hs : s < T 2 0) (k : Nat) : (w_ag T N s set k = 0 ∧ q_pc (w_co T N s set k) 10 = w_st T N s set k + 1) ∨ (w_ag T N s set k = 1 ∧ q_pc (w_co T N s set k) 10 ≤ w_st T N s set k) := by
  have t0 : T 0 0 ≤ 7 := hT.1
  induction k with
  | zero => exact .inl ⟨rfl, q_pc_one ⟨T 8 s, by have := (hT.2.2.2.2.2.1 s hs).2; omega⟩⟩
  | succ k ih =>
    by_cases he : w_e T (w_at T N s set k) = true
    · rw [w_ag, w_co, w_st, if_pos he, if_pos he, if_pos he]; exact ih
    · have hco := w_co_lt (N := N) (set := set) hT hs k
      have hat := w_at_lt (N := N) (set := set) hT hs (k + 1)
      have ht : (w_co T N s set k &&& 2 ^ w_at T N s set (k + 1) = 0 → q_pc (w_co T N s set k ||| 2 ^ w_at T N s set (k + 1)) 10 = q_pc (w_co T N s set k) 10 + 1) ∧ (¬ w_co T N s set k &&& 2 ^ w_at T N s set (k + 1) = 0 → w_co T N s set k ||| 2 ^ w_at T N s set (k + 1) = w_co T N s set k) := q_pc_tab ⟨w_co T N s set k, by omega⟩ ⟨w_at T N s set (k + 1), by omega⟩
      rw [w_ag, w_co, w_st, if_neg he, if_neg he, if_neg he]
      by_cases hz : w_co T N s set k &&& 2 ^ w_at T N s set (k + 1) = 0
      · rw [if_pos hz, ht.1 hz]
        rcases ih with ⟨h1, h2⟩ | ⟨h1, h2⟩
        · exact .inl ⟨h1, by omega⟩
        · exact .inr ⟨h1, by show q_pc (w_co T N s set k) 10 + 1 ≤ _; omega⟩
      · rw [if_neg hz, ht.2 hz]
        rcases ih with ⟨h1, h2⟩ | ⟨h1, h2⟩
        · exact .inr ⟨rfl, by show q_pc (w_co T N s set k) 10 ≤ _; omega⟩
        · exact .inr ⟨rfl, by show q_pc (w_co T N s set k) 10 ≤ _; omega⟩
theorem m_bitc_loop {Z : XZ} {d x : Nat} (hx : x < 2147483648) (t : Nat) : ∀ (n k : Nat), k + n = 10 → x_EX d 226 4 [some (.inl ((x : Int))), some (.inl ((q_pc x k : Int))), some (.inl ((k : Int)))] [] (x_S Z t) = some ((q_pc x 10 : Int), x_S Z t) := by
  intro n
  induction n with
  | zero => intro k hk; obtain rfl : k = 10 := by omega
            rw [B226_4, if_neg (by decide)]
  | succ n ih =>
    intro k hk
    have h1 : x / 2 ^ k < 2147483648 := Nat.lt_of_le_of_lt (Nat.div_le_self _ _) hx
    rw [B226_4, cn_nt (z := (k : Int)) rfl (by omega), if_pos (by omega), x_shr_nat hx (by omega), show (1 : Int) = ((1 : Nat) : Int) from rfl, x_and_nat h1 (by decide), Nat.and_one_is_mod]
    exact ih (k + 1) (by omega)
theorem q_pc_le (x n : Nat) : q_pc x n ≤ n := by
  induction n with
  | zero => exact Nat.le_refl 0
  | succ n ih => unfold q_pc; omega
def q_gt (T : PT) (F : PF) (N : PN) (s m : Nat) : Nat := if w_ag T N s m 8 = 1 then w_ca T F N s m 8 else 0
theorem s25_ok : p_s25 PI := by
  intro a ha Z t ⟨T, F, N, H, K, v, u, nx, h⟩
  obtain ⟨ht, hT, hC, hM, hL, hML, hS, hR, hN, hH, _⟩ := id h
  have c1 := C110 60 Z t a (by decide)
  rw [c_hasS hC hT (by decide), Option.bind_some, B110_8, cn_id ha.1 ha.2] at c1
  have m1 : ∀ Z1, MT Z1 v T → x_CALL 60 227 [.inr (.inr (some (56, 0))), .inl a] (x_S Z1 t) = _ := fun Z1 hM1 => by rw [C227 60 Z1 t a (by decide), m_isS hM1 hT (by decide), Option.bind_some, B227_5, cn_id ha.1 ha.2]
  by_cases h1 : 0 ≤ a ∧ a < (T 2 0 : Int)
  case neg =>
    have m2 := m1 Z hM
    rw [if_pos (ite_00 _ h1)] at c1 m2; exact p_fin h c1 keepQ.rfl' m2 keepQ.rfl' rfl
  obtain ⟨s, rfl⟩ := Int.eq_ofNat_of_zero_le h1.1
  have hs : s < T 2 0 := by omega
  refine q_one h (X := cn (q_sl (q_gt T F N s) (List.range 256) : Int)) ?_ (fun Z1 hI => ?_)
  · obtain ⟨Z0, e1, hG, e3⟩ := c_all (d := 59) (m := 0) hC hT hL hS hN (by decide) hs
    have hr8 := w_rows_len T F N s 8
    obtain ⟨r, Z', f1, f2, f3⟩ := c_sum (L := fun acc n Z => x_EX 59 110 33 [some (.inr (.inr (some (0, 0)))), some (.inl ((s : Int))), some (.inl acc), some (.inl n)] [] (x_S Z t)) (g := q_gt T F N s) (R := w_rows T F N s 8) (Z0 := Z0) (t := t) (by
      intro acc n Z hn hk
      have hRn := hG.row hk hn
      have hW := hG.1.congr (fun g m i hg => hk g m i (by omega))
      have h6 := rows_lt T F N s hn
      have b6 : 0 ≤ (n : Int) ∧ (n : Int) < 256 := by omega
      show ∃ acc' Z2, x_EX 59 110 33 [some (.inr (.inr (some (0, 0)))), some (.inl ((s : Int))), some (.inl acc), some (.inl ((n : Int)))] [] (x_S Z t) = x_EX 59 110 33 [some (.inr (.inr (some (0, 0)))), some (.inl ((s : Int))), some (.inl acc'), some (.inl (((n + 1 : Nat) : Int)))] [] (x_S Z2 t) ∧ _
      rw [B110_33, hk 41 0 0 (by omega), hG.2.1, cn_nt (z := (n : Int)) rfl (by omega), cn_nt (z := ((w_rows T F N s 8).length : Int)) rfl (by omega), if_pos (by omega)]
      rw [if_pos b6, Int.toNat_natCast, hRn.1.2.2.2.2.2.2.1]
      unfold q_gt
      rcases w_ag_01 T N s ((w_rows T F N s 8).getD n 0) 8 with hb | hb
      · rw [hb, if_pos (by decide), if_neg (by decide)]
        exact ⟨_, _, rfl, by rw [show acc + ((0 : Nat) : Int) = acc from Int.add_zero _], hk⟩
      · rw [hb, if_neg (by decide), if_pos b6, if_pos rfl]
        exact ⟨_, _, rfl, cn_ad hRn.cas, hk⟩) (by
      intro acc Z hk
      show x_EX 59 110 33 [some (.inr (.inr (some (0, 0)))), some (.inl ((s : Int))), some (.inl acc), some (.inl (((w_rows T F N s 8).length : Int)))] [] (x_S Z t) = _
      rw [B110_33, hk 41 0 0 (by omega), hG.2.1, if_neg (Int.lt_irrefl _)]) (w_rows T F N s 8).length 0 0 Z0 (by omega) (fun _ _ _ _ => rfl)
    rw [if_neg (ite_01 _ h1), e1, Option.bind_some, B110_29] at c1
    exact ⟨r, Z', c1.trans f1, by rw [f2, Int.zero_add, List.drop_zero, q_sl_rows (fun m hm => by unfold q_gt; split; exact hm; rfl)], (kq_cw e3).trans (kq_kC f3)⟩
  · obtain ⟨Z2, g1, hE, g3⟩ := m_cps hI hT hN hH.2.2.1 (d := 59) (by decide) t (s := s) hs
    obtain ⟨r, Z', f1, f2, f3⟩ := m_sum (L := fun acc n Z => x_EX 59 227 19 [some (.inr (.inr (some (56, 0)))), some (.inl ((s : Int))), some (.inl acc), some (.inl n)] [] (x_S Z t)) (g := q_gt T F N s) (d := 59) (t := t) hT hs (by decide) hE (by
      intro acc set Z Z1 hset hE1 hL1 w1
      show ∃ acc' Z2, x_EX 59 227 19 [some (.inr (.inr (some (56, 0)))), some (.inl ((s : Int))), some (.inl acc), some (.inl ((set : Int)))] [] (x_S Z t) = x_EX 59 227 19 [some (.inr (.inr (some (56, 0)))), some (.inl ((s : Int))), some (.inl acc'), some (.inl (((set + 1 : Nat) : Int)))] [] (x_S Z2 t) ∧ _
      rw [B227_19, cn_nt (z := (set : Int)) rfl (by omega), if_pos (by omega), w1, Option.bind_some]
      have hco := w_co_lt (N := N) (set := set) hT hs 8
      have hst := w_st_le T N s set 8
      have hpc := q_pc_le (w_co T N s set 8) 10
      have lp : x_CALL 59 226 [.inl ((w_co T N s set 8 : Int))] (x_S Z1 t) = _ := (C226 59 Z1 t _ (by decide)).trans (m_bitc_loop (d := 58) (x := w_co T N s set 8) (by omega) t 10 0 (by omega))
      rw [B227_32, hL1.2.2.2.1, lp, Option.bind_some, B227_39, hL1.1, cn_nt (z := (w_st T N s set 8 : Int)) rfl (by omega), cn_nt (z := (q_pc (w_co T N s set 8) 10 : Int)) rfl (by omega)]
      unfold q_gt
      rcases w_ag_pc (N := N) (set := set) hT hs 8 with ⟨hb, hp⟩ | ⟨hb, hp⟩
      · rw [hb, if_pos (by omega), if_neg (by decide)]
        exact ⟨_, _, rfl, by rw [show acc + ((0 : Nat) : Int) = acc from Int.add_zero _], fun _ _ _ _ => rfl⟩
      · rw [hb, if_neg (by omega), if_pos rfl]
        exact ⟨_, _, rfl, cn_ad hL1.cas, fun _ _ _ _ => rfl⟩) (by
      intro acc Z
      show x_EX 59 227 19 [some (.inr (.inr (some (56, 0)))), some (.inl ((s : Int))), some (.inl acc), some (.inl 256)] [] (x_S Z t) = _
      rw [B227_19, if_neg (by decide)]) 256 0 0 Z2 (by omega) (fun _ _ _ _ => rfl)
    have m2 := m1 Z1 hI.1
    rw [if_neg (ite_01 _ h1), g1, Option.bind_some, B227_15] at m2
    exact ⟨r, Z', m2.trans f1, by rw [f2, Int.zero_add, range_sl], g3.trans (kq_kM f3)⟩
