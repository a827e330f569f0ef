/-! straight, miles, worth, passes, uses -/
def q_gl (T : PT) (F : PF) (N : PN) (s m : Nat) : Nat := w_ca T F N s m 8 * w_mi T N s m 8
theorem s18_ok : p_s18 PI := by
  intro a ha Z t ⟨T, F, N, H, K, v, u, nx, h⟩
  obtain ⟨ht, hT, hC, hM, hL, hML, hS, hR, hN, hH, _⟩ := id h
  have c1 := C102 60 Z t a (by decide)
  rw [c_hasS hC hT (by decide), Option.bind_some, B102_8, cn_id ha.1 ha.2] at c1
  have m1 : ∀ Z1, MT Z1 v T → x_CALL 60 218 [.inr (.inr (some (56, 0))), .inl a] (x_S Z1 t) = _ := fun Z1 hM1 => by rw [C218 60 Z1 t a (by decide), m_isS hM1 hT (by decide), Option.bind_some, B218_5, cn_id ha.1 ha.2]
  by_cases h1 : 0 ≤ a ∧ a < (T 2 0 : Int)
  case neg =>
    have m2 := m1 Z hM
    rw [if_pos (ite_00 _ h1)] at c1 m2; exact p_fin h c1 keepQ.rfl' m2 keepQ.rfl' rfl
  obtain ⟨s, rfl⟩ := Int.eq_ofNat_of_zero_le h1.1
  have hs : s < T 2 0 := by omega
  refine q_one h (X := cn (q_sl (q_gl T F N s) (List.range 256) : Int)) ?_ (fun Z1 hI => ?_)
  · obtain ⟨Z0, e1, hG, e3⟩ := c_all (d := 59) (m := 0) hC hT hL hS hN (by decide) hs
    have hr8 := w_rows_len T F N s 8
    obtain ⟨r, Z', f1, f2, f3⟩ := c_sum (L := fun acc n Z => x_EX 59 102 33 [some (.inr (.inr (some (0, 0)))), some (.inl ((s : Int))), some (.inl acc), some (.inl n)] [] (x_S Z t)) (g := q_gl T F N s) (R := w_rows T F N s 8) (Z0 := Z0) (t := t) (by
      intro acc n Z hn hk
      have hRn := hG.row hk hn
      have hW := hG.1.congr (fun g m i hg => hk g m i (by omega))
      have h6 := rows_lt T F N s hn
      have b6 : 0 ≤ (n : Int) ∧ (n : Int) < 256 := by omega
      show ∃ acc' Z2, x_EX 59 102 33 [some (.inr (.inr (some (0, 0)))), some (.inl ((s : Int))), some (.inl acc), some (.inl ((n : Int)))] [] (x_S Z t) = x_EX 59 102 33 [some (.inr (.inr (some (0, 0)))), some (.inl ((s : Int))), some (.inl acc'), some (.inl (((n + 1 : Nat) : Int)))] [] (x_S Z2 t) ∧ _
      rw [B102_33, hk 41 0 0 (by omega), hG.2.1, cn_nt (z := (n : Int)) rfl (by omega), cn_nt (z := ((w_rows T F N s 8).length : Int)) rfl (by omega), if_pos (by omega)]
      rw [if_pos b6, if_pos b6, Int.toNat_natCast, hRn.1.2.1]
      unfold q_gl
      exact ⟨_, _, rfl, cn_ad (by rw [cn_mul hRn.cas rfl]; rfl), hk⟩) (by
      intro acc Z hk
      show x_EX 59 102 33 [some (.inr (.inr (some (0, 0)))), some (.inl ((s : Int))), some (.inl acc), some (.inl (((w_rows T F N s 8).length : Int)))] [] (x_S Z t) = _
      rw [B102_33, hk 41 0 0 (by omega), hG.2.1, if_neg (Int.lt_irrefl _)]) (w_rows T F N s 8).length 0 0 Z0 (by omega) (fun _ _ _ _ => rfl)
    rw [if_neg (ite_01 _ h1), e1, Option.bind_some, B102_29] at c1
    exact ⟨r, Z', c1.trans f1, by rw [f2, Int.zero_add, List.drop_zero, q_sl_rows (fun m hm => by unfold q_gl; rw [hm, Nat.zero_mul])], (kq_cw e3).trans (kq_kC f3)⟩
  · obtain ⟨Z2, g1, hE, g3⟩ := m_cps hI hT hN hH.2.2.1 (d := 59) (by decide) t (s := s) hs
    obtain ⟨r, Z', f1, f2, f3⟩ := m_sum (L := fun acc n Z => x_EX 59 218 19 [some (.inr (.inr (some (56, 0)))), some (.inl ((s : Int))), some (.inl acc), some (.inl n)] [] (x_S Z t)) (g := q_gl T F N s) (d := 59) (t := t) hT hs (by decide) hE (by
      intro acc set Z Z1 hset hE1 hL1 w1
      show ∃ acc' Z2, x_EX 59 218 19 [some (.inr (.inr (some (56, 0)))), some (.inl ((s : Int))), some (.inl acc), some (.inl ((set : Int)))] [] (x_S Z t) = x_EX 59 218 19 [some (.inr (.inr (some (56, 0)))), some (.inl ((s : Int))), some (.inl acc'), some (.inl (((set + 1 : Nat) : Int)))] [] (x_S Z2 t) ∧ _
      rw [B218_19, cn_nt (z := (set : Int)) rfl (by omega), if_pos (by omega), w1, Option.bind_some]
      rw [B218_32, hL1.2.1]
      unfold q_gl
      exact ⟨_, _, rfl, cn_ad (by rw [Int.mul_comm, cn_mul hL1.cas rfl]; rfl), fun _ _ _ _ => rfl⟩) (by
      intro acc Z
      show x_EX 59 218 19 [some (.inr (.inr (some (56, 0)))), some (.inl ((s : Int))), some (.inl acc), some (.inl 256)] [] (x_S Z t) = _
      rw [B218_19, if_neg (by decide)]) 256 0 0 Z2 (by omega) (fun _ _ _ _ => rfl)
    have m2 := m1 Z1 hI.1
    rw [if_neg (ite_01 _ h1), g1, Option.bind_some, B218_15] at m2
    exact ⟨r, Z', m2.trans f1, by rw [f2, Int.zero_add, range_sl], g3.trans (kq_kM f3)⟩
def q_gs (T : PT) (F : PF) (N : PN) (s m : Nat) : Nat := if w_come T N s m = true then (if m = 0 then w_ca T F N s m 8 else 0) else 0
theorem q_gs_sum (T : PT) (F : PF) (N : PN) (s : Nat) : q_sl (q_gs T F N s) (List.range 256) = if w_come T N s 0 = true then w_ca T F N s 0 8 else 0 := by
  have hz : ∀ (n a : Nat), 0 < a → q_sl (q_gs T F N s) (List.range' a n) = 0 := by
    intro n
    induction n with
    | zero => intro a _; rfl
    | succ n ih =>
      intro a ha
      have h0 : q_gs T F N s a = 0 := by unfold q_gs; rw [if_neg (show ¬ a = 0 by omega)]; split <;> rfl
      rw [List.range'_succ, q_sl, ih (a + 1) (by omega), h0]
  rw [← range_sl, List.range'_succ, q_sl, hz 255 1 (by decide), Nat.add_zero]
  unfold q_gs
  rw [if_pos rfl]
theorem s17_ok : p_s17 PI := by
  intro a ha Z t ⟨T, F, N, H, K, v, u, nx, h⟩
  obtain ⟨ht, hT, hC, hM, hL, hML, hS, hR, hN, hH, _⟩ := id h
  have c1 := C101 60 Z t a (by decide)
  rw [c_hasS hC hT (by decide), Option.bind_some, B101_8, cn_id ha.1 ha.2] at c1
  have m1 : ∀ Z1, MT Z1 v T → x_CALL 60 217 [.inr (.inr (some (56, 0))), .inl a] (x_S Z1 t) = _ := fun Z1 hM1 => by rw [C217 60 Z1 t a (by decide), m_isS hM1 hT (by decide), Option.bind_some, B217_5, cn_id ha.1 ha.2]
  by_cases h1 : 0 ≤ a ∧ a < (T 2 0 : Int)
  case neg =>
    have m2 := m1 Z hM
    rw [if_pos (ite_00 _ h1)] at c1 m2; exact p_fin h c1 keepQ.rfl' m2 keepQ.rfl' rfl
  obtain ⟨s, rfl⟩ := Int.eq_ofNat_of_zero_le h1.1
  have hs : s < T 2 0 := by omega
  refine q_one h (X := cn (q_sl (q_gs T F N s) (List.range 256) : Int)) ?_ (fun Z1 hI => ?_)
  · obtain ⟨Z0, e1, hG, e3⟩ := c_all (d := 59) (m := 0) hC hT hL hS hN (by decide) hs
    have hr8 := w_rows_len T F N s 8
    obtain ⟨r, Z', f1, f2, f3⟩ := c_sum (L := fun acc n Z => x_EX 59 101 33 [some (.inr (.inr (some (0, 0)))), some (.inl ((s : Int))), some (.inl acc), some (.inl n)] [] (x_S Z t)) (g := q_gs T F N s) (R := w_rows T F N s 8) (Z0 := Z0) (t := t) (by
      intro acc n Z hn hk
      have hRn := hG.row hk hn
      have hW := hG.1.congr (fun g m i hg => hk g m i (by omega))
      have h6 := rows_lt T F N s hn
      have b6 : 0 ≤ (n : Int) ∧ (n : Int) < 256 := by omega
      show ∃ acc' Z2, x_EX 59 101 33 [some (.inr (.inr (some (0, 0)))), some (.inl ((s : Int))), some (.inl acc), some (.inl ((n : Int)))] [] (x_S Z t) = x_EX 59 101 33 [some (.inr (.inr (some (0, 0)))), some (.inl ((s : Int))), some (.inl acc'), some (.inl (((n + 1 : Nat) : Int)))] [] (x_S Z2 t) ∧ _
      rw [B101_33, hk 41 0 0 (by omega), hG.2.1, cn_nt (z := (n : Int)) rfl (by omega), cn_nt (z := ((w_rows T F N s 8).length : Int)) rfl (by omega), if_pos (by omega)]
      rw [c_came hT hs hW hRn h6 (by decide) t, Option.bind_some, B101_52]
      have hm := hRn.2.2
      unfold q_gs
      by_cases hb : w_come T N s ((w_rows T F N s 8).getD n 0) = true
      · rw [if_neg (ite_01 _ hb), if_pos hb, cn_nt (z := (n : Int)) rfl (by omega), if_pos b6, Int.toNat_natCast, hRn.1.2.2.2.1, cn_nt (z := (((w_rows T F N s 8).getD n 0 : Nat) : Int)) rfl (by omega)]
        by_cases hz : (w_rows T F N s 8).getD n 0 = 0
        · rw [if_pos (by omega), if_pos b6, if_pos hz]
          exact ⟨_, _, rfl, cn_ad hRn.cas, hk⟩
        · rw [if_neg (by omega), if_neg hz]
          exact ⟨_, _, rfl, by rw [show acc + ((0 : Nat) : Int) = acc from Int.add_zero _], hk⟩
      · rw [if_pos (ite_00 _ hb), if_neg hb]
        exact ⟨_, _, rfl, by rw [show acc + ((0 : Nat) : Int) = acc from Int.add_zero _], hk⟩) (by
      intro acc Z hk
      show x_EX 59 101 33 [some (.inr (.inr (some (0, 0)))), some (.inl ((s : Int))), some (.inl acc), some (.inl (((w_rows T F N s 8).length : Int)))] [] (x_S Z t) = _
      rw [B101_33, hk 41 0 0 (by omega), hG.2.1, if_neg (Int.lt_irrefl _)]) (w_rows T F N s 8).length 0 0 Z0 (by omega) (fun _ _ _ _ => rfl)
    rw [if_neg (ite_01 _ h1), e1, Option.bind_some, B101_29] at c1
    exact ⟨r, Z', c1.trans f1, by rw [f2, Int.zero_add, List.drop_zero, q_sl_rows (fun m hm => by unfold q_gs; split; split; exact hm; rfl; rfl)], (kq_cw e3).trans (kq_kC f3)⟩
  · obtain ⟨Z2, g1, hE, g3⟩ := m_cps hI hT hN hH.2.2.1 (d := 59) (by decide) t (s := s) hs
    obtain ⟨Z3, w1, w2, w3⟩ := m_walks (d := 59) hE.1 hT hE.2.2.2.1 (by decide) t hs (set := 0) (by decide)
    have k1 : kM Z2 Z3 := fun g m i hg => w3 g m i (by unfold wsc at hg; omega)
    have m2 := m1 Z1 hI.1
    rw [if_neg (ite_01 _ h1), g1, Option.bind_some, B217_15, show (0 : Int) = ((0 : Nat) : Int) from rfl, w1, Option.bind_some, B217_21, m_come (hE.congr k1).1 hT w2 (by decide) t hs, Option.bind_some, B217_25] at m2
    rw [q_gs_sum]
    by_cases hb : w_come T N s 0 = true
    · rw [if_neg (ite_01 _ hb)] at m2
      rw [if_pos hb]
      exact ⟨_, Z3, m2, w2.cas, g3.trans (kq_kM k1)⟩
    · rw [if_pos (ite_00 _ hb)] at m2
      rw [if_neg hb]
      exact ⟨_, Z3, m2, rfl, g3.trans (kq_kM k1)⟩
def q_gw (T : PT) (F : PF) (N : PN) (s m : Nat) : Nat := if w_buy T N s m = true then w_ca T F N s m 8 * w_am T F N s 1 m else 0
theorem s21_ok : p_s21 PI := by
  intro a ha Z t ⟨T, F, N, H, K, v, u, nx, h⟩
  obtain ⟨ht, hT, hC, hM, hL, hML, hS, hR, hN, hH, _⟩ := id h
  have c1 := C105 60 Z t a (by decide)
  rw [c_hasS hC hT (by decide), Option.bind_some, B105_8, cn_id ha.1 ha.2] at c1
  have m1 : ∀ Z1, MT Z1 v T → x_CALL 60 222 [.inr (.inr (some (56, 0))), .inl a] (x_S Z1 t) = _ := fun Z1 hM1 => by rw [C222 60 Z1 t a (by decide), m_isS hM1 hT (by decide), Option.bind_some, B222_5, cn_id ha.1 ha.2]
  by_cases h1 : 0 ≤ a ∧ a < (T 2 0 : Int)
  case neg =>
    have m2 := m1 Z hM
    rw [if_pos (ite_00 _ h1)] at c1 m2; exact p_fin h c1 keepQ.rfl' m2 keepQ.rfl' rfl
  obtain ⟨s, rfl⟩ := Int.eq_ofNat_of_zero_le h1.1
  have hs : s < T 2 0 := by omega
  refine q_one h (X := cn (q_sl (q_gw T F N s) (List.range 256) : Int)) ?_ (fun Z1 hI => ?_)
  · obtain ⟨Z0, e1, hG, e3⟩ := c_all (d := 59) (m := 0) hC hT hL hS hN (by decide) hs
    have hr8 := w_rows_len T F N s 8
    have hC0 : CT Z0 t T := hC.congr (fun g i a b c d => e3 _ _ _ (by omega))
    have hL0 : CLaw Z0 t F := hL.congr (fun g i a b => e3 _ _ _ (by omega))
    have hS0 : CS Z0 0 N := hS.congr (fun i => e3 _ _ _ (by omega)) (fun i => e3 _ _ _ (by omega)) (fun i => e3 _ _ _ (by omega))
    obtain ⟨r, Z', f1, f2, f3⟩ := c_sum (L := fun acc n Z => x_EX 59 105 33 [some (.inr (.inr (some (0, 0)))), some (.inl ((s : Int))), some (.inl acc), some (.inl n)] [] (x_S Z t)) (g := q_gw T F N s) (R := w_rows T F N s 8) (Z0 := Z0) (t := t) (by
      intro acc n Z hn hk
      have hRn := hG.row hk hn
      have hW := hG.1.congr (fun g m i hg => hk g m i (by omega))
      have h6 := rows_lt T F N s hn
      have b6 : 0 ≤ (n : Int) ∧ (n : Int) < 256 := by omega
      show ∃ acc' Z2, x_EX 59 105 33 [some (.inr (.inr (some (0, 0)))), some (.inl ((s : Int))), some (.inl acc), some (.inl ((n : Int)))] [] (x_S Z t) = x_EX 59 105 33 [some (.inr (.inr (some (0, 0)))), some (.inl ((s : Int))), some (.inl acc'), some (.inl (((n + 1 : Nat) : Int)))] [] (x_S Z2 t) ∧ _
      rw [B105_33, hk 41 0 0 (by omega), hG.2.1, cn_nt (z := (n : Int)) rfl (by omega), cn_nt (z := ((w_rows T F N s 8).length : Int)) rfl (by omega), if_pos (by omega)]
      rw [c_buy hT hs hW hRn h6 (by decide) t, Option.bind_some, B105_52]
      unfold q_gw
      by_cases hb : w_buy T N s ((w_rows T F N s 8).getD n 0) = true
      · have hmi := w_mi_le (N := N) (s := s) (set := (w_rows T F N s 8).getD n 0) hT 8
        have ha := w_am_eq (F := F) (N := N) (s := s) (k := 1) (m := (w_rows T F N s 8).getD n 0) hT
        obtain ⟨r, Z2, g1, g2, g3⟩ := c_miles (d := 59) (m := 0) (s := s) (k := 1) (mi := w_mi T N s ((w_rows T F N s 8).getD n 0) 8) (hC0.congr (fun g i a b c d => hk _ _ _ (by omega))) hT (hL0.congr (fun g i a b => hk _ _ _ (by omega))) (hS0.congr (fun i => hk _ _ _ (by omega)) (fun i => hk _ _ _ (by omega)) (fun i => hk _ _ _ (by omega))) hN (by decide) hs (by decide) (by omega)
        rw [if_neg (ite_01 _ hb), if_pos hb, cn_nt (z := (n : Int)) rfl (by omega), if_pos b6, if_pos b6, Int.toNat_natCast, hRn.1.2.1, show (1 : Int) = ((1 : Nat) : Int) from rfl, g1, Option.bind_some, B105_87]
        refine ⟨_, _, rfl, cn_ad ?_, fun g m i hg => (g3 g m i hg).trans (hk g m i hg)⟩
        rw [cn_mul hRn.cas (show cn r = cn (w_am T F N s 1 ((w_rows T F N s 8).getD n 0) : Int) by rw [g2, ha.1, cn_nt rfl (by omega)])]; rfl
      · rw [if_pos (ite_00 _ hb), if_neg hb]
        exact ⟨_, _, rfl, by rw [show acc + ((0 : Nat) : Int) = acc from Int.add_zero _], hk⟩) (by
      intro acc Z hk
      show x_EX 59 105 33 [some (.inr (.inr (some (0, 0)))), some (.inl ((s : Int))), some (.inl acc), some (.inl (((w_rows T F N s 8).length : Int)))] [] (x_S Z t) = _
      rw [B105_33, hk 41 0 0 (by omega), hG.2.1, if_neg (Int.lt_irrefl _)]) (w_rows T F N s 8).length 0 0 Z0 (by omega) (fun _ _ _ _ => rfl)
    rw [if_neg (ite_01 _ h1), e1, Option.bind_some, B105_29] at c1
    exact ⟨r, Z', c1.trans f1, by rw [f2, Int.zero_add, List.drop_zero, q_sl_rows (fun m hm => by unfold q_gw; split; rw [hm, Nat.zero_mul]; rfl)], (kq_cw e3).trans (kq_kC f3)⟩
  · obtain ⟨Z2, g1, hE, g3⟩ := m_cps hI hT hN hH.2.2.1 (d := 59) (by decide) t (s := s) hs
    obtain ⟨r, Z', f1, f2, f3⟩ := m_sum (L := fun acc n Z => x_EX 59 222 19 [some (.inr (.inr (some (56, 0)))), some (.inl ((s : Int))), some (.inl acc), some (.inl n)] [] (x_S Z t)) (g := q_gw T F N s) (d := 59) (t := t) hT hs (by decide) hE (by
      intro acc set Z Z1 hset hE1 hL1 w1
      show ∃ acc' Z2, x_EX 59 222 19 [some (.inr (.inr (some (56, 0)))), some (.inl ((s : Int))), some (.inl acc), some (.inl ((set : Int)))] [] (x_S Z t) = x_EX 59 222 19 [some (.inr (.inr (some (56, 0)))), some (.inl ((s : Int))), some (.inl acc'), some (.inl (((set + 1 : Nat) : Int)))] [] (x_S Z2 t) ∧ _
      rw [B222_19, cn_nt (z := (set : Int)) rfl (by omega), if_pos (by omega), w1, Option.bind_some]
      have hcl := w_ca_le T F N s set 8
      rw [B222_32, hL1.2.2.2.2.1]
      unfold q_gw
      by_cases hz : w_ca T F N s set 8 = 0
      · have e0 : (if w_buy T N s set = true then w_ca T F N s set 8 * w_am T F N s 1 set else 0) = 0 := by rw [hz, Nat.zero_mul]; split <;> rfl
        rw [if_neg (by omega), e0]
        exact ⟨_, _, rfl, by rw [show acc + ((0 : Nat) : Int) = acc from Int.add_zero _], fun _ _ _ _ => rfl⟩
      · rw [if_pos (by omega), m_buy hE1 hT hL1 (by decide) t hs hset, Option.bind_some, B222_45]
        by_cases hb : w_buy T N s set = true
        · have hmi := w_mi_le (N := N) (s := s) (set := set) hT 8
          have ha := w_am_eq (F := F) (N := N) (s := s) (k := 1) (m := set) hT
          obtain ⟨r, Z3, g1, g2, g3⟩ := m_amount (d := 59) (s := s) (k := 1) (mi := w_mi T N s set 8) hE1.1 hE1.2.1 hT hE1.2.2.1 hN (by decide) t hs (by decide) (by omega)
          rw [if_neg (ite_01 _ hb), if_pos hb, hL1.2.1, show (1 : Int) = ((1 : Nat) : Int) from rfl, g1, Option.bind_some, B222_63]
          refine ⟨_, _, rfl, cn_ad ?_, fun g m i hg => g3 g m i (by unfold wsc at hg; omega) (by unfold wsc at hg; omega) (by unfold wsc at hg; omega)⟩
          rw [cn_mul hL1.cas (show cn r = cn (w_am T F N s 1 set : Int) by rw [g2, ha.1, cn_nt rfl (by omega)])]; rfl
        · rw [if_pos (ite_00 _ hb), if_neg hb]
          exact ⟨_, _, rfl, by rw [show acc + ((0 : Nat) : Int) = acc from Int.add_zero _], fun _ _ _ _ => rfl⟩) (by
      intro acc Z
      show x_EX 59 222 19 [some (.inr (.inr (some (56, 0)))), some (.inl ((s : Int))), some (.inl acc), some (.inl 256)] [] (x_S Z t) = _
      rw [B222_19, if_neg (by decide)]) 256 0 0 Z2 (by omega) (fun _ _ _ _ => rfl)
    have m2 := m1 Z1 hI.1
    rw [if_neg (ite_01 _ h1), g1, Option.bind_some, B222_15] at m2
    exact ⟨r, Z', m2.trans f1, by rw [f2, Int.zero_add, range_sl], g3.trans (kq_kM f3)⟩
