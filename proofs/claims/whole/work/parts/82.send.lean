/-! walk, year, send -/
theorem kq_wm {Z Z' : XZ} (h : ∀ g m i, ¬ (wsc g i ∨ (95 ≤ g ∧ g ≤ 98)) → Z' g m i = Z g m i) : keepQ Z Z' := fun g m i hs => h g m i (by unfold scr at hs; unfold wsc; omega)
theorem s33_ok : p_s33 PI := by
  intro a b ha hb Z t ⟨T, F, N, H, K, v, u, nx, h⟩
  obtain ⟨ht, hT, hC, hM, hL, hML, hS, hR, hN, hH, _⟩ := id h
  have t0 : T 0 0 ≤ 7 := hT.1
  have c1 := C119 60 Z t a b (by decide)
  rw [c_hasS hC hT (by decide), Option.bind_some, B119_8, cn_id ha.1 ha.2, cn_id hb.1 hb.2] at c1
  have m1 : ∀ Z1, MT Z1 v T → x_CALL 60 235 [.inr (.inr (some (56, 0))), .inl a, .inl b] (x_S Z1 t) = _ := fun Z1 hM1 => by rw [C235 60 Z1 t a b (by decide), m_isS hM1 hT (by decide), Option.bind_some, B235_5, cn_id ha.1 ha.2]
  by_cases h1 : 0 ≤ a ∧ a < (T 2 0 : Int)
  case neg =>
    have m2 := m1 Z hM
    rw [if_pos (ite_00 _ h1)] at c1 m2; exact p_fin h c1 keepQ.rfl' m2 keepQ.rfl' rfl
  obtain ⟨s, rfl⟩ := Int.eq_ofNat_of_zero_le h1.1
  have hs : s < T 2 0 := by omega
  rw [if_neg (ite_01 _ h1)] at c1
  have m3 : ∀ Z1, MT Z1 v T → x_CALL 60 235 [.inr (.inr (some (56, 0))), .inl ((s : Int)), .inl b] (x_S Z1 t) = _ := fun Z1 hM1 => by rw [m1 Z1 hM1, if_neg (ite_01 _ h1), m_in (by decide), Option.bind_some, B235_14, cn_id hb.1 hb.2, cn_id (z := 0) (by decide) (by decide), cn_id (z := 4) (by decide) (by decide)]
  by_cases h2 : 0 ≤ b ∧ b ≤ 4
  case neg =>
    have m2 := m3 Z hM
    rw [if_pos (ite_00 _ h2)] at m2
    by_cases h0 : b < 0
    · rw [if_pos h0] at c1; exact p_fin h c1 keepQ.rfl' m2 keepQ.rfl' rfl
    · rw [if_neg h0, if_pos (by omega)] at c1; exact p_fin h c1 keepQ.rfl' m2 keepQ.rfl' rfl
  have hm8 := w_lm_lt T F N s (T 13 0 : Int) 8
  obtain ⟨Z1, e1, e2, e3, e4⟩ := c_lot (d := 59) (m := 0) hC hT hL hS hN (by decide) hs (T 13 0 : Int)
  have hq1 := kq_cw e4
  obtain ⟨Z2, g1, g2, g3, g4, g5, _⟩ := m_crr (h.mi.congr (fun g m i _ _ hs => hq1 g m i hs)) hT hH.2.2.1 (d := 59) (by decide) t
  obtain ⟨Z3, f1, f2, f3, f4⟩ := m_lot (d := 59) g2.1 g2.2.1 g3 hT hN (by decide) t hs g4
  have hq3 := g5.trans (kq_wm f4)
  have m2 := m3 Z1 (hM.congr (fun g i a b => hq1 _ _ _ (by unfold scr; omega)) (hq1 _ _ _ (by unfold scr; omega)))
  rw [if_neg (by omega), if_neg (by omega), hC.1 13 (by omega), e1, Option.bind_some, B119_45, cn_id hb.1 hb.2] at c1
  rw [if_neg (ite_01 _ h2), g1, Option.bind_some, B235_23, f1, Option.bind_some, B235_28, cn_id hb.1 hb.2] at m2
  by_cases b0 : b = 0
  · rw [if_pos b0] at c1 m2; exact p_fin h c1 hq1 m2 hq3 (by rw [e3.1, f3.2.2.2.2.2 8 (by omega)])
  rw [if_neg b0] at c1 m2
  by_cases b1 : b = 1
  · rw [if_pos b1] at c1 m2; exact p_fin h c1 hq1 m2 hq3 (by rw [e3.2.1, f3.2.1])
  rw [if_neg b1] at c1 m2
  by_cases b2 : b = 2
  · rw [if_pos b2] at c1 m2; exact p_fin h c1 hq1 m2 hq3 (by rw [e3.2.2.1, f3.1])
  rw [if_neg b2] at c1 m2
  by_cases b3 : b = 3
  · rw [if_pos b3] at c1 m2; exact p_fin h c1 hq1 m2 hq3 (by rw [e3.2.2.2.1])
  rw [if_neg b3, show (0 : Int) = ((0 : Nat) : Int) from rfl, c_buyW hT hs e2 e3 (by omega) (by decide) (by decide) t, Option.bind_some, B119_124] at c1
  rw [if_neg b3, m_buy f2 hT f3 (by decide) t hs (by omega), Option.bind_some, B235_86] at m2
  by_cases hb : w_buy T N s (w_lm T F N s (T 13 0 : Int) 8) = true
  · rw [if_neg (ite_01 _ hb)] at c1 m2; exact p_fin h c1 hq1 m2 hq3 rfl
  · rw [if_pos (ite_00 _ hb)] at c1 m2; exact p_fin h c1 hq1 m2 hq3 rfl
def q_yr (T : PT) (F : PF) (N : PN) (s n : Nat) : Nat := match n with
  | 0 => 0
  | n + 1 => q_yr T F N s n + (if w_buy T N s (w_lm T F N s ((T 13 0 : Int) + (n : Int)) 8) = true then 1 else 0)
theorem c_yr_loop {T : PT} {F : PF} {N : PN} {t s n : Nat} (hT : TOK T) (hN : NOK N) (hs : s < T 2 0) (hn : n ≤ 20) : ∀ (j k : Nat) (Z : XZ), k + j = n → CT Z t T → CLaw Z t F → CS Z 0 N → ∃ Z' : XZ, x_EX 59 121 29 [some (.inr (.inr (some (0, 0)))), some (.inl ((s : Int))), some (.inl ((n : Int))), some (.inl ((q_yr T F N s k : Int))), some (.inl ((k : Int)))] [] (x_S Z t) = some ((q_yr T F N s n : Int), x_S Z' t) ∧ keepQ Z Z' := by
  intro j
  induction j with
  | zero =>
    intro k Z hk hC hL hS
    obtain rfl : k = n := by omega
    rw [B121_29, if_neg (Int.lt_irrefl _)]
    exact ⟨Z, rfl, keepQ.rfl'⟩
  | succ j ih =>
    intro k Z hk hC hL hS
    have hm8 := w_lm_lt T F N s ((T 13 0 : Int) + (k : Int)) 8
    obtain ⟨Z1, e1, e2, e3, e4⟩ := c_lot (d := 59) (m := 0) hC hT hL hS hN (by decide) hs ((T 13 0 : Int) + (k : Int))
    obtain ⟨Z2, f1, f2⟩ := ih (k + 1) Z1 (by omega) (hC.congr (fun g i a b c d => e4 _ _ _ (by omega))) (hL.congr (fun g i a b => e4 _ _ _ (by omega))) (hS.congr (fun i => e4 _ _ _ (by omega)) (fun i => e4 _ _ _ (by omega)) (fun i => e4 _ _ _ (by omega)))
    rw [q_yr] at f1
    have eb : x_CALL 59 71 [.inr (.inr (some (41, 0))), .inl 0] (x_S Z1 t) = _ := c_buyW (n := 0) hT hs e2 e3 (by omega) (by decide) (d := 59) (by decide) t
    rw [B121_29, cn_nt (z := (k : Int)) rfl (by omega), cn_nt (z := (n : Int)) rfl (by omega), if_pos (by omega), hC.1 13 (by omega), e1, Option.bind_some, B121_61, eb, Option.bind_some, B121_69]
    by_cases hb : w_buy T N s (w_lm T F N s ((T 13 0 : Int) + (k : Int)) 8) = true
    · rw [if_pos hb] at f1
      rw [if_neg (ite_01 _ hb)]
      exact ⟨Z2, f1, (kq_cw e4).trans f2⟩
    · rw [if_neg hb] at f1
      rw [if_pos (ite_00 _ hb)]
      exact ⟨Z2, f1, (kq_cw e4).trans f2⟩
theorem m_yr_loop {T : PT} {F : PF} {N : PN} {v s n : Nat} (hT : TOK T) (hN : NOK N) (hs : s < T 2 0) (hn : n ≤ 20) (t : Nat) : ∀ (j k : Nat) (Z : XZ) (o5 : Option XV), k + j = n → MT Z v T → MLaw Z v F → MR Z 94 0 N → Z 56 0 56 = (T 13 0 : Int) + (k : Int) → ∃ Z' : XZ, x_EX 59 237 29 [some (.inr (.inr (some (56, 0)))), some (.inl ((s : Int))), some (.inl ((n : Int))), some (.inl ((q_yr T F N s k : Int))), some (.inl ((k : Int))), o5] [] (x_S Z t) = some ((q_yr T F N s n : Int), x_S Z' t) ∧ keepQ Z Z' := by
  intro j
  induction j with
  | zero =>
    intro k Z o5 hk hM hL hR hsd
    obtain rfl : k = n := by omega
    rw [B237_29, if_neg (Int.lt_irrefl _)]
    exact ⟨Z, rfl, keepQ.rfl'⟩
  | succ j ih =>
    intro k Z o5 hk hM hL hR hsd
    have hm8 := w_lm_lt T F N s ((T 13 0 : Int) + (k : Int)) 8
    obtain ⟨Z1, e1, e2, e3, e4⟩ := m_lot (d := 59) hM hL hR hT hN (by decide) t hs hsd
    have kz : ∀ g m i, ¬ (wsc g i ∨ (95 ≤ g ∧ g ≤ 98) ∨ (g = 56 ∧ i = 56)) → x_u Z1 56 0 56 ((T 13 0 : Int) + (k : Int) + 1) g m i = Z g m i := fun g m i hg => by rw [x_u_ne (by omega)]; exact e4 g m i (by unfold wsc at hg ⊢; omega)
    have hq : keepQ Z (x_u Z1 56 0 56 ((T 13 0 : Int) + (k : Int) + 1)) := fun g m i hs => kz g m i (by unfold scr at hs; unfold wsc; omega)
    obtain ⟨Z2, f1, f2⟩ := ih (k + 1) (x_u Z1 56 0 56 ((T 13 0 : Int) + (k : Int) + 1)) (some (.inl (w_lm T F N s ((T 13 0 : Int) + (k : Int)) 8 : Int))) (by omega) (hM.congr (fun g i a b => kz _ _ _ (by unfold wsc; omega)) (kz _ _ _ (by unfold wsc; omega))) (hL.congr (fun g a b => funext fun m => funext fun i => kz _ _ _ (by unfold wsc; omega))) (hR.congr (fun i => kz _ _ _ (by unfold wsc; omega))) (by rw [x_u_eq, Int.add_assoc]; rfl)
    rw [q_yr] at f1
    rw [B237_29, cn_nt (z := (k : Int)) rfl (by omega), cn_nt (z := (n : Int)) rfl (by omega), if_pos (by omega), e1, Option.bind_some, B237_40, m_buy e2 hT e3 (by decide) t hs (by omega), Option.bind_some, B237_49, e4 56 0 56 (by unfold wsc; omega), hsd]
    by_cases hb : w_buy T N s (w_lm T F N s ((T 13 0 : Int) + (k : Int)) 8) = true
    · rw [if_pos hb] at f1
      rw [if_neg (ite_01 _ hb)]
      exact ⟨Z2, f1, hq.trans f2⟩
    · rw [if_neg hb] at f1
      rw [if_pos (ite_00 _ hb)]
      exact ⟨Z2, f1, hq.trans f2⟩
theorem s35_ok : p_s35 PI := by
  intro a b ha hb Z t ⟨T, F, N, H, K, v, u, nx, h⟩
  obtain ⟨ht, hT, hC, hM, hL, hML, hS, hR, hN, hH, _⟩ := id h
  have c1 := C121 60 Z t a b (by decide)
  rw [c_hasS hC hT (by decide), Option.bind_some, B121_8, cn_id ha.1 ha.2, cn_id hb.1 hb.2] at c1
  have m1 : ∀ Z1, MT Z1 v T → x_CALL 60 237 [.inr (.inr (some (56, 0))), .inl a, .inl b] (x_S Z1 t) = _ := fun Z1 hM1 => by rw [C237 60 Z1 t a b (by decide), m_isS hM1 hT (by decide), Option.bind_some, B237_5, cn_id ha.1 ha.2]
  by_cases h1 : 0 ≤ a ∧ a < (T 2 0 : Int)
  case neg =>
    have m2 := m1 Z hM
    rw [if_pos (ite_00 _ h1)] at c1 m2; exact p_fin h c1 keepQ.rfl' m2 keepQ.rfl' rfl
  obtain ⟨s, rfl⟩ := Int.eq_ofNat_of_zero_le h1.1
  have hs : s < T 2 0 := by omega
  rw [if_neg (ite_01 _ h1)] at c1
  have m3 : ∀ Z1, MT Z1 v T → x_CALL 60 237 [.inr (.inr (some (56, 0))), .inl ((s : Int)), .inl b] (x_S Z1 t) = _ := fun Z1 hM1 => by rw [m1 Z1 hM1, if_neg (ite_01 _ h1), m_in (by decide), Option.bind_some, B237_15, cn_id hb.1 hb.2, cn_id (z := 1) (by decide) (by decide), cn_id (z := 20) (by decide) (by decide)]
  by_cases h2 : 1 ≤ b ∧ b ≤ 20
  case neg =>
    have m2 := m3 Z hM
    rw [if_pos (ite_00 _ h2)] at m2
    by_cases h0 : b < 1
    · rw [if_pos h0] at c1; exact p_fin h c1 keepQ.rfl' m2 keepQ.rfl' rfl
    · rw [if_neg h0, if_pos (by omega)] at c1; exact p_fin h c1 keepQ.rfl' m2 keepQ.rfl' rfl
  obtain ⟨n, rfl⟩ := Int.eq_ofNat_of_zero_le (show 0 ≤ b by omega)
  rw [if_neg (by omega), if_neg (by omega)] at c1
  refine q_one h (X := cn (q_yr T F N s n : Int)) ?_ (fun Z1 hI => ?_)
  · obtain ⟨Z', f1, f2⟩ := c_yr_loop (F := F) (n := n) hT hN hs (by omega) n 0 Z (by omega) hC hL hS
    exact ⟨_, Z', c1.trans f1, rfl, f2⟩
  · obtain ⟨Z2, g1, g2, g3, g4, g5, _⟩ := m_crr hI hT hH.2.2.1 (d := 59) (by decide) t
    obtain ⟨Z', f1, f2⟩ := m_yr_loop (F := F) (n := n) hT hN hs (by omega) t n 0 Z2 none (by omega) g2.1 g2.2.1 g3 (by rw [g4]; exact (Int.add_zero _).symm)
    have m2 := m3 Z1 hI.1
    rw [if_neg (ite_01 _ h2), g1, Option.bind_some, B237_24] at m2
    exact ⟨_, Z', m2.trans f1, rfl, g5.trans f2⟩
theorem CS.up3 {Z : XZ} {m : Nat} {N : PN} {a b : Int} (h : CS Z m N) (e : cn a = cn b) : CS (x_u Z 28 m 3 a) m (q_nu N 14 b) := by
  obtain ⟨h1, h2, h3, h4, h5, h6⟩ := h
  refine ⟨?_, ?_, ?_, ?_, ?_, ?_⟩
  · intro j hj; unfold q_sg; rw [x_u_ne (by omega), q_nu_ne (by omega)]; exact h1 j hj
  · intro j hj; rw [x_u_ne (by omega), q_nu_ne (by omega)]; exact h2 j hj
  · rw [x_u_ne (by omega), q_nu_ne (by omega)]; exact h3
  · rw [x_u_ne (by omega), q_nu_ne (by omega)]; exact h4
  · rw [x_u_ne (by omega), q_nu_ne (by omega)]; exact h5
  · rw [x_u_eq, q_nu_eq]; exact e
theorem CS.up2 {Z : XZ} {m : Nat} {N : PN} {a : Int} (h : CS Z m N) : CS (x_u Z 28 m 2 a) m (q_nu N 15 a) := by
  obtain ⟨h1, h2, h3, h4, h5, h6⟩ := h
  refine ⟨?_, ?_, ?_, ?_, ?_, ?_⟩
  · intro j hj; unfold q_sg; rw [x_u_ne (by omega), q_nu_ne (by omega)]; exact h1 j hj
  · intro j hj; rw [x_u_ne (by omega), q_nu_ne (by omega)]; exact h2 j hj
  · rw [x_u_ne (by omega), q_nu_ne (by omega)]; exact h3
  · rw [x_u_ne (by omega), q_nu_ne (by omega)]; exact h4
  · rw [x_u_eq, q_nu_eq]
  · rw [x_u_ne (by omega), q_nu_ne (by omega)]; exact h6
theorem q_am_nu {T : PT} {F : PF} {N : PN} {s k : Nat} {mi a : Int} (hs : s < 5) : q_am T F (q_nu N s a) s mi k = q_am T F N s mi k := by
  unfold q_am
  have : ∀ a0 a1 a3 a5 a6 a8 : Int, q_env a0 a1 a3 a5 a6 a8 (q_nu N s a) = q_env a0 a1 a3 a5 a6 a8 N := fun a0 a1 a3 a5 a6 a8 => by
    funext i; unfold q_env q_raw; rw [q_nu_ne (by omega), q_nu_ne (by omega), q_nu_ne (by omega)]
  simp only [this]
theorem s9_ok : p_s9 PI := by
  intro a ha Z t ⟨T, F, N, H, K, v, u, nx, h⟩
  obtain ⟨ht, hT, hC, hM, hL, hML, hS, hR, hN, hH, _⟩ := id h
  have t2 : T 2 0 ≤ 5 := hT.2.2.1
  have n15 := hN.2.2.2
  have c1 := C93 60 Z t a (by decide)
  rw [c_hasS hC hT (by decide), Option.bind_some, B93_8, cn_id ha.1 ha.2] at c1
  have m1 : ∀ Z1, MT Z1 v T → x_CALL 60 206 [.inr (.inr (some (56, 0))), .inl a] (x_S Z1 t) = _ := fun Z1 hM1 => by rw [C206 60 Z1 t a (by decide), m_isS hM1 hT (by decide), Option.bind_some, B206_5, cn_id ha.1 ha.2]
  by_cases h1 : 0 ≤ a ∧ a < (T 2 0 : Int)
  case neg =>
    have m2 := m1 Z hM
    rw [if_pos (ite_00 _ h1)] at c1 m2; exact p_fin h c1 keepQ.rfl' m2 keepQ.rfl' rfl
  obtain ⟨s, rfl⟩ := Int.eq_ofNat_of_zero_le h1.1
  have hs : s < T 2 0 := by omega
  have ns := hN.1 s (by omega)
  have r15 := hR 15 (by decide)
  have rs := hR s (by omega)
  rw [Nat.zero_add] at r15 rs
  have b16 : 0 ≤ (s : Int) ∧ (s : Int) < 16 := by omega
  have m3 : ∀ Z1, MT Z1 v T → Z1 93 0 s = N s → Z1 93 0 15 = N 15 → x_CALL 60 206 [.inr (.inr (some (56, 0))), .inl ((s : Int))] (x_S Z1 t) = _ := fun Z1 hM1 y1 y2 => by rw [m1 Z1 hM1, if_neg (ite_01 _ h1), if_pos b16, Int.toNat_natCast, y1, y2, cn_id (z := N s) (by omega) (by omega), cn_id (z := N 15) (by omega) (by omega)]
  rw [if_neg (ite_01 _ h1), C42 _ _ _ _ (by decide), hS.2.2.2.2.1, cn_id (z := N 15) (by omega) (by omega)] at c1
  by_cases h15 : N 15 = -2
  case neg =>
    have m2 := m3 Z hM rs r15
    rw [if_neg h15, Option.bind_some, B93_18, if_neg cn_1n] at c1
    by_cases h0 : N s = 0
    · rw [if_pos h0, if_neg (by omega)] at m2; exact p_fin h c1 keepQ.rfl' m2 keepQ.rfl' rfl
    · rw [if_neg h0] at m2; exact p_fin h c1 keepQ.rfl' m2 keepQ.rfl' rfl
  rw [if_pos h15, Option.bind_some, B93_18, if_pos cn_0, cn_id ha.1 ha.2, if_pos (by omega), Int.toNat_natCast, hS.2.1 s (by omega), cn_id (z := N s) (by omega) (by omega)] at c1
  by_cases h0 : N s = 0
  case neg =>
    have m2 := m3 Z hM rs r15
    rw [if_neg h0] at c1 m2; exact p_fin h c1 keepQ.rfl' m2 keepQ.rfl' rfl
  have hm8 := w_lm_lt T F N s (T 13 0 : Int) 8
  obtain ⟨Z1, e1, e2, e3, e4, e5, e6⟩ := c_pushN h (d := 59) (by decide)
  have hC1 : CT Z1 t T := hC.congr (fun g i a b c d => e6 _ _ _ (by omega) (by omega))
  have hL1 : CLaw Z1 t F := hL.congr (fun g i a b => e6 _ _ _ (by omega) (by omega))
  obtain ⟨Z2, i1, i2, i3, i4⟩ := c_lot (d := 59) (m := 0) hC1 hT hL1 e2 hN (by decide) hs (T 13 0 : Int)
  have eb : x_CALL 59 71 [.inr (.inr (some (41, 0))), .inl 0] (x_S Z2 t) = _ := c_buyW (n := 0) hT hs i2 i3 (by omega) (by decide) (d := 59) (by decide) t
  rw [if_pos h0, e1, Option.bind_some, B93_46, hC1.1 13 (by omega), i1, Option.bind_some, B93_69, eb, Option.bind_some, B93_77] at c1
  have k2 : ∀ g m i, ¬ scr g m i → ¬ (28 ≤ g ∧ g ≤ 30 ∧ (m = 0 ∨ m = 2 + nx)) → g ≠ 31 → Z2 g m i = Z g m i := fun g m i a b c => by unfold scr at a; rw [i4 g m i (by omega)]; exact e6 g m i (by omega) c
  have hS2 : CS Z2 0 N := e2.congr (fun i => i4 _ _ _ (by omega)) (fun i => i4 _ _ _ (by omega)) (fun i => i4 _ _ _ (by omega))
  have hH2 : CS Z2 (2 + nx) N := e3.congr (fun i => i4 _ _ _ (by omega)) (fun i => i4 _ _ _ (by omega)) (fun i => i4 _ _ _ (by omega))
  have c31 : ∀ i, Z2 31 0 i = Z1 31 0 i := fun i => i4 _ _ _ (by omega)
  have hmi := w_mi_le (N := N) (s := s) (set := w_lm T F N s (T 13 0 : Int) 8) hT 8
  -- the model, up to its choice
  have mod : ∀ Z4 : XZ, (∀ g m i, ¬ scr g m i → ¬ (28 ≤ g ∧ g ≤ 30 ∧ (m = 0 ∨ m = 2 + nx)) → g ≠ 31 → Z4 g m i = Z g m i) → ∃ Z5 : XZ, x_CALL 60 206 [.inr (.inr (some (56, 0))), .inl ((s : Int))] (x_S Z4 t) = x_EX 59 206 52 [some (.inr (.inr (some (56, 0)))), some (.inl ((s : Int))), some (.inl ((w_lm T F N s (T 13 0 : Int) 8 : Int)))] [.inl (if w_buy T N s (w_lm T F N s (T 13 0 : Int) 8) = true then 1 else 0)] (x_S Z5 t) ∧ MR Z5 94 0 (q_nu N s 1) ∧ MI T F N H v u Z5 ∧ Z5 56 0 63 = (w_mi T N s (w_lm T F N s (T 13 0 : Int) 8) 8 : Int) ∧ Z5 99 0 8 = (w_at T N s (w_lm T F N s (T 13 0 : Int) 8) 8 : Int) ∧ keepQ Z4 Z5 := by
    intro Z4 k4
    have hI4 : MI T F N H v u Z4 := h.mi.congr (fun g m i a b c => k4 g m i c (by omega) (by omega))
    obtain ⟨Z5, g1, g2, g3, g4, g5, _⟩ := m_crr hI4 hT hH.2.2.1 (d := 59) (by decide) t
    obtain ⟨Z6, f1, f2, f3, f4⟩ := m_lot (d := 59) g2.1 g2.2.1 g3 hT hN (by decide) t hs g4
    have k6 : ∀ g m i, g ≠ 94 → x_u Z6 94 0 s 1 g m i = Z6 g m i := fun g m i hg => x_u_ne (by omega)
    have hR7 : MR (x_u Z6 94 0 s 1) 94 0 (q_nu N s 1) := by have := f2.2.2.1.up (k := s) (a := 1); rwa [Nat.zero_add] at this
    have hL7 : LW T F N s (w_lm T F N s (T 13 0 : Int) 8) 8 (x_u Z6 94 0 s 1) := by
      obtain ⟨y1, y2, y3, y4, y5, y6⟩ := f3
      exact ⟨by rw [k6 _ _ _ (by decide)]; exact y1, by rw [k6 _ _ _ (by decide)]; exact y2, by rw [k6 _ _ _ (by decide)]; exact y3, by rw [k6 _ _ _ (by decide)]; exact y4, by rw [k6 _ _ _ (by decide)]; exact y5, fun j hj => by rw [k6 _ _ _ (by decide)]; exact y6 j hj⟩
    have hM7 : MT (x_u Z6 94 0 s 1) v T := f2.1.congr (fun g i a b => k6 _ _ _ (by omega)) (k6 _ _ _ (by decide))
    have hLw7 : MLaw (x_u Z6 94 0 s 1) v F := f2.2.1.congr (fun g a b => funext fun m => funext fun i => k6 _ _ _ (by omega))
    have hq6 : keepQ Z5 (x_u Z6 94 0 s 1) := fun g m i hs => by rw [k6 _ _ _ (by unfold scr at hs; omega)]; exact kq_wm f4 g m i hs
    have hb7 : x_CALL 59 203 [.inr (.inr (some (56, 0))), .inl ((s : Int)), .inl ((w_lm T F N s (T 13 0 : Int) 8 : Int))] (x_S (x_u Z6 94 0 s 1) t) = some ((if w_buy T N s (w_lm T F N s (T 13 0 : Int) 8) = true then 1 else 0), x_S (x_u Z6 94 0 s 1) t) := by
      have h8 := (hT.2.2.2.2.2.1 s hs).2
      have t0 : T 0 0 ≤ 7 := hT.1
      have h11 : T 11 0 ≤ 99 := hT.2.2.2.2.2.2.2.1
      have hv := hM7.1
      rw [C203 _ _ _ _ _ (by decide), m_come hM7 hT hL7 (by decide) t hs, Option.bind_some, B203_4]
      unfold w_buy
      by_cases hh1 : w_come T N s (w_lm T F N s (T 13 0 : Int) 8) = true
      · rw [hh1, if_neg (ite_01 _ rfl), cn_nt (z := (w_lm T F N s (T 13 0 : Int) 8 : Int)) rfl (by omega)]
        by_cases hh2 : w_lm T F N s (T 13 0 : Int) 8 = 0
        · rw [if_pos (by omega), if_neg (by simp [hh2])]
        · have hds := q_ds_le T 99 (T 8 s)
          have hd95 : x_u Z6 94 0 s 1 95 0 (T 8 s) = (q_ds T 99 (T 8 s) : Int) := by rw [k6 _ _ _ (by decide)]; exact f2.2.2.2.2 _ (by omega)
          rw [if_neg (by omega), m_start hM7 hT (by decide) t hs, Option.bind_some, B203_24, cn_nt (z := (T 8 s : Int)) rfl (by omega), if_pos (by omega), hM7.2.1, cn_nt (z := (v : Int)) rfl (by omega), if_pos (by omega), Int.toNat_natCast, Int.toNat_natCast, hd95, hM7.2.2.1.2.2.2.2.1, hL7.2.1, cn_nt (z := (q_ds T 99 (T 8 s) : Int) + (T 11 0 : Int)) (n := q_ds T 99 (T 8 s) + T 11 0) (by omega) (by omega), cn_nt (z := (w_mi T N s (w_lm T F N s (T 13 0 : Int) 8) 8 : Int)) rfl (by omega)]
          by_cases hh3 : q_ds T 99 (T 8 s) + T 11 0 ≤ w_mi T N s (w_lm T F N s (T 13 0 : Int) 8) 8
          · rw [if_neg (by omega), if_pos (by simp [hh2, hh3])]
          · rw [if_pos (by omega), if_neg (by simp [hh3])]
      · have hh1' : w_come T N s (w_lm T F N s (T 13 0 : Int) 8) = false := by simpa using hh1
        rw [hh1', if_pos (ite_00 _ (by decide))]; rfl
    have m2 := m3 Z4 hI4.1 ((k4 _ _ _ (by unfold scr; omega) (by omega) (by omega)).trans rs) ((k4 _ _ _ (by unfold scr; omega) (by omega) (by omega)).trans r15)
    rw [if_pos h0, if_pos (by omega), g1, Option.bind_some, B206_33, f1, Option.bind_some, B206_38, cn_id ha.1 ha.2, if_pos b16, Int.toNat_natCast, hb7, Option.bind_some] at m2
    exact ⟨_, m2, hR7, hI4.congr (fun g m i _ _ hs => (hq6 g m i hs).trans (g5 g m i hs)), hL7.2.1, hL7.2.2.2.2.2 8 (by omega), g5.trans hq6⟩
  by_cases hb : w_buy T N s (w_lm T F N s (T 13 0 : Int) 8) = true
  · have ham : ∃ (r : Int) (Z3 : XZ), x_CALL 59 63 [.inr (.inr (some (7, t))), .inl 1, .inr (.inr (some (28, 0))), .inl ((s : Int)), .inl ((w_mi T N s (w_lm T F N s (T 13 0 : Int) 8) 8 : Int))] (x_S Z2 t) = some (r, x_S Z3 t) ∧ cn r = q_am T F N s (w_mi T N s (w_lm T F N s (T 13 0 : Int) 8) 8 : Int) 1 ∧ ∀ g m i, ¬ (g = 19 ∨ g = 20) → Z3 g m i = Z2 g m i := c_miles (d := 59) (m := 0) (s := s) (k := 1) (hC1.congr (fun g i a b c d => i4 _ _ _ (by omega))) hT (hL1.congr (fun g i a b => i4 _ _ _ (by omega))) hS2 hN (by decide) hs (by decide) (by omega)
    obtain ⟨r, Z3, j1, j2, j3⟩ := ham
    rw [if_neg (ite_01 _ hb), i3.2.1, j1, Option.bind_some, B93_106, cn_id ha.1 ha.2, if_pos (by omega), Int.toNat_natCast, j3 42 0 0 (by omega), i3.1] at c1
    generalize hZ4 : x_u (x_u (x_u Z3 28 0 3 r) 28 0 2 (s : Int)) 30 0 s 2 = Z4 at c1
    have k43 : ∀ g m i, ¬ (28 ≤ g ∧ g ≤ 30 ∧ m = 0) → Z4 g m i = Z3 g m i := fun g m i hg => by rw [← hZ4, x_u_ne (by omega), x_u_ne (by omega), x_u_ne (by omega)]
    have k4 : ∀ g m i, ¬ scr g m i → ¬ (28 ≤ g ∧ g ≤ 30 ∧ (m = 0 ∨ m = 2 + nx)) → g ≠ 31 → Z4 g m i = Z g m i := fun g m i a b c => by rw [k43 g m i (by omega), j3 g m i (by unfold scr at a; omega)]; exact k2 g m i a b c
    obtain ⟨Z5, m2, y1, y2, y3, y4, y5⟩ := mod Z4 k4
    have hN1 : NOK (q_nu N s 1) := hN.up (by omega) (by omega) (by omega) (by omega)
    obtain ⟨r', Z6, l1, l2, l3⟩ := m_amount (d := 59) (s := s) (k := 1) (mi := w_mi T N s (w_lm T F N s (T 13 0 : Int) 8) 8) y2.1 y2.2.1 hT y1 hN1 (by decide) t hs (by decide) (by omega)
    rw [q_am_nu (by omega)] at l2
    have hI6 : MI T F N H v u (x_u (x_u (x_u Z6 94 0 14 r') 94 0 15 (s : Int)) 94 0 s 2) := y2.congr (fun g m i _ _ hs => by rw [x_u_ne (by unfold scr at hs; omega), x_u_ne (by unfold scr at hs; omega), x_u_ne (by unfold scr at hs; omega)]; exact l3 g m i (by unfold scr at hs; omega) (by unfold scr at hs; omega) (by unfold scr at hs; omega))
    have hR6 : MR Z6 94 0 (q_nu N s 1) := y1.congr (fun i => l3 _ _ _ (by omega) (by omega) (by omega))
    have hN' : q_nu (q_nu (q_nu (q_nu N s 1) 14 r') 15 (s : Int)) s 2 = q_nu (q_nu (q_nu N 14 r') 15 (s : Int)) s 2 := by
      funext j
      by_cases hj : j = s
      · rw [hj, q_nu_eq, q_nu_eq]
      · rw [q_nu_ne hj, q_nu_ne hj]
        by_cases hj5 : j = 15
        · rw [hj5, q_nu_eq, q_nu_eq]
        · rw [q_nu_ne hj5, q_nu_ne hj5]
          by_cases hj4 : j = 14
          · rw [hj4, q_nu_eq, q_nu_eq]
          · rw [q_nu_ne hj4, q_nu_ne hj4, q_nu_ne hj]
    have hR7 : MR (x_u (x_u (x_u Z6 94 0 14 r') 94 0 15 (s : Int)) 94 0 s 2) 94 0 (q_nu (q_nu (q_nu N 14 r') 15 (s : Int)) s 2) := by
      have := ((hR6.up (k := 14) (a := r')).up (k := 15) (a := (s : Int))).up (k := s) (a := 2)
      rw [hN', Nat.zero_add, Nat.zero_add, Nat.zero_add] at this
      exact this
    obtain ⟨Z7, o1, o2, o3, o4, o5⟩ := m_records (Z := x_u (x_u (x_u Z6 94 0 14 r') 94 0 15 (s : Int)) 94 0 s 2) (d := 59) (N := N) hH.2.2.1 hI6.2.2.2.1 hI6.2.2.2.2 hI6.2.2.1 hR7 (by decide) t
    have k75 : ∀ g m i, ¬ scr g m i → g ≠ 93 → g ≠ 100 → ¬ (g = 56 ∧ i = 67) → Z7 g m i = Z5 g m i := fun g m i a b c d => by
      rw [o5 g m i b c d, x_u_ne (by unfold scr at a; omega), x_u_ne (by unfold scr at a; omega), x_u_ne (by unfold scr at a; omega)]
      exact l3 g m i (by unfold scr at a; omega) (by unfold scr at a; omega) (by unfold scr at a; omega)
    have z99 : Z7 99 0 8 = (w_at T N s (w_lm T F N s (T 13 0 : Int) 8) 8 : Int) := by rw [o5 99 0 8 (by decide) (by decide) (by omega), x_u_ne (by omega), x_u_ne (by omega), x_u_ne (by omega), l3 99 0 8 (by decide) (by decide) (by decide)]; exact y4
    rw [B206_52, if_neg (ite_01 _ hb), y3, show (1 : Int) = ((1 : Nat) : Int) from rfl, l1, Option.bind_some, B206_71, cn_id (z := 14) (by decide) (by decide), if_pos (by decide), cn_id ha.1 ha.2, if_pos b16, Int.toNat_natCast] at m2
    rw [show (14 : Int).toNat = 14 from rfl, o1, Option.bind_some, B206_91, z99] at m2
    have hrr : cn r = cn r' := by rw [j2, l2]
    have hS3 : CS Z3 0 N := hS2.congr (fun i => j3 _ _ _ (by omega)) (fun i => j3 _ _ _ (by omega)) (fun i => j3 _ _ _ (by omega))
    have hS4 : CS Z4 0 (q_nu (q_nu (q_nu N 14 r') 15 (s : Int)) s 2) := by rw [← hZ4]; exact ((hS3.up3 hrr).up2).up30 (by omega)
    exact do_fin h c1 k4 hS4 (hH2.congr (fun i => by rw [k43 _ _ _ (by omega)]; exact j3 _ _ _ (by omega)) (fun i => by rw [k43 _ _ _ (by omega)]; exact j3 _ _ _ (by omega)) (fun i => by rw [k43 _ _ _ (by omega)]; exact j3 _ _ _ (by omega))) (by rw [k43 _ _ _ (by omega), j3 _ _ _ (by omega), c31]; exact e4) (by rw [k43 _ _ _ (by omega), j3 _ _ _ (by omega), c31]; exact e5) m2 (fun g m i a b c d => (k75 g m i a b c d).trans (y5 g m i a)) o2 o3 o4 (((hN.up (by omega) (by omega) (by omega) (by omega)).up (by omega) (by omega) (by omega) (by omega)).up (by omega) (by omega) (by omega) (by omega)) rfl
  · rw [if_pos (ite_00 _ hb), cn_id ha.1 ha.2, if_pos (by omega), Int.toNat_natCast, i3.1] at c1
    have k4 : ∀ g m i, ¬ scr g m i → ¬ (28 ≤ g ∧ g ≤ 30 ∧ (m = 0 ∨ m = 2 + nx)) → g ≠ 31 → x_u Z2 30 0 s 1 g m i = Z g m i := fun g m i a b c => by rw [x_u_ne (by omega)]; exact k2 g m i a b c
    obtain ⟨Z5, m2, y1, y2, y3, y4, y5⟩ := mod _ k4
    obtain ⟨Z7, o1, o2, o3, o4, o5⟩ := m_records (Z := Z5) (d := 59) (N := N) hH.2.2.1 y2.2.2.2.1 y2.2.2.2.2 y2.2.2.1 y1 (by decide) t
    have z99 : Z7 99 0 8 = (w_at T N s (w_lm T F N s (T 13 0 : Int) 8) 8 : Int) := by rw [o5 99 0 8 (by decide) (by decide) (by omega)]; exact y4
    rw [B206_52, if_pos (ite_00 _ hb), o1, Option.bind_some, B206_91, z99] at m2
    exact do_fin h c1 k4 (hS2.up30 (by omega)) (hH2.congr (fun i => x_u_ne (by omega)) (fun i => x_u_ne (by omega)) (fun i => x_u_ne (by omega))) (by rw [x_u_ne (by omega), c31]; exact e4) (by rw [x_u_ne (by omega), c31]; exact e5) m2 (fun g m i a b c d => (o5 g m i b c d).trans (y5 g m i a)) o2 o3 o4 (hN.up (by omega) (by omega) (by omega) (by omega)) rfl
