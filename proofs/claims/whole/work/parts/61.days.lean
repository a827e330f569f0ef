/-! strays, tells, days, fogIn -/
theorem q_eqv.trans {N M L : PN} (h : q_eqv N M) (h' : q_eqv M L) : q_eqv N L := ⟨fun k hk => (h.1 k hk).trans (h'.1 k hk), h.2.trans h'.2⟩
def q_dns (F : PF) (n : Nat) (N : PN) : PN := match n with
  | 0 => N
  | n + 1 => q_dns F n (q_dn F N)
theorem q_eqv.dns {F : PF} (n : Nat) : ∀ {N M : PN}, q_eqv N M → q_eqv (q_dns F n N) (q_dns F n M) := by
  induction n with
  | zero => intro N M h; exact h
  | succ n ih => intro N M h; exact ih h.dn
theorem NOK.dns {F : PF} (n : Nat) : ∀ {N : PN}, NOK N → NOK (q_dns F n N) := by
  induction n with
  | zero => intro N h; exact h
  | succ n ih => intro N h; exact ih h.dn
theorem c_days_loop {d : Nat} {F : PF} {t n : Nat} (hd : 4 ≤ d) (hn : n ≤ 60) : ∀ (j k : Nat) (Z : XZ) (N : PN), k + j = n → CLaw Z t F → CS Z 0 N → NOK N → ∃ Z' : XZ, x_EX d 97 29 [some (.inr (.inr (some (0, 0)))), some (.inl ((n : Int))), some (.inl ((k : Int)))] [] (x_S Z t) = some (Z' 28 0 0, x_S Z' t) ∧ CS Z' 0 (q_dns F j N) ∧ ∀ g m' i, ¬ (g = 19 ∨ g = 20) → ¬ (g = 28 ∧ m' = 0) → Z' g m' i = Z g m' i := by
  intro j
  induction j with
  | zero =>
    intro k Z N hk hL hS hN
    rw [B97_29, cn_nt (z := (k : Int)) rfl (by omega), cn_nt (z := (n : Int)) rfl (by omega), if_neg (by omega)]
    exact ⟨_, rfl, hS, fun _ _ _ _ _ => rfl⟩
  | succ j ih =>
    intro k Z N hk hL hS hN
    obtain ⟨Z1, e1, e2, e3⟩ := c_day hL hS hN hd
    rw [B97_29, cn_nt (z := (k : Int)) rfl (by omega), cn_nt (z := (n : Int)) rfl (by omega), if_pos (by omega), e1, Option.bind_some, B97_45]
    obtain ⟨Z2, f1, f2, f3⟩ := ih (k + 1) Z1 _ (by omega) (hL.congr (fun g i a b => e3 _ _ _ (by omega) (by omega))) e2 hN.dn
    exact ⟨Z2, f1, f2, fun g m i a b => (f3 g m i a b).trans (e3 g m i a b)⟩
theorem c_fog_loop {d : Nat} {F : PF} {t n : Nat} (hd : 4 ≤ d) (hn : n ≤ 60) : ∀ (j k : Nat) (Z : XZ) (N : PN), k + j = n → CLaw Z t F → CS Z 1 N → NOK N → ∃ Z' : XZ, x_EX d 120 25 [some (.inr (.inr (some (0, 0)))), some (.inl ((n : Int))), some (.inl ((k : Int)))] [] (x_S Z t) = some (Z' 28 1 1, x_S Z' t) ∧ CS Z' 1 (q_dns F j N) ∧ ∀ g m' i, ¬ (g = 19 ∨ g = 20) → ¬ (g = 28 ∧ m' = 1) → Z' g m' i = Z g m' i := by
  intro j
  induction j with
  | zero =>
    intro k Z N hk hL hS hN
    rw [B120_25, cn_nt (z := (k : Int)) rfl (by omega), cn_nt (z := (n : Int)) rfl (by omega), if_neg (by omega)]
    exact ⟨_, rfl, hS, fun _ _ _ _ _ => rfl⟩
  | succ j ih =>
    intro k Z N hk hL hS hN
    obtain ⟨Z1, e1, e2, e3⟩ := c_day hL hS hN hd
    rw [B120_25, cn_nt (z := (k : Int)) rfl (by omega), cn_nt (z := (n : Int)) rfl (by omega), if_pos (by omega), e1, Option.bind_some, B120_41]
    obtain ⟨Z2, f1, f2, f3⟩ := ih (k + 1) Z1 _ (by omega) (hL.congr (fun g i a b => e3 _ _ _ (by omega) (by omega))) e2 hN.dn
    exact ⟨Z2, f1, f2, fun g m i a b => (f3 g m i a b).trans (e3 g m i a b)⟩
theorem m_goes_loop {d : Nat} {F : PF} {T : PT} {v n : Nat} (hd : 4 ≤ d) (hn : n ≤ 60) (t : Nat) : ∀ (j k : Nat) (Z : XZ) (N : PN), k + j = n → MT Z v T → MLaw Z v F → MR Z 94 0 N → NOK N → ∃ (Z' : XZ) (N' : PN), x_EX d 192 2 [some (.inr (.inr (some (56, 0)))), some (.inl ((n : Int))), some (.inl ((k : Int)))] [] (x_S Z t) = some (0, x_S Z' t) ∧ MR Z' 94 0 N' ∧ q_eqv N' (q_dns F j N) ∧ ∀ g m i, g ≠ 91 → g ≠ 92 → g ≠ 94 → (g ≠ 56 ∨ i ≠ 53) → Z' g m i = Z g m i := by
  intro j
  induction j with
  | zero =>
    intro k Z N hk hM hL hR hN
    rw [B192_2, cn_nt (z := (k : Int)) rfl (by omega), cn_nt (z := (n : Int)) rfl (by omega), if_neg (by omega)]
    exact ⟨_, _, rfl, hR, q_eqv.refl _, fun _ _ _ _ _ _ _ => rfl⟩
  | succ j ih =>
    intro k Z N hk hM hL hR hN
    obtain ⟨Z1, N1, e1, e2, e3, e4⟩ := m_day hM hL hR hN hd t
    rw [B192_2, cn_nt (z := (k : Int)) rfl (by omega), cn_nt (z := (n : Int)) rfl (by omega), if_pos (by omega), e1, Option.bind_some, B192_11]
    obtain ⟨Z2, N2, f1, f2, f3, f4⟩ := ih (k + 1) Z1 N1 (by omega) (hM.congr (fun g i a b => e4 _ _ _ (by omega) (by omega) (by omega) (by omega)) (e4 _ _ _ (by omega) (by omega) (by omega) (by omega))) (hL.congr (fun g a b => funext fun m => funext fun i => e4 _ _ _ (by omega) (by omega) (by omega) (by omega))) e2 (hN.dn.eqv e3.symm)
    exact ⟨Z2, N2, f1, f2, f3.trans (e3.dns j), fun g m i a b c d => (f4 g m i a b c d).trans (e4 g m i a b c d)⟩
theorem m_goes {d : Nat} {F : PF} {T : PT} {N : PN} {Z : XZ} {v n : Nat} (hd : 5 ≤ d) (hn : n ≤ 60) (t : Nat) (hM : MT Z v T) (hL : MLaw Z v F) (hR : MR Z 94 0 N) (hN : NOK N) : ∃ (Z' : XZ) (N' : PN), x_CALL d 192 [.inr (.inr (some (56, 0))), .inl ((n : Int))] (x_S Z t) = some (0, x_S Z' t) ∧ MR Z' 94 0 N' ∧ q_eqv N' (q_dns F n N) ∧ ∀ g m i, g ≠ 91 → g ≠ 92 → g ≠ 94 → (g ≠ 56 ∨ i ≠ 53) → Z' g m i = Z g m i := by
  rw [C192 _ _ _ _ (by omega)]
  exact m_goes_loop (d := d - 1) (by omega) hn t n 0 Z N (by omega) hM hL hR hN
theorem s34_ok : p_s34 PI := by
  intro a ha Z t ⟨T, F, N, H, K, v, u, nx, h⟩
  obtain ⟨ht, hT, hC, hM, hL, hML, hS, hR, hN, hH, _⟩ := id h
  have c1 := C120 60 Z t a (by decide)
  have m1 : ∀ Z1, x_CALL 60 236 [.inr (.inr (some (56, 0))), .inl a] (x_S Z1 t) = _ := fun Z1 => by rw [C236 60 Z1 t a (by decide), m_in (by decide), Option.bind_some, B236_7, cn_id ha.1 ha.2, cn_id (z := 0) (by decide) (by decide), cn_id (z := 60) (by decide) (by decide)]
  rw [cn_id ha.1 ha.2] at c1
  by_cases hin : 0 ≤ a ∧ a ≤ 60
  case neg =>
    have m2 := m1 Z
    rw [if_pos (ite_00 _ hin)] at m2
    by_cases h0 : a < 0
    · rw [if_pos h0] at c1; exact p_fin h c1 keepQ.rfl' m2 keepQ.rfl' rfl
    · rw [if_neg h0, if_pos (by omega)] at c1; exact p_fin h c1 keepQ.rfl' m2 keepQ.rfl' rfl
  obtain ⟨n, rfl⟩ := Int.eq_ofNat_of_zero_le hin.1
  obtain ⟨Z1, e1, e2, e3⟩ := c_copy (Z := Z) (d := 59) (by decide) t 1 0 (by decide)
  obtain ⟨Z2, f1, f2, f3⟩ := c_fog_loop (d := 59) (t := t) (n := n) (by decide) (by omega) n 0 Z1 N (by omega) (hL.congr (fun g i a b => e3 _ _ _ (by omega))) (e2 N hS) hN
  rw [if_neg (by omega), if_neg (by omega), e1, Option.bind_some, B120_23] at c1
  have c2 := c1.trans f1
  have kq : keepQ Z Z2 := fun g m i hs => by unfold scr at hs; rw [f3 g m i (by omega) (by omega)]; exact e3 _ _ _ (by omega)
  obtain ⟨Z3, g1, g2, g3, g4, g5, _⟩ := m_crr (h.mi.congr (fun g m i _ _ hs => kq g m i hs)) hT hH.2.2.1 (d := 59) (by decide) t
  obtain ⟨Z4, N', h1, h2, h3, h4⟩ := m_goes (d := 59) (n := n) (by decide) (by omega) t g2.1 g2.2.1 g3 hN
  have m2 := m1 Z2
  rw [if_neg (ite_01 _ hin), g1, Option.bind_some, B236_16, h1, Option.bind_some, B236_21] at m2
  have kq2 : keepQ Z2 Z4 := fun g m i hs => (h4 g m i (by unfold scr at hs; omega) (by unfold scr at hs; omega) (by unfold scr at hs; omega) (by unfold scr at hs; omega)).trans (g5 g m i hs)
  have r12 := h2 12 (by decide)
  rw [Nat.zero_add] at r12
  exact p_fin h c2 kq m2 kq2 (by rw [r12, f2.2.2.2.1, h3.2])
theorem s13_ok : p_s13 PI := by
  intro a ha Z t ⟨T, F, N, H, K, v, u, nx, h⟩
  obtain ⟨ht, hT, hC, hM, hL, hML, hS, hR, hN, hH, _⟩ := id h
  have c1 := C97 60 Z t a (by decide)
  have m1 : ∀ Z1, x_CALL 60 211 [.inr (.inr (some (56, 0))), .inl a] (x_S Z1 t) = _ := fun Z1 => by rw [C211 60 Z1 t a (by decide), m_in (by decide), Option.bind_some, B211_7, cn_id ha.1 ha.2, cn_id (z := 0) (by decide) (by decide), cn_id (z := 60) (by decide) (by decide)]
  rw [cn_id ha.1 ha.2] at c1
  by_cases hin : 0 ≤ a ∧ a ≤ 60
  case neg =>
    have m2 := m1 Z
    rw [if_pos (ite_00 _ hin)] at m2
    by_cases h0 : a < 0
    · rw [if_pos h0] at c1; exact p_fin h c1 keepQ.rfl' m2 keepQ.rfl' rfl
    · rw [if_neg h0, if_pos (by omega)] at c1; exact p_fin h c1 keepQ.rfl' m2 keepQ.rfl' rfl
  obtain ⟨n, rfl⟩ := Int.eq_ofNat_of_zero_le hin.1
  rw [if_neg (by omega), if_neg (by omega)] at c1
  by_cases h0 : n = 0
  · subst h0
    rw [if_neg (by omega), B97_27, B97_29, if_neg (by decide)] at c1
    have m2 := m1 Z
    have r13 := hR 13 (by decide)
    rw [Nat.zero_add] at r13
    rw [if_neg (ite_01 _ hin), if_pos (by decide)] at m2
    exact p_fin h c1 keepQ.rfl' m2 keepQ.rfl' (by rw [r13, hS.2.2.1])
  obtain ⟨Z1, e1, e2, e3, e4, e5, e6⟩ := c_pushN h (d := 59) (by decide)
  obtain ⟨Z2, f1, f2, f3⟩ := c_days_loop (d := 59) (t := t) (n := n) (by decide) (by omega) n 0 Z1 N (by omega) (hL.congr (fun g i a b => e6 _ _ _ (by omega) (by omega))) e2 hN
  rw [if_pos (by omega), e1, Option.bind_some, B97_27] at c1
  have c2 := c1.trans f1
  have kk : ∀ g m i, ¬ scr g m i → ¬ (28 ≤ g ∧ g ≤ 30 ∧ (m = 0 ∨ m = 2 + nx)) → g ≠ 31 → Z2 g m i = Z g m i := fun g m i a b c => by
    unfold scr at a
    rw [f3 g m i (by omega) (by omega)]; exact e6 g m i (by omega) c
  have hI : MI T F N H v u Z2 := h.mi.congr (fun g m i a b c => kk g m i c (by omega) (by omega))
  obtain ⟨Z3, g1, g2, g3, g4, g5, _⟩ := m_crr hI hT hH.2.2.1 (d := 59) (by decide) t
  obtain ⟨Z4, N', h1, h2, h3, h4⟩ := m_goes (d := 59) (n := n) (by decide) (by omega) t g2.1 g2.2.1 g3 hN
  have hI4 : MI T F N H v u Z4 := g2.congr (fun g m i _ _ hs => h4 g m i (by unfold scr at hs; omega) (by unfold scr at hs; omega) (by unfold scr at hs; omega) (by unfold scr at hs; omega))
  obtain ⟨Z5, i1, i2, i3, i4, i5⟩ := m_records (Z := Z4) (d := 59) (N := N) hH.2.2.1 hI4.2.2.2.1 hI4.2.2.2.2 hI4.2.2.1 h2 (by decide) t
  have m2 := m1 Z2
  rw [if_neg (ite_01 _ hin), if_neg (by omega), g1, Option.bind_some, B211_28, h1, Option.bind_some, B211_33, i1, Option.bind_some, B211_37] at m2
  have r13 := i2 13 (by decide)
  rw [Nat.zero_add] at r13
  refine do_fin h c2 kk (f2.eqv h3.symm) (e3.congr (fun i => f3 _ _ _ (by omega) (by omega)) (fun i => f3 _ _ _ (by omega) (by omega)) (fun i => f3 _ _ _ (by omega) (by omega))) ((f3 _ _ _ (by omega) (by omega)).trans e4) ((f3 _ _ _ (by omega) (by omega)).trans e5) m2 ?_ i2 i3 i4 ((hN.dns n).eqv h3.symm) ?_
  · intro g m i a b c d
    rw [i5 g m i b c d, h4 g m i (by unfold scr at a; omega) (by unfold scr at a; omega) (by unfold scr at a; omega) (by unfold scr at a; omega)]
    exact g5 g m i a
  · rw [r13, f2.2.2.1, h3.1 13 (by decide)]
theorem kq_c {Z Z' : XZ} (h : ∀ g m i, ¬ (g = 19 ∨ g = 20) → Z' g m i = Z g m i) : keepQ Z Z' := fun g m i hs => h g m i (by unfold scr at hs; omega)
theorem kq_m {Z Z' : XZ} (h : ∀ g m i, g ≠ 91 → g ≠ 92 → (g ≠ 56 ∨ i ≠ 53) → Z' g m i = Z g m i) : keepQ Z Z' := fun g m i hs => h g m i (by unfold scr at hs; omega) (by unfold scr at hs; omega) (by unfold scr at hs; omega)
theorem s7_ok : p_s7 PI := by
  intro a b ha hb Z t ⟨T, F, N, H, K, v, u, nx, h⟩
  obtain ⟨ht, hT, hC, hM, hL, hML, hS, hR, hN, hH, _⟩ := id h
  have t0 : T 0 0 ≤ 7 := hT.1
  have t2 : T 2 0 ≤ 5 := hT.2.2.1
  have c1 := C91 60 Z t a b (by decide)
  rw [c_hasS hC hT (by decide), Option.bind_some, B91_8, cn_id ha.1 ha.2] at c1
  have m1 : ∀ Z1, MT Z1 v T → x_CALL 60 198 [.inr (.inr (some (56, 0))), .inl a, .inl b] (x_S Z1 t) = _ := fun Z1 hM1 => by rw [C198 60 Z1 t a b (by decide), m_isS hM1 hT (by decide), Option.bind_some, B198_5, cn_id ha.1 ha.2]
  by_cases h1 : 0 ≤ a ∧ a < (T 2 0 : Int)
  case neg =>
    have m2 := m1 Z hM
    rw [if_pos (ite_00 _ h1)] at c1 m2; exact p_fin h c1 keepQ.rfl' m2 keepQ.rfl' rfl
  rw [if_neg (ite_01 _ h1), c_hasC hC hT (by decide), Option.bind_some, B91_19, cn_id hb.1 hb.2] at c1
  have m3 : ∀ Z1, MT Z1 v T → x_CALL 60 198 [.inr (.inr (some (56, 0))), .inl a, .inl b] (x_S Z1 t) = _ := fun Z1 hM1 => by rw [m1 Z1 hM1, if_neg (ite_01 _ h1), m_isC hM1 hT (by decide), Option.bind_some, B198_13, cn_id hb.1 hb.2]
  by_cases h2 : 0 ≤ b ∧ b < (T 0 0 : Int)
  case neg =>
    have m2 := m3 Z hM
    rw [if_pos (ite_00 _ h2)] at c1 m2; exact p_fin h c1 keepQ.rfl' m2 keepQ.rfl' rfl
  obtain ⟨s, rfl⟩ := Int.eq_ofNat_of_zero_le h1.1
  obtain ⟨c, rfl⟩ := Int.eq_ofNat_of_zero_le h2.1
  obtain ⟨r, Z1, e1, e2, e3⟩ := c_quart (d := 59) (m := 0) (s := s) (c := c) hC hT hL hS hN (by decide) (by omega) (by omega)
  rw [if_neg (ite_01 _ h2), e1, Option.bind_some, B91_37] at c1
  have kq := kq_c e3
  obtain ⟨Z2, g1, g2, g3, g4, g5, _⟩ := m_crr (h.mi.congr (fun g m i _ _ hs => kq g m i hs)) hT hH.2.2.1 (d := 59) (by decide) t
  obtain ⟨r', Z3, f1, f2, f3⟩ := m_strays (d := 59) g2.1 g2.2.1 hT g3 hN (by decide) t (s := s) (c := c) (by omega) (by omega)
  have m2 := m3 Z1 (hM.congr (fun g i a b => kq _ _ _ (by unfold scr; omega)) (kq _ _ _ (by unfold scr; omega)))
  rw [if_neg (ite_01 _ h2), g1, Option.bind_some, B198_22, f1, Option.bind_some, B198_28] at m2
  exact p_fin h c1 kq m2 (g5.trans (kq_m f3)) (by rw [e2, f2])
theorem s8_ok : p_s8 PI := by
  intro a b e ha hb he Z t ⟨T, F, N, H, K, v, u, nx, h⟩
  obtain ⟨ht, hT, hC, hM, hL, hML, hS, hR, hN, hH, _⟩ := id h
  have t2 : T 2 0 ≤ 5 := hT.2.2.1
  have c1 := C92 60 Z t a b e (by decide)
  rw [c_hasS hC hT (by decide), Option.bind_some, B92_8, cn_id ha.1 ha.2, cn_id hb.1 hb.2, cn_id he.1 he.2] at c1
  have m1 : ∀ Z1, MT Z1 v T → x_CALL 60 199 [.inr (.inr (some (56, 0))), .inl a, .inl b, .inl e] (x_S Z1 t) = _ := fun Z1 hM1 => by rw [C199 60 Z1 t a b e (by decide), m_isS hM1 hT (by decide), Option.bind_some, B199_5, cn_id ha.1 ha.2]
  by_cases h1 : 0 ≤ a ∧ a < (T 2 0 : Int)
  case neg =>
    have m2 := m1 Z hM
    rw [if_pos (ite_00 _ h1)] at c1 m2; exact p_fin h c1 keepQ.rfl' m2 keepQ.rfl' rfl
  rw [if_neg (ite_01 _ h1)] at c1
  have m3 : ∀ Z1, MT Z1 v T → x_CALL 60 199 [.inr (.inr (some (56, 0))), .inl a, .inl b, .inl e] (x_S Z1 t) = _ := fun Z1 hM1 => by rw [m1 Z1 hM1, if_neg (ite_01 _ h1), m_in (by decide), Option.bind_some, B199_15, cn_id hb.1 hb.2, cn_id (z := 0) (by decide) (by decide), cn_id (z := 99) (by decide) (by decide)]
  by_cases h2 : 0 ≤ b ∧ b ≤ 99
  case neg =>
    have m2 := m3 Z hM
    rw [if_pos (ite_00 _ h2)] at m2
    by_cases h0 : b < 0
    · rw [if_pos h0] at c1; exact p_fin h c1 keepQ.rfl' m2 keepQ.rfl' rfl
    · rw [if_neg h0, if_pos (by omega)] at c1; exact p_fin h c1 keepQ.rfl' m2 keepQ.rfl' rfl
  rw [if_neg (by omega), if_neg (by omega)] at c1
  have m4 : ∀ Z1, MT Z1 v T → x_CALL 60 199 [.inr (.inr (some (56, 0))), .inl a, .inl b, .inl e] (x_S Z1 t) = _ := fun Z1 hM1 => by rw [m3 Z1 hM1, if_neg (ite_01 _ h2), m_in (by decide), Option.bind_some, B199_24, cn_id he.1 he.2, cn_id (z := 0) (by decide) (by decide), cn_id (z := 1) (by decide) (by decide)]
  by_cases h3 : 0 ≤ e ∧ e ≤ 1
  case neg =>
    have m2 := m4 Z hM
    rw [if_pos (ite_00 _ h3)] at m2
    by_cases h0 : e < 0
    · rw [if_pos h0] at c1; exact p_fin h c1 keepQ.rfl' m2 keepQ.rfl' rfl
    · rw [if_neg h0, if_pos (by omega)] at c1; exact p_fin h c1 keepQ.rfl' m2 keepQ.rfl' rfl
  rw [if_neg (by omega), if_neg (by omega)] at c1
  obtain ⟨s, rfl⟩ := Int.eq_ofNat_of_zero_le h1.1
  obtain ⟨mi, rfl⟩ := Int.eq_ofNat_of_zero_le h2.1
  have key : ∀ k : Nat, k < 4 → x_CALL 60 92 [.inr (.inr (some (0, 0))), .inl ((s : Int)), .inl ((mi : Int)), .inl e] (x_S Z t) = ((x_CALL 59 63 [.inr (.inr (some (7, t))), .inl ((k : Int)), .inr (.inr (some (28, 0))), .inl ((s : Int)), .inl ((mi : Int))] (x_S Z t)).bind fun q => x_EX 59 92 54 [some (.inr (.inr (some (0, 0)))), some (.inl ((s : Int))), some (.inl ((mi : Int))), some (.inl e)] [.inl q.1] q.2) → (∀ Z1 : XZ, x_EX 59 199 33 [some (.inr (.inr (some (56, 0)))), some (.inl ((s : Int))), some (.inl ((mi : Int))), some (.inl e)] [] (x_S Z1 t) = (x_CALL 59 189 [.inr (.inr (some (56, 0))), .inl ((s : Int)), .inl ((mi : Int)), .inl ((k : Int))] (x_S Z1 t)).bind fun q => x_EX 59 199 48 [some (.inr (.inr (some (56, 0)))), some (.inl ((s : Int))), some (.inl ((mi : Int))), some (.inl e)] [.inl q.1] q.2) → ∃ (r r' : Int) (Z1 Z2 : XZ) (t1 : Nat), x_CALL 60 92 [.inr (.inr (some (0, 0))), .inl ((s : Int)), .inl ((mi : Int)), .inl e] (x_S Z t) = some (r, x_S Z1 t1) ∧ (∀ g, 900 ≤ g → Z1 g = Z g) ∧ x_CALL 60 199 [.inr (.inr (some (56, 0))), .inl ((s : Int)), .inl ((mi : Int)), .inl e] (x_S Z1 t1) = some (r', x_S Z2 t1) ∧ (∀ g, 900 ≤ g → Z2 g = Z g) ∧ cn r = cn r' ∧ PI Z2 t1 := by
    intro k hk c2 m33
    obtain ⟨r, Z1, e1, e2, e3⟩ := c_miles (d := 59) (m := 0) (s := s) (k := k) (mi := mi) hC hT hL hS hN (by decide) (by omega) hk (by omega)
    rw [e1, Option.bind_some, B92_54] at c2
    have kq := kq_c e3
    obtain ⟨Z2, g1, g2, g3, g4, g5, _⟩ := m_crr (h.mi.congr (fun g m i _ _ hs => kq g m i hs)) hT hH.2.2.1 (d := 59) (by decide) t
    obtain ⟨r', Z3, f1, f2, f3⟩ := m_amount (d := 59) g2.1 g2.2.1 hT g3 hN (by decide) t (s := s) (k := k) (mi := mi) (by omega) hk (by omega)
    have m2 := m4 Z1 (hM.congr (fun g i a b => kq _ _ _ (by unfold scr; omega)) (kq _ _ _ (by unfold scr; omega)))
    rw [if_neg (ite_01 _ h3), g1, Option.bind_some, m33, f1, Option.bind_some, B199_48] at m2
    exact p_fin h c2 kq m2 (g5.trans (kq_m f3)) (by rw [e2, f2])
  by_cases h0 : e = 0
  · rw [if_pos h0] at c1
    exact key 1 (by decide) c1 (fun Z1 => by rw [B199_33, cn_id he.1 he.2, if_pos h0]; rfl)
  · rw [if_neg h0] at c1
    exact key 2 (by decide) c1 (fun Z1 => by rw [B199_33, cn_id he.1 he.2, if_neg h0]; rfl)
