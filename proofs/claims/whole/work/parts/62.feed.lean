/-! feed -/
def q_by (a : Int) (k : Nat) : Int := x_i2b (x_i2b (x_shr a (24 - 8 * (k : Int))))
theorem q_by_b (a : Int) (k : Nat) : -128 ≤ q_by a k ∧ q_by a k < 128 := by unfold q_by x_i2b; omega
theorem p24 : (2 : Int) ^ ((24 : Int) % 32).toNat = 16777216 := by decide
theorem p16 : (2 : Int) ^ ((16 : Int) % 32).toNat = 65536 := by decide
theorem p8 : (2 : Int) ^ ((8 : Int) % 32).toNat = 256 := by decide
theorem p0 : (2 : Int) ^ ((0 : Int) % 32).toNat = 1 := by decide
theorem b24 (a : Int) : x_i2b (x_i2b (x_ushr a 24)) = q_by a 0 := by unfold q_by x_i2b x_ushr x_shr cn; rw [show (24 : Int) - 8 * ((0 : Nat) : Int) = 24 by decide, p24]; omega
theorem b16 (a : Int) : x_i2b (x_i2b (x_ushr a 16)) = q_by a 1 := by unfold q_by x_i2b x_ushr x_shr cn; rw [show (24 : Int) - 8 * ((1 : Nat) : Int) = 16 by decide, p16]; omega
theorem b8 (a : Int) : x_i2b (x_i2b (x_ushr a 8)) = q_by a 2 := by unfold q_by x_i2b x_ushr x_shr cn; rw [show (24 : Int) - 8 * ((2 : Nat) : Int) = 8 by decide, p8]; omega
theorem b0 (a : Int) : x_i2b (x_i2b (x_ushr a 0)) = q_by a 3 := by unfold q_by x_i2b x_ushr x_shr cn; rw [show (24 : Int) - 8 * ((3 : Nat) : Int) = 0 by decide, p0]; omega
theorem c_put1 {Z : XZ} {d n : Nat} (t : Nat) (a e : Int) (h : Z 0 0 1 = (n : Int)) (hn : n < 2000) (he : 0 ≤ e ∧ e < 32) : x_EX d 83 3 [some (.inr (.inr (some (0, 0)))), some (.inl a), some (.inl e)] [] (x_S Z t) = x_EX d 83 3 [some (.inr (.inr (some (0, 0)))), some (.inl a), some (.inl (e + (-8)))] [] (x_S (x_u (x_u Z 1 0 n (x_i2b (x_i2b (x_ushr a e)))) 0 0 1 ((n + 1 : Nat) : Int)) t) := by
  rw [B83_3, h, cn_nt (z := (n : Int)) rfl (by omega), cn_id (z := e) (by omega) (by omega), if_neg (by omega), if_pos (by omega), if_pos (by omega), Int.toNat_natCast]
  rfl
theorem c_put {Z : XZ} {d n : Nat} (hd : 1 ≤ d) (t : Nat) (a : Int) (h : Z 0 0 1 = (n : Int)) (hn : n + 4 ≤ 2000) : ∃ Z' : XZ, x_CALL d 83 [.inr (.inr (some (0, 0))), .inl a] (x_S Z t) = some (0, x_S Z' t) ∧ Z' 0 0 1 = ((n + 4 : Nat) : Int) ∧ (∀ k, k < 4 → Z' 1 0 (n + k) = q_by a k) ∧ ∀ g m i, ¬ (g = 0 ∧ i = 1) → ¬ (g = 1 ∧ n ≤ i ∧ i < n + 4) → Z' g m i = Z g m i := by
  rw [C83 _ _ _ _ (by omega), c_put1 t a 24 h (by omega) (by decide), show (24 : Int) + -8 = 16 from rfl, c_put1 (n := n + 1) t a 16 x_u_eq (by omega) (by decide), show (16 : Int) + -8 = 8 from rfl, c_put1 (n := n + 1 + 1) t a 8 x_u_eq (by omega) (by decide), show (8 : Int) + -8 = 0 from rfl, c_put1 (n := n + 1 + 1 + 1) t a 0 x_u_eq (by omega) (by decide), B83_3, if_pos (by decide), b24, b16, b8, b0]
  refine ⟨_, rfl, x_u_eq, ?_, ?_⟩
  · intro k hk
    have : k = 0 ∨ k = 1 ∨ k = 2 ∨ k = 3 := by omega
    rcases this with rfl | rfl | rfl | rfl
    · simp [x_u]; rw [if_neg (by omega), if_neg (by omega)]
    all_goals simp [x_u]
  · intro g m i a b
    rw [x_u_ne (by omega), x_u_ne (by omega), x_u_ne (by omega), x_u_ne (by omega), x_u_ne (by omega), x_u_ne (by omega), x_u_ne (by omega), x_u_ne (by omega)]
theorem m_put1 {Z : XZ} {d n : Nat} (t : Nat) (a e : Int) (h : Z 56 0 2 = (n : Int)) (hn : n < 2000) (he : 0 ≤ e ∧ e < 32) : x_EX d 134 3 [some (.inr (.inr (some (56, 0)))), some (.inl a), some (.inl e)] [] (x_S Z t) = x_EX d 134 3 [some (.inr (.inr (some (56, 0)))), some (.inl a), some (.inl (e + (-8)))] [] (x_S (x_u (x_u Z 57 0 n (x_i2b (x_i2b (x_shr a e)))) 56 0 2 ((n + 1 : Nat) : Int)) t) := by
  rw [B134_3, h, cn_nt (z := (n : Int)) rfl (by omega), cn_id (z := e) (by omega) (by omega), if_neg (by omega), if_pos (by omega), Int.toNat_natCast]
  rfl
theorem m_put {Z : XZ} {d n : Nat} (hd : 1 ≤ d) (t : Nat) (a : Int) (h : Z 56 0 2 = (n : Int)) (hn : n + 4 ≤ 2000) : ∃ Z' : XZ, x_CALL d 134 [.inr (.inr (some (56, 0))), .inl a] (x_S Z t) = some (0, x_S Z' t) ∧ Z' 56 0 2 = ((n + 4 : Nat) : Int) ∧ (∀ k, k < 4 → Z' 57 0 (n + k) = q_by a k) ∧ ∀ g m i, ¬ (g = 56 ∧ i = 2) → ¬ (g = 57 ∧ n ≤ i ∧ i < n + 4) → Z' g m i = Z g m i := by
  rw [C134 _ _ _ _ (by omega), m_put1 t a 24 h (by omega) (by decide), show (24 : Int) + -8 = 16 from rfl, m_put1 (n := n + 1) t a 16 x_u_eq (by omega) (by decide), show (16 : Int) + -8 = 8 from rfl, m_put1 (n := n + 1 + 1) t a 8 x_u_eq (by omega) (by decide), show (8 : Int) + -8 = 0 from rfl, m_put1 (n := n + 1 + 1 + 1) t a 0 x_u_eq (by omega) (by decide), B134_3, if_pos (by decide)]
  refine ⟨_, rfl, x_u_eq, ?_, ?_⟩
  · intro k hk
    have : k = 0 ∨ k = 1 ∨ k = 2 ∨ k = 3 := by omega
    rcases this with rfl | rfl | rfl | rfl
    · simp [x_u, q_by]; rw [if_neg (by omega), if_neg (by omega)]
    all_goals simp [x_u, q_by]
  · intro g m i a b
    rw [x_u_ne (by omega), x_u_ne (by omega), x_u_ne (by omega), x_u_ne (by omega), x_u_ne (by omega), x_u_ne (by omega), x_u_ne (by omega), x_u_ne (by omega)]
def q_f5 (a b c e f : Int) (j : Nat) : Int := if j < 4 then q_by a j else if j < 8 then q_by b (j - 4) else if j < 12 then q_by c (j - 8) else if j < 16 then q_by e (j - 12) else q_by f (j - 16)
theorem q_f5_b (a b c e f : Int) (j : Nat) : -128 ≤ q_f5 a b c e f j ∧ q_f5 a b c e f j < 128 := by
  unfold q_f5
  split
  · exact q_by_b _ _
  split
  · exact q_by_b _ _
  split
  · exact q_by_b _ _
  split
  · exact q_by_b _ _
  · exact q_by_b _ _
theorem q_f5_of {X0 X1 X2 X3 X4 : Nat → Int} {n : Nat} {a b c e f : Int} (h1 : ∀ k, k < 4 → X0 (n + k) = q_by a k) (h2 : ∀ k, k < 4 → X1 (n + 4 + k) = q_by b k) (h3 : ∀ k, k < 4 → X2 (n + 4 + 4 + k) = q_by c k) (h4 : ∀ k, k < 4 → X3 (n + 4 + 4 + 4 + k) = q_by e k) (h5 : ∀ k, k < 4 → X4 (n + 4 + 4 + 4 + 4 + k) = q_by f k) (k1 : ∀ i, ¬ (n + 4 ≤ i ∧ i < n + 4 + 4) → X1 i = X0 i) (k2 : ∀ i, ¬ (n + 4 + 4 ≤ i ∧ i < n + 4 + 4 + 4) → X2 i = X1 i) (k3 : ∀ i, ¬ (n + 4 + 4 + 4 ≤ i ∧ i < n + 4 + 4 + 4 + 4) → X3 i = X2 i) (k4 : ∀ i, ¬ (n + 4 + 4 + 4 + 4 ≤ i ∧ i < n + 4 + 4 + 4 + 4 + 4) → X4 i = X3 i) : ∀ j, j < 20 → X4 (n + j) = q_f5 a b c e f j := by
  intro j hj
  unfold q_f5
  by_cases j1 : j < 4
  · rw [if_pos j1, k4 _ (by omega), k3 _ (by omega), k2 _ (by omega), k1 _ (by omega)]; exact h1 j j1
  rw [if_neg j1]
  by_cases j2 : j < 8
  · rw [if_pos j2, k4 _ (by omega), k3 _ (by omega), k2 _ (by omega), show n + j = n + 4 + (j - 4) by omega]; exact h2 _ (by omega)
  rw [if_neg j2]
  by_cases j3 : j < 12
  · rw [if_pos j3, k4 _ (by omega), k3 _ (by omega), show n + j = n + 4 + 4 + (j - 8) by omega]; exact h3 _ (by omega)
  rw [if_neg j3]
  by_cases j4 : j < 16
  · rw [if_pos j4, k4 _ (by omega), show n + j = n + 4 + 4 + 4 + (j - 12) by omega]; exact h4 _ (by omega)
  rw [if_neg j4, show n + j = n + 4 + 4 + 4 + 4 + (j - 16) by omega]; exact h5 _ (by omega)
theorem c_feed {Z : XZ} {n : Nat} (t : Nat) (a b c e f : Int) (h : Z 0 0 1 = (n : Int)) (hn : n + 20 ≤ 2000) : ∃ Z' : XZ, x_CALL 60 82 [.inr (.inr (some (0, 0))), .inl a, .inl b, .inl c, .inl e, .inl f] (x_S Z t) = some (((n + 20 : Nat) : Int), x_S Z' t) ∧ Z' 0 0 1 = ((n + 20 : Nat) : Int) ∧ (∀ j, j < 20 → Z' 1 0 (n + j) = q_f5 a b c e f j) ∧ ∀ g m i, ¬ (g = 0 ∧ i = 1) → ¬ (g = 1 ∧ n ≤ i ∧ i < n + 20) → Z' g m i = Z g m i := by
  obtain ⟨Z1, a1, a2, a3, a4⟩ := c_put (d := 59) (by decide) t a h (by omega)
  obtain ⟨Z2, b1, b2, b3, b4⟩ := c_put (d := 59) (by decide) t b a2 (by omega)
  obtain ⟨Z3, c1, c2, c3, c4⟩ := c_put (d := 59) (by decide) t c b2 (by omega)
  obtain ⟨Z4, d1, d2, d3, d4⟩ := c_put (d := 59) (by decide) t e c2 (by omega)
  obtain ⟨Z5, e1, e2, e3, e4⟩ := c_put (d := 59) (by decide) t f d2 (by omega)
  rw [C82 60 Z t a b c e f (by decide), h, cn_nt (z := (n : Int) + 20) (n := n + 20) (by omega) (by omega), if_neg (by omega), a1, Option.bind_some, B82_20, b1, Option.bind_some, B82_25, c1, Option.bind_some, B82_30, d1, Option.bind_some, B82_36, e1, Option.bind_some, B82_42, e2]
  refine ⟨Z5, rfl, e2, q_f5_of a3 b3 c3 d3 e3 (fun i hi => b4 _ _ _ (by omega) (by omega)) (fun i hi => c4 _ _ _ (by omega) (by omega)) (fun i hi => d4 _ _ _ (by omega) (by omega)) (fun i hi => e4 _ _ _ (by omega) (by omega)), fun g m i x y => ?_⟩
  rw [e4 _ _ _ x (by omega), d4 _ _ _ x (by omega), c4 _ _ _ x (by omega), b4 _ _ _ x (by omega), a4 _ _ _ x (by omega)]
theorem m_feed {Z : XZ} {n : Nat} (t : Nat) (a b c e f : Int) (h : Z 56 0 2 = (n : Int)) (hn : n + 20 ≤ 2000) : ∃ Z' : XZ, x_CALL 60 133 [.inr (.inr (some (56, 0))), .inl a, .inl b, .inl c, .inl e, .inl f] (x_S Z t) = some (((n + 20 : Nat) : Int), x_S Z' t) ∧ Z' 56 0 2 = ((n + 20 : Nat) : Int) ∧ (∀ j, j < 20 → Z' 57 0 (n + j) = q_f5 a b c e f j) ∧ ∀ g m i, ¬ (g = 56 ∧ i = 2) → ¬ (g = 57 ∧ n ≤ i ∧ i < n + 20) → Z' g m i = Z g m i := by
  obtain ⟨Z1, a1, a2, a3, a4⟩ := m_put (d := 59) (by decide) t a h (by omega)
  obtain ⟨Z2, b1, b2, b3, b4⟩ := m_put (d := 59) (by decide) t b a2 (by omega)
  obtain ⟨Z3, c1, c2, c3, c4⟩ := m_put (d := 59) (by decide) t c b2 (by omega)
  obtain ⟨Z4, d1, d2, d3, d4⟩ := m_put (d := 59) (by decide) t e c2 (by omega)
  obtain ⟨Z5, e1, e2, e3, e4⟩ := m_put (d := 59) (by decide) t f d2 (by omega)
  rw [C133 60 Z t a b c e f (by decide), h, cn_nt (z := (n : Int) + 20) (n := n + 20) (by omega) (by omega), if_neg (by omega), a1, Option.bind_some, B133_20, b1, Option.bind_some, B133_25, c1, Option.bind_some, B133_30, d1, Option.bind_some, B133_36, e1, Option.bind_some, B133_42, e2]
  refine ⟨Z5, rfl, e2, q_f5_of a3 b3 c3 d3 e3 (fun i hi => b4 _ _ _ (by omega) (by omega)) (fun i hi => c4 _ _ _ (by omega) (by omega)) (fun i hi => d4 _ _ _ (by omega) (by omega)) (fun i hi => e4 _ _ _ (by omega) (by omega)), fun g m i x y => ?_⟩
  rw [e4 _ _ _ x (by omega), d4 _ _ _ x (by omega), c4 _ _ _ x (by omega), b4 _ _ _ x (by omega), a4 _ _ _ x (by omega)]
theorem s0_ok : p_s0 PI := by
  intro a b c e f _ _ _ _ _ Z t ⟨T, F, N, H, K, v, u, nx, h⟩
  obtain ⟨n, n1, n2, n3, n4, n5, n6⟩ := id h.2.2.2.2.2.2.2.2.2.2.2.2
  by_cases hn : n + 20 ≤ 2000
  · obtain ⟨Z1, a1, a2, a3, a4⟩ := c_feed t a b c e f n2 hn
    obtain ⟨Z2, b1, b2, b3, b4⟩ := m_feed (Z := Z1) t a b c e f ((a4 _ _ _ (by omega) (by omega)).trans n3) hn
    refine ⟨_, _, _, _, _, a1, fun g hg => funext fun m => funext fun i => a4 _ _ _ (by omega) (by omega), b1, fun g hg => funext fun m => funext fun i => (b4 _ _ _ (by omega) (by omega)).trans (a4 _ _ _ (by omega) (by omega)), rfl, ⟨T, F, N, H, K, v, u, nx, h.reT (fun g m i x y => (b4 _ _ _ (by omega) (by omega)).trans (a4 _ _ _ (by omega) (by omega))) ⟨n + 20, hn, (b4 _ _ _ (by omega) (by omega)).trans a2, b2, ?_, ?_, ?_⟩⟩⟩
    · rw [b4 _ _ _ (by omega) (by omega), b4 56 _ _ (by omega) (by omega), a4 _ _ _ (by omega) (by omega), a4 56 _ _ (by omega) (by omega)]; exact n4
    · intro i hi
      rw [b4 1 _ _ (by omega) (by omega)]
      by_cases hin : i < n
      · rw [a4 _ _ _ (by omega) (by omega), b4 57 _ _ (by omega) (by omega), a4 57 _ _ (by omega) (by omega)]; exact n5 i hin
      · obtain ⟨j, rfl⟩ : ∃ j, i = n + j := ⟨i - n, by omega⟩
        rw [a3 j (by omega), b3 j (by omega)]
        exact ⟨rfl, q_f5_b _ _ _ _ _ _⟩
    · intro i hi
      rw [b4 _ _ _ (by omega) (by omega), a4 _ _ _ (by omega) (by omega)]; exact n6 i hi
  · have c1 := C82 60 Z t a b c e f (by decide)
    have m1 := C133 60 Z t a b c e f (by decide)
    rw [n2, cn_nt (z := (n : Int) + 20) (n := n + 20) (by omega) (by omega), if_pos (by omega)] at c1
    rw [n3, cn_nt (z := (n : Int) + 20) (n := n + 20) (by omega) (by omega), if_pos (by omega)] at m1
    exact p_fin h c1 keepQ.rfl' m1 keepQ.rfl' rfl
