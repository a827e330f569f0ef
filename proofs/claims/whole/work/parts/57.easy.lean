/-! the calls that are done in few instructions -/
theorem z_lt {a b : Int} (h : a < b) : (a < b) = True := eq_true h
theorem z_nlt {a b : Int} (h : ¬ a < b) : (a < b) = False := eq_false h
theorem z_le {a b : Int} (h : a ≤ b) : (a ≤ b) = True := eq_true h
theorem z_nle {a b : Int} (h : ¬ a ≤ b) : (a ≤ b) = False := eq_false h
theorem z_eq {a b : Int} (h : a = b) : (a = b) = True := eq_true h
theorem z_ne {a b : Int} (h : ¬ a = b) : (a = b) = False := eq_false h
theorem tn_add {a b : Int} (ha : 0 ≤ a) (hb : 0 ≤ b) : (a + b).toNat = a.toNat + b.toNat := by omega
theorem tn_mul {a b : Int} (ha : 0 ≤ a) (hb : 0 ≤ b) : (a * b).toNat = a.toNat * b.toNat := by
  obtain ⟨x, rfl⟩ := Int.eq_ofNat_of_zero_le ha
  obtain ⟨y, rfl⟩ := Int.eq_ofNat_of_zero_le hb
  rfl
theorem s6_ok : p_s6 PI := by
  intro a b ha hb Z t ⟨T, F, N, H, K, v, u, nx, h⟩
  obtain ⟨ht, hT, hC, hM, _, _, hS, hR, _⟩ := id h
  obtain ⟨hb1, hb2⟩ := hb
  have s5 : T 2 0 ≤ 5 := hT.2.2.1
  have c1 := C90 60 Z t a b (by decide)
  have m1 := C197 60 Z t a b (by decide)
  rw [c_hasS hC hT (by decide), Option.bind_some, B90_8, cn_id ha.1 ha.2] at c1
  rw [m_isS hM hT (by decide), Option.bind_some, B197_5, cn_id ha.1 ha.2] at m1
  by_cases hin : 0 ≤ a ∧ a < (T 2 0 : Int)
  · obtain ⟨l, rfl⟩ := Int.eq_ofNat_of_zero_le hin.1
    have hl : l < T 2 0 := by omega
    obtain ⟨r1, r2⟩ := hC.2.2.2.1 l hl
    have r3 := hS.2.1 l (by omega)
    have hv := hM.1
    have h18 := hM.2.1
    obtain ⟨q1, q2⟩ := hM.2.2.2.2.2.1 l hl
    have q3 := hR l (by omega)
    rw [Nat.zero_add] at q3
    simp (disch := omega) only [↓reduceIte, z_lt, z_nlt, z_le, z_nle, z_eq, z_ne, and_self, and_true, true_and, and_false, false_and, not_true_eq_false, not_false_eq_true, cn_id, Int.toNat_natCast, tn_add, tn_mul, Int.reduceToNat, Option.bind_some, r1, r2, r3, hin] at c1
    simp (disch := omega) only [↓reduceIte, z_lt, z_nlt, z_le, z_nle, z_eq, z_ne, and_self, and_true, true_and, and_false, false_and, not_true_eq_false, not_false_eq_true, cn_id, Int.toNat_natCast, tn_add, tn_mul, Int.reduceToNat, Option.bind_some, h18, q1, q2, q3, m_start hM hT (d := 59) (by decide) t hl, B197_55, hin] at m1
    by_cases b0 : b = 0
    · rw [if_pos b0] at c1 m1; exact p_fin h c1 keepQ.rfl' m1 keepQ.rfl' rfl
    rw [if_neg b0] at c1 m1
    by_cases b1 : b = 1
    · rw [if_pos b1] at c1 m1; exact p_fin h c1 keepQ.rfl' m1 keepQ.rfl' rfl
    rw [if_neg b1] at c1 m1
    by_cases b2 : b = 2
    · rw [if_pos b2] at c1 m1; exact p_fin h c1 keepQ.rfl' m1 keepQ.rfl' rfl
    rw [if_neg b2] at c1 m1
    exact p_fin h c1 keepQ.rfl' m1 keepQ.rfl' rfl
  · rw [if_pos (ite_00 _ hin)] at c1 m1
    exact p_fin h c1 keepQ.rfl' m1 keepQ.rfl' rfl
theorem s1_ok : p_s1 PI := by
  intro a ha Z t ⟨T, F, N, H, K, v, u, nx, h⟩
  obtain ⟨n, n1, n2, n3, n4, n5, n6⟩ := id h.2.2.2.2.2.2.2.2.2.2.2.2
  have c1 := C84 60 Z t a (by decide)
  rw [cn_id ha.1 ha.2, n2, cn_nt (z := (n : Int)) rfl (by omega)] at c1
  by_cases hin : 0 ≤ a ∧ a ≤ (n : Int)
  · obtain ⟨k, rfl⟩ := Int.eq_ofNat_of_zero_le hin.1
    rw [if_neg (by omega), if_neg (by omega)] at c1
    have m1 := C135 60 (x_u Z 0 0 1 ((n : Int) - (k : Int))) t k (by decide)
    rw [x_u_ne (g' := 56) (by omega), n3, cn_nt (z := (n : Int)) rfl (by omega), cn_nt (z := (k : Int)) rfl (by omega), if_neg (by omega), if_neg (by omega)] at m1
    refine ⟨_, _, _, _, _, c1, fun g hg => funext fun m => funext fun i => x_u_ne (by omega), m1, fun g hg => funext fun m => funext fun i => by rw [x_u_ne (by omega), x_u_ne (by omega)], rfl, ⟨T, F, N, H, K, v, u, nx, h.reT (fun g m i a b => by rw [x_u_ne (by omega), x_u_ne (by omega)]) ⟨n - k, by omega, ?_, ?_, ?_, ?_, ?_⟩⟩⟩
    · rw [x_u_ne (by omega), x_u_eq]; omega
    · rw [x_u_eq]; omega
    · rw [x_u_ne (by omega), x_u_ne (by omega), x_u_ne (by omega), x_u_ne (by omega)]; exact n4
    · intro i hi
      rw [x_u_ne (by omega), x_u_ne (by omega), x_u_ne (by omega), x_u_ne (by omega)]; exact n5 i (by omega)
    · intro i hi
      rw [x_u_ne (by omega), x_u_ne (by omega)]; exact n6 i hi
  · have m1 := C135 60 Z t a (by decide)
    rw [cn_id ha.1 ha.2, n3, cn_nt (z := (n : Int)) rfl (by omega)] at m1
    by_cases h0 : a < 0
    · rw [if_pos h0] at c1 m1; exact p_fin h c1 keepQ.rfl' m1 keepQ.rfl' rfl
    · rw [if_neg h0, if_pos (by omega)] at c1 m1; exact p_fin h c1 keepQ.rfl' m1 keepQ.rfl' rfl
theorem s37_ok : p_s37 PI := by
  intro Z t ⟨T, F, N, H, K, v, u, nx, h⟩
  obtain ⟨n, n1, n2, n3, n4⟩ := id h.2.2.2.2.2.2.2.2.2.2.2.1
  have c1 := C123 60 Z t (by decide)
  have m1 := C239 60 (x_u Z 35 0 0 0) t (by decide)
  rw [n2] at c1
  rw [x_u_ne (g' := 56) (by omega), n3] at m1
  exact ⟨_, _, _, _, _, c1, fun g hg => funext fun m => funext fun i => x_u_ne (by omega), m1, fun g hg => funext fun m => funext fun i => by rw [x_u_ne (by omega), x_u_ne (by omega)], rfl, ⟨T, F, N, H, K, v, u, nx, h.reN (fun g m i a b => by rw [x_u_ne (by omega), x_u_ne (by omega)]) ⟨0, by omega, by rw [x_u_ne (by omega), x_u_eq]; rfl, by rw [x_u_eq]; rfl, fun j hj => by omega⟩⟩⟩
theorem ite_0n (c : Prop) [Decidable c] (hc : ¬ c) : ¬ cn (if c then 1 else 0) = 1 := by rw [if_neg hc, cn_0]; decide
theorem s36_ok : p_s36 PI := by
  intro a b c e ha hb hc he Z t ⟨T, F, N, H, K, v, u, nx, h⟩
  obtain ⟨ht, hT, hC, hM, _⟩ := id h
  obtain ⟨n, n1, n2, n3, n4⟩ := id h.2.2.2.2.2.2.2.2.2.2.2.1
  have t0 : T 0 0 ≤ 7 := hT.1
  have t2 : T 2 0 ≤ 5 := hT.2.2.1
  have c1 := C122 60 Z t a b c e (by decide)
  have m1 := C238 60 Z t a b c e (by decide)
  rw [c_hasS hC hT (by decide), Option.bind_some, B122_8, cn_id ha.1 ha.2, cn_id hb.1 hb.2] at c1
  rw [m_isS hM hT (by decide), Option.bind_some, B238_14, cn_id ha.1 ha.2, n3, cn_nt (z := (n : Int)) rfl (by omega)] at m1
  by_cases h1 : 0 ≤ a ∧ a < (T 2 0 : Int)
  case neg =>
    rw [if_pos (ite_00 _ h1)] at c1 m1
    by_cases h20 : n = 20
    · rw [if_pos (by omega)] at m1; exact p_fin h c1 keepQ.rfl' m1 keepQ.rfl' rfl
    · rw [if_neg (by omega)] at m1; exact p_fin h c1 keepQ.rfl' m1 keepQ.rfl' rfl
  rw [if_neg (ite_01 _ h1)] at c1 m1
  rw [m_in (by decide), Option.bind_some, B238_24, cn_id hb.1 hb.2, cn_id (z := 0) (by decide) (by decide), cn_id (z := 8) (by decide) (by decide)] at m1
  by_cases h2 : 0 ≤ b ∧ b ≤ 8
  case neg =>
    rw [if_pos (ite_00 _ h2)] at m1
    have c2 : x_CALL 60 122 [.inr (.inr (some (0, 0))), .inl a, .inl b, .inl c, .inl e] (x_S Z t) = some (-1, x_S Z t) := by
      by_cases h0 : b < 0
      · rw [c1, if_pos h0]
      · rw [c1, if_neg h0, if_pos (by omega)]
    by_cases h20 : n = 20
    · rw [if_pos (by omega)] at m1; exact p_fin h c2 keepQ.rfl' m1 keepQ.rfl' rfl
    · rw [if_neg (by omega)] at m1; exact p_fin h c2 keepQ.rfl' m1 keepQ.rfl' rfl
  rw [if_neg (by omega), if_neg (by omega), c_hasC hC hT (by decide), Option.bind_some, B122_29, cn_id hc.1 hc.2] at c1
  rw [if_neg (ite_01 _ h2), m_isC hM hT (by decide), Option.bind_some, B238_32, cn_id hc.1 hc.2] at m1
  by_cases h3 : 0 ≤ c ∧ c < (T 0 0 : Int)
  case neg =>
    rw [if_pos (ite_00 _ h3)] at c1 m1
    by_cases h20 : n = 20
    · rw [if_pos (by omega)] at m1; exact p_fin h c1 keepQ.rfl' m1 keepQ.rfl' rfl
    · rw [if_neg (by omega)] at m1; exact p_fin h c1 keepQ.rfl' m1 keepQ.rfl' rfl
  rw [if_neg (ite_01 _ h3), C15 _ _ _ _ _ _ _ (by decide), n2, cn_nt (z := (n : Int)) rfl (by omega)] at c1
  by_cases h20 : n = 20
  · rw [if_pos (by omega)] at m1
    rw [if_neg (by omega), Option.bind_some, B122_46] at c1
    exact p_fin h c1 keepQ.rfl' m1 keepQ.rfl' rfl
  have b20 : 0 ≤ (n : Int) ∧ (n : Int) < 20 := by omega
  rw [if_pos (by omega)] at c1
  simp only [if_pos b20, Int.toNat_natCast, Option.bind_some, B122_46] at c1
  clear m1
  generalize hZ1 : x_u (x_u (x_u (x_u (x_u Z 36 0 n a) 37 0 n b) 38 0 n c) 39 0 n (e % 2)) 35 0 0 ((n : Int) + 1) = Z1 at c1
  have k1 : ∀ g m i, ¬ (35 ≤ g ∧ g ≤ 39) → Z1 g m i = Z g m i := by
    intro g m i hg
    rw [← hZ1, x_u_ne (by omega), x_u_ne (by omega), x_u_ne (by omega), x_u_ne (by omega), x_u_ne (by omega)]
  have hM1 : MT Z1 v T := hM.congr (fun g i a b => k1 _ _ _ (by omega)) (k1 _ _ _ (by omega))
  have m1 := C238 60 Z1 t a b c e (by decide)
  rw [m_isS hM1 hT (by decide), Option.bind_some, B238_14, cn_id ha.1 ha.2, k1 56 0 70 (by omega), n3, cn_nt (z := (n : Int)) rfl (by omega), if_neg (by omega), if_neg (ite_01 _ h1), m_in (by decide), Option.bind_some, B238_24, cn_id hb.1 hb.2, cn_id (z := 0) (by decide) (by decide), cn_id (z := 8) (by decide) (by decide), if_neg (ite_01 _ h2), m_isC hM1 hT (by decide), Option.bind_some, B238_32, cn_id hc.1 hc.2, if_neg (ite_01 _ h3), k1 56 0 70 (by omega), n3, cn_nt (z := (n : Int)) rfl (by omega)] at m1
  simp only [if_pos b20, Int.toNat_natCast] at m1
  refine ⟨_, _, _, _, _, c1, fun g hg => funext fun m => funext fun i => k1 _ _ _ (by omega), m1, fun g hg => funext fun m => funext fun i => by rw [x_u_ne (by omega), x_u_ne (by omega), x_u_ne (by omega), x_u_ne (by omega), x_u_ne (by omega), k1 _ _ _ (by omega)], rfl, ⟨T, F, N, H, K, v, u, nx, h.reN (fun g m i a b => by rw [x_u_ne (by omega), x_u_ne (by omega), x_u_ne (by omega), x_u_ne (by omega), x_u_ne (by omega), k1 _ _ _ (by omega)]) ⟨n + 1, by omega, ?_, ?_, ?_⟩⟩⟩
  · rw [x_u_ne (by omega), x_u_ne (by omega), x_u_ne (by omega), x_u_ne (by omega), x_u_ne (by omega), ← hZ1, x_u_eq]; omega
  · rw [x_u_eq]; omega
  · intro j hj
    by_cases hjn : j = n
    · subst hjn
      simp [x_u, ← hZ1]
      omega
    · have hh := n4 j (by omega)
      simp [x_u, ← hZ1, hjn]
      exact hh
