/-! undo, hold, restore -/
theorem m_undo_loop {Z : XZ} {d w : Nat} (hw : w < 40) (h67 : Z 56 0 67 = (w : Int)) (t : Nat) : ∀ (n k : Nat), k + n = 16 → x_EX d 212 21 [some (.inr (.inr (some (56, 0)))), some (.inl ((k : Int)))] [] (x_S (x_cp Z 100 0 (16 * w) 93 0 0 k) t) = some (1, x_S (x_cp Z 100 0 (16 * w) 93 0 0 16) t) := by
  intro n
  have e : ∀ k, x_cp Z 100 0 (16 * w) 93 0 0 k 56 0 67 = (w : Int) := fun k => by rw [x_cp_ne (by omega), h67]
  induction n with
  | zero => intro k hk; obtain rfl : k = 16 := by omega
            rw [B212_21, if_neg (by decide)]
  | succ n ih =>
    intro k hk
    rw [B212_21, e, cn_nt (z := (k : Int)) rfl (by omega), cn_nt (z := 16 * (w : Int) + (k : Int)) (n := 16 * w + k) (by omega) (by omega), if_pos (by omega), if_pos (by omega), if_pos (by omega), Int.toNat_natCast, Int.toNat_natCast]
    have := x_cp_succ (Z := Z) (gs := 100) (is := 0) (sp := 16 * w) (gd := 93) (id := 0) (dp := 0) (k := k) (by decide)
    rw [Nat.zero_add] at this
    rw [this]
    exact ih (k + 1) (by omega)
theorem m_hold_loop {Z : XZ} {d s : Nat} (hs : s < 3) (t : Nat) : ∀ (n k : Nat), k + n = 16 → x_EX d 243 20 [some (.inr (.inr (some (56, 0)))), some (.inl ((s : Int))), some (.inl ((k : Int)))] [] (x_S (x_cp Z 93 0 0 108 0 (16 * s) k) t) = some (1, x_S (x_cp Z 93 0 0 108 0 (16 * s) 16) t) := by
  intro n
  induction n with
  | zero => intro k hk; obtain rfl : k = 16 := by omega
            rw [B243_20, if_neg (by decide)]
  | succ n ih =>
    intro k hk
    rw [B243_20, cn_nt (z := (k : Int)) rfl (by omega), cn_nt (z := 16 * (s : Int) + (k : Int)) (n := 16 * s + k) (by omega) (by omega), if_pos (by omega), if_pos (by omega), if_pos (by omega), Int.toNat_natCast, Int.toNat_natCast]
    have := x_cp_succ (Z := Z) (gs := 93) (is := 0) (sp := 0) (gd := 108) (id := 0) (dp := 16 * s) (k := k) (by decide)
    rw [Nat.zero_add] at this
    rw [this]
    exact ih (k + 1) (by omega)
theorem m_rest_loop {Z : XZ} {d s : Nat} (hs : s < 3) (t : Nat) : ∀ (n k : Nat), k + n = 16 → x_EX d 244 22 [some (.inr (.inr (some (56, 0)))), some (.inl ((s : Int))), some (.inl ((k : Int)))] [] (x_S (x_cp Z 108 0 (16 * s) 93 0 0 k) t) = some (1, x_S (x_u (x_cp Z 108 0 (16 * s) 93 0 0 16) 56 0 67 0) t) := by
  intro n
  induction n with
  | zero => intro k hk; obtain rfl : k = 16 := by omega
            rw [B244_22, if_neg (by decide)]
  | succ n ih =>
    intro k hk
    rw [B244_22, cn_nt (z := (k : Int)) rfl (by omega), cn_nt (z := 16 * (s : Int) + (k : Int)) (n := 16 * s + k) (by omega) (by omega), if_pos (by omega), if_pos (by omega), if_pos (by omega), Int.toNat_natCast, Int.toNat_natCast]
    have := x_cp_succ (Z := Z) (gs := 108) (is := 0) (sp := 16 * s) (gd := 93) (id := 0) (dp := 0) (k := k) (by decide)
    rw [Nat.zero_add] at this
    rw [this]
    exact ih (k + 1) (by omega)
theorem MR.cp {Z : XZ} {g o g' o' : Nat} {N : PN} (h : MR Z g o N) : MR (x_cp Z g 0 o g' 0 o' 16) g' o' N := by
  intro k hk
  rw [x_cp_in hk]; exact h k hk
theorem s14_ok : p_s14 PI := by
  intro Z t ⟨T, F, N, H, K, v, u, nx, h⟩
  obtain ⟨ht, hT, hC, hM, _, _, hS, hR, hN, hH, hK, hNI, hTI⟩ := id h
  obtain ⟨u1, u2, u3, u4, u5, u6⟩ := id hH
  have c1 := C98 60 Z t (by decide)
  have m1 := fun Z1 => C212 60 Z1 t (by decide)
  rw [C4 _ _ _ _ (by decide), u1, u4, cn_nt (z := (u : Int)) rfl (by omega)] at c1
  by_cases h0 : u = 0
  · rw [if_pos (by omega), Option.bind_some, B98_11, if_pos (.inl rfl)] at c1
    have m2 := m1 Z
    rw [u2, cn_nt (z := (u : Int)) rfl (by omega), if_pos (by omega)] at m2
    exact p_fin h c1 keepQ.rfl' m2 keepQ.rfl' rfl
  have hnx : (nx + 39) % 40 < 40 := Nat.mod_lt _ (by decide)
  rw [if_neg (by omega), show (nx : Int) + 40 - 1 = ((nx + 39 : Nat) : Int) by omega, show x_rem ((nx + 39 : Nat) : Int) 40 = (((nx + 39) % 40 : Nat) : Int) from x_rem_nat (a := nx + 39) (b := 40) (by omega) (by decide), cn_nt (z := (((nx + 39) % 40 : Nat) : Int)) rfl (by omega), Int.toNat_natCast, if_pos (by omega)] at c1
  obtain ⟨Z1, e1, e2, e3⟩ := c_copy (Z := x_u (x_u Z 31 0 0 ((u : Int) - 1)) 31 0 1 (((nx + 39) % 40 : Nat) : Int)) (d := 58) (by decide) t 0 ((nx + 39) % 40 + 2) (by omega)
  rw [e1, Option.bind_some, B4_48, Option.bind_some, B98_11, if_pos (.inr rfl)] at c1
  have kk : ∀ g m i, ¬ (28 ≤ g ∧ g ≤ 30 ∧ m = 0) → g ≠ 31 → Z1 g m i = Z g m i := fun g m i a b => by rw [e3 g m i a, x_u_ne (by omega), x_u_ne (by omega)]
  obtain ⟨y1, y2, y3⟩ := u6 (u - 1) (by omega)
  rw [show 2 + (nx + 40 - u + (u - 1)) % 40 = (nx + 39) % 40 + 2 by omega] at y1
  have y1' : CS Z1 0 (H (u - 1)) := e2 _ (y1.congr (fun i => by rw [x_u_ne (by omega), x_u_ne (by omega)]) (fun i => by rw [x_u_ne (by omega), x_u_ne (by omega)]) (fun i => by rw [x_u_ne (by omega), x_u_ne (by omega)]))
  have hw : x_u Z1 56 0 67 ((u : Int) - 1) 56 0 67 = ((u - 1 : Nat) : Int) := by rw [x_u_eq]; omega
  have m2 := m1 Z1
  have m3 := m_undo_loop (d := 59) (Z := x_u Z1 56 0 67 ((u : Int) - 1)) (w := u - 1) (by omega) hw t 16 0 (by omega)
  rw [x_cp_0] at m3
  rw [kk 56 0 67 (by omega) (by omega), u2, cn_nt (z := (u : Int)) rfl (by omega), if_neg (by omega)] at m2
  have m4 := m2.trans m3
  generalize hZ2 : x_cp (x_u Z1 56 0 67 ((u : Int) - 1)) 100 0 (16 * (u - 1)) 93 0 0 16 = Z2 at m4
  have k2 : ∀ g m i, g ≠ 93 → ¬ (g = 56 ∧ i = 67) → Z2 g m i = Z1 g m i := fun g m i a b => by rw [← hZ2, x_cp_ne (by omega), x_u_ne (by omega)]
  refine ⟨_, _, _, _, _, c1, fun g hg => funext fun m => funext fun i => kk _ _ _ (by omega) (by omega), m4, fun g hg => funext fun m => funext fun i => (k2 _ _ _ (by omega) (by omega)).trans (kk _ _ _ (by omega) (by omega)), rfl, ⟨T, F, H (u - 1), H, K, v, u - 1, (nx + 39) % 40, h.re ?_ ?_ ?_ y3 ⟨?_, ?_, by omega, ?_, hnx, ?_⟩ ?_ ?_ ?_⟩⟩
  · intro g m i hb
    rw [k2 _ _ _ (by unfold bsc at hb; omega) (by unfold bsc at hb; omega), kk _ _ _ (by unfold bsc at hb; omega) (by unfold bsc at hb; omega)]
  · exact y1'.congr (fun i => k2 _ _ _ (by omega) (by omega)) (fun i => k2 _ _ _ (by omega) (by omega)) (fun i => k2 _ _ _ (by omega) (by omega))
  · rw [← hZ2]
    exact MR.cp (y2.congr (fun i => by rw [x_u_ne (by omega)]; exact kk _ _ _ (by omega) (by omega)))
  · rw [k2 _ _ _ (by omega) (by omega), e3 _ _ _ (by omega), x_u_ne (by omega), x_u_eq]; omega
  · rw [← hZ2, x_cp_ne (by omega), x_u_eq]; omega
  · rw [k2 _ _ _ (by omega) (by omega), e3 _ _ _ (by omega), x_u_eq]
  · intro j hj
    obtain ⟨z1, z2, z3⟩ := u6 j (by omega)
    rw [show 2 + (nx + 40 - u + j) % 40 = 2 + ((nx + 39) % 40 + 40 - (u - 1) + j) % 40 by omega] at z1
    exact ⟨z1.congr (fun i => (k2 _ _ _ (by omega) (by omega)).trans (kk _ _ _ (by omega) (by omega))) (fun i => (k2 _ _ _ (by omega) (by omega)).trans (kk _ _ _ (by omega) (by omega))) (fun i => (k2 _ _ _ (by omega) (by omega)).trans (kk _ _ _ (by omega) (by omega))), z2.congr (fun i => (k2 _ _ _ (by omega) (by omega)).trans (kk _ _ _ (by omega) (by omega))), z3⟩
  · exact hK.congr (fun g m i hg => (k2 _ _ _ (by omega) (by omega)).trans (kk _ _ _ (by omega) (by omega)))
  · exact hNI.congr (fun g m i hg => (k2 _ _ _ (by omega) (by omega)).trans (kk _ _ _ (by omega) (by omega)))
  · exact hTI.congr (fun g m i hg => (k2 _ _ _ (by omega) (by omega)).trans (kk _ _ _ (by omega) (by omega)))
theorem s40_ok : p_s40 PI := by
  intro a ha Z t ⟨T, F, N, H, K, v, u, nx, h⟩
  obtain ⟨ht, hT, hC, hM, _, _, hS, hR, hN, hH, hK, hNI, hTI⟩ := id h
  have c1 := C126 60 Z t a (by decide)
  have m1 : ∀ Z1, x_CALL 60 243 [.inr (.inr (some (56, 0))), .inl a] (x_S Z1 t) = _ := fun Z1 => by rw [C243 60 Z1 t a (by decide), m_in (by decide), Option.bind_some, B243_6, cn_id ha.1 ha.2, cn_id (z := 0) (by decide) (by decide), cn_id (z := 2) (by decide) (by decide)]
  rw [cn_id ha.1 ha.2] at c1
  by_cases hin : 0 ≤ a ∧ a ≤ 2
  case neg =>
    have m2 := m1 Z
    rw [if_pos (ite_00 _ hin)] at m2
    by_cases h0 : a < 0
    · rw [if_pos h0] at c1; exact p_fin h c1 keepQ.rfl' m2 keepQ.rfl' rfl
    · rw [if_neg h0, if_neg (by omega)] at c1; exact p_fin h c1 keepQ.rfl' m2 keepQ.rfl' rfl
  obtain ⟨s, rfl⟩ := Int.eq_ofNat_of_zero_le hin.1
  obtain ⟨Z1, e1, e2, e3⟩ := c_copy (Z := Z) (d := 59) (by decide) t (s + 42) 0 (by omega)
  rw [if_neg (by omega), if_pos (by omega), if_pos (by omega), Int.toNat_natCast, e1, Option.bind_some, B126_24, cn_id ha.1 ha.2, if_pos (by omega), Int.toNat_natCast] at c1
  have m2 := m1 (x_u Z1 34 0 s 1)
  have m3 := m_hold_loop (d := 59) (Z := x_u (x_u Z1 34 0 s 1) 107 0 s 1) (s := s) (by omega) t 16 0 (by omega)
  rw [x_cp_0] at m3
  rw [if_neg (ite_01 _ hin), if_pos (by omega), Int.toNat_natCast] at m2
  have m4 := m2.trans m3
  generalize hZ2 : x_cp (x_u (x_u Z1 34 0 s 1) 107 0 s 1) 93 0 0 108 0 (16 * s) 16 = Z2 at m4
  have k1 : ∀ g m i, ¬ (28 ≤ g ∧ g ≤ 30 ∧ m = s + 42) → ¬ (g = 34 ∧ i = s) → x_u Z1 34 0 s 1 g m i = Z g m i := fun g m i a b => by rw [x_u_ne (by omega)]; exact e3 g m i a
  have k2 : ∀ g m i, ¬ (28 ≤ g ∧ g ≤ 30 ∧ m = s + 42) → ¬ ((g = 34 ∨ g = 107) ∧ i = s) → ¬ (g = 108 ∧ 16 * s ≤ i ∧ i < 16 * s + 16) → Z2 g m i = Z g m i := fun g m i a b c => by rw [← hZ2, x_cp_ne (by omega), x_u_ne (by omega)]; exact k1 _ _ _ a (by omega)
  refine ⟨_, _, _, _, _, c1, fun g hg => funext fun m => funext fun i => k1 _ _ _ (by omega) (by omega), m4, fun g hg => funext fun m => funext fun i => k2 _ _ _ (by omega) (by omega) (by omega), rfl, ⟨T, F, N, H, fun j => if j = s then N else K j, v, u, nx, h.re ?_ ?_ ?_ hN ?_ ?_ ?_ ?_⟩⟩
  · intro g m i hb
    exact k2 _ _ _ (by unfold bsc at hb; omega) (by unfold bsc at hb; omega) (by unfold bsc at hb; omega)
  · exact hS.congr (fun i => k2 _ _ _ (by omega) (by omega) (by omega)) (fun i => k2 _ _ _ (by omega) (by omega) (by omega)) (fun i => k2 _ _ _ (by omega) (by omega) (by omega))
  · exact hR.congr (fun i => k2 _ _ _ (by omega) (by omega) (by omega))
  · exact hH.congr (fun g m i hg => k2 _ _ _ (by omega) (by omega) (by omega))
  · intro j hj
    by_cases hjs : j = s
    · subst hjs
      have a1 : Z2 34 0 j = 1 := by rw [← hZ2, x_cp_ne (by omega), x_u_ne (by omega), x_u_eq]
      have a2 : Z2 107 0 j = 1 := by rw [← hZ2, x_cp_ne (by omega), x_u_eq]
      refine ⟨a1.trans a2.symm, .inr ⟨a1, ?_, ?_, ?_⟩⟩
      · show CS Z2 (42 + j) (if j = j then N else K j)
        rw [if_pos rfl, Nat.add_comm 42 j]
        have e4 : ∀ g i, 28 ≤ g → g ≤ 30 → Z2 g (j + 42) i = Z1 g (j + 42) i := fun g i a b => by rw [← hZ2, x_cp_ne (by omega), x_u_ne (by omega), x_u_ne (by omega)]
        exact (e2 N hS).congr (fun i => e4 _ _ (by omega) (by omega)) (fun i => e4 _ _ (by omega) (by omega)) (fun i => e4 _ _ (by omega) (by omega))
      · show MR Z2 108 (16 * j) (if j = j then N else K j)
        rw [if_pos rfl, ← hZ2]
        exact MR.cp (hR.congr (fun i => by rw [x_u_ne (by omega)]; exact k1 _ _ _ (by omega) (by omega)))
      · show NOK (if j = j then N else K j)
        rw [if_pos rfl]; exact hN
    · obtain ⟨a1, a2⟩ := hK j hj
      rw [k2 34 0 j (by omega) (by omega) (by omega), k2 107 0 j (by omega) (by omega) (by omega)]
      simp only [if_neg hjs]
      refine ⟨a1, ?_⟩
      rcases a2 with a2 | ⟨a2, a3, a4, a5⟩
      · exact .inl a2
      · exact .inr ⟨a2, a3.congr (fun i => k2 _ _ _ (by omega) (by omega) (by omega)) (fun i => k2 _ _ _ (by omega) (by omega) (by omega)) (fun i => k2 _ _ _ (by omega) (by omega) (by omega)), fun k hk => (k2 _ _ _ (by omega) (by omega) (by omega)).trans (a4 k hk), a5⟩
  · exact hNI.congr (fun g m i hg => k2 _ _ _ (by omega) (by omega) (by omega))
  · exact hTI.congr (fun g m i hg => k2 _ _ _ (by omega) (by omega) (by omega))
theorem s41_ok : p_s41 PI := by
  intro a ha Z t ⟨T, F, N, H, K, v, u, nx, h⟩
  obtain ⟨ht, hT, hC, hM, _, _, hS, hR, hN, hH, hK, hNI, hTI⟩ := id h
  obtain ⟨u1, u2, u3, u4, u5, u6⟩ := id hH
  have c1 := C127 60 Z t a (by decide)
  have m1 : ∀ Z1, x_CALL 60 244 [.inr (.inr (some (56, 0))), .inl a] (x_S Z1 t) = _ := fun Z1 => by rw [C244 60 Z1 t a (by decide), m_in (by decide), Option.bind_some, B244_6, cn_id ha.1 ha.2, cn_id (z := 0) (by decide) (by decide), cn_id (z := 2) (by decide) (by decide)]
  rw [cn_id ha.1 ha.2] at c1
  by_cases hin : 0 ≤ a ∧ a ≤ 2
  case neg =>
    have m2 := m1 Z
    rw [if_pos (ite_00 _ hin)] at m2
    by_cases h0 : a < 0
    · rw [if_pos h0] at c1; exact p_fin h c1 keepQ.rfl' m2 keepQ.rfl' rfl
    · rw [if_neg h0, if_neg (by omega)] at c1; exact p_fin h c1 keepQ.rfl' m2 keepQ.rfl' rfl
  obtain ⟨s, rfl⟩ := Int.eq_ofNat_of_zero_le hin.1
  obtain ⟨a1, a2⟩ := hK s (by omega)
  rw [if_neg (by omega), if_pos (by omega), if_pos (by omega), Int.toNat_natCast] at c1
  rcases a2 with a2 | ⟨a2, a3, a4, a5⟩
  · have m2 := m1 Z
    rw [a2, if_pos cn_0] at c1
    rw [if_neg (ite_01 _ hin), if_pos (by omega), Int.toNat_natCast, ← a1, a2, if_pos cn_0] at m2
    exact p_fin h c1 keepQ.rfl' m2 keepQ.rfl' rfl
  obtain ⟨Z1, e1, e2, e3⟩ := c_copy (Z := Z) (d := 59) (by decide) t 0 (s + 42) (by omega)
  rw [a2, if_neg cn_1n, if_pos (by omega), e1, Option.bind_some, B127_33, C2 _ _ _ (by decide), Option.bind_some, B127_40] at c1
  have k1 : ∀ g m i, ¬ (28 ≤ g ∧ g ≤ 30 ∧ m = 0) → ¬ (g = 31 ∧ i = 0) → x_u Z1 31 0 0 0 g m i = Z g m i := fun g m i a b => by rw [x_u_ne (by omega)]; exact e3 g m i a
  have m2 := m1 (x_u Z1 31 0 0 0)
  have m3 := m_rest_loop (d := 59) (Z := x_u Z1 31 0 0 0) (s := s) (by omega) t 16 0 (by omega)
  rw [x_cp_0] at m3
  rw [if_neg (ite_01 _ hin), if_pos (by omega), Int.toNat_natCast, k1 107 0 s (by omega) (by omega), ← a1, a2, if_neg cn_1n] at m2
  have m4 := m2.trans m3
  generalize hZ2 : x_u (x_cp (x_u Z1 31 0 0 0) 108 0 (16 * s) 93 0 0 16) 56 0 67 0 = Z2 at m4
  have k2 : ∀ g m i, ¬ (28 ≤ g ∧ g ≤ 30 ∧ m = 0) → ¬ (g = 31 ∧ i = 0) → g ≠ 93 → ¬ (g = 56 ∧ i = 67) → Z2 g m i = Z g m i := fun g m i a b c d => by rw [← hZ2, x_u_ne (by omega), x_cp_ne (by omega)]; exact k1 _ _ _ a b
  refine ⟨_, _, _, _, _, c1, fun g hg => funext fun m => funext fun i => k1 _ _ _ (by omega) (by omega), m4, fun g hg => funext fun m => funext fun i => k2 _ _ _ (by omega) (by omega) (by omega) (by omega), rfl, ⟨T, F, K s, H, K, v, 0, nx, h.re ?_ ?_ ?_ a5 ⟨?_, ?_, by omega, ?_, u5, ?_⟩ ?_ ?_ ?_⟩⟩
  · intro g m i hb
    exact k2 _ _ _ (by unfold bsc at hb; omega) (by unfold bsc at hb; omega) (by unfold bsc at hb; omega) (by unfold bsc at hb; omega)
  · rw [Nat.add_comm 42 s] at a3
    have e4 : ∀ g i, 28 ≤ g → g ≤ 30 → Z2 g 0 i = Z1 g 0 i := fun g i a b => by rw [← hZ2, x_u_ne (by omega), x_cp_ne (by omega), x_u_ne (by omega)]
    exact (e2 _ a3).congr (fun i => e4 _ _ (by omega) (by omega)) (fun i => e4 _ _ (by omega) (by omega)) (fun i => e4 _ _ (by omega) (by omega))
  · have : MR (x_cp (x_u Z1 31 0 0 0) 108 0 (16 * s) 93 0 0 16) 93 0 (K s) := MR.cp (a4.congr (fun i => k1 _ _ _ (by omega) (by omega)))
    rw [← hZ2]
    exact this.congr (fun i => x_u_ne (by omega))
  · rw [← hZ2, x_u_ne (by omega), x_cp_ne (by omega), x_u_eq]; rfl
  · rw [← hZ2, x_u_eq]; rfl
  · rw [k2 _ _ _ (by omega) (by omega) (by omega) (by omega)]; exact u4
  · intro j hj; omega
  · exact hK.congr (fun g m i hg => k2 _ _ _ (by omega) (by omega) (by omega) (by omega))
  · exact hNI.congr (fun g m i hg => k2 _ _ _ (by omega) (by omega) (by omega) (by omega))
  · exact hTI.congr (fun g m i hg => k2 _ _ _ (by omega) (by omega) (by omega) (by omega))
