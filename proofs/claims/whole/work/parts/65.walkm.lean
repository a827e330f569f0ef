/-! the model's walk to its end -/
theorem m_walk_tail {d : Nat} (t : Nat) (s set : Int) (a : Int) (o5 : Option XV) : ∀ (n j : Nat) (Z : XZ), j + n = 8 → ∃ Z' : XZ, x_EX d 201 238 [some (.inr (.inr (some (56, 0)))), some (.inl s), some (.inl set), some (.inl a), some (.inl ((j : Int))), o5] [] (x_S Z t) = some (0, x_S Z' t) ∧ (∀ i, j < i → i ≤ 8 → Z' 99 0 i = a) ∧ Z' 56 0 66 = Z 56 0 66 * 4 ^ n ∧ ∀ g m i, ¬ (g = 99 ∧ j < i) → ¬ (g = 56 ∧ i = 66) → Z' g m i = Z g m i := by
  intro n
  induction n with
  | zero =>
    intro j Z hj
    obtain rfl : j = 8 := by omega
    rw [B201_238, if_neg (by decide)]
    exact ⟨Z, rfl, fun i a b => by omega, by rw [Int.pow_zero, Int.mul_one], fun _ _ _ _ _ => rfl⟩
  | succ n ih =>
    intro j Z hj
    rw [B201_238, cn_nt (z := (j : Int)) rfl (by omega), if_pos (by omega), cn_nt (z := (j : Int) + 1) (n := j + 1) (by omega) (by omega), if_pos (by omega), Int.toNat_natCast]
    obtain ⟨Z', e1, e2, e3, e4⟩ := ih (j + 1) (x_u (x_u Z 99 0 (j + 1) a) 56 0 66 (Z 56 0 66 * 4)) (by omega)
    refine ⟨Z', e1, ?_, ?_, ?_⟩
    · intro i h1 h2
      by_cases hi : i = j + 1
      · rw [hi, e4 _ _ _ (by omega) (by omega), x_u_ne (by omega), x_u_eq]
      · exact e2 i (by omega) h2
    · rw [e3, x_u_eq, Int.pow_succ, Int.mul_assoc, Int.mul_comm 4]
    · intro g m i h1 h2
      rw [e4 _ _ _ (by omega) h2, x_u_ne (by omega), x_u_ne (by omega)]
theorem m_walk_fin {Z : XZ} {v : Nat} {T : PT} {F : PF} {N : PN} {d s set k : Nat} (hM : MT Z v T) (hT : TOK T) (hW : MW T F N s Z) (hd : 1 ≤ d) (t : Nat) (hs : s < T 2 0) (hset : set < 256) (hk : k ≤ 8) (hne : ∀ j, j < k → ¬ w_e T (w_at T N s set j) = true) (hen : k < 8 → w_e T (w_at T N s set k) = true) (hL : LW T F N s set k Z) (o4 o5 : Option XV) : ∃ Z' : XZ, x_EX d 201 40 [some (.inr (.inr (some (56, 0)))), some (.inl ((s : Int))), some (.inl ((set : Int))), some (.inl ((w_at T N s set k : Int))), o4, o5] [] (x_S Z t) = some (0, x_S Z' t) ∧ LW T F N s set 8 Z' ∧ ∀ g m i, ¬ (g = 99 ∨ (g = 56 ∧ 62 ≤ i ∧ i ≤ 66)) → Z' g m i = Z g m i := by
  have t0 : T 0 0 ≤ 7 := hT.1
  have hat : w_at T N s set k < T 0 0 := w_at_lt hT hs k
  have hst : w_st T N s set k = k := w_st_k k hne
  obtain ⟨l1, l2, l3, l4, l5, l6⟩ := id hL
  rw [hst] at l1
  have hp8 : set / 2 ^ k < 256 := Nat.lt_of_le_of_lt (Nat.div_le_self _ _) hset
  by_cases hk8 : k = 8
  · subst hk8
    obtain ⟨Z', e1, e2, e3, e4⟩ := m_walk_tail (d := d) t (s : Int) (set : Int) (w_at T N s set 8 : Int) o5 0 8 Z (by omega)
    have hz : set / 2 ^ 8 = 0 := Nat.div_eq_of_lt hset
    rw [B201_40, l1, if_neg (by decide), x_shr_nat (by omega) (by omega), hz, if_pos (by decide)]
    refine ⟨Z', e1, ⟨?_, ?_, ?_, ?_, ?_, ?_⟩, fun g m i hg => e4 _ _ _ (by omega) (by omega)⟩
    · rw [e4 _ _ _ (by omega) (by omega), hst]; exact l1
    · rw [e4 _ _ _ (by omega) (by omega)]; exact l2
    · rw [e4 _ _ _ (by omega) (by omega)]; exact l3
    · rw [e4 _ _ _ (by omega) (by omega)]; exact l4
    · rw [e3, Int.pow_zero, Int.mul_one]; exact l5
    · intro j hj; rw [e4 _ _ _ (by omega) (by omega)]; exact l6 j hj
  have he := hen (by omega)
  obtain ⟨q1, q2, q3⟩ := hW _ hat
  have hh : q_ho T = (T 10 0 : Int) := by unfold q_ho; rw [if_neg (by omega)]
  have h10 : T 10 0 < T 0 0 := hT.2.2.2.2.2.2.1 (by omega)
  have e0 : x_EX d 201 40 [some (.inr (.inr (some (56, 0)))), some (.inl ((s : Int))), some (.inl ((set : Int))), some (.inl ((w_at T N s set k : Int))), o4, o5] [] (x_S Z t) = x_EX d 201 218 [some (.inr (.inr (some (56, 0)))), some (.inl ((s : Int))), some (.inl ((set : Int))), some (.inl ((w_at T N s set k : Int))), o4, o5] [] (x_S Z t) := by
    rw [B201_40, l1, cn_nt (z := (k : Int)) rfl (by omega), if_pos (by omega), m_house hM hT hd t, Option.bind_some, B201_54, hh, cn_nt (z := (T 10 0 : Int)) rfl (by omega), cn_nt (z := (w_at T N s set k : Int)) rfl (by omega)]
    by_cases hho : w_at T N s set k = T 10 0
    · rw [if_pos (by omega)]
    · have hdg : q_dg T (w_at T N s set k) = 0 := by unfold w_e at he; simp [hho] at he; exact he
      rw [if_pos hdg] at q2
      rw [if_neg (by omega), if_pos (by omega), Int.toNat_natCast, q2, if_pos (by decide)]
  obtain ⟨y1, y2, y3, y4, y5⟩ := w_end he (8 - k)
  rw [show k + (8 - k) = 8 by omega] at y1 y2 y3 y4 y5
  have yc := w_ca_end (F := F) he (8 - k)
  rw [show k + (8 - k) = 8 by omega] at yc
  have hlt : set / 2 ^ k < 2 ^ (8 - k) := by
    rw [Nat.div_lt_iff_lt_mul (Nat.two_pow_pos k), ← Nat.pow_add, show 8 - k + k = 8 by omega]
    exact hset
  rw [Nat.mod_eq_of_lt hlt] at yc
  have hcl := w_ca_le T F N s set k
  have hp4 : (4 : Nat) ^ k * 4 ^ (8 - k) = 65536 := by rw [← Nat.pow_add, show k + (8 - k) = 8 by omega]
  have hcb : w_ca T F N s set k * 4 ^ (8 - k) ≤ 65536 := by rw [← hp4]; exact Nat.mul_le_mul_right _ hcl
  have hck : w_ca T F N s set k ≤ 65536 := Nat.le_trans (Nat.le_mul_of_pos_right _ (Nat.pow_pos (by decide))) hcb
  rw [e0, B201_218, l1, x_shr_nat (by omega) (by omega), cn_nt (z := ((set / 2 ^ k : Nat) : Int)) rfl (by omega)]
  have key : ∀ Z1 : XZ, (∀ g m i, ¬ (g = 56 ∧ i = 66) → Z1 g m i = Z g m i) → cn (Z1 56 0 66 * 4 ^ (8 - k)) = (w_ca T F N s set 8 : Int) → ∃ Z' : XZ, x_EX d 201 238 [some (.inr (.inr (some (56, 0)))), some (.inl ((s : Int))), some (.inl ((set : Int))), some (.inl ((w_at T N s set k : Int))), some (.inl ((k : Int))), o5] [] (x_S Z1 t) = some (0, x_S Z' t) ∧ LW T F N s set 8 Z' ∧ ∀ g m i, ¬ (g = 99 ∨ (g = 56 ∧ 62 ≤ i ∧ i ≤ 66)) → Z' g m i = Z g m i := by
    intro Z1 k1 hc
    obtain ⟨Z', e1, e2, e3, e4⟩ := m_walk_tail (d := d) t (s : Int) (set : Int) (w_at T N s set k : Int) o5 (8 - k) k Z1 (by omega)
    refine ⟨Z', e1, ⟨?_, ?_, ?_, ?_, ?_, ?_⟩, fun g m i hg => by rw [e4 _ _ _ (by omega) (by omega)]; exact k1 _ _ _ (by omega)⟩
    · rw [e4 _ _ _ (by omega) (by omega), k1 _ _ _ (by omega), y2, hst]; exact l1
    · rw [e4 _ _ _ (by omega) (by omega), k1 _ _ _ (by omega), y3]; exact l2
    · rw [e4 _ _ _ (by omega) (by omega), k1 _ _ _ (by omega), y4]; exact l3
    · rw [e4 _ _ _ (by omega) (by omega), k1 _ _ _ (by omega), y5]; exact l4
    · rw [e3]; exact hc
    · intro j hj
      by_cases hjk : j ≤ k
      · rw [e4 _ _ _ (by omega) (by omega), k1 _ _ _ (by omega)]; exact l6 j hjk
      · rw [e2 j (by omega) hj, ← (w_end he (j - k)).1, show k + (j - k) = j by omega]
  by_cases hz : set / 2 ^ k = 0
  · rw [if_pos (by omega)]
    refine key Z (fun _ _ _ _ => rfl) ?_
    rw [yc, if_pos hz]
    have hca : cn (Z 56 0 66) = cn (w_ca T F N s set k : Int) := by rw [l5, cn_nt rfl (by omega)]
    rw [cn_mul hca (rfl : cn (4 ^ (8 - k)) = cn (4 ^ (8 - k)))]
    exact cn_nt (by simp) (by omega)
  · rw [if_neg (by omega)]
    refine key (x_u Z 56 0 66 0) (fun g m i hg => x_u_ne (by omega)) ?_
    rw [x_u_eq, Int.zero_mul, yc, if_neg hz]; decide
theorem m_walk_all {v : Nat} {T : PT} {F : PF} {N : PN} {d s set : Nat} (hT : TOK T) (hd : 1 ≤ d) (t : Nat) (hs : s < T 2 0) (hset : set < 256) : ∀ (n k : Nat) (Z : XZ) (o4 o5 : Option XV), k + n = 8 → MT Z v T → MW T F N s Z → (∀ j, j < k → ¬ w_e T (w_at T N s set j) = true) → LW T F N s set k Z → ∃ Z' : XZ, x_EX d 201 40 [some (.inr (.inr (some (56, 0)))), some (.inl ((s : Int))), some (.inl ((set : Int))), some (.inl ((w_at T N s set k : Int))), o4, o5] [] (x_S Z t) = some (0, x_S Z' t) ∧ LW T F N s set 8 Z' ∧ ∀ g m i, ¬ (g = 99 ∨ (g = 56 ∧ 62 ≤ i ∧ i ≤ 66)) → Z' g m i = Z g m i := by
  intro n
  induction n with
  | zero =>
    intro k Z o4 o5 hk hM hW hne hL
    exact m_walk_fin hM hT hW hd t hs hset (by omega) hne (by omega) hL o4 o5
  | succ n ih =>
    intro k Z o4 o5 hk hM hW hne hL
    by_cases he : w_e T (w_at T N s set k) = true
    · exact m_walk_fin hM hT hW hd t hs hset (by omega) hne (fun _ => he) hL o4 o5
    · have hne' : ∀ j, j ≤ k → ¬ w_e T (w_at T N s set j) = true := fun j hj => by
        by_cases hjk : j = k
        · rw [hjk]; exact he
        · exact hne j (by omega)
      obtain ⟨Z1, p4, p5, e1, e2, e3⟩ := m_walk_step hM hT hW hd t hs hset (by omega) hne' hL o4 o5
      obtain ⟨Z2, f1, f2, f3⟩ := ih (k + 1) Z1 p4 p5 (by omega) (hM.congr (fun g i a b => e3 _ _ _ (by omega)) (e3 _ _ _ (by omega))) (hW.congr (fun g i a b => e3 _ _ _ (by omega))) (fun j hj => hne' j (by omega)) e2
      exact ⟨Z2, e1.trans f1, f2, fun g m i hg => (f3 g m i hg).trans (e3 g m i hg)⟩
theorem m_walks {Z : XZ} {v : Nat} {T : PT} {F : PF} {N : PN} {d s set : Nat} (hM : MT Z v T) (hT : TOK T) (hW : MW T F N s Z) (hd : 2 ≤ d) (t : Nat) (hs : s < T 2 0) (hset : set < 256) : ∃ Z' : XZ, x_CALL d 201 [.inr (.inr (some (56, 0))), .inl ((s : Int)), .inl ((set : Int))] (x_S Z t) = some (0, x_S Z' t) ∧ LW T F N s set 8 Z' ∧ ∀ g m i, ¬ (g = 99 ∨ (g = 56 ∧ 62 ≤ i ∧ i ≤ 66)) → Z' g m i = Z g m i := by
  have t0 : T 0 0 ≤ 7 := hT.1
  have h8 := (hT.2.2.2.2.2.1 s hs).2
  rw [C201 _ _ _ _ _ (by omega), m_start hM hT (by omega) t hs, Option.bind_some, B201_5, x_shl_1 (by omega)]
  generalize hZ1 : x_u (x_u (x_u (x_u (x_u (x_u Z 56 0 62 0) 56 0 63 0) 56 0 64 0) 56 0 65 ((2 ^ T 8 s : Nat) : Int)) 56 0 66 1) 99 0 0 (T 8 s : Int) = Z1
  have k1 : ∀ g m i, ¬ (g = 99 ∨ (g = 56 ∧ 62 ≤ i ∧ i ≤ 66)) → Z1 g m i = Z g m i := fun g m i hg => by rw [← hZ1, x_u_ne (by omega), x_u_ne (by omega), x_u_ne (by omega), x_u_ne (by omega), x_u_ne (by omega), x_u_ne (by omega)]
  have hL : LW T F N s set 0 Z1 := by
    refine ⟨?_, ?_, ?_, ?_, ?_, ?_⟩
    · rw [← hZ1]; simp [x_u, w_st]
    · rw [← hZ1]; simp [x_u, w_mi]
    · rw [← hZ1]; simp [x_u, w_la]
    · rw [← hZ1]; simp [x_u, w_co]
    · rw [← hZ1]; simp [x_u, w_ca]; decide
    · intro j hj; obtain rfl : j = 0 := by omega
      rw [← hZ1]; simp [x_u, w_at]
  obtain ⟨Z2, f1, f2, f3⟩ := m_walk_all (d := d - 1) hT (by omega) t hs hset 8 0 Z1 none none (by omega) (hM.congr (fun g i a b => k1 _ _ _ (by omega)) (k1 _ _ _ (by omega))) (hW.congr (fun g i a b => k1 _ _ _ (by omega))) (fun j hj => by omega) hL
  exact ⟨Z2, f1, f2, fun g m i hg => (f3 g m i hg).trans (k1 g m i hg)⟩
