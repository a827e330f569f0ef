/-! the class's walks: a row moves on -/
def w_ag (T : PT) (N : PN) (s set k : Nat) : Nat := match k with
  | 0 => 0
  | k + 1 => if w_e T (w_at T N s set k) = true then w_ag T N s set k else if w_co T N s set k &&& 2 ^ (w_at T N s set (k + 1)) = 0 then w_ag T N s set k else 1
def w_pa (T : PT) (N : PN) (s set k : Nat) : Nat := match k with
  | 0 => T 8 s
  | k + 1 => if w_e T (w_at T N s set k) = true then w_pa T N s set k else w_pa T N s set k ||| w_at T N s set (k + 1) * 2 ^ (3 * (w_st T N s set k + 1))
theorem w_ag_01 (T : PT) (N : PN) (s set k : Nat) : w_ag T N s set k = 0 ∨ w_ag T N s set k = 1 := by
  induction k with
  | zero => exact .inl rfl
  | succ k ih => unfold w_ag; split; exact ih; split; exact ih; exact .inr rfl
theorem w_st_le (T : PT) (N : PN) (s set k : Nat) : w_st T N s set k ≤ k := by
  induction k with
  | zero => exact Nat.le_refl 0
  | succ k ih => unfold w_st; split <;> omega
theorem w_pa_lt {T : PT} {N : PN} {s set : Nat} (hT : TOK T) (hs : s < T 2 0) (k : Nat) : w_pa T N s set k < 2 ^ (3 * (w_st T N s set k + 1)) := by
  have t0 : T 0 0 ≤ 7 := hT.1
  induction k with
  | zero => have := (hT.2.2.2.2.2.1 s hs).2; show T 8 s < 8; omega
  | succ k ih =>
    rw [w_pa, w_st]
    split
    · exact ih
    · have h1 := w_at_lt (N := N) (set := set) hT hs (k + 1)
      have h2 : 2 ^ (3 * (w_st T N s set k + 1 + 1)) = 8 * 2 ^ (3 * (w_st T N s set k + 1)) := by
        rw [show 3 * (w_st T N s set k + 1 + 1) = 3 + 3 * (w_st T N s set k + 1) by omega, Nat.pow_add]
      refine Nat.or_lt_two_pow (Nat.lt_of_lt_of_le ih (Nat.pow_le_pow_right (by decide) (by omega))) ?_
      rw [h2]
      exact Nat.mul_lt_mul_of_pos_right (show w_at T N s set (k + 1) < 8 by omega) (Nat.two_pow_pos _)
theorem w_congr {T : PT} {N : PN} {s set set' : Nat} (k : Nat) (h : ∀ j, j < k → w_b set j = w_b set' j) : w_at T N s set k = w_at T N s set' k ∧ w_st T N s set k = w_st T N s set' k ∧ w_mi T N s set k = w_mi T N s set' k ∧ w_la T N s set k = w_la T N s set' k ∧ w_co T N s set k = w_co T N s set' k ∧ w_ag T N s set k = w_ag T N s set' k ∧ w_pa T N s set k = w_pa T N s set' k := by
  induction k with
  | zero => exact ⟨rfl, rfl, rfl, rfl, rfl, rfl, rfl⟩
  | succ k ih =>
    obtain ⟨h1, h2, h3, h4, h5, h6, h7⟩ := ih (fun j hj => h j (by omega))
    have hb := h k (by omega)
    have e1 : w_at T N s set (k + 1) = w_at T N s set' (k + 1) := by rw [w_at, w_at, h1, hb]
    refine ⟨e1, ?_, ?_, ?_, ?_, ?_, ?_⟩
    · rw [w_st, w_st, h1, h2]
    · rw [w_mi, w_mi, h1, h3, hb]
    · rw [w_la, w_la, h1, h4, hb]
    · rw [w_co, w_co, h1, h5, e1]
    · rw [w_ag, w_ag, h1, h5, h6, e1]
    · rw [w_pa, w_pa, h1, h2, h7, e1]
theorem w_ca_congr {T : PT} {F : PF} {N : PN} {s set set' : Nat} (k : Nat) (h : ∀ j, j < k → w_b set j = w_b set' j) : w_ca T F N s set k = w_ca T F N s set' k := by
  induction k with
  | zero => rfl
  | succ k ih => rw [w_ca, w_ca, ih (fun j hj => h j (by omega)), w_fa, w_fa, (w_congr k (fun j hj => h j (by omega))).1, h k (by omega)]
theorem w_b_add {set k j : Nat} (hj : j < k) : w_b (set + 2 ^ k) j = w_b set j := by
  unfold w_b
  obtain ⟨e, rfl⟩ : ∃ e, k = j + 1 + e := ⟨k - j - 1, by omega⟩
  rw [show set + 2 ^ (j + 1 + e) = set + 2 ^ j * (2 * 2 ^ e) by rw [Nat.pow_add, Nat.pow_succ, Nat.mul_assoc], Nat.add_mul_div_left _ _ (Nat.two_pow_pos j)]
  omega
theorem w_b_top {set k : Nat} (h : set < 2 ^ k) : w_b set k = 0 ∧ w_b (set + 2 ^ k) k = 1 := by
  unfold w_b
  rw [Nat.div_eq_of_lt h, Nat.add_div_right _ (Nat.two_pow_pos k), Nat.div_eq_of_lt h]
  exact ⟨rfl, rfl⟩
theorem w_ne_le {T : PT} {N : PN} {s set k : Nat} (h : ¬ w_e T (w_at T N s set k) = true) : ∀ j, j ≤ k → ¬ w_e T (w_at T N s set j) = true := by
  intro j hj he
  have := (w_end he (k - j)).1
  rw [show j + (k - j) = k by omega] at this
  rw [this] at h
  exact h he
def CW (T : PT) (F : PF) (N : PN) (s : Nat) (Z : XZ) : Prop := Z 41 0 15 = (T 10 0 : Int) ∧ Z 41 0 16 = q_mi T (T 8 s) + (T 11 0 : Int) ∧ ∀ c, c < T 0 0 → Z 52 0 c = (if w_e T c = true then 1 else 0) ∧ (¬ w_e T c = true → cn (Z 51 0 c) = q_st T F N s c ∧ ∀ b, b < 2 → Z 53 0 (2 * c + b) = (w_l T N c b : Int) ∧ Z 54 0 (2 * c + b) = (q_oe T (w_l T N c b) c : Int) ∧ Z 55 0 (2 * c + b) = (T 6 (w_l T N c b) : Int))
theorem CW.congr {T : PT} {F : PF} {N : PN} {s : Nat} {Z Z' : XZ} (h : CW T F N s Z) (hk : ∀ g m i, ((51 ≤ g ∧ g ≤ 55) ∨ (g = 41 ∧ i ≠ 0)) → Z' g m i = Z g m i) : CW T F N s Z' := by
  obtain ⟨h1, h2, h3⟩ := h
  refine ⟨(hk _ _ _ (by omega)).trans h1, (hk _ _ _ (by omega)).trans h2, fun c hc => ?_⟩
  rw [hk 52 _ _ (by omega), hk 51 _ _ (by omega)]
  refine ⟨(h3 c hc).1, fun hn => ⟨((h3 c hc).2 hn).1, fun b hb => ?_⟩⟩
  rw [hk 53 _ _ (by omega), hk 54 _ _ (by omega), hk 55 _ _ (by omega)]
  exact ((h3 c hc).2 hn).2 b hb
def RW (T : PT) (N : PN) (s : Nat) (Z : XZ) (n set k : Nat) : Prop := Z 42 0 n = (w_at T N s set k : Int) ∧ Z 43 0 n = (w_mi T N s set k : Int) ∧ Z 44 0 n = (w_st T N s set k : Int) ∧ Z 45 0 n = (set : Int) ∧ Z 47 0 n = (w_co T N s set k : Int) ∧ Z 48 0 n = (w_la T N s set k : Int) ∧ Z 49 0 n = (w_ag T N s set k : Int) ∧ Z 50 0 n = (w_pa T N s set k : Int)
theorem RW.congr {T : PT} {N : PN} {s n set k : Nat} {Z Z' : XZ} (h : RW T N s Z n set k) (hk : ∀ g, 42 ≤ g → g ≤ 50 → g ≠ 46 → Z' g 0 n = Z g 0 n) : RW T N s Z' n set k := by
  unfold RW
  rw [hk 42 (by omega) (by omega) (by omega), hk 43 (by omega) (by omega) (by omega), hk 44 (by omega) (by omega) (by omega), hk 45 (by omega) (by omega) (by omega), hk 47 (by omega) (by omega) (by omega), hk 48 (by omega) (by omega) (by omega), hk 49 (by omega) (by omega) (by omega), hk 50 (by omega) (by omega) (by omega)]
  exact h
theorem x_shl_nat {a k : Nat} (hk : k < 32) : x_shl (a : Int) (k : Int) = ((a * 2 ^ k : Nat) : Int) := by
  unfold x_shl
  rw [show ((k : Int) % 32).toNat = k by omega]
  simp
theorem c_move {T : PT} {F : PF} {N : PN} {Z : XZ} {d s n set k b : Nat} (hT : TOK T) (hW : CW T F N s Z) (hR : RW T N s Z n set k) (hs : s < T 2 0) (hn : n < 256) (hk : k < 8) (hset : set < 2 ^ k) (hb : b < 2) (hne : ¬ w_e T (w_at T N s set k) = true) (hd : 1 ≤ d) (t : Nat) : ∃ Z' : XZ, x_CALL d 78 [.inr (.inr (some (41, 0))), .inl ((n : Int)), .inl ((b : Int))] (x_S Z t) = some (0, x_S Z' t) ∧ RW T N s Z' n (set + b * 2 ^ k) (k + 1) ∧ ∀ g m i, ¬ (42 ≤ g ∧ g ≤ 50 ∧ g ≠ 46 ∧ i = n) → Z' g m i = Z g m i := by
  have t0 : T 0 0 ≤ 7 := hT.1
  have t1 : T 1 0 ≤ 10 := hT.2.1
  have hat : w_at T N s set k < T 0 0 := w_at_lt hT hs k
  obtain ⟨r1, r2, r3, r4, r5, r6, r7, r8⟩ := id hR
  have hst : w_st T N s set k = k := w_st_k k (fun j hj => w_ne_le hne j (by omega))
  obtain ⟨q1, q2⟩ := (hW.2.2 _ hat).2 hne
  obtain ⟨p1, p2, p3⟩ := q2 b hb
  have hbb : w_b (set + b * 2 ^ k) k = b := by
    have := w_b_top hset
    rcases (show b = 0 ∨ b = 1 by omega) with rfl | rfl
    · rw [Nat.zero_mul, Nat.add_zero]; exact this.1
    · rw [Nat.one_mul]; exact this.2
  have hbj : ∀ j, j < k → w_b (set + b * 2 ^ k) j = w_b set j := fun j hj => by
    rcases (show b = 0 ∨ b = 1 by omega) with rfl | rfl
    · rw [Nat.zero_mul, Nat.add_zero]
    · rw [Nat.one_mul]; exact w_b_add hj
  obtain ⟨c1, c2, c3, c4, c5, c6, c7⟩ := w_congr (T := T) (N := N) (s := s) k hbj
  have hne' : ¬ w_e T (w_at T N s (set + b * 2 ^ k) k) = true := by rw [c1]; exact hne
  have hl : w_l T N (w_at T N s set k) b < T 1 0 := q_at_lt (w_e_dg hne).1
  have hto : w_at T N s (set + b * 2 ^ k) (k + 1) = q_oe T (w_l T N (w_at T N s set k) b) (w_at T N s set k) := by rw [w_at, if_neg hne', c1, hbb]
  have hto7 : w_at T N s (set + b * 2 ^ k) (k + 1) < T 0 0 := w_at_lt hT hs _
  rw [← hto] at p2
  have bn : 0 ≤ (n : Int) ∧ (n : Int) < 256 := by omega
  have hp8 : 2 ^ k ≤ 2 ^ 7 := Nat.pow_le_pow_right (by decide) (by omega)
  have e1 : x_CALL d 78 [.inr (.inr (some (41, 0))), .inl ((n : Int)), .inl ((b : Int))] (x_S Z t) = x_EX (d - 1) 78 48 [some (.inr (.inr (some (41, 0)))), some (.inl ((n : Int))), some (.inl ((b : Int))), some (.inl (((2 * w_at T N s set k + b : Nat) : Int))), some (.inl ((w_at T N s (set + b * 2 ^ k) (k + 1) : Int)))] [] (x_S (x_u Z 45 0 n ((set + b * 2 ^ k : Nat) : Int)) t) := by
    rw [C78 _ _ _ _ _ (by omega), cn_nt (z := (n : Int)) rfl (by omega), if_pos bn, Int.toNat_natCast, r1]
    rcases (show b = 0 ∨ b = 1 by omega) with rfl | rfl
    · rw [if_pos (by decide), B78_17, cn_nt (z := 2 * (w_at T N s set k : Int) + 0) (n := 2 * w_at T N s set k + 0) (by omega) (by omega), if_pos (by omega), if_pos (by decide), Int.toNat_natCast, p2]
      have : x_u Z 45 0 n ((set + 0 * 2 ^ k : Nat) : Int) = Z := by
        funext g m i
        unfold x_u
        split
        · rename_i h; obtain ⟨rfl, rfl, rfl⟩ := h; rw [r4]; simp
        · rfl
      rw [this]
      rfl
    · rw [if_neg (by decide), B78_17, cn_nt (z := 2 * (w_at T N s set k : Int) + 1) (n := 2 * w_at T N s set k + 1) (by omega) (by omega), if_pos (by omega), if_neg (by decide), cn_nt (z := (n : Int)) rfl (by omega), Int.toNat_natCast, Int.toNat_natCast, p2, r3, r4, hst, if_pos bn, if_pos bn, if_pos bn, x_shl_1 (by omega), x_or_nat (by omega) (by omega), two_or hset]
      rw [Nat.one_mul]
      rfl
  have e44 : x_u Z 45 0 n ((set + b * 2 ^ k : Nat) : Int) 44 0 n = (k : Int) := by rw [x_u_ne (by omega), r3, hst]
  have bw : 0 ≤ ((2 * w_at T N s set k + b : Nat) : Int) ∧ ((2 * w_at T N s set k + b : Nat) : Int) < 14 := by omega
  have hco := w_co_lt (N := N) (set := set) hT hs k
  have hla := w_la_lt (N := N) (s := s) (set := set) hT k
  have hpa := w_pa_lt (N := N) (set := set) hT hs k
  rw [hst] at hpa
  have hp3 : 2 ^ (3 * (k + 1)) ≤ 2 ^ 24 := Nat.pow_le_pow_right (by decide) (by omega)
  have h2to : 2 ^ (w_at T N s (set + b * 2 ^ k) (k + 1)) < 2 ^ 7 := Nat.pow_lt_pow_right (by decide) (by omega)
  have h2l : 2 ^ (w_l T N (w_at T N s set k) b) < 2 ^ 10 := Nat.pow_lt_pow_right (by decide) (by omega)
  have hsh : w_at T N s (set + b * 2 ^ k) (k + 1) * 2 ^ (3 * (k + 1)) ≤ 7 * 2 ^ 24 := Nat.mul_le_mul (by omega) hp3
  have x1 : x_and (w_co T N s set k : Int) (x_shl 1 (w_at T N s (set + b * 2 ^ k) (k + 1) : Int)) = ((w_co T N s set k &&& 2 ^ (w_at T N s (set + b * 2 ^ k) (k + 1)) : Nat) : Int) := by rw [x_shl_1 (by omega), x_and_nat (by omega) (by omega)]
  have x2 : x_or (w_la T N s set k : Int) (x_shl 1 (w_l T N (w_at T N s set k) b : Int)) = (w_la T N s (set + b * 2 ^ k) (k + 1) : Int) := by rw [x_shl_1 (by omega), x_or_nat (by omega) (by omega), w_la, if_neg hne', c1, c4, hbb]
  have x3 : x_or (w_co T N s set k : Int) (x_shl 1 (w_at T N s (set + b * 2 ^ k) (k + 1) : Int)) = (w_co T N s (set + b * 2 ^ k) (k + 1) : Int) := by rw [x_shl_1 (by omega), x_or_nat (by omega) (by omega), w_co, if_neg hne', c5]
  have x4 : x_or (w_pa T N s set k : Int) (x_shl (w_at T N s (set + b * 2 ^ k) (k + 1) : Int) (3 * ((k : Int) + 1))) = (w_pa T N s (set + b * 2 ^ k) (k + 1) : Int) := by
    rw [show (3 : Int) * ((k : Int) + 1) = ((3 * (k + 1) : Nat) : Int) by omega, x_shl_nat (by omega), x_or_nat (by omega) (by omega), w_pa, if_neg hne', c7, c2, hst]
  have x5 : (w_mi T N s set k : Int) + (T 6 (w_l T N (w_at T N s set k) b) : Int) = (w_mi T N s (set + b * 2 ^ k) (k + 1) : Int) := by rw [w_mi, if_neg hne', c1, c3, hbb]; omega
  have hcolt : w_co T N s set k &&& 2 ^ (w_at T N s (set + b * 2 ^ k) (k + 1)) ≤ w_co T N s set k := Nat.and_le_left
  rw [e1, B78_48, cn_nt (z := (n : Int)) rfl (by omega), cn_nt (z := ((2 * w_at T N s set k + b : Nat) : Int)) rfl (by omega), Int.toNat_natCast, Int.toNat_natCast]
  simp only [if_pos bn, if_pos bw]
  rw [x_u_eq, e44, x_u_ne (g' := 47) (by omega), x_u_ne (g' := 43) (by omega), x_u_ne (g' := 55) (by omega), x_u_ne (g' := 48) (by omega), x_u_ne (g' := 53) (by omega), x_u_ne (g' := 49) (by omega), x_u_ne (g' := 50) (by omega), r5, r2, p3, r6, p1, r7, r8, x1, x2, x3, x4, x5, cn_nt (z := ((w_co T N s set k &&& 2 ^ (w_at T N s (set + b * 2 ^ k) (k + 1)) : Nat) : Int)) rfl (by omega)]
  have fin : ∀ g9 : Int, g9 = (w_ag T N s (set + b * 2 ^ k) (k + 1) : Int) → ∃ Z' : XZ, some ((0 : Int), x_S (x_u (x_u (x_u (x_u (x_u (x_u (x_u (x_u Z 45 0 n ((set + b * 2 ^ k : Nat) : Int)) 44 0 n ((k : Int) + 1)) 42 0 n (w_at T N s (set + b * 2 ^ k) (k + 1) : Int)) 43 0 n (w_mi T N s (set + b * 2 ^ k) (k + 1) : Int)) 48 0 n (w_la T N s (set + b * 2 ^ k) (k + 1) : Int)) 49 0 n g9) 47 0 n (w_co T N s (set + b * 2 ^ k) (k + 1) : Int)) 50 0 n (w_pa T N s (set + b * 2 ^ k) (k + 1) : Int)) t) = some (0, x_S Z' t) ∧ RW T N s Z' n (set + b * 2 ^ k) (k + 1) ∧ ∀ g m i, ¬ (42 ≤ g ∧ g ≤ 50 ∧ g ≠ 46 ∧ i = n) → Z' g m i = Z g m i := by
    intro g9 h9
    have hst1 : (w_st T N s (set + b * 2 ^ k) (k + 1) : Int) = (k : Int) + 1 := by rw [w_st, if_neg hne', c2, hst]; rfl
    refine ⟨_, rfl, ⟨?_, ?_, ?_, ?_, ?_, ?_, ?_, ?_⟩, ?_⟩
    · simp [x_u]
    · simp [x_u]
    · rw [hst1]; simp [x_u]
    · simp [x_u]
    · simp [x_u]
    · simp [x_u]
    · rw [← h9]; simp [x_u]
    · simp [x_u]
    · intro g m i hg
      rw [x_u_ne (by omega), x_u_ne (by omega), x_u_ne (by omega), x_u_ne (by omega), x_u_ne (by omega), x_u_ne (by omega), x_u_ne (by omega), x_u_ne (by omega)]
  have hag : w_ag T N s (set + b * 2 ^ k) (k + 1) = if w_co T N s set k &&& 2 ^ (w_at T N s (set + b * 2 ^ k) (k + 1)) = 0 then w_ag T N s set k else 1 := by rw [w_ag, if_neg hne', c5, c6]
  by_cases hz : w_co T N s set k &&& 2 ^ (w_at T N s (set + b * 2 ^ k) (k + 1)) = 0
  · rw [if_pos (by omega)]
    refine fin _ ?_
    rw [hag, if_pos hz]
    rcases w_ag_01 T N s set k with h0 | h0
    · rw [h0]; decide
    · rw [h0]; decide
  · rw [if_neg (by omega)]
    refine fin _ ?_
    rw [hag, if_neg hz]
    rcases w_ag_01 T N s set k with h0 | h0
    · rw [h0]; decide
    · rw [h0]; decide
