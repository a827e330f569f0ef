/-! where one is behind some steps; what is noted -/
theorem x_ushr_nat {a k : Nat} (ha : a < 4294967296) (hk : k < 32) : x_ushr (a : Int) (k : Int) = ((a / 2 ^ k : Nat) : Int) := by
  unfold x_ushr
  rw [show ((k : Int) % 32).toNat = k by omega, show (a : Int) % 4294967296 = (a : Int) by omega]
  simp
theorem w_pa_at {T : PT} {N : PN} {s set : Nat} (hT : TOK T) (hs : s < T 2 0) (k : Nat) : ∀ i, i ≤ w_st T N s set k → w_pa T N s set k / 2 ^ (3 * i) % 8 = w_at T N s set i := by
  have t0 : T 0 0 ≤ 7 := hT.1
  induction k with
  | zero =>
    intro i hi
    obtain rfl : i = 0 := by have : w_st T N s set 0 = 0 := rfl; omega
    have := (hT.2.2.2.2.2.1 s hs).2
    show T 8 s / 1 % 8 = T 8 s
    omega
  | succ k ih =>
    intro i hi
    by_cases he : w_e T (w_at T N s set k) = true
    · rw [w_pa, if_pos he]
      rw [w_st, if_pos he] at hi
      exact ih i hi
    · have hst : w_st T N s set k = k := w_st_k k (fun j hj => w_ne_le he j (by omega))
      have hlt := w_pa_lt (N := N) (set := set) hT hs k
      have hat := w_at_lt (N := N) (set := set) hT hs (k + 1)
      rw [hst] at hlt ih
      rw [w_st, if_neg he, hst] at hi
      rw [w_pa, if_neg he, hst, Nat.mul_comm (w_at T N s set (k + 1)), Nat.or_comm, ← Nat.two_pow_add_eq_or_of_lt hlt]
      by_cases hik : i ≤ k
      · obtain ⟨e, rfl⟩ : ∃ e, k = i + e := ⟨k - i, by omega⟩
        have hp : 2 ^ (3 * (i + e + 1)) * w_at T N s set (i + e + 1) = 2 ^ (3 * i) * (8 * (2 ^ (3 * e) * w_at T N s set (i + e + 1))) := by
          rw [show 3 * (i + e + 1) = 3 * i + (3 + 3 * e) by omega, Nat.pow_add, Nat.pow_add, show (2 : Nat) ^ 3 = 8 from rfl]
          simp only [Nat.mul_assoc]
        rw [hp, Nat.mul_add_div (Nat.two_pow_pos _), Nat.mul_add_mod]
        exact ih i hik
      · obtain rfl : i = k + 1 := by omega
        rw [Nat.mul_add_div (Nat.two_pow_pos _), Nat.div_eq_of_lt hlt]
        omega
theorem w_at_min {T : PT} {N : PN} {s set i : Nat} (hi : i ≤ 8) (h : w_st T N s set 8 < i) : w_at T N s set (w_st T N s set 8) = w_at T N s set i := by
  have he : w_e T (w_at T N s set (w_st T N s set 8)) = true := by
    by_cases h8 : w_st T N s set 8 < 8
    · have := (w_st_gt (T := T) (N := N) (s := s) (set := set) h8)
      by_cases hx : w_e T (w_at T N s set (w_st T N s set 8)) = true
      · exact hx
      · exact absurd (this.2 hx) (Nat.lt_irrefl _)
    · omega
  have := (w_end he (i - w_st T N s set 8)).1
  rw [show w_st T N s set 8 + (i - w_st T N s set 8) = i by omega] at this
  exact this.symm
theorem c_where {T : PT} {N : PN} {s n m i d : Nat} {Z : XZ} (hT : TOK T) (hs : s < T 2 0) (hR : RW T N s Z n m 8) (hn : n < 256) (hi : i ≤ 8) (hd : 2 ≤ d) (t : Nat) : x_CALL d 73 [.inr (.inr (some (41, 0))), .inl ((n : Int)), .inl ((i : Int))] (x_S Z t) = some ((w_at T N s m i : Int), x_S Z t) := by
  have bn : 0 ≤ (n : Int) ∧ (n : Int) < 256 := by omega
  have hst := w_st_le T N s m 8
  have hpl := w_pa_lt (N := N) (set := m) hT hs 8
  have hp3 : 2 ^ (3 * (w_st T N s m 8 + 1)) ≤ 2 ^ 27 := Nat.pow_le_pow_right (by decide) (by omega)
  have fin : ∀ q : Nat, q ≤ w_st T N s m 8 → w_at T N s m q = w_at T N s m i → x_EX (d - 1) 73 17 [some (.inr (.inr (some (41, 0)))), some (.inl ((n : Int))), some (.inl ((i : Int)))] [.inl ((q : Int)), .inl 3, .inl ((w_pa T N s m 8 : Int))] (x_S Z t) = some ((w_at T N s m i : Int), x_S Z t) := by
    intro q hq he
    have hd8 : w_pa T N s m 8 / 2 ^ (3 * q) < 2147483648 := Nat.lt_of_le_of_lt (Nat.div_le_self _ _) (by omega)
    rw [B73_17, show (3 : Int) * (q : Int) = ((3 * q : Nat) : Int) by omega, x_ushr_nat (by omega) (by omega), show (7 : Int) = ((7 : Nat) : Int) from rfl, x_and_nat hd8 (by decide), show (7 : Nat) = 2 ^ 3 - 1 from rfl, Nat.and_two_pow_sub_one_eq_mod, show (2 : Nat) ^ 3 = 8 from rfl, w_pa_at hT hs 8 q hq, he]
  rw [C73 _ _ _ _ _ (by omega), cn_nt (z := (n : Int)) rfl (by omega), if_pos bn, if_pos bn, Int.toNat_natCast, hR.2.2.1, hR.2.2.2.2.2.2.2, C261 _ _ _ _ _ (by omega), cn_nt (z := (i : Int)) rfl (by omega), cn_nt (z := (w_st T N s m 8 : Int)) rfl (by omega)]
  by_cases h : w_st T N s m 8 < i
  · rw [if_pos (by omega), Option.bind_some]
    exact fin _ (Nat.le_refl _) (w_at_min hi h)
  · rw [if_neg (by omega), Option.bind_some]
    exact fin i (by omega) rfl
/-- the notes: who, behind how many, where, whether -/
def NA (A : Nat → Nat → Int) (n : Nat) : Prop := ∀ j, j < n → (0 ≤ A 0 j ∧ A 0 j < 5) ∧ (0 ≤ A 1 j ∧ A 1 j ≤ 8) ∧ (0 ≤ A 2 j ∧ A 2 j < 7) ∧ (A 3 j = 0 ∨ A 3 j = 1)
def q_o1 (A : Nat → Nat → Int) (T : PT) (N : PN) (s m j : Nat) : Bool := decide (A 0 j ≠ (s : Int)) || (decide ((w_at T N s m (A 1 j).toNat : Int) = A 2 j) == decide (A 3 j = 1))
def q_al (A : Nat → Nat → Int) (T : PT) (N : PN) (s m n j : Nat) : Bool := match n with
  | 0 => true
  | n + 1 => q_o1 A T N s m j && q_al A T N s m n (j + 1)
theorem c_al_loop {A : Nat → Nat → Int} {T : PT} {N : PN} {s n m k q d : Nat} {Z : XZ} (hT : TOK T) (hs : s < T 2 0) (hR : RW T N s Z n m 8) (hn : n < 256) (hA : NA A q) (hq : q ≤ 20) (hk : k ≤ q) (h35 : Z 35 0 0 = (q : Int)) (hZ : ∀ j, j < q → Z 36 0 j = A 0 j ∧ Z 37 0 j = A 1 j ∧ Z 38 0 j = A 2 j ∧ Z 39 0 j = A 3 j) (hd : 2 ≤ d) (t : Nat) : ∀ (i j : Nat), j + i = k → x_EX d 16 3 [some (.inr (.inr (some (35, 0)))), some (.inl ((k : Int))), some (.inl ((s : Int))), some (.inr (.inr (some (41, 0)))), some (.inl ((n : Int))), some (.inl ((j : Int)))] [] (x_S Z t) = some ((if q_al A T N s m i j = true then 1 else 0), x_S Z t) := by
  have t0 : T 0 0 ≤ 7 := hT.1
  have t2 : T 2 0 ≤ 5 := hT.2.2.1
  intro i
  induction i with
  | zero =>
    intro j hj
    obtain rfl : j = k := by omega
    rw [B16_3, if_neg (Int.lt_irrefl _)]; rfl
  | succ i ih =>
    intro j hj
    obtain ⟨z1, z2, z3, z4⟩ := hZ j (by omega)
    obtain ⟨a1, a2, a3, a4⟩ := hA j (by omega)
    have bj : 0 ≤ (j : Int) ∧ (j : Int) < 20 := by omega
    have ih' := ih (j + 1) (by omega)
    rw [B16_3, cn_nt (z := (j : Int)) rfl (by omega), cn_nt (z := (k : Int)) rfl (by omega), if_pos (by omega), h35, cn_nt (z := (q : Int)) rfl (by omega), if_pos (by omega), if_pos bj, Int.toNat_natCast, z1, z2, cn_id (z := A 0 j) (by omega) (by omega), cn_nt (z := (s : Int)) rfl (by omega), q_al]
    by_cases h0 : A 0 j = (s : Int)
    · have hat := w_at_lt (N := N) (set := m) hT hs (A 1 j).toNat
      have e1 : A 1 j = ((A 1 j).toNat : Int) := by omega
      have cw : x_CALL d 73 [.inr (.inr (some (41, 0))), .inl ((n : Int)), .inl (A 1 j)] (x_S Z t) = some ((w_at T N s m (A 1 j).toNat : Int), x_S Z t) := by
        have := c_where (i := (A 1 j).toNat) hT hs hR hn (by omega) hd t
        rw [← e1] at this; exact this
      rw [if_pos h0, if_pos bj, cw, Option.bind_some, B16_42, cn_nt (z := (j : Int)) rfl (by omega), if_pos bj, Int.toNat_natCast, z3, z4, cn_nt (z := (w_at T N s m (A 1 j).toNat : Int)) rfl (by omega), cn_id (z := A 2 j) (by omega) (by omega), cn_id (z := A 3 j) (by omega) (by omega)]
      by_cases h2 : (w_at T N s m (A 1 j).toNat : Int) = A 2 j
      · rw [if_pos h2, if_pos bj]
        by_cases h3 : A 3 j = 1
        · have ho : q_o1 A T N s m j = true := by unfold q_o1; simp [h2, h3]
          rw [if_pos h3.symm, ho, Bool.true_and]; exact ih'
        · have ho : q_o1 A T N s m j = false := by unfold q_o1; simp [h0, h2, h3]
          rw [if_neg (fun e => h3 e.symm), ho, Bool.false_and]; rfl
      · rw [if_neg h2, if_pos bj]
        by_cases h3 : A 3 j = 0
        · have ho : q_o1 A T N s m j = true := by unfold q_o1; simp [h2, h3]
          rw [if_pos h3.symm, ho, Bool.true_and]; exact ih'
        · have h31 : A 3 j = 1 := by omega
          have ho : q_o1 A T N s m j = false := by unfold q_o1; simp [h0, h2, h31]
          rw [if_neg (fun e => h3 e.symm), ho, Bool.false_and]; rfl
    · have ho : q_o1 A T N s m j = true := by unfold q_o1; simp [h0]
      rw [if_neg h0, ho, Bool.true_and]; exact ih'
theorem c_al {A : Nat → Nat → Int} {T : PT} {N : PN} {s n m k q d : Nat} {Z : XZ} (hT : TOK T) (hs : s < T 2 0) (hR : RW T N s Z n m 8) (hn : n < 256) (hA : NA A q) (hq : q ≤ 20) (hk : k ≤ q) (h35 : Z 35 0 0 = (q : Int)) (hZ : ∀ j, j < q → Z 36 0 j = A 0 j ∧ Z 37 0 j = A 1 j ∧ Z 38 0 j = A 2 j ∧ Z 39 0 j = A 3 j) (hd : 3 ≤ d) (t : Nat) : x_CALL d 16 [.inr (.inr (some (35, 0))), .inl ((k : Int)), .inl ((s : Int)), .inr (.inr (some (41, 0))), .inl ((n : Int))] (x_S Z t) = some ((if q_al A T N s m k 0 = true then 1 else 0), x_S Z t) := by
  rw [C16 _ _ _ _ _ _ (by omega)]
  exact c_al_loop hT hs hR hn hA hq hk h35 hZ (by omega) t k 0 (by omega)
theorem m_al_loop {A : Nat → Nat → Int} {T : PT} {F : PF} {N : PN} {s m k q d : Nat} {Z : XZ} (hT : TOK T) (hs : s < T 2 0) (hL : LW T F N s m 8 Z) (hA : NA A q) (hq : q ≤ 20) (hk : k ≤ q) (hZ : ∀ j, j < q → Z 102 0 j = A 0 j ∧ Z 103 0 j = A 1 j ∧ Z 104 0 j = A 2 j ∧ Z 105 0 j = A 3 j) (t : Nat) (a2 : Int) : ∀ (i j : Nat), j + i = k → x_EX d 240 18 [some (.inr (.inr (some (56, 0)))), some (.inl ((s : Int))), some (.inl a2), some (.inl ((k : Int))), some (.inl ((j : Int)))] [] (x_S Z t) = some ((if q_al A T N s m i j = true then 1 else 0), x_S Z t) := by
  have t0 : T 0 0 ≤ 7 := hT.1
  have t2 : T 2 0 ≤ 5 := hT.2.2.1
  intro i
  induction i with
  | zero =>
    intro j hj
    obtain rfl : j = k := by omega
    rw [B240_18, if_neg (Int.lt_irrefl _)]; rfl
  | succ i ih =>
    intro j hj
    obtain ⟨z1, z2, z3, z4⟩ := hZ j (by omega)
    obtain ⟨a1, a2, a3, a4⟩ := hA j (by omega)
    have bj : 0 ≤ (j : Int) ∧ (j : Int) < 20 := by omega
    have ih' := ih (j + 1) (by omega)
    have hat := w_at_lt (N := N) (set := m) hT hs (A 1 j).toNat
    rw [B240_18, cn_nt (z := (j : Int)) rfl (by omega), cn_nt (z := (k : Int)) rfl (by omega), if_pos (by omega), if_pos bj, Int.toNat_natCast, z1, z2, z3, z4, cn_id (z := A 0 j) (by omega) (by omega), cn_nt (z := (s : Int)) rfl (by omega), cn_id (z := A 1 j) (by omega) (by omega), hL.2.2.2.2.2 (A 1 j).toNat (by omega), cn_nt (z := (w_at T N s m (A 1 j).toNat : Int)) rfl (by omega), cn_id (z := A 2 j) (by omega) (by omega), cn_id (z := A 3 j) (by omega) (by omega), q_al]
    by_cases h0 : A 0 j = (s : Int)
    · rw [if_pos h0, if_pos bj, if_pos (by omega), if_pos bj]
      by_cases h2 : (w_at T N s m (A 1 j).toNat : Int) = A 2 j
      · rw [if_pos h2, if_pos bj]
        by_cases h3 : A 3 j = 1
        · have ho : q_o1 A T N s m j = true := by unfold q_o1; simp [h2, h3]
          rw [if_pos h3.symm, ho, Bool.true_and]; exact ih'
        · have ho : q_o1 A T N s m j = false := by unfold q_o1; simp [h0, h2, h3]
          rw [if_neg (fun e => h3 e.symm), ho, Bool.false_and]; rfl
      · rw [if_neg h2, if_pos bj]
        by_cases h3 : A 3 j = 0
        · have ho : q_o1 A T N s m j = true := by unfold q_o1; simp [h2, h3]
          rw [if_pos h3.symm, ho, Bool.true_and]; exact ih'
        · have h31 : A 3 j = 1 := by omega
          have ho : q_o1 A T N s m j = false := by unfold q_o1; simp [h0, h2, h31]
          rw [if_neg (fun e => h3 e.symm), ho, Bool.false_and]; rfl
    · have ho : q_o1 A T N s m j = true := by unfold q_o1; simp [h0]
      rw [if_neg h0, ho, Bool.true_and]; exact ih'
def w_fit (A : Nat → Nat → Int) (T : PT) (F : PF) (N : PN) (s k m : Nat) : Bool := decide (w_ca T F N s m 8 ≠ 0) && q_al A T N s m k 0
theorem m_fit {A : Nat → Nat → Int} {T : PT} {F : PF} {N : PN} {s m k q d v : Nat} {Z : XZ} (hT : TOK T) (hs : s < T 2 0) (hE : ME T F N s v Z) (hm : m < 256) (hA : NA A q) (hq : q ≤ 20) (hk : k ≤ q) (hZ : ∀ j, j < q → Z 102 0 j = A 0 j ∧ Z 103 0 j = A 1 j ∧ Z 104 0 j = A 2 j ∧ Z 105 0 j = A 3 j) (hd : 3 ≤ d) (t : Nat) : ∃ Z1 : XZ, x_CALL d 240 [.inr (.inr (some (56, 0))), .inl ((s : Int)), .inl ((m : Int)), .inl ((k : Int))] (x_S Z t) = some ((if w_fit A T F N s k m = true then 1 else 0), x_S Z1 t) ∧ ME T F N s v Z1 ∧ LW T F N s m 8 Z1 ∧ kM Z Z1 := by
  obtain ⟨Z1, w1, w2, w3⟩ := m_walks (d := d - 1) hE.1 hT hE.2.2.2.1 (by omega) t hs hm
  have k1 : kM Z Z1 := fun g m i hg => w3 g m i (by unfold wsc at hg; omega)
  have hcl := w_ca_le T F N s m 8
  refine ⟨Z1, ?_, hE.congr k1, w2, k1⟩
  rw [C240 _ _ _ _ _ _ (by omega), w1, Option.bind_some, B240_6, w2.2.2.2.2.1]
  unfold w_fit
  by_cases h : w_ca T F N s m 8 = 0
  · rw [if_pos (by omega), h]; rfl
  · rw [if_neg (by omega), decide_eq_true h, Bool.true_and]
    exact m_al_loop (F := F) hT hs w2 hA hq hk (fun j hj => by rw [k1 102 _ _ (by unfold wsc; omega), k1 103 _ _ (by unfold wsc; omega), k1 104 _ _ (by unfold wsc; omega), k1 105 _ _ (by unfold wsc; omega)]; exact hZ j hj) t _ k 0 (by omega)
