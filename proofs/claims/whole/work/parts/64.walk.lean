/-! the walk by a set of strayings; the model's walk -/
theorem cn_mul {a b a' b' : Int} (h1 : cn a = cn a') (h2 : cn b = cn b') : cn (a * b) = cn (a' * b') := by
  have e1 : a % 4294967296 = a' % 4294967296 := by unfold cn at h1; omega
  have e2 : b % 4294967296 = b' % 4294967296 := by unfold cn at h2; omega
  have e3 : (a * b) % 4294967296 = (a' * b') % 4294967296 := by rw [Int.mul_emod, e1, e2, ← Int.mul_emod]
  unfold cn; omega
theorem x_shr_nat {a k : Nat} (ha : a < 2147483648) (hk : k < 32) : x_shr (a : Int) (k : Int) = ((a / 2 ^ k : Nat) : Int) := by
  unfold x_shr
  rw [show ((k : Int) % 32).toNat = k by omega, cn_nt rfl ha]
  simp
def w_e (T : PT) (c : Nat) : Bool := (c == T 10 0) || (q_dg T c == 0)
def w_b (set k : Nat) : Nat := set / 2 ^ k % 2
def w_l (T : PT) (N : PN) (c b : Nat) : Nat := q_at T c (q_sg N c + b)
def w_at (T : PT) (N : PN) (s set k : Nat) : Nat := match k with
  | 0 => T 8 s
  | k + 1 => if w_e T (w_at T N s set k) = true then w_at T N s set k else q_oe T (w_l T N (w_at T N s set k) (w_b set k)) (w_at T N s set k)
def w_st (T : PT) (N : PN) (s set k : Nat) : Nat := match k with
  | 0 => 0
  | k + 1 => if w_e T (w_at T N s set k) = true then w_st T N s set k else w_st T N s set k + 1
def w_mi (T : PT) (N : PN) (s set k : Nat) : Nat := match k with
  | 0 => 0
  | k + 1 => if w_e T (w_at T N s set k) = true then w_mi T N s set k else w_mi T N s set k + T 6 (w_l T N (w_at T N s set k) (w_b set k))
def w_la (T : PT) (N : PN) (s set k : Nat) : Nat := match k with
  | 0 => 0
  | k + 1 => if w_e T (w_at T N s set k) = true then w_la T N s set k else w_la T N s set k ||| 2 ^ (w_l T N (w_at T N s set k) (w_b set k))
def w_co (T : PT) (N : PN) (s set k : Nat) : Nat := match k with
  | 0 => 2 ^ (T 8 s)
  | k + 1 => if w_e T (w_at T N s set k) = true then w_co T N s set k else w_co T N s set k ||| 2 ^ (w_at T N s set (k + 1))
def w_q (T : PT) (F : PF) (N : PN) (s c : Nat) : Nat := (q_st T F N s c).toNat
def w_fa (T : PT) (F : PF) (N : PN) (s set k : Nat) : Nat := if w_e T (w_at T N s set k) = true then (if w_b set k = 1 then 0 else 4) else (if w_b set k = 1 then w_q T F N s (w_at T N s set k) else 4 - w_q T F N s (w_at T N s set k))
def w_ca (T : PT) (F : PF) (N : PN) (s set k : Nat) : Nat := match k with
  | 0 => 1
  | k + 1 => w_ca T F N s set k * w_fa T F N s set k
theorem q_st_b (T : PT) (F : PF) (N : PN) (s c : Nat) : 0 ≤ q_st T F N s c ∧ q_st T F N s c ≤ 4 := by
  unfold q_st
  split
  · omega
  · split
    · omega
    · exact q_cl_b (by decide)
theorem w_q_le (T : PT) (F : PF) (N : PN) (s c : Nat) : w_q T F N s c ≤ 4 := by have := q_st_b T F N s c; unfold w_q; omega
theorem w_q_eq (T : PT) (F : PF) (N : PN) (s c : Nat) : (w_q T F N s c : Int) = q_st T F N s c := by have := q_st_b T F N s c; unfold w_q; omega
theorem w_fa_le (T : PT) (F : PF) (N : PN) (s set k : Nat) : w_fa T F N s set k ≤ 4 := by
  have := w_q_le T F N s (w_at T N s set k)
  unfold w_fa
  split <;> split <;> omega
theorem w_ca_le (T : PT) (F : PF) (N : PN) (s set k : Nat) : w_ca T F N s set k ≤ 4 ^ k := by
  induction k with
  | zero => exact Nat.le_refl 1
  | succ k ih => unfold w_ca; rw [Nat.pow_succ]; exact Nat.mul_le_mul ih (w_fa_le _ _ _ _ _ _)
theorem q_at_mem {T : PT} {c p : Nat} (h : q_dg T c ≠ 0) : q_at T c p ∈ q_ln T c := by
  have hlt : p % q_dg T c < (q_ln T c).length := Nat.mod_lt _ (by unfold q_dg at h ⊢; omega)
  unfold q_at
  rw [List.getD_eq_getElem?_getD, List.getElem?_eq_getElem hlt]
  exact List.getElem_mem _
theorem q_at_e {T : PT} {c p : Nat} (h : q_dg T c ≠ 0) : q_e T c (q_at T c p) = true := by
  have := q_at_mem (p := p) h
  unfold q_ln q_lu at this
  exact (List.mem_filter.1 this).2
theorem q_oe_lt {T : PT} {l c : Nat} (hT : TOK T) (hl : l < T 1 0) : q_oe T l c < T 0 0 := by
  obtain ⟨b1, b2, _⟩ := hT.2.2.2.2.1 l hl
  unfold q_oe; split <;> assumption
theorem w_e_dg {T : PT} {c : Nat} (h : ¬ w_e T c = true) : q_dg T c ≠ 0 ∧ c ≠ T 10 0 := by
  unfold w_e at h
  simp at h
  exact ⟨h.2, h.1⟩
theorem w_at_lt {T : PT} {N : PN} {s set : Nat} (hT : TOK T) (hs : s < T 2 0) (k : Nat) : w_at T N s set k < T 0 0 := by
  induction k with
  | zero => exact (hT.2.2.2.2.2.1 s hs).2
  | succ k ih =>
    unfold w_at
    split
    · exact ih
    · rename_i h; exact q_oe_lt hT (q_at_lt (w_e_dg h).1)
theorem w_mi_le {T : PT} {N : PN} {s set : Nat} (hT : TOK T) (k : Nat) : w_mi T N s set k ≤ 9 * k := by
  induction k with
  | zero => exact Nat.le_refl 0
  | succ k ih =>
    unfold w_mi
    split
    · omega
    · rename_i h
      have := (hT.2.2.2.2.1 _ (q_at_lt (p := q_sg N (w_at T N s set k) + w_b set k) (w_e_dg h).1)).2.2.2.2
      unfold w_l; omega
theorem w_la_lt {T : PT} {N : PN} {s set : Nat} (hT : TOK T) (k : Nat) : w_la T N s set k < 2 ^ 10 := by
  induction k with
  | zero => show 0 < 1024; decide
  | succ k ih =>
    unfold w_la
    split
    · exact ih
    · rename_i h
      have h1 : w_l T N (w_at T N s set k) (w_b set k) < T 1 0 := q_at_lt (w_e_dg h).1
      have t1 : T 1 0 ≤ 10 := hT.2.1
      exact Nat.or_lt_two_pow ih (Nat.pow_lt_pow_right (by decide) (by omega))
theorem w_co_lt {T : PT} {N : PN} {s set : Nat} (hT : TOK T) (hs : s < T 2 0) (k : Nat) : w_co T N s set k < 2 ^ 7 := by
  have t0 : T 0 0 ≤ 7 := hT.1
  induction k with
  | zero => exact Nat.pow_lt_pow_right (by decide) (by have := (hT.2.2.2.2.2.1 s hs).2; omega)
  | succ k ih =>
    unfold w_co
    split
    · exact ih
    · have := w_at_lt (N := N) (set := set) hT hs (k + 1)
      exact Nat.or_lt_two_pow ih (Nat.pow_lt_pow_right (by decide) (by omega))
theorem w_end {T : PT} {N : PN} {s set k : Nat} (h : w_e T (w_at T N s set k) = true) (i : Nat) : w_at T N s set (k + i) = w_at T N s set k ∧ w_st T N s set (k + i) = w_st T N s set k ∧ w_mi T N s set (k + i) = w_mi T N s set k ∧ w_la T N s set (k + i) = w_la T N s set k ∧ w_co T N s set (k + i) = w_co T N s set k := by
  induction i with
  | zero => exact ⟨rfl, rfl, rfl, rfl, rfl⟩
  | succ i ih =>
    obtain ⟨h1, h2, h3, h4, h5⟩ := ih
    have he : w_e T (w_at T N s set (k + i)) = true := by rw [h1]; exact h
    refine ⟨?_, ?_, ?_, ?_, ?_⟩
    · show w_at T N s set (k + i + 1) = _; rw [w_at, if_pos he]; exact h1
    · show w_st T N s set (k + i + 1) = _; rw [w_st, if_pos he]; exact h2
    · show w_mi T N s set (k + i + 1) = _; rw [w_mi, if_pos he]; exact h3
    · show w_la T N s set (k + i + 1) = _; rw [w_la, if_pos he]; exact h4
    · show w_co T N s set (k + i + 1) = _; rw [w_co, if_pos he]; exact h5
theorem w_st_k {T : PT} {N : PN} {s set : Nat} (k : Nat) (h : ∀ j, j < k → ¬ w_e T (w_at T N s set j) = true) : w_st T N s set k = k := by
  induction k with
  | zero => rfl
  | succ k ih => rw [w_st, if_neg (h k (by omega)), ih (fun j hj => h j (by omega))]
theorem w_b_01 (set k : Nat) : w_b set k = 0 ∨ w_b set k = 1 := by unfold w_b; omega
theorem w_ca_end {T : PT} {F : PF} {N : PN} {s set k : Nat} (h : w_e T (w_at T N s set k) = true) (i : Nat) : w_ca T F N s set (k + i) = if set / 2 ^ k % 2 ^ i = 0 then w_ca T F N s set k * 4 ^ i else 0 := by
  induction i with
  | zero => rw [Nat.pow_zero, Nat.mod_one, if_pos rfl, Nat.mul_one, Nat.add_zero]
  | succ i ih =>
    have he : w_e T (w_at T N s set (k + i)) = true := by rw [(w_end h i).1]; exact h
    show w_ca T F N s set (k + i + 1) = _
    rw [w_ca, ih, w_fa, if_pos he, Nat.mod_pow_succ]
    have hb : w_b set (k + i) = set / 2 ^ k / 2 ^ i % 2 := by unfold w_b; rw [Nat.pow_add, Nat.div_div_eq_div_mul]
    have hp : 0 < 2 ^ i := Nat.two_pow_pos i
    rw [← hb]
    rcases w_b_01 set (k + i) with h0 | h1
    · rw [h0, if_neg (show ¬ (0 = 1) by decide), Nat.mul_zero, Nat.add_zero]
      by_cases hz : set / 2 ^ k % 2 ^ i = 0
      · rw [if_pos hz, if_pos hz, Nat.pow_succ, Nat.mul_assoc]
      · rw [if_neg hz, if_neg hz, Nat.zero_mul]
    · rw [h1, if_pos rfl, Nat.mul_zero, Nat.mul_one, if_neg (by omega)]
def MW (T : PT) (F : PF) (N : PN) (s : Nat) (Z : XZ) : Prop := ∀ c, c < T 0 0 → cn (Z 96 0 c) = q_st T F N s c ∧ Z 97 0 c = (if q_dg T c = 0 then -2 else (w_l T N c 0 : Int)) ∧ Z 98 0 c = (if q_dg T c = 0 then -2 else (w_l T N c 1 : Int))
def LW (T : PT) (F : PF) (N : PN) (s set k : Nat) (Z : XZ) : Prop := Z 56 0 62 = (w_st T N s set k : Int) ∧ Z 56 0 63 = (w_mi T N s set k : Int) ∧ Z 56 0 64 = (w_la T N s set k : Int) ∧ Z 56 0 65 = (w_co T N s set k : Int) ∧ cn (Z 56 0 66) = (w_ca T F N s set k : Int) ∧ ∀ j, j ≤ k → Z 99 0 j = (w_at T N s set j : Int)
theorem MW.congr {T : PT} {F : PF} {N : PN} {s : Nat} {Z Z' : XZ} (h : MW T F N s Z) (hk : ∀ g i, 96 ≤ g → g ≤ 98 → Z' g 0 i = Z g 0 i) : MW T F N s Z' := fun c hc => by
  rw [hk 96 c (by omega) (by omega), hk 97 c (by omega) (by omega), hk 98 c (by omega) (by omega)]; exact h c hc
theorem m_walk_step {Z : XZ} {v : Nat} {T : PT} {F : PF} {N : PN} {d s set k : Nat} (hM : MT Z v T) (hT : TOK T) (hW : MW T F N s Z) (hd : 1 ≤ d) (t : Nat) (hs : s < T 2 0) (hset : set < 256) (hk : k < 8) (hne : ∀ j, j ≤ k → ¬ w_e T (w_at T N s set j) = true) (hL : LW T F N s set k Z) (o4 o5 : Option XV) : ∃ (Z' : XZ) (p4 p5 : Option XV), x_EX d 201 40 [some (.inr (.inr (some (56, 0)))), some (.inl ((s : Int))), some (.inl ((set : Int))), some (.inl ((w_at T N s set k : Int))), o4, o5] [] (x_S Z t) = x_EX d 201 40 [some (.inr (.inr (some (56, 0)))), some (.inl ((s : Int))), some (.inl ((set : Int))), some (.inl ((w_at T N s set (k + 1) : Int))), p4, p5] [] (x_S Z' t) ∧ LW T F N s set (k + 1) Z' ∧ ∀ g m i, ¬ (g = 99 ∨ (g = 56 ∧ 62 ≤ i ∧ i ≤ 66)) → Z' g m i = Z g m i := by
  have t0 : T 0 0 ≤ 7 := hT.1
  have t1 : T 1 0 ≤ 10 := hT.2.1
  have hat : w_at T N s set k < T 0 0 := w_at_lt hT hs k
  have hat1 : w_at T N s set (k + 1) < T 0 0 := w_at_lt hT hs (k + 1)
  obtain ⟨l1, l2, l3, l4, l5, l6⟩ := hL
  have hek := hne k (Nat.le_refl k)
  obtain ⟨hdg, hho⟩ := w_e_dg hek
  have hst : w_st T N s set k = k := w_st_k k (fun j hj => hne j (by omega))
  rw [hst] at l1
  obtain ⟨q1, q2, q3⟩ := hW _ hat
  rw [if_neg hdg] at q2 q3
  have hh : q_ho T = (T 10 0 : Int) := by unfold q_ho; rw [if_neg (by omega)]
  have h10 : T 10 0 < T 0 0 := hT.2.2.2.2.2.2.1 (by omega)
  have hl : ∀ b, w_l T N (w_at T N s set k) b < T 1 0 := fun b => q_at_lt hdg
  have hl0 := hl 0
  have hl1 := hl 1
  have hv := hM.1
  have hp8 : set / 2 ^ k < 256 := Nat.lt_of_le_of_lt (Nat.div_le_self _ _) hset
  have e1 : x_EX d 201 40 [some (.inr (.inr (some (56, 0)))), some (.inl ((s : Int))), some (.inl ((set : Int))), some (.inl ((w_at T N s set k : Int))), o4, o5] [] (x_S Z t) = x_EX d 201 83 [some (.inr (.inr (some (56, 0)))), some (.inl ((s : Int))), some (.inl ((set : Int))), some (.inl ((w_at T N s set k : Int))), o4, o5] [.inl ((w_b set k : Int))] (x_S Z t) := by
    rw [B201_40, l1, cn_nt (z := (k : Int)) rfl (by omega), if_pos (by omega), m_house hM hT hd t, Option.bind_some, B201_54, hh, cn_nt (z := (T 10 0 : Int)) rfl (by omega), cn_nt (z := (w_at T N s set k : Int)) rfl (by omega), if_neg (by omega), if_pos (by omega), Int.toNat_natCast, q2, cn_nt (z := (w_l T N (w_at T N s set k) 0 : Int)) rfl (by omega), if_neg (by omega), l1, x_shr_nat (by omega) (by omega), show (1 : Int) = ((1 : Nat) : Int) from rfl, x_and_nat (by omega) (by decide), Nat.and_one_is_mod]
    show (if cn ((w_b set k : Nat) : Int) = _ then _ else _) = _
    rcases w_b_01 set k with h0 | h1
    · rw [h0, if_neg (by decide)]; rfl
    · rw [h1, if_pos (by decide)]
  rw [e1]
  have e2 : ∃ a4 : Int, x_EX d 201 83 [some (.inr (.inr (some (56, 0)))), some (.inl ((s : Int))), some (.inl ((set : Int))), some (.inl ((w_at T N s set k : Int))), o4, o5] [.inl ((w_b set k : Int))] (x_S Z t) = (x_CALL d 181 [.inr (.inr (some (56, 0))), .inl ((w_l T N (w_at T N s set k) (w_b set k) : Int)), .inl ((w_at T N s set k : Int))] (x_S (x_u (x_u (x_u Z 56 0 66 (Z 56 0 66 * (if w_b set k = 1 then Z 96 0 (w_at T N s set k) else 4 - Z 96 0 (w_at T N s set k)))) 56 0 63 ((w_mi T N s set (k + 1) : Int))) 56 0 64 (w_la T N s set (k + 1) : Int)) t)).bind fun q => x_EX d 201 182 [some (.inr (.inr (some (56, 0)))), some (.inl ((s : Int))), some (.inl ((set : Int))), some (.inl ((w_at T N s set k : Int))), some (.inl a4), some (.inl ((w_l T N (w_at T N s set k) (w_b set k) : Int)))] [.inl q.1] q.2 := by
    have hmi : (w_mi T N s set (k + 1) : Int) = (w_mi T N s set k : Int) + (T 6 (w_l T N (w_at T N s set k) (w_b set k)) : Int) := by rw [w_mi, if_neg hek]; omega
    have hla : x_or (w_la T N s set k : Int) (x_shl 1 (w_l T N (w_at T N s set k) (w_b set k) : Int)) = (w_la T N s set (k + 1) : Int) := by
      have hlb := hl (w_b set k)
      have a1 := w_la_lt (N := N) (s := s) (set := set) hT k
      have a2 : 2 ^ (w_l T N (w_at T N s set k) (w_b set k)) < 2 ^ 10 := Nat.pow_lt_pow_right (by decide) (by omega)
      rw [x_shl_1 (by omega), x_or_nat (by omega) (by omega), w_la, if_neg hek]
    rw [hmi, ← hla]
    rcases w_b_01 set k with h0 | h1
    · rw [h0]
      refine ⟨0, ?_⟩
      rw [B201_83, if_pos (by decide), cn_nt (z := (w_at T N s set k : Int)) rfl (by omega), if_pos (by omega), Int.toNat_natCast, B201_105, if_pos (by decide), q2, cn_nt (z := (w_at T N s set k : Int)) rfl (by omega), if_pos (by omega), hM.2.1, cn_nt (z := 10 * (v : Int) + (w_l T N (w_at T N s set k) 0 : Int)) (n := 10 * v + w_l T N (w_at T N s set k) 0) (by omega) (by omega), if_pos (by omega), Int.toNat_natCast, Int.toNat_natCast, (hM.2.2.2.2.1 _ hl0).2.2, l2, l3, if_neg (by decide)]
      rfl
    · rw [h1]
      refine ⟨1, ?_⟩
      rw [B201_83, if_neg (by decide), cn_nt (z := (w_at T N s set k : Int)) rfl (by omega), if_pos (by omega), Int.toNat_natCast, B201_105, if_neg (by decide), q3, cn_nt (z := (w_at T N s set k : Int)) rfl (by omega), if_pos (by omega), hM.2.1, cn_nt (z := 10 * (v : Int) + (w_l T N (w_at T N s set k) 1 : Int)) (n := 10 * v + w_l T N (w_at T N s set k) 1) (by omega) (by omega), if_pos (by omega), Int.toNat_natCast, Int.toNat_natCast, (hM.2.2.2.2.1 _ hl1).2.2, l2, l3, if_pos rfl]
      rfl
  obtain ⟨a4, e2⟩ := e2
  rw [e2]
  generalize hZ1 : x_u (x_u (x_u Z 56 0 66 (Z 56 0 66 * (if w_b set k = 1 then Z 96 0 (w_at T N s set k) else 4 - Z 96 0 (w_at T N s set k)))) 56 0 63 ((w_mi T N s set (k + 1) : Int))) 56 0 64 (w_la T N s set (k + 1) : Int) = Z1
  have k1 : ∀ g m i, ¬ (g = 56 ∧ 62 ≤ i ∧ i ≤ 66) → Z1 g m i = Z g m i := fun g m i hg => by rw [← hZ1, x_u_ne (by omega), x_u_ne (by omega), x_u_ne (by omega)]
  have hM1 : MT Z1 v T := hM.congr (fun g i a b => k1 _ _ _ (by omega)) (k1 _ _ _ (by omega))
  have z62 : Z1 56 0 62 = (k : Int) := by rw [← hZ1, x_u_ne (by omega), x_u_ne (by omega), x_u_ne (by omega)]; exact l1
  have z65 : Z1 56 0 65 = (w_co T N s set k : Int) := by rw [← hZ1, x_u_ne (by omega), x_u_ne (by omega), x_u_ne (by omega)]; exact l4
  have hoe : q_oe T (w_l T N (w_at T N s set k) (w_b set k)) (w_at T N s set k) = w_at T N s set (k + 1) := by rw [w_at, if_neg hek]
  have hco : x_or (w_co T N s set k : Int) (x_shl 1 (w_at T N s set (k + 1) : Int)) = (w_co T N s set (k + 1) : Int) := by
    have a1 := w_co_lt (N := N) (set := set) hT hs k
    have a2 : 2 ^ (w_at T N s set (k + 1)) < 2 ^ 7 := Nat.pow_lt_pow_right (by decide) (by omega)
    rw [x_shl_1 (by omega), x_or_nat (by omega) (by omega), w_co, if_neg hek]
  rw [m_oth hM1 hT hd t (hl _) (q_at_e hdg), Option.bind_some, hoe, B201_182, z62, z65, cn_nt (z := (k : Int) + 1) (n := k + 1) (by omega) (by omega), if_pos (by omega), Int.toNat_natCast, hco]
  refine ⟨_, _, _, rfl, ⟨?_, ?_, ?_, ?_, ?_, ?_⟩, ?_⟩
  · rw [x_u_ne (by omega), x_u_eq, w_st, if_neg hek, hst]; rfl
  · rw [x_u_ne (by omega), x_u_ne (by omega), x_u_ne (by omega), ← hZ1, x_u_ne (by omega), x_u_eq]
  · rw [x_u_ne (by omega), x_u_ne (by omega), x_u_ne (by omega), ← hZ1, x_u_eq]
  · rw [x_u_ne (by omega), x_u_ne (by omega), x_u_eq]
  · rw [x_u_ne (by omega), x_u_ne (by omega), x_u_ne (by omega), ← hZ1, x_u_ne (by omega), x_u_ne (by omega), x_u_eq]
    have hq := q_st_b T F N s (w_at T N s set k)
    have hqq := w_q_eq T F N s (w_at T N s set k)
    have hcl := w_ca_le T F N s set k
    have hp : (4 : Nat) ^ k ≤ 4 ^ 8 := Nat.pow_le_pow_right (by decide) (by omega)
    have hfl := w_fa_le T F N s set k
    have hcu : w_ca T F N s set k * w_fa T F N s set k ≤ 4 ^ 8 * 4 := Nat.mul_le_mul (Nat.le_trans hcl hp) hfl
    have ef : cn (if w_b set k = 1 then Z 96 0 (w_at T N s set k) else 4 - Z 96 0 (w_at T N s set k)) = cn (w_fa T F N s set k : Int) := by
      rw [w_fa, if_neg hek]
      rcases w_b_01 set k with h0 | h1
      · rw [h0, if_neg (by decide), if_neg (by decide)]
        have : cn (4 - Z 96 0 (w_at T N s set k)) = cn (4 - cn (Z 96 0 (w_at T N s set k))) := by unfold cn; omega
        rw [this, q1]; congr 1; omega
      · rw [h1, if_pos rfl, if_pos rfl, hqq, q1, cn_id (by omega) (by omega)]
    have hca : cn (Z 56 0 66) = cn (w_ca T F N s set k : Int) := by rw [l5, cn_nt rfl (by omega)]
    rw [cn_mul hca ef, w_ca]
    exact cn_nt (by simp) (by omega)
  · intro j hj
    by_cases hjk : j = k + 1
    · rw [hjk, x_u_eq]
    · rw [x_u_ne (by omega), x_u_ne (by omega), x_u_ne (by omega), k1 _ _ _ (by omega)]; exact l6 j (by omega)
  · intro g m i hg
    rw [x_u_ne (by omega), x_u_ne (by omega), x_u_ne (by omega), k1 _ _ _ (by omega)]
