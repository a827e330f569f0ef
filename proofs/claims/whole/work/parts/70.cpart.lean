/-! the class: a row parts -/
def w_nx (T : PT) (F : PF) (N : PN) (s k m : Nat) : Nat := if w_e T (w_at T N s m k) = true then m else if w_q T F N s (w_at T N s m k) = 4 then m + 2 ^ k else m
def w_sp (T : PT) (F : PF) (N : PN) (s k m : Nat) : Bool := !(w_e T (w_at T N s m k)) && decide (0 < w_q T F N s (w_at T N s m k)) && decide (w_q T F N s (w_at T N s m k) < 4)
def RR (T : PT) (F : PF) (N : PN) (s : Nat) (Z : XZ) (i m k : Nat) : Prop := RW T N s Z i m k ∧ cn (Z 46 0 i) = ((w_ca T F N s m k * 4 ^ (8 - k) : Nat) : Int) ∧ m < 2 ^ k
theorem RR.congr {T : PT} {F : PF} {N : PN} {s n set k : Nat} {Z Z' : XZ} (h : RR T F N s Z n set k) (hk : ∀ g, 42 ≤ g → g ≤ 50 → Z' g 0 n = Z g 0 n) : RR T F N s Z' n set k :=
  ⟨h.1.congr (fun g a b c => hk g a b), by rw [hk 46 (by omega) (by omega)]; exact h.2.1, h.2.2⟩
theorem pow_8k {k : Nat} (hk : k < 8) : (4 : Nat) ^ (8 - k) = 4 * 4 ^ (8 - (k + 1)) := by
  rw [show 8 - k = 1 + (8 - (k + 1)) by omega, Nat.pow_add]
theorem w_ca_b {T : PT} {F : PF} {N : PN} {s m k : Nat} (hk : k ≤ 8) : w_ca T F N s m k * 4 ^ (8 - k) ≤ 65536 := by
  have h1 := w_ca_le T F N s m k
  have h2 : (4 : Nat) ^ k * 4 ^ (8 - k) = 65536 := by rw [← Nat.pow_add, show k + (8 - k) = 8 by omega]
  rw [← h2]; exact Nat.mul_le_mul_right _ h1
theorem RR.ended {T : PT} {F : PF} {N : PN} {s i m k : Nat} {Z : XZ} (h : RR T F N s Z i m k) (he : w_e T (w_at T N s m k) = true) (hk : k < 8) : RR T F N s Z i m (k + 1) := by
  obtain ⟨⟨r1, r2, r3, r4, r5, r6, r7, r8⟩, rc, rm⟩ := h
  obtain ⟨e1, e2, e3, e4, e5⟩ := w_end he 1
  refine ⟨⟨by rw [e1]; exact r1, by rw [e3]; exact r2, by rw [e2]; exact r3, r4, by rw [e5]; exact r5, by rw [e4]; exact r6, by rw [w_ag, if_pos he]; exact r7, by rw [w_pa, if_pos he]; exact r8⟩, ?_, ?_⟩
  · rw [rc, w_ca, w_fa, if_pos he, (w_b_top rm).1, if_neg (by decide), pow_8k hk, Nat.mul_assoc]
  · rw [Nat.pow_succ]; omega
theorem x_div4 {a : Int} {x : Nat} (h : cn a = (x : Int)) : x_div a 4 = ((x / 4 : Nat) : Int) := by
  unfold x_div; rw [h, cn_id (z := 4) (by decide) (by decide)]; rfl
theorem w_ca_0 {T : PT} {F : PF} {N : PN} {s m k : Nat} (hm : m < 2 ^ k) (hne : ¬ w_e T (w_at T N s m k) = true) : w_ca T F N s m (k + 1) = w_ca T F N s m k * (4 - w_q T F N s (w_at T N s m k)) := by
  rw [w_ca, w_fa, if_neg hne, (w_b_top hm).1, if_neg (by decide)]
theorem w_ca_1 {T : PT} {F : PF} {N : PN} {s m k : Nat} (hm : m < 2 ^ k) (hne : ¬ w_e T (w_at T N s m k) = true) : w_ca T F N s (m + 2 ^ k) (k + 1) = w_ca T F N s m k * w_q T F N s (w_at T N s m k) := by
  have hb : ∀ j, j < k → w_b (m + 2 ^ k) j = w_b m j := fun j hj => w_b_add hj
  rw [w_ca, w_fa, (w_congr k hb).1, if_neg hne, (w_b_top hm).2, if_pos rfl, w_ca_congr k hb]
theorem RW.copy {T : PT} {N : PN} {s n c m k : Nat} {Z : XZ} {d : Nat} (h : RW T N s Z n m k) (hn : n < 256) (hc : c < 256) (hnc : n ≠ c) (hd : 1 ≤ d) (t : Nat) : ∃ Z' : XZ, x_CALL d 77 [.inr (.inr (some (41, 0))), .inl ((n : Int)), .inl ((c : Int))] (x_S Z t) = some (0, x_S Z' t) ∧ RW T N s Z' c m k ∧ ∀ g m i, ¬ (42 ≤ g ∧ g ≤ 50 ∧ g ≠ 46 ∧ i = c) → Z' g m i = Z g m i := by
  have bn : 0 ≤ (n : Int) ∧ (n : Int) < 256 := by omega
  have bc : 0 ≤ (c : Int) ∧ (c : Int) < 256 := by omega
  obtain ⟨r1, r2, r3, r4, r5, r6, r7, r8⟩ := h
  rw [C77 _ _ _ _ _ (by omega), cn_nt (z := (n : Int)) rfl (by omega), cn_nt (z := (c : Int)) rfl (by omega), Int.toNat_natCast, Int.toNat_natCast]
  simp only [if_pos bn, if_pos bc]
  rw [r1, r2, r3, r4, r5, r6, r7, r8]
  have h9 : ((w_ag T N s m k : Nat) : Int) % 2 = (w_ag T N s m k : Int) := by rcases w_ag_01 T N s m k with h | h <;> rw [h] <;> rfl
  refine ⟨_, rfl, ⟨?_, ?_, ?_, ?_, ?_, ?_, ?_, ?_⟩, ?_⟩
  · simp [x_u]
  · simp [x_u]
  · simp [x_u]
  · simp [x_u]
  · simp [x_u]
  · simp [x_u]
  · rw [h9]; simp [x_u]
  · simp [x_u]
  · intro g m i hg
    rw [x_u_ne (by omega), x_u_ne (by omega), x_u_ne (by omega), x_u_ne (by omega), x_u_ne (by omega), x_u_ne (by omega), x_u_ne (by omega), x_u_ne (by omega)]
theorem c_part {T : PT} {F : PF} {N : PN} {Z : XZ} {d s n c m k : Nat} (hT : TOK T) (hW : CW T F N s Z) (hR : RR T F N s Z n m k) (hs : s < T 2 0) (hc : Z 41 0 0 = (c : Int)) (hn : n < c) (hc6 : c ≤ 256) (hsp : w_sp T F N s k m = true → c < 256) (hk : k < 8) (hne : ¬ w_e T (w_at T N s m k) = true) (hd : 2 ≤ d) (t : Nat) : ∃ Z' : XZ, x_CALL d 76 [.inr (.inr (some (41, 0))), .inl ((n : Int))] (x_S Z t) = some (0, x_S Z' t) ∧ RR T F N s Z' n (w_nx T F N s k m) (k + 1) ∧ (if w_sp T F N s k m = true then Z' 41 0 0 = ((c + 1 : Nat) : Int) ∧ RR T F N s Z' c (m + 2 ^ k) (k + 1) else Z' 41 0 0 = (c : Int)) ∧ ∀ g m i, ¬ (42 ≤ g ∧ g ≤ 50 ∧ (i = n ∨ c ≤ i)) → ¬ (g = 41 ∧ i = 0) → Z' g m i = Z g m i := by
  have t0 : T 0 0 ≤ 7 := hT.1
  have hat : w_at T N s m k < T 0 0 := w_at_lt hT hs k
  obtain ⟨hRW, hca, hm⟩ := id hR
  obtain ⟨q1, _⟩ := (hW.2.2 _ hat).2 hne
  rw [← w_q_eq] at q1
  have hq4 := w_q_le T F N s (w_at T N s m k)
  have bn : 0 ≤ (n : Int) ∧ (n : Int) < 256 := by omega
  have ba : 0 ≤ (w_at T N s m k : Int) ∧ (w_at T N s m k : Int) < 7 := by omega
  have hb8 := w_ca_b (T := T) (F := F) (N := N) (s := s) (m := m) (k := k) (by omega)
  have hp2 : m + 2 ^ k < 2 ^ (k + 1) := by rw [Nat.pow_succ]; omega
  rw [C76 _ _ _ _ (by omega), cn_nt (z := (n : Int)) rfl (by omega), if_pos bn, Int.toNat_natCast, hRW.1, cn_nt (z := (w_at T N s m k : Int)) rfl (by omega), if_pos ba, Int.toNat_natCast, q1, hc, cn_nt (z := (c : Int)) rfl (by omega)]
  by_cases hspt : w_sp T F N s k m = true
  · have hc256 := hsp hspt
    have hq : 0 < w_q T F N s (w_at T N s m k) ∧ w_q T F N s (w_at T N s m k) < 4 := by
      unfold w_sp at hspt; simp at hspt; omega
    have hnx : w_nx T F N s k m = m := by unfold w_nx; rw [if_neg hne, if_neg (by omega)]
    have bc : 0 ≤ (c : Int) ∧ (c : Int) < 256 := by omega
    obtain ⟨Z1, e1, e2, e3⟩ := hRW.copy (c := c) (d := d - 1) (by omega) (by omega) (by omega) (by omega) t
    have hdv : x_div (Z 46 0 n) 4 = ((w_ca T F N s m k * 4 ^ (8 - (k + 1)) : Nat) : Int) := by
      rw [x_div4 hca, pow_8k hk, Nat.mul_left_comm, Nat.mul_div_cancel_left _ (by decide)]
    rw [if_pos (by omega), if_pos (by omega), if_pos (by omega), e1, Option.bind_some, B76_40, cn_nt (z := (n : Int)) rfl (by omega), if_pos bn, e3 41 _ _ (by omega), hc, cn_nt (z := (c : Int)) rfl (by omega), if_pos bc, if_pos bn, Int.toNat_natCast, Int.toNat_natCast, e3 46 _ _ (by omega), hdv]
    generalize hZ2 : x_u (x_u Z1 46 0 c (((w_ca T F N s m k * 4 ^ (8 - (k + 1)) : Nat) : Int) * Z 51 0 (w_at T N s m k))) 46 0 n (((w_ca T F N s m k * 4 ^ (8 - (k + 1)) : Nat) : Int) * (4 - Z 51 0 (w_at T N s m k))) = Z2
    have k2 : ∀ g m i, ¬ (42 ≤ g ∧ g ≤ 50 ∧ (i = c ∨ (g = 46 ∧ i = n))) → Z2 g m i = Z g m i := fun g m i hg => by rw [← hZ2, x_u_ne (by omega), x_u_ne (by omega)]; exact e3 g m i (by omega)
    have hW2 : CW T F N s Z2 := hW.congr (fun g m i hg => k2 _ _ _ (by omega))
    have hR2 : RW T N s Z2 c m k := e2.congr (fun g a b h => by rw [← hZ2, x_u_ne (by omega), x_u_ne (by omega)])
    obtain ⟨Z3, f1, f2, f3⟩ := c_move (d := d - 1) (b := 1) hT hW2 hR2 hs (by omega) hk hm (by decide) hne (by omega) t
    rw [Nat.one_mul] at f2
    have hW4 : CW T F N s (x_u Z3 41 0 0 ((c : Int) + 1)) := hW2.congr (fun g m i hg => by rw [x_u_ne (by omega)]; exact f3 _ _ _ (by omega))
    have hR4 : RW T N s (x_u Z3 41 0 0 ((c : Int) + 1)) n m k := hRW.congr (fun g a b h => by rw [x_u_ne (by omega), f3 _ _ _ (by omega)]; exact k2 _ _ _ (by omega))
    obtain ⟨Z5, g1, g2, g3⟩ := c_move (d := d - 1) (b := 0) hT hW4 hR4 hs (by omega) hk hm (by decide) hne (by omega) t
    rw [Nat.zero_mul, Nat.add_zero] at g2
    rw [show (1 : Int) = ((1 : Nat) : Int) from rfl, f1, Option.bind_some, B76_81, q1, if_neg (by omega), f3 41 _ _ (by omega), k2 41 _ _ (by omega), hc]
    rw [show (0 : Int) = ((0 : Nat) : Int) from rfl] at g1 ⊢
    rw [g1, Option.bind_some, B76_106]
    have c46n : Z5 46 0 n = ((w_ca T F N s m k * 4 ^ (8 - (k + 1)) : Nat) : Int) * (4 - Z 51 0 (w_at T N s m k)) := by rw [g3 _ _ _ (by omega), x_u_ne (by omega), f3 _ _ _ (by omega), ← hZ2, x_u_eq]
    have c46c : Z5 46 0 c = ((w_ca T F N s m k * 4 ^ (8 - (k + 1)) : Nat) : Int) * Z 51 0 (w_at T N s m k) := by rw [g3 _ _ _ (by omega), x_u_ne (by omega), f3 _ _ _ (by omega), ← hZ2, x_u_ne (by omega), x_u_eq]
    have hqb : w_ca T F N s m k * 4 ^ (8 - (k + 1)) ≤ 65536 := by
      rw [pow_8k hk] at hb8
      exact Nat.le_trans (Nat.mul_le_mul_left _ (by omega)) hb8
    refine ⟨Z5, rfl, ⟨?_, ?_, ?_⟩, ?_, ?_⟩
    · rw [hnx]; exact g2
    · have e4q : cn (4 - Z 51 0 (w_at T N s m k)) = cn ((4 - w_q T F N s (w_at T N s m k) : Nat) : Int) := by
        have : cn (4 - Z 51 0 (w_at T N s m k)) = cn (4 - cn (Z 51 0 (w_at T N s m k))) := by unfold cn; omega
        rw [this, q1]; congr 1; omega
      rw [hnx, c46n, cn_mul rfl e4q, w_ca_0 hm hne]
      refine cn_nt ?_ ?_
      · rw [← Int.natCast_mul]; congr 1; rw [Nat.mul_right_comm]
      · exact Nat.lt_of_le_of_lt (w_ca_0 (F := F) hm hne ▸ w_ca_b (by omega)) (by decide)
    · rw [hnx, Nat.pow_succ]; omega
    · rw [if_pos hspt]
      refine ⟨by rw [g3 _ _ _ (by omega), x_u_eq]; rfl, ⟨f2.congr (fun g a b h => by rw [g3 _ _ _ (by omega), x_u_ne (by omega)]), ?_, hp2⟩⟩
      have eq' : cn (Z 51 0 (w_at T N s m k)) = cn (w_q T F N s (w_at T N s m k) : Int) := by rw [q1, cn_nt rfl (by omega)]
      rw [c46c, cn_mul rfl eq', w_ca_1 hm hne]
      refine cn_nt ?_ ?_
      · rw [← Int.natCast_mul]; congr 1; rw [Nat.mul_right_comm]
      · exact Nat.lt_of_le_of_lt (w_ca_1 (F := F) hm hne ▸ w_ca_b (by omega)) (by decide)
    · intro g m' i h1 h2
      rw [g3 _ _ _ (by omega), x_u_ne (by omega), f3 _ _ _ (by omega)]; exact k2 _ _ _ (by omega)
  · have hq : w_q T F N s (w_at T N s m k) = 0 ∨ w_q T F N s (w_at T N s m k) = 4 := by
      unfold w_sp at hspt
      simp only [Bool.not_eq_true] at hne
      simp [hne] at hspt
      omega
    simp only [if_neg hspt]
    rcases hq with hq | hq
    · obtain ⟨Z5, g1, g2, g3⟩ := c_move (d := d - 1) (b := 0) hT hW hRW hs (by omega) hk hm (by decide) hne (by omega) t
      rw [Nat.zero_mul, Nat.add_zero] at g2
      have hnx : w_nx T F N s k m = m := by unfold w_nx; rw [if_neg hne, if_neg (by omega)]
      rw [if_neg (by omega), if_neg (by omega), show (0 : Int) = ((0 : Nat) : Int) from rfl, g1, Option.bind_some, B76_106]
      refine ⟨Z5, rfl, ⟨by rw [hnx]; exact g2, ?_, by rw [hnx, Nat.pow_succ]; omega⟩, by rw [g3 _ _ _ (by omega)]; exact hc, fun g m' i h1 h2 => g3 _ _ _ (by omega)⟩
      rw [g3 _ _ _ (by omega), hca, hnx, w_ca_0 hm hne, hq, pow_8k hk, Nat.mul_assoc]
    · obtain ⟨Z5, g1, g2, g3⟩ := c_move (d := d - 1) (b := 1) hT hW hRW hs (by omega) hk hm (by decide) hne (by omega) t
      rw [Nat.one_mul] at g2
      have hnx : w_nx T F N s k m = m + 2 ^ k := by unfold w_nx; rw [if_neg hne, if_pos hq]
      rw [if_pos (by omega), if_neg (by omega), if_pos (by omega), show (1 : Int) = ((1 : Nat) : Int) from rfl, g1, Option.bind_some, B76_106]
      refine ⟨Z5, rfl, ⟨by rw [hnx]; exact g2, ?_, by rw [hnx]; exact hp2⟩, by rw [g3 _ _ _ (by omega)]; exact hc, fun g m' i h1 h2 => g3 _ _ _ (by omega)⟩
      rw [g3 _ _ _ (by omega), hca, hnx, w_ca_1 hm hne, hq, pow_8k hk, Nat.mul_assoc]
