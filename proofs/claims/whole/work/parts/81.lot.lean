/-! walks by lot -/
def q_mx (h v : Int) : Int := x_xor (((x_xor h v) * 1103515245) + 12345) (x_ushr (((x_xor h v) * 1103515245) + 12345) 15)
def q_lo (sd w : Int) : Int := x_rem (x_ushr (q_mx (q_mx sd 187) w) 1) 4
theorem c_lo {Z : XZ} {d : Nat} (hd : 2 ≤ d) (t : Nat) (sd w : Int) : x_CALL d 79 [.inl 4, .inl sd, .inl w] (x_S Z t) = some (q_lo sd w, x_S Z t) := by
  rw [C79 _ _ _ _ _ _ (by omega), C80 _ _ _ _ _ (by omega), Option.bind_some, B79_7, C80 _ _ _ _ _ (by omega), Option.bind_some, B79_11, if_pos (by decide), if_neg (by decide)]
  rfl
theorem m_lo {Z : XZ} {d : Nat} (hd : 2 ≤ d) (t : Nat) {sd : Int} (h : Z 56 0 56 = sd) (w : Int) : x_CALL d 179 [.inr (.inr (some (56, 0))), .inl w] (x_S Z t) = some (q_lo sd w, x_S Z t) := by
  rw [C179 _ _ _ _ (by omega), h, C178 _ _ _ _ _ (by omega), Option.bind_some, B179_10, C178 _ _ _ _ _ (by omega), Option.bind_some, B179_14]
  rfl
def w_lt (N : PN) (s : Nat) (sd : Int) (k : Nat) : Int := cn (q_lo sd (64 * N 13 + 8 * (s : Int) + (k : Int)))
def w_lm (T : PT) (F : PF) (N : PN) (s : Nat) (sd : Int) (k : Nat) : Nat := match k with
  | 0 => 0
  | k + 1 => if w_e T (w_at T N s (w_lm T F N s sd k) k) = true then w_lm T F N s sd k else if w_lt N s sd k < (w_q T F N s (w_at T N s (w_lm T F N s sd k) k) : Int) then w_lm T F N s sd k + 2 ^ k else w_lm T F N s sd k
theorem w_lm_lt (T : PT) (F : PF) (N : PN) (s : Nat) (sd : Int) (k : Nat) : w_lm T F N s sd k < 2 ^ k := by
  induction k with
  | zero => show 0 < 1; decide
  | succ k ih => unfold w_lm; rw [Nat.pow_succ]; split; omega; split <;> omega
theorem RW.ended {T : PT} {N : PN} {s i m k : Nat} {Z : XZ} (h : RW T N s Z i m k) (he : w_e T (w_at T N s m k) = true) : RW T N s Z i m (k + 1) := by
  obtain ⟨r1, r2, r3, r4, r5, r6, r7, r8⟩ := h
  obtain ⟨e1, e2, e3, e4, e5⟩ := w_end he 1
  exact ⟨by rw [e1]; exact r1, by rw [e3]; exact r2, by rw [e2]; exact r3, r4, by rw [e5]; exact r5, by rw [e4]; exact r6, by rw [w_ag, if_pos he]; exact r7, by rw [w_pa, if_pos he]; exact r8⟩
theorem RW.endedN {T : PT} {F : PF} {N : PN} {s i : Nat} {sd : Int} {Z : XZ} : ∀ (j k : Nat), RW T N s Z i (w_lm T F N s sd k) k → w_e T (w_at T N s (w_lm T F N s sd k) k) = true → RW T N s Z i (w_lm T F N s sd (k + j)) (k + j) := by
  intro j
  induction j with
  | zero => intro k h _; exact h
  | succ j ih =>
    intro k h he
    have hl : w_lm T F N s sd (k + 1) = w_lm T F N s sd k := by rw [w_lm, if_pos he]
    have h1 := h.ended he
    have he1 : w_e T (w_at T N s (w_lm T F N s sd (k + 1)) (k + 1)) = true := by rw [hl, (w_end he 1).1]; exact he
    have := ih (k + 1) (by rw [hl]; exact h1) he1
    rw [show k + 1 + j = k + (j + 1) by omega] at this
    exact this
theorem c_lot_loop {T : PT} {F : PF} {N : PN} {d s : Nat} (hT : TOK T) (hs : s < T 2 0) (hd : 2 ≤ d) (t i1 i2 : Nat) (sd : Int) : ∀ (j k : Nat) (Z : XZ), k + j = 8 → CW T F N s Z → RW T N s Z 0 (w_lm T F N s sd k) k → ∃ Z' : XZ, x_EX d 69 24 [some (.inr (.inr (some (41, 0)))), some (.inr (.inr (some (7, i1)))), some (.inr (.inr (some (28, i2)))), some (.inl ((s : Int))), some (.inl sd), some (.inl (64 * N 13 + 8 * (s : Int))), some (.inl ((k : Int)))] [] (x_S Z t) = some (0, x_S Z' t) ∧ CW T F N s Z' ∧ RW T N s Z' 0 (w_lm T F N s sd 8) 8 ∧ ∀ g m i, ¬ (41 ≤ g ∧ g ≤ 50) → Z' g m i = Z g m i := by
  have t0 : T 0 0 ≤ 7 := hT.1
  intro j
  induction j with
  | zero =>
    intro k Z hk hW hR
    obtain rfl : k = 8 := by omega
    rw [B69_24, if_neg (by decide)]
    exact ⟨Z, rfl, hW, hR, fun _ _ _ _ => rfl⟩
  | succ j ih =>
    intro k Z hk hW hR
    have hat : w_at T N s (w_lm T F N s sd k) k < T 0 0 := w_at_lt hT hs k
    have hm := w_lm_lt T F N s sd k
    rw [B69_24, cn_nt (z := (k : Int)) rfl (by omega), if_pos (by omega), hR.1, cn_nt (z := (w_at T N s (w_lm T F N s sd k) k : Int)) rfl (by omega), if_pos (by omega), Int.toNat_natCast, (hW.2.2 _ hat).1]
    by_cases he : w_e T (w_at T N s (w_lm T F N s sd k) k) = true
    · rw [if_pos he, if_neg cn_1n]
      refine ⟨Z, rfl, hW, ?_, fun _ _ _ _ => rfl⟩
      have := RW.endedN (j + 1) k hR he
      rwa [show k + (j + 1) = 8 by omega] at this
    · obtain ⟨q1, _⟩ := (hW.2.2 _ hat).2 he
      rw [← w_q_eq] at q1
      rw [if_neg he, if_pos cn_0, c_lo hd, Option.bind_some, B69_58, hR.1, cn_nt (z := (w_at T N s (w_lm T F N s sd k) k : Int)) rfl (by omega), if_pos (by omega), Int.toNat_natCast, q1]
      have hlm : w_lm T F N s sd (k + 1) = if w_lt N s sd k < (w_q T F N s (w_at T N s (w_lm T F N s sd k) k) : Int) then w_lm T F N s sd k + 2 ^ k else w_lm T F N s sd k := by rw [w_lm, if_neg he]
      by_cases hl : w_lt N s sd k < (w_q T F N s (w_at T N s (w_lm T F N s sd k) k) : Int)
      · obtain ⟨Z1, e1, e2, e3⟩ := c_move (d := d) (n := 0) (b := 1) hT hW hR hs (by decide) (by omega) hm (by decide) he (by omega) t
        rw [if_pos hl] at hlm
        rw [Nat.one_mul, ← hlm] at e2
        obtain ⟨Z2, f1, f2, f3, f4⟩ := ih (k + 1) Z1 (by omega) (hW.congr (fun g m i hg => e3 _ _ _ (by omega))) e2
        have hl' : cn (q_lo sd (64 * N 13 + 8 * (s : Int) + (k : Int))) < (w_q T F N s (w_at T N s (w_lm T F N s sd k) k) : Int) := hl
        rw [if_pos hl', show (0 : Int) = ((0 : Nat) : Int) from rfl, show (1 : Int) = ((1 : Nat) : Int) from rfl, e1, Option.bind_some, B69_80]
        exact ⟨Z2, f1, f2, f3, fun g m i hg => (f4 g m i hg).trans (e3 g m i (by omega))⟩
      · obtain ⟨Z1, e1, e2, e3⟩ := c_move (d := d) (n := 0) (b := 0) hT hW hR hs (by decide) (by omega) hm (by decide) he (by omega) t
        rw [if_neg hl] at hlm
        rw [Nat.zero_mul, Nat.add_zero] at e2
        rw [← hlm] at e2
        obtain ⟨Z2, f1, f2, f3, f4⟩ := ih (k + 1) Z1 (by omega) (hW.congr (fun g m i hg => e3 _ _ _ (by omega))) e2
        have hl' : ¬ cn (q_lo sd (64 * N 13 + 8 * (s : Int) + (k : Int))) < (w_q T F N s (w_at T N s (w_lm T F N s sd k) k) : Int) := hl
        rw [if_neg hl', show (0 : Int) = ((0 : Nat) : Int) from rfl, e1, Option.bind_some, B69_80]
        exact ⟨Z2, f1, f2, f3, fun g m i hg => (f4 g m i hg).trans (e3 g m i (by omega))⟩
theorem c_lot {T : PT} {F : PF} {N : PN} {Z : XZ} {t d m s : Nat} (hC : CT Z t T) (hT : TOK T) (hL : CLaw Z t F) (hS : CS Z m N) (hN : NOK N) (hd : 6 ≤ d) (hs : s < T 2 0) (sd : Int) : ∃ Z' : XZ, x_CALL d 69 [.inr (.inr (some (41, 0))), .inr (.inr (some (7, t))), .inr (.inr (some (28, m))), .inl ((s : Int)), .inl sd] (x_S Z t) = some (0, x_S Z' t) ∧ CW T F N s Z' ∧ RW T N s Z' 0 (w_lm T F N s sd 8) 8 ∧ ∀ g m i, ¬ (g = 19 ∨ g = 20 ∨ (41 ≤ g ∧ g ≤ 55)) → Z' g m i = Z g m i := by
  obtain ⟨Z1, e1, e2, e3, e4, e5, e6⟩ := c_setOut (d := d - 1) hC hT hL hS hN (by omega) hs
  obtain ⟨Z2, f1, f2, f3, f4⟩ := c_lot_loop (F := F) (d := d - 1) hT hs (by omega) t t m sd 8 0 Z1 (by omega) e2 e3
  rw [C69 _ _ _ _ _ _ _ (by omega), e1, Option.bind_some, B69_7, e6 28 m 0 (by omega), hS.2.2.1]
  exact ⟨Z2, f1, f2, f3, fun g m i hg => (f4 g m i (by omega)).trans (e6 g m i hg)⟩
theorem w_st_mono (T : PT) (N : PN) (s set k : Nat) : ∀ j, w_st T N s set k ≤ w_st T N s set (k + j) := by
  intro j
  induction j with
  | zero => exact Nat.le_refl _
  | succ j ih =>
    show _ ≤ w_st T N s set (k + j + 1)
    rw [w_st]; split <;> omega
theorem w_st_gt {T : PT} {N : PN} {s set i : Nat} (hi : i < 8) : i < w_st T N s set 8 ↔ ¬ w_e T (w_at T N s set i) = true := by
  constructor
  · intro h he
    have h1 := (w_end he (8 - i)).2.1
    rw [show i + (8 - i) = 8 by omega] at h1
    have h2 := w_st_le T N s set i
    omega
  · intro he
    have h1 : w_st T N s set (i + 1) = i + 1 := w_st_k (i + 1) (fun j hj => w_ne_le he j (by omega))
    have h2 := w_st_mono T N s set (i + 1) (8 - (i + 1))
    rw [show i + 1 + (8 - (i + 1)) = 8 by omega] at h2
    omega
theorem m_lot_loop {T : PT} {F : PF} {N : PN} {d s v : Nat} (hT : TOK T) (hs : s < T 2 0) (hd : 2 ≤ d) (t : Nat) (sd : Int) : ∀ (j k : Nat) (Z : XZ) (o4 : Option XV), k + j = 8 → ME T F N s v Z → Z 56 0 56 = sd → ∃ Z' : XZ, x_EX d 204 9 [some (.inr (.inr (some (56, 0)))), some (.inl ((s : Int))), some (.inl ((w_lm T F N s sd k : Int))), some (.inl ((k : Int))), o4] [] (x_S Z t) = some ((w_lm T F N s sd 8 : Int), x_S Z' t) ∧ ME T F N s v Z' ∧ LW T F N s (w_lm T F N s sd 8) 8 Z' ∧ kM Z Z' := by
  have t0 : T 0 0 ≤ 7 := hT.1
  intro j
  induction j with
  | zero =>
    intro k Z o4 hk hE hsd
    obtain rfl : k = 8 := by omega
    have hm := w_lm_lt T F N s sd 8
    obtain ⟨Z1, w1, w2, w3⟩ := m_walks hE.1 hT hE.2.2.2.1 hd t hs (set := w_lm T F N s sd 8) (by omega)
    have k1 : kM Z Z1 := fun g m i hg => w3 g m i (by unfold wsc at hg; omega)
    rw [B204_9, if_neg (by decide), w1, Option.bind_some, B204_94]
    exact ⟨Z1, rfl, hE.congr k1, w2, k1⟩
  | succ j ih =>
    intro k Z o4 hk hE hsd
    have hm := w_lm_lt T F N s sd k
    have hp : 2 ^ k ≤ 2 ^ 7 := Nat.pow_le_pow_right (by decide) (by omega)
    obtain ⟨Z1, w1, w2, w3⟩ := m_walks hE.1 hT hE.2.2.2.1 hd t hs (set := w_lm T F N s sd k) (by omega)
    have k1 : kM Z Z1 := fun g m i hg => w3 g m i (by unfold wsc at hg; omega)
    have hE1 := hE.congr k1
    have hsd1 : Z1 56 0 56 = sd := (k1 _ _ _ (by unfold wsc; omega)).trans hsd
    have hst := w_st_le T N s (w_lm T F N s sd k) 8
    have hat : w_at T N s (w_lm T F N s sd k) k < T 0 0 := w_at_lt hT hs k
    have r13 := hE1.2.2.1 13 (by decide)
    rw [Nat.zero_add] at r13
    rw [B204_9, cn_nt (z := (k : Int)) rfl (by omega), if_pos (by omega), w1, Option.bind_some, B204_21, w2.1, cn_nt (z := (k : Int)) rfl (by omega), cn_nt (z := (w_st T N s (w_lm T F N s sd k) 8 : Int)) rfl (by omega)]
    by_cases he : w_e T (w_at T N s (w_lm T F N s sd k) k) = true
    · have hlm : w_lm T F N s sd (k + 1) = w_lm T F N s sd k := by rw [w_lm, if_pos he]
      have hni : ¬ k < w_st T N s (w_lm T F N s sd k) 8 := fun h => (w_st_gt (by omega)).1 h he
      rw [if_neg (by omega), if_pos rfl]
      have ih' := ih (k + 1) Z1 (some (.inl 0)) (by omega) hE1 hsd1
      rw [hlm] at ih'
      obtain ⟨Z2, f1, f2, f3, f4⟩ := ih'
      exact ⟨Z2, f1, f2, f3, fun g m i hg => (f4 g m i hg).trans (k1 g m i hg)⟩
    · have hlm : w_lm T F N s sd (k + 1) = if w_lt N s sd k < (w_q T F N s (w_at T N s (w_lm T F N s sd k) k) : Int) then w_lm T F N s sd k + 2 ^ k else w_lm T F N s sd k := by rw [w_lm, if_neg he]
      have hni : k < w_st T N s (w_lm T F N s sd k) 8 := (w_st_gt (by omega)).2 he
      have q1 := (hE1.2.2.2.1 _ hat).1
      rw [← w_q_eq] at q1
      rw [if_pos (by omega), r13, m_lo hd t hsd1, Option.bind_some, B204_50, cn_nt (z := (k : Int)) rfl (by omega), if_pos (by omega), Int.toNat_natCast, w2.2.2.2.2.2 k (by omega), cn_nt (z := (w_at T N s (w_lm T F N s sd k) k : Int)) rfl (by omega), if_pos (by omega), Int.toNat_natCast, q1]
      by_cases hl : w_lt N s sd k < (w_q T F N s (w_at T N s (w_lm T F N s sd k) k) : Int)
      · have hl' : cn (q_lo sd (64 * N 13 + 8 * (s : Int) + (k : Int))) < (w_q T F N s (w_at T N s (w_lm T F N s sd k) k) : Int) := hl
        rw [if_pos hl] at hlm
        have ih' := ih (k + 1) Z1 (some (.inl 1)) (by omega) hE1 hsd1
        rw [hlm] at ih'
        obtain ⟨Z2, f1, f2, f3, f4⟩ := ih'
        rw [if_pos hl', if_neg (by decide), x_shl_1 (by omega), x_or_nat (by omega) (by omega), two_or hm]
        exact ⟨Z2, f1, f2, f3, fun g m i hg => (f4 g m i hg).trans (k1 g m i hg)⟩
      · have hl' : ¬ cn (q_lo sd (64 * N 13 + 8 * (s : Int) + (k : Int))) < (w_q T F N s (w_at T N s (w_lm T F N s sd k) k) : Int) := hl
        rw [if_neg hl] at hlm
        have ih' := ih (k + 1) Z1 (some (.inl 0)) (by omega) hE1 hsd1
        rw [hlm] at ih'
        obtain ⟨Z2, f1, f2, f3, f4⟩ := ih'
        rw [if_neg hl', if_pos rfl]
        exact ⟨Z2, f1, f2, f3, fun g m i hg => (f4 g m i hg).trans (k1 g m i hg)⟩
theorem m_lot {T : PT} {F : PF} {N : PN} {Z : XZ} {v d s : Nat} (hM : MT Z v T) (hL : MLaw Z v F) (hR : MR Z 94 0 N) (hT : TOK T) (hN : NOK N) (hd : 6 ≤ d) (t : Nat) (hs : s < T 2 0) {sd : Int} (hsd : Z 56 0 56 = sd) : ∃ Z' : XZ, x_CALL d 204 [.inr (.inr (some (56, 0))), .inl ((s : Int))] (x_S Z t) = some ((w_lm T F N s sd 8 : Int), x_S Z' t) ∧ ME T F N s v Z' ∧ LW T F N s (w_lm T F N s sd 8) 8 Z' ∧ ∀ g m i, ¬ (wsc g i ∨ (95 ≤ g ∧ g ≤ 98)) → Z' g m i = Z g m i := by
  obtain ⟨Z0, e1, hE, e3⟩ := m_fst (d := d - 1) hM hL hR hT hN (by omega) t hs
  obtain ⟨Z2, f1, f2, f3, f4⟩ := m_lot_loop (d := d - 1) hT hs (by omega) t sd 8 0 Z0 none (by omega) hE ((e3 _ _ _ (by omega)).trans hsd)
  rw [C204 _ _ _ _ (by omega), e1, Option.bind_some, B204_5]
  exact ⟨Z2, f1, f2, f3, fun g m i hg => (f4 g m i (fun e => hg (.inl e))).trans (e3 g m i (by unfold wsc at hg; omega))⟩
theorem c_buyW {T : PT} {F : PF} {N : PN} {s n m d : Nat} {Z : XZ} (hT : TOK T) (hs : s < T 2 0) (hW : CW T F N s Z) (hR : RW T N s Z n m 8) (hm : m < 256) (hn : n < 256) (hd : 1 ≤ d) (t : Nat) : x_CALL d 71 [.inr (.inr (some (41, 0))), .inl ((n : Int))] (x_S Z t) = some ((if w_buy T N s m = true then 1 else 0), x_S Z t) := by
  have t0 : T 0 0 ≤ 7 := hT.1
  have hat : w_at T N s m 8 < T 0 0 := w_at_lt hT hs 8
  have h10 : T 10 0 < T 0 0 := hT.2.2.2.2.2.2.1 (by omega)
  have h11 : T 11 0 ≤ 99 := hT.2.2.2.2.2.2.2.1
  have hmi := w_mi_le (N := N) (s := s) (set := m) hT 8
  rw [C71 _ _ _ _ (by omega), cn_nt (z := (n : Int)) rfl (by omega), if_pos (by omega), Int.toNat_natCast, hR.1, hW.1, cn_nt (z := (w_at T N s m 8 : Int)) rfl (by omega), cn_nt (z := (T 10 0 : Int)) rfl (by omega)]
  unfold w_buy
  by_cases h : w_at T N s m 8 = T 10 0
  · have hc : w_come T N s m = true := by unfold w_come; simp [h]
    have hf := w_come_fin hT hs hc
    have hq : q_mi T (T 8 s) = (q_ds T 99 (T 8 s) : Int) := by unfold q_mi; rw [if_neg (by omega)]
    rw [if_pos (by omega), if_pos (by omega), hR.2.2.2.1, cn_nt (z := (m : Int)) rfl (by omega), hc]
    by_cases h2 : m = 0
    · rw [if_pos (by omega), if_neg (by simp [h2])]
    · rw [if_neg (by omega), if_pos (by omega), hR.2.1, hW.2.1, hq, cn_nt (z := (w_mi T N s m 8 : Int)) rfl (by omega), cn_nt (z := (q_ds T 99 (T 8 s) : Int) + (T 11 0 : Int)) (n := q_ds T 99 (T 8 s) + T 11 0) (by omega) (by omega)]
      by_cases h3 : q_ds T 99 (T 8 s) + T 11 0 ≤ w_mi T N s m 8
      · rw [if_neg (by omega), if_pos (by simp [h2, h3])]
      · rw [if_pos (by omega), if_neg (by simp [h3])]
  · have hc : w_come T N s m = false := by unfold w_come; simp [h]
    rw [if_neg (by omega), hc]; rfl
