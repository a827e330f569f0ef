/-! the class sets out -/
theorem c_learn {T : PT} {Z : XZ} {t d c p b : Nat} (hC : CT Z t T) (hT : TOK T) (hc : c < T 0 0) (hp : p < 1000) (hb : b < 2) (hdg : q_dg T c ≠ 0) (hd : 2 ≤ d) : ∃ Z' : XZ, x_CALL d 75 [.inr (.inr (some (41, 0))), .inr (.inr (some (7, t))), .inl ((c : Int)), .inl ((p : Int)), .inl ((b : Int))] (x_S Z t) = some (0, x_S Z' t) ∧ (Z' 53 0 (2 * c + b) = (q_at T c p : Int) ∧ Z' 54 0 (2 * c + b) = (q_oe T (q_at T c p) c : Int) ∧ Z' 55 0 (2 * c + b) = (T 6 (q_at T c p) : Int)) ∧ ∀ g m i, ¬ (53 ≤ g ∧ g ≤ 55 ∧ i = 2 * c + b) → Z' g m i = Z g m i := by
  have t0 : T 0 0 ≤ 7 := hT.1
  have t1 : T 1 0 ≤ 10 := hT.2.1
  have hat := q_at_lt (p := p) hdg
  rw [C75 _ _ _ _ _ _ _ (by omega), c_laneAt hC hT (by omega) t hc hp, Option.bind_some, if_neg hdg, B75_6, cn_nt (z := (q_at T c p : Int)) rfl (by omega), if_neg (by omega), cn_nt (z := 2 * (c : Int) + (b : Int)) (n := 2 * c + b) (by omega) (by omega), if_pos (by omega), Int.toNat_natCast]
  have hC1 : CT (x_u Z 53 0 (2 * c + b) (q_at T c p : Int)) t T := hC.congr (fun g i a b c d => x_u_ne (by omega))
  rw [c_farEnd hC1 hT (by omega) t hat (by omega), Option.bind_some, B75_44, cn_nt (z := 2 * (c : Int) + (b : Int)) (n := 2 * c + b) (by omega) (by omega), if_pos (by omega), cn_nt (z := (q_at T c p : Int)) rfl (by omega), if_pos (by omega), if_pos (by omega), Int.toNat_natCast, Int.toNat_natCast, (hC1.2.2.1 _ hat).2.2]
  refine ⟨_, rfl, ⟨?_, ?_, ?_⟩, ?_⟩
  · rw [x_u_ne (by omega), x_u_ne (by omega), x_u_eq]
  · rw [x_u_ne (by omega), x_u_eq]
  · rw [x_u_eq]
  · intro g m i hg
    rw [x_u_ne (by omega), x_u_ne (by omega), x_u_ne (by omega)]
def PW (T : PT) (F : PF) (N : PN) (s k : Nat) (Z : XZ) : Prop := Z 41 0 15 = (T 10 0 : Int) ∧ Z 41 0 16 = q_mi T (T 8 s) + (T 11 0 : Int) ∧ ∀ c, c < k → Z 52 0 c = (if w_e T c = true then 1 else 0) ∧ (¬ w_e T c = true → cn (Z 51 0 c) = q_st T F N s c ∧ ∀ b, b < 2 → Z 53 0 (2 * c + b) = (w_l T N c b : Int) ∧ Z 54 0 (2 * c + b) = (q_oe T (w_l T N c b) c : Int) ∧ Z 55 0 (2 * c + b) = (T 6 (w_l T N c b) : Int))
theorem c_set_loop {T : PT} {F : PF} {N : PN} {t d m s : Nat} (hT : TOK T) (hN : NOK N) (hd : 4 ≤ d) (hs : s < T 2 0) : ∀ (n k : Nat) (Z : XZ), k + n = T 0 0 → CT Z t T → CLaw Z t F → CS Z m N → PW T F N s k Z → ∃ Z' : XZ, x_EX d 74 35 [some (.inr (.inr (some (41, 0)))), some (.inr (.inr (some (7, t)))), some (.inr (.inr (some (28, m)))), some (.inl ((s : Int))), some (.inl ((T 8 s : Int))), some (.inl ((k : Int)))] [] (x_S Z t) = some (0, x_S Z' t) ∧ CW T F N s Z' ∧ RW T N s Z' 0 0 0 ∧ Z' 46 0 0 = 65536 ∧ Z' 41 0 0 = 1 ∧ ∀ g m i, ¬ (g = 19 ∨ g = 20 ∨ (41 ≤ g ∧ g ≤ 55)) → Z' g m i = Z g m i := by
  have t0 : T 0 0 ≤ 7 := hT.1
  have t2 : T 2 0 ≤ 5 := hT.2.2.1
  have h8 := (hT.2.2.2.2.2.1 s hs).2
  intro n
  induction n with
  | zero =>
    intro k Z hk hC hL hS hP
    obtain rfl : k = T 0 0 := by omega
    rw [B74_35, hC.1 0 (by omega), if_neg (Int.lt_irrefl _), x_shl_1 (by omega)]
    obtain ⟨p1, p2, p3⟩ := hP
    refine ⟨_, rfl, CW.congr (Z := Z) ⟨p1, p2, p3⟩ (fun g m i hg => ?_), ⟨?_, ?_, ?_, ?_, ?_, ?_, ?_, ?_⟩, ?_, ?_, ?_⟩
    · rw [x_u_ne (by omega), x_u_ne (by omega), x_u_ne (by omega), x_u_ne (by omega), x_u_ne (by omega), x_u_ne (by omega), x_u_ne (by omega), x_u_ne (by omega), x_u_ne (by omega), x_u_ne (by omega)]
    · simp [x_u, w_at]
    · simp [x_u, w_mi]
    · simp [x_u, w_st]
    · simp [x_u]
    · simp [x_u, w_co]
    · simp [x_u, w_la]
    · simp [x_u, w_ag]
    · simp [x_u, w_pa]
    · simp [x_u]
    · simp [x_u]
    · intro g m i hg
      rw [x_u_ne (by omega), x_u_ne (by omega), x_u_ne (by omega), x_u_ne (by omega), x_u_ne (by omega), x_u_ne (by omega), x_u_ne (by omega), x_u_ne (by omega), x_u_ne (by omega), x_u_ne (by omega)]
  | succ n ih =>
    intro k Z hk hC hL hS hP
    have hkc : k < T 0 0 := by omega
    obtain ⟨p1, p2, p3⟩ := id hP
    have h10 : T 10 0 < T 0 0 := hT.2.2.2.2.2.2.1 (by omega)
    have hdg := q_dg_le hT k
    have bk : 0 ≤ (k : Int) ∧ (k : Int) < 7 := by omega
    have nk := hN.2.1 k (by omega)
    have hsg : q_sg N k ≤ 9 := by unfold q_sg; omega
    rw [B74_35, hC.1 0 (by omega), cn_nt (z := (k : Int)) rfl (by omega), cn_nt (z := (T 0 0 : Int)) rfl (by omega), if_pos (by omega), p1, cn_nt (z := (T 10 0 : Int)) rfl (by omega), Int.toNat_natCast, (hC.2.1 k hkc).2.1, cn_nt (z := (q_dg T k : Int)) rfl (by omega)]
    by_cases he : w_e T k = true
    · have hP1 : PW T F N s (k + 1) (x_u Z 52 0 k 1) := by
        refine ⟨by rw [x_u_ne (by omega)]; exact p1, by rw [x_u_ne (by omega)]; exact p2, fun c hc => ?_⟩
        by_cases hck : c = k
        · subst hck; rw [x_u_eq, if_pos he]; exact ⟨rfl, fun h => absurd he h⟩
        · rw [x_u_ne (by omega), x_u_ne (by omega)]
          refine ⟨(p3 c (by omega)).1, fun h => ⟨((p3 c (by omega)).2 h).1, fun b hb => ?_⟩⟩
          rw [x_u_ne (by omega), x_u_ne (by omega), x_u_ne (by omega)]
          exact ((p3 c (by omega)).2 h).2 b hb
      obtain ⟨Z', f1, f2, f3, f4, f5, f6⟩ := ih (k + 1) (x_u Z 52 0 k 1) (by omega) (hC.congr (fun g i a b c d => x_u_ne (by omega))) (hL.congr (fun g i a b => x_u_ne (by omega))) (hS.congr (fun i => x_u_ne (by omega)) (fun i => x_u_ne (by omega)) (fun i => x_u_ne (by omega))) hP1
      have go : x_EX d 74 69 [some (.inr (.inr (some (41, 0)))), some (.inr (.inr (some (7, t)))), some (.inr (.inr (some (28, m)))), some (.inl ((s : Int))), some (.inl ((T 8 s : Int))), some (.inl ((k : Int)))] [.inl (k : Int), .inr (.inr (some (52, 0)))] (x_S Z t) = x_EX d 74 35 [some (.inr (.inr (some (41, 0)))), some (.inr (.inr (some (7, t)))), some (.inr (.inr (some (28, m)))), some (.inl ((s : Int))), some (.inl ((T 8 s : Int))), some (.inl (((k + 1 : Nat) : Int)))] [] (x_S (x_u Z 52 0 k 1) t) := by
        rw [B74_69, cn_nt (z := (k : Int)) rfl (by omega), if_pos bk, if_pos bk, Int.toNat_natCast, x_u_eq, if_neg cn_1n, B74_132]; rfl
      refine ⟨Z', ?_, f2, f3, f4, f5, fun g m i hg => by rw [f6 g m i hg, x_u_ne (by omega)]⟩
      by_cases hk10 : k = T 10 0
      · rw [if_pos (by omega), go]; exact f1
      · have hd0 : q_dg T k = 0 := by unfold w_e at he; simp [hk10] at he; exact he
        rw [if_neg (by omega), if_pos bk, if_pos (by omega), go]; exact f1
    · obtain ⟨hdg0, hk10⟩ := w_e_dg he
      have hC1 : CT (x_u Z 52 0 k 0) t T := hC.congr (fun g i a b c d => x_u_ne (by omega))
      have hL1 : CLaw (x_u Z 52 0 k 0) t F := hL.congr (fun g i a b => x_u_ne (by omega))
      have hS1 : CS (x_u Z 52 0 k 0) m N := hS.congr (fun i => x_u_ne (by omega)) (fun i => x_u_ne (by omega)) (fun i => x_u_ne (by omega))
      obtain ⟨r, Z1, e1, e2, e3⟩ := c_quart (d := d) hC1 hT hL1 hS1 hN hd hs hkc
      have k1 : ∀ g m i, ¬ (g = 19 ∨ g = 20 ∨ (41 ≤ g ∧ g ≤ 55)) → x_u Z1 51 0 k r g m i = Z g m i := fun g m i hg => by rw [x_u_ne (by omega), e3 g m i (by omega), x_u_ne (by omega)]
      have hC2 : CT (x_u Z1 51 0 k r) t T := hC.congr (fun g i a b c d => k1 _ _ _ (by omega))
      obtain ⟨Z2, l1, l2, l3⟩ := c_learn (d := d) (p := q_sg N k) (b := 0) hC2 hT hkc (by omega) (by decide) hdg0 (by omega)
      have hC3 : CT Z2 t T := hC2.congr (fun g i a b c d => l3 _ _ _ (by omega))
      obtain ⟨Z3, m1, m2, m3⟩ := c_learn (d := d) (p := q_sg N k + 1) (b := 1) hC3 hT hkc (by omega) (by decide) hdg0 (by omega)
      have k3 : ∀ g m i, ¬ (g = 19 ∨ g = 20 ∨ (41 ≤ g ∧ g ≤ 55)) → Z3 g m i = Z g m i := fun g m i hg => by rw [m3 g m i (by omega), l3 g m i (by omega)]; exact k1 g m i hg
      have hC4 : CT Z3 t T := hC.congr (fun g i a b c d => k3 _ _ _ (by omega))
      have hL4 : CLaw Z3 t F := hL.congr (fun g i a b => k3 _ _ _ (by omega))
      have hS4 : CS Z3 m N := hS.congr (fun i => k3 _ _ _ (by omega)) (fun i => k3 _ _ _ (by omega)) (fun i => k3 _ _ _ (by omega))
      have s1 : Z1 29 m k = (q_sg N k : Int) := by rw [e3 _ _ _ (by omega), x_u_ne (by omega)]; exact hS.1 k (by omega)
      have s2 : Z2 29 m k = (q_sg N k : Int) := by rw [l3 _ _ _ (by omega), k1 _ _ _ (by omega)]; exact hS.1 k (by omega)
      have old : ∀ g i, 41 ≤ g → g ≤ 55 → (g = 51 → i ≠ k) → (g = 52 → i ≠ k) → (53 ≤ g → i ≠ 2 * k + 0 ∧ i ≠ 2 * k + 1) → Z3 g 0 i = Z g 0 i := fun g i a b c d e => by rw [m3 g 0 i (by omega), l3 g 0 i (by omega), x_u_ne (by omega), e3 g 0 i (by omega), x_u_ne (by omega)]
      have hP1 : PW T F N s (k + 1) Z3 := by
        refine ⟨by rw [old _ _ (by omega) (by omega) (by omega) (by omega) (by omega)]; exact p1, by rw [old _ _ (by omega) (by omega) (by omega) (by omega) (by omega)]; exact p2, fun c hc => ?_⟩
        by_cases hck : c = k
        · subst hck
          refine ⟨?_, fun _ => ⟨?_, fun b hb => ?_⟩⟩
          · rw [if_neg he, m3 _ _ _ (by omega), l3 _ _ _ (by omega), x_u_ne (by omega), e3 _ _ _ (by omega), x_u_eq]
          · rw [m3 _ _ _ (by omega), l3 _ _ _ (by omega), x_u_eq]; exact e2
          · rcases (show b = 0 ∨ b = 1 by omega) with rfl | rfl
            · rw [m3 _ _ _ (by omega), m3 _ _ _ (by omega), m3 _ _ _ (by omega)]; exact l2
            · exact m2
        · have o1 := p3 c (by omega)
          rw [old 52 c (by omega) (by omega) (by omega) (by omega) (by omega), old 51 c (by omega) (by omega) (by omega) (by omega) (by omega)]
          refine ⟨o1.1, fun h => ⟨(o1.2 h).1, fun b hb => ?_⟩⟩
          rw [old 53 _ (by omega) (by omega) (by omega) (by omega) (by omega), old 54 _ (by omega) (by omega) (by omega) (by omega) (by omega), old 55 _ (by omega) (by omega) (by omega) (by omega) (by omega)]
          exact (o1.2 h).2 b hb
      obtain ⟨Z', f1, f2, f3, f4, f5, f6⟩ := ih (k + 1) Z3 (by omega) hC4 hL4 hS4 hP1
      refine ⟨Z', ?_, f2, f3, f4, f5, fun g m i hg => by rw [f6 g m i hg]; exact k3 g m i hg⟩
      rw [if_neg (by omega), if_pos bk, if_neg (by omega), if_pos bk, if_pos bk, x_u_eq, if_pos cn_0, e1, Option.bind_some, B74_99, cn_nt (z := (k : Int)) rfl (by omega), if_pos bk, if_pos bk, Int.toNat_natCast, s1]
      rw [show (0 : Int) = ((0 : Nat) : Int) from rfl, l1, Option.bind_some, B74_115, cn_nt (z := (k : Int)) rfl (by omega), if_pos bk, Int.toNat_natCast, s2]
      rw [show (q_sg N k : Int) + 1 = ((q_sg N k + 1 : Nat) : Int) from rfl, show (1 : Int) = ((1 : Nat) : Int) from rfl, m1, Option.bind_some, B74_132]
      exact f1
theorem c_setOut {T : PT} {F : PF} {N : PN} {Z : XZ} {t d m s : Nat} (hC : CT Z t T) (hT : TOK T) (hL : CLaw Z t F) (hS : CS Z m N) (hN : NOK N) (hd : 5 ≤ d) (hs : s < T 2 0) : ∃ Z' : XZ, x_CALL d 74 [.inr (.inr (some (41, 0))), .inr (.inr (some (7, t))), .inr (.inr (some (28, m))), .inl ((s : Int))] (x_S Z t) = some (0, x_S Z' t) ∧ CW T F N s Z' ∧ RW T N s Z' 0 0 0 ∧ Z' 46 0 0 = 65536 ∧ Z' 41 0 0 = 1 ∧ ∀ g m i, ¬ (g = 19 ∨ g = 20 ∨ (41 ≤ g ∧ g ≤ 55)) → Z' g m i = Z g m i := by
  have t0 : T 0 0 ≤ 7 := hT.1
  have t2 : T 2 0 ≤ 5 := hT.2.2.1
  have h8 := (hT.2.2.2.2.2.1 s hs).2
  rw [C74 _ _ _ _ _ _ (by omega), cn_nt (z := (s : Int)) rfl (by omega), if_pos (by omega), Int.toNat_natCast, (hC.2.2.2.1 s hs).2, cn_nt (z := (T 8 s : Int)) rfl (by omega), if_pos (by omega), Int.toNat_natCast, hC.1 10 (by omega), hC.1 11 (by omega), (hC.2.1 _ h8).2.2.2.1]
  obtain ⟨Z', f1, f2, f3, f4, f5, f6⟩ := c_set_loop (d := d - 1) (t := t) (m := m) hT hN (by omega) hs (T 0 0) 0 (x_u (x_u Z 41 0 15 (T 10 0 : Int)) 41 0 16 (q_mi T (T 8 s) + (T 11 0 : Int))) (by omega) (hC.congr (fun g i a b c d => by rw [x_u_ne (by omega), x_u_ne (by omega)])) (hL.congr (fun g i a b => by rw [x_u_ne (by omega), x_u_ne (by omega)])) (hS.congr (fun i => by rw [x_u_ne (by omega), x_u_ne (by omega)]) (fun i => by rw [x_u_ne (by omega), x_u_ne (by omega)]) (fun i => by rw [x_u_ne (by omega), x_u_ne (by omega)])) ⟨by rw [x_u_ne (by omega), x_u_eq], x_u_eq, fun c hc => by omega⟩
  exact ⟨Z', f1, f2, f3, f4, f5, fun g m i hg => by rw [f6 g m i hg, x_u_ne (by omega), x_u_ne (by omega)]⟩
