/-! turned -/
def q_tst (e : Int) (p : Int × Int) (w x : Int) : Int × Int := if e = 0 then (if x < p.2 then (w, x) else p) else (if p.2 < x then (w, x) else p)
def q_tin (T : PT) (F : PF) (N : PN) (s : Nat) (e : Int) (c n : Nat) (p : Int × Int) : Int × Int := match n with
  | 0 => p
  | n + 1 => q_tst e (q_tin T F N s e c n p) (10 * (c : Int) + (n : Int)) (cn (q_may T F (q_nu N (5 + c) (n : Int)) s : Int))
def q_tur (T : PT) (F : PF) (N : PN) (s : Nat) (e : Int) (c : Nat) : Int × Int := match c with
  | 0 => (-2, cn (q_may T F N s : Int))
  | c + 1 => q_tin T F N s e c (q_dg T c) (q_tur T F N s e c)
theorem q_tst_1 (e : Int) (p : Int × Int) (w x : Int) : (q_tst e p w x).1 = p.1 ∨ (q_tst e p w x).1 = w := by
  unfold q_tst; split <;> split <;> simp
theorem q_tin_b {T : PT} {F : PF} {N : PN} {s : Nat} {e : Int} {c : Nat} {p : Int × Int} (hc : c < 10) (hp : p.1 = -2 ∨ (0 ≤ p.1 ∧ p.1 < 1000)) (n : Nat) (hn : n ≤ 10) : (q_tin T F N s e c n p).1 = -2 ∨ (0 ≤ (q_tin T F N s e c n p).1 ∧ (q_tin T F N s e c n p).1 < 1000) := by
  induction n with
  | zero => exact hp
  | succ n ih =>
    rw [q_tin]
    rcases q_tst_1 e (q_tin T F N s e c n p) (10 * (c : Int) + (n : Int)) (cn (q_may T F (q_nu N (5 + c) (n : Int)) s : Int)) with h | h
    · rw [h]; exact ih (by omega)
    · rw [h]; omega
theorem q_tur_b {T : PT} {F : PF} {N : PN} {s : Nat} {e : Int} (hT : TOK T) (c : Nat) (hc : c ≤ 7) : (q_tur T F N s e c).1 = -2 ∨ (0 ≤ (q_tur T F N s e c).1 ∧ (q_tur T F N s e c).1 < 1000) := by
  induction c with
  | zero => exact .inl rfl
  | succ c ih => rw [q_tur]; exact q_tin_b (by omega) (ih (by omega)) _ (q_dg_le hT c)
theorem CS.res29 {Z : XZ} {m c : Nat} {N : PN} {x : Int} (h : CS Z m (q_nu N (5 + c) x)) (hc : c < 7) : CS (x_u Z 29 m c (q_sg N c : Int)) m N := by
  obtain ⟨h1, h2, h3, h4, h5, h6⟩ := h
  refine ⟨?_, ?_, ?_, ?_, ?_, ?_⟩
  · intro j hj
    by_cases hjk : j = c
    · rw [hjk, x_u_eq]
    · rw [x_u_ne (by omega), h1 j hj]; unfold q_sg; rw [q_nu_ne (by omega)]
  · intro j hj; rw [x_u_ne (by omega), h2 j hj, q_nu_ne (by omega)]
  · rw [x_u_ne (by omega), h3, q_nu_ne (by omega)]
  · rw [x_u_ne (by omega), h4, q_nu_ne (by omega)]
  · rw [x_u_ne (by omega), h5, q_nu_ne (by omega)]
  · rw [x_u_ne (by omega), h6, q_nu_ne (by omega)]
theorem c_tin_loop {T : PT} {F : PF} {N : PN} {t s c : Nat} (hT : TOK T) (hN : NOK N) (hs : s < T 2 0) (hc : c < T 0 0) {e : Int} (he : e = 0 ∨ e = 1) (a3 : Int) (p : Int × Int) : ∀ (j k : Nat) (x most : Int) (Z : XZ) (o8 : Option XV), k + j = q_dg T c → CT Z t T → CLaw Z t F → CS Z 0 N → CS Z 1 (q_nu N (5 + c) x) → cn most = (q_tin T F N s e c k p).2 → ∃ (Z' : XZ) (most' : Int) (p7 p8 : Option XV), x_EX 59 115 66 [some (.inr (.inr (some (0, 0)))), some (.inl ((s : Int))), some (.inl e), some (.inl a3), some (.inl ((q_tin T F N s e c k p).1)), some (.inl most), some (.inl ((c : Int))), some (.inl ((k : Int))), o8] [] (x_S Z t) = x_EX 59 115 51 [some (.inr (.inr (some (0, 0)))), some (.inl ((s : Int))), some (.inl e), some (.inl a3), some (.inl ((q_tin T F N s e c (q_dg T c) p).1)), some (.inl most'), some (.inl (((c + 1 : Nat) : Int))), p7, p8] [] (x_S Z' t) ∧ cn most' = (q_tin T F N s e c (q_dg T c) p).2 ∧ CS Z' 1 N ∧ ∀ g m i, ¬ (g = 19 ∨ g = 20 ∨ (41 ≤ g ∧ g ≤ 55)) → ¬ (28 ≤ g ∧ g ≤ 30 ∧ m = 1) → Z' g m i = Z g m i := by
  have t0 : T 0 0 ≤ 7 := hT.1
  have hdg := q_dg_le hT c
  have bc : 0 ≤ (c : Int) ∧ (c : Int) < 7 := by omega
  intro j
  induction j with
  | zero =>
    intro k x most Z o8 hk hC hL hS0 hS hm
    obtain rfl : k = q_dg T c := by omega
    rw [B115_66, cn_nt (z := (c : Int)) rfl (by omega), if_pos bc, Int.toNat_natCast, (hC.2.1 c hc).2.1, if_neg (Int.lt_irrefl _), if_pos bc, if_pos bc, hS0.1 c (by omega)]
    exact ⟨_, _, _, _, rfl, hm, hS.res29 (by omega), fun g m i a b => x_u_ne (by omega)⟩
  | succ j ih =>
    intro k x most Z o8 hk hC hL hS0 hS hm
    have hS1 : CS (x_u Z 29 1 c (k : Int)) 1 (q_nu N (5 + c) (k : Int)) := by have := hS.up29 (c := c) (a := k) (by omega); rwa [q_nu_nu] at this
    have hN1 : NOK (q_nu N (5 + c) (k : Int)) := hN.up (by omega) (by omega) (by omega) (by omega)
    obtain ⟨r, Z1, e1, e2, e3⟩ := c_may (d := 59) (m := 1) (hC.congr (fun g i a b c d => x_u_ne (by omega))) hT (hL.congr (fun g i a b => x_u_ne (by omega))) hS1 hN1 (by decide) hs
    have kz : ∀ g m i, ¬ (g = 19 ∨ g = 20 ∨ (41 ≤ g ∧ g ≤ 55)) → ¬ (28 ≤ g ∧ g ≤ 30 ∧ m = 1) → Z1 g m i = Z g m i := fun g m i a b => by rw [e3 g m i a, x_u_ne (by omega)]
    have hC1 : CT Z1 t T := hC.congr (fun g i a b c d => kz _ _ _ (by omega) (by omega))
    have hL1 : CLaw Z1 t F := hL.congr (fun g i a b => kz _ _ _ (by omega) (by omega))
    have hS01 : CS Z1 0 N := hS0.congr (fun i => kz _ _ _ (by omega) (by omega)) (fun i => kz _ _ _ (by omega) (by omega)) (fun i => kz _ _ _ (by omega) (by omega))
    have hS2 : CS Z1 1 (q_nu N (5 + c) (k : Int)) := hS1.congr (fun i => e3 _ _ _ (by omega)) (fun i => e3 _ _ _ (by omega)) (fun i => e3 _ _ _ (by omega))
    rw [B115_66, cn_nt (z := (c : Int)) rfl (by omega), if_pos bc, Int.toNat_natCast, (hC.2.1 c hc).2.1, cn_nt (z := (k : Int)) rfl (by omega), cn_nt (z := (q_dg T c : Int)) rfl (by omega), if_pos (by omega), if_pos bc, e1, Option.bind_some, B115_102, hm, e2]
    have take : q_tin T F N s e c (k + 1) p = (10 * (c : Int) + (k : Int), cn (q_may T F (q_nu N (5 + c) (k : Int)) s : Int)) → ∃ (Z' : XZ) (most' : Int) (p7 p8 : Option XV), x_EX 59 115 66 [some (.inr (.inr (some (0, 0)))), some (.inl ((s : Int))), some (.inl e), some (.inl a3), some (.inl (10 * (c : Int) + (k : Int))), some (.inl r), some (.inl ((c : Int))), some (.inl ((k : Int) + 1)), some (.inl r)] [] (x_S Z1 t) = x_EX 59 115 51 [some (.inr (.inr (some (0, 0)))), some (.inl ((s : Int))), some (.inl e), some (.inl a3), some (.inl ((q_tin T F N s e c (q_dg T c) p).1)), some (.inl most'), some (.inl (((c + 1 : Nat) : Int))), p7, p8] [] (x_S Z' t) ∧ cn most' = (q_tin T F N s e c (q_dg T c) p).2 ∧ CS Z' 1 N ∧ ∀ g m i, ¬ (g = 19 ∨ g = 20 ∨ (41 ≤ g ∧ g ≤ 55)) → ¬ (28 ≤ g ∧ g ≤ 30 ∧ m = 1) → Z' g m i = Z g m i := by
      intro hc'
      have ih' := ih (k + 1) (k : Int) r Z1 (some (.inl r)) (by omega) hC1 hL1 hS01 hS2 (by rw [hc']; exact e2)
      rw [hc'] at ih'
      obtain ⟨Z', most', p7, p8, f1, f2, f3, f4⟩ := ih'
      exact ⟨Z', most', p7, p8, f1, f2, f3, fun g m i a b => (f4 g m i a b).trans (kz g m i a b)⟩
    have stay : q_tin T F N s e c (k + 1) p = q_tin T F N s e c k p → ∃ (Z' : XZ) (most' : Int) (p7 p8 : Option XV), x_EX 59 115 66 [some (.inr (.inr (some (0, 0)))), some (.inl ((s : Int))), some (.inl e), some (.inl a3), some (.inl ((q_tin T F N s e c k p).1)), some (.inl most), some (.inl ((c : Int))), some (.inl ((k : Int) + 1)), some (.inl r)] [] (x_S Z1 t) = x_EX 59 115 51 [some (.inr (.inr (some (0, 0)))), some (.inl ((s : Int))), some (.inl e), some (.inl a3), some (.inl ((q_tin T F N s e c (q_dg T c) p).1)), some (.inl most'), some (.inl (((c + 1 : Nat) : Int))), p7, p8] [] (x_S Z' t) ∧ cn most' = (q_tin T F N s e c (q_dg T c) p).2 ∧ CS Z' 1 N ∧ ∀ g m i, ¬ (g = 19 ∨ g = 20 ∨ (41 ≤ g ∧ g ≤ 55)) → ¬ (28 ≤ g ∧ g ≤ 30 ∧ m = 1) → Z' g m i = Z g m i := by
      intro hc'
      have ih' := ih (k + 1) (k : Int) most Z1 (some (.inl r)) (by omega) hC1 hL1 hS01 hS2 (by rw [hc']; exact hm)
      rw [hc'] at ih'
      obtain ⟨Z', most', p7, p8, f1, f2, f3, f4⟩ := ih'
      exact ⟨Z', most', p7, p8, f1, f2, f3, fun g m i a b => (f4 g m i a b).trans (kz g m i a b)⟩
    rw [q_tin] at take stay
    unfold q_tst at take stay
    rcases he with rfl | rfl
    · rw [if_pos rfl] at take stay
      rw [if_pos cn_0]
      by_cases hlt : cn (q_may T F (q_nu N (5 + c) (k : Int)) s : Int) < (q_tin T F N s 0 c k p).2
      · rw [if_pos hlt] at take ⊢; exact take rfl
      · rw [if_neg hlt] at stay ⊢; exact stay rfl
    · rw [if_neg (by decide)] at take stay
      rw [if_neg cn_1n]
      by_cases hlt : (q_tin T F N s 1 c k p).2 < cn (q_may T F (q_nu N (5 + c) (k : Int)) s : Int)
      · rw [if_pos hlt] at take ⊢; exact take rfl
      · rw [if_neg hlt] at stay ⊢; exact stay rfl
theorem m_tin_loop {T : PT} {F : PF} {N : PN} {v s c : Nat} (hT : TOK T) (hN : NOK N) (hs : s < T 2 0) (hc : c < T 0 0) {e : Int} (he : e = 0 ∨ e = 1) (t : Nat) (a3 : Int) (p : Int × Int) : ∀ (j k : Nat) (x most : Int) (Z : XZ) (o9 : Option XV), k + j = q_dg T c → MT Z v T → MLaw Z v F → MR Z 94 0 (q_nu N (5 + c) x) → cn most = (q_tin T F N s e c k p).2 → ∃ (Z' : XZ) (most' : Int) (p7 p8 p9 : Option XV), x_EX 59 231 65 [some (.inr (.inr (some (56, 0)))), some (.inl ((s : Int))), some (.inl e), some (.inl a3), some (.inl ((q_tin T F N s e c k p).1)), some (.inl most), some (.inl ((c : Int))), some (.inl (N (5 + c))), some (.inl ((k : Int))), o9] [] (x_S Z t) = x_EX 59 231 37 [some (.inr (.inr (some (56, 0)))), some (.inl ((s : Int))), some (.inl e), some (.inl a3), some (.inl ((q_tin T F N s e c (q_dg T c) p).1)), some (.inl most'), some (.inl (((c + 1 : Nat) : Int))), p7, p8, p9] [] (x_S Z' t) ∧ cn most' = (q_tin T F N s e c (q_dg T c) p).2 ∧ MR Z' 94 0 N ∧ ∀ g m i, ¬ (wsc g i ∨ (94 ≤ g ∧ g ≤ 98)) → Z' g m i = Z g m i := by
  have t0 : T 0 0 ≤ 7 := hT.1
  have hdg := q_dg_le hT c
  intro j
  induction j with
  | zero =>
    intro k x most Z o9 hk hM hL hR hm
    obtain rfl : k = q_dg T c := by omega
    rw [B231_65, m_lan hM hT (by decide) t (by omega), Option.bind_some, B231_73, if_neg (Int.lt_irrefl _), cn_nt (z := 5 + (c : Int)) (n := 5 + c) (by omega) (by omega), if_pos (by omega), Int.toNat_natCast]
    refine ⟨_, _, _, _, _, rfl, hm, ?_, fun g m i a => x_u_ne (by omega)⟩
    have := hR.up (k := 5 + c) (a := N (5 + c))
    rw [q_nu_nu, q_nu_self, Nat.zero_add] at this
    exact this
  | succ j ih =>
    intro k x most Z o9 hk hM hL hR hm
    have hR1 : MR (x_u Z 94 0 (5 + c) (k : Int)) 94 0 (q_nu N (5 + c) (k : Int)) := by have := hR.up (k := 5 + c) (a := (k : Int)); rwa [q_nu_nu, Nat.zero_add] at this
    have hN1 : NOK (q_nu N (5 + c) (k : Int)) := hN.up (by omega) (by omega) (by omega) (by omega)
    obtain ⟨r, Z1, e1, e2, e3⟩ := m_may (d := 59) (hM.congr (fun g i a b => x_u_ne (by omega)) (x_u_ne (by omega))) (hL.congr (fun g a b => funext fun m => funext fun i => x_u_ne (by omega))) hR1 hT hN1 (by decide) t hs
    have kz : ∀ g m i, ¬ (wsc g i ∨ (94 ≤ g ∧ g ≤ 98)) → Z1 g m i = Z g m i := fun g m i a => by rw [e3 g m i (by unfold wsc at a ⊢; omega), x_u_ne (by omega)]
    have hM1 : MT Z1 v T := hM.congr (fun g i a b => kz _ _ _ (by unfold wsc; omega)) (kz _ _ _ (by unfold wsc; omega))
    have hL1 : MLaw Z1 v F := hL.congr (fun g a b => funext fun m => funext fun i => kz _ _ _ (by unfold wsc; omega))
    have hR2 : MR Z1 94 0 (q_nu N (5 + c) (k : Int)) := hR1.congr (fun i => e3 _ _ _ (by unfold wsc; omega))
    rw [B231_65, m_lan hM hT (by decide) t (by omega), Option.bind_some, B231_73, cn_nt (z := (k : Int)) rfl (by omega), cn_nt (z := (q_dg T c : Int)) rfl (by omega), if_pos (by omega), cn_nt (z := 5 + (c : Int)) (n := 5 + c) (by omega) (by omega), if_pos (by omega), Int.toNat_natCast, e1, Option.bind_some, B231_92, hm, e2]
    have take : q_tin T F N s e c (k + 1) p = (10 * (c : Int) + (k : Int), cn (q_may T F (q_nu N (5 + c) (k : Int)) s : Int)) → ∃ (Z' : XZ) (most' : Int) (p7 p8 p9 : Option XV), x_EX 59 231 65 [some (.inr (.inr (some (56, 0)))), some (.inl ((s : Int))), some (.inl e), some (.inl a3), some (.inl (10 * (c : Int) + (k : Int))), some (.inl r), some (.inl ((c : Int))), some (.inl (N (5 + c))), some (.inl ((k : Int) + 1)), some (.inl r)] [] (x_S Z1 t) = x_EX 59 231 37 [some (.inr (.inr (some (56, 0)))), some (.inl ((s : Int))), some (.inl e), some (.inl a3), some (.inl ((q_tin T F N s e c (q_dg T c) p).1)), some (.inl most'), some (.inl (((c + 1 : Nat) : Int))), p7, p8, p9] [] (x_S Z' t) ∧ cn most' = (q_tin T F N s e c (q_dg T c) p).2 ∧ MR Z' 94 0 N ∧ ∀ g m i, ¬ (wsc g i ∨ (94 ≤ g ∧ g ≤ 98)) → Z' g m i = Z g m i := by
      intro hc'
      have ih' := ih (k + 1) (k : Int) r Z1 (some (.inl r)) (by omega) hM1 hL1 hR2 (by rw [hc']; exact e2)
      rw [hc'] at ih'
      obtain ⟨Z', most', p7, p8, p9, f1, f2, f3, f4⟩ := ih'
      exact ⟨Z', most', p7, p8, p9, f1, f2, f3, fun g m i a => (f4 g m i a).trans (kz g m i a)⟩
    have stay : q_tin T F N s e c (k + 1) p = q_tin T F N s e c k p → ∃ (Z' : XZ) (most' : Int) (p7 p8 p9 : Option XV), x_EX 59 231 65 [some (.inr (.inr (some (56, 0)))), some (.inl ((s : Int))), some (.inl e), some (.inl a3), some (.inl ((q_tin T F N s e c k p).1)), some (.inl most), some (.inl ((c : Int))), some (.inl (N (5 + c))), some (.inl ((k : Int) + 1)), some (.inl r)] [] (x_S Z1 t) = x_EX 59 231 37 [some (.inr (.inr (some (56, 0)))), some (.inl ((s : Int))), some (.inl e), some (.inl a3), some (.inl ((q_tin T F N s e c (q_dg T c) p).1)), some (.inl most'), some (.inl (((c + 1 : Nat) : Int))), p7, p8, p9] [] (x_S Z' t) ∧ cn most' = (q_tin T F N s e c (q_dg T c) p).2 ∧ MR Z' 94 0 N ∧ ∀ g m i, ¬ (wsc g i ∨ (94 ≤ g ∧ g ≤ 98)) → Z' g m i = Z g m i := by
      intro hc'
      have ih' := ih (k + 1) (k : Int) most Z1 (some (.inl r)) (by omega) hM1 hL1 hR2 (by rw [hc']; exact hm)
      rw [hc'] at ih'
      obtain ⟨Z', most', p7, p8, p9, f1, f2, f3, f4⟩ := ih'
      exact ⟨Z', most', p7, p8, p9, f1, f2, f3, fun g m i a => (f4 g m i a).trans (kz g m i a)⟩
    rw [q_tin] at take stay
    unfold q_tst at take stay
    rcases he with rfl | rfl
    · rw [if_pos rfl] at take stay
      rw [if_pos cn_0]
      by_cases hlt : cn (q_may T F (q_nu N (5 + c) (k : Int)) s : Int) < (q_tin T F N s 0 c k p).2
      · rw [if_pos hlt] at take ⊢; exact take rfl
      · rw [if_neg hlt] at stay ⊢; exact stay rfl
    · rw [if_neg (by decide)] at take stay
      rw [if_neg cn_1n]
      by_cases hlt : (q_tin T F N s 1 c k p).2 < cn (q_may T F (q_nu N (5 + c) (k : Int)) s : Int)
      · rw [if_pos hlt] at take ⊢; exact take rfl
      · rw [if_neg hlt] at stay ⊢; exact stay rfl
def q_tX (T : PT) (F : PF) (N : PN) (s : Nat) (e a3 : Int) : Int := if cn a3 = 0 then cn (q_tur T F N s e (T 0 0)).1 else if (q_tur T F N s e (T 0 0)).1 = -2 then -2 else (q_tur T F N s e (T 0 0)).2
theorem c_tur_loop {T : PT} {F : PF} {N : PN} {t s : Nat} (hT : TOK T) (hN : NOK N) (hs : s < T 2 0) {e : Int} (he : e = 0 ∨ e = 1) (a3 : Int) : ∀ (j k : Nat) (most : Int) (Z : XZ) (o7 o8 : Option XV), k + j = T 0 0 → CT Z t T → CLaw Z t F → CS Z 0 N → CS Z 1 N → cn most = (q_tur T F N s e k).2 → ∃ (r : Int) (Z' : XZ), x_EX 59 115 51 [some (.inr (.inr (some (0, 0)))), some (.inl ((s : Int))), some (.inl e), some (.inl a3), some (.inl ((q_tur T F N s e k).1)), some (.inl most), some (.inl ((k : Int))), o7, o8] [] (x_S Z t) = some (r, x_S Z' t) ∧ cn r = q_tX T F N s e a3 ∧ keepQ Z Z' := by
  have t0 : T 0 0 ≤ 7 := hT.1
  intro j
  induction j with
  | zero =>
    intro k most Z o7 o8 hk hC hL hS0 hS hm
    obtain rfl : k = T 0 0 := by omega
    have hb := q_tur_b (F := F) (N := N) (s := s) (e := e) hT (T 0 0) t0
    rw [B115_51, hC.1 0 (by omega), if_neg (Int.lt_irrefl _), cn_id (z := (q_tur T F N s e (T 0 0)).1) (by omega) (by omega)]
    unfold q_tX
    by_cases h : cn a3 = 0
    · rw [if_pos h, if_pos h]; exact ⟨_, _, rfl, rfl, keepQ.rfl'⟩
    · rw [if_neg h, if_neg h]
      by_cases h2 : (q_tur T F N s e (T 0 0)).1 = -2
      · rw [if_pos h2, if_pos h2]; exact ⟨_, _, rfl, by rw [h2]; decide, keepQ.rfl'⟩
      · rw [if_neg h2, if_neg h2]; exact ⟨_, _, rfl, hm, keepQ.rfl'⟩
  | succ j ih =>
    intro k most Z o7 o8 hk hC hL hS0 hS hm
    rw [B115_51, hC.1 0 (by omega), cn_nt (z := (k : Int)) rfl (by omega), cn_nt (z := (T 0 0 : Int)) rfl (by omega), if_pos (by omega)]
    obtain ⟨Z1, most', p7, p8, e1, e2, e3, e4⟩ := c_tin_loop (t := t) (F := F) (c := k) hT hN hs (by omega) he a3 (q_tur T F N s e k) (q_dg T k) 0 (N (5 + k)) most Z o8 (by omega) hC hL hS0 (by rw [q_nu_self]; exact hS) hm
    obtain ⟨r, Z', f1, f2, f3⟩ := ih (k + 1) most' Z1 p7 p8 (by omega) (hC.congr (fun g i a b c d => e4 _ _ _ (by omega) (by omega))) (hL.congr (fun g i a b => e4 _ _ _ (by omega) (by omega))) (hS0.congr (fun i => e4 _ _ _ (by omega) (by omega)) (fun i => e4 _ _ _ (by omega) (by omega)) (fun i => e4 _ _ _ (by omega) (by omega))) e3 e2
    have hq : keepQ Z Z1 := fun g m i hs => e4 g m i (by unfold scr at hs; omega) (by unfold scr at hs; omega)
    exact ⟨r, Z', e1.trans f1, f2, hq.trans f3⟩
theorem m_tur_loop {T : PT} {F : PF} {N : PN} {v s : Nat} (hT : TOK T) (hN : NOK N) (hs : s < T 2 0) {e : Int} (he : e = 0 ∨ e = 1) (t : Nat) (a3 : Int) : ∀ (j k : Nat) (most : Int) (Z : XZ) (o7 o8 o9 : Option XV), k + j = T 0 0 → MT Z v T → MLaw Z v F → MR Z 94 0 N → cn most = (q_tur T F N s e k).2 → ∃ (r : Int) (Z' : XZ), x_EX 59 231 37 [some (.inr (.inr (some (56, 0)))), some (.inl ((s : Int))), some (.inl e), some (.inl a3), some (.inl ((q_tur T F N s e k).1)), some (.inl most), some (.inl ((k : Int))), o7, o8, o9] [] (x_S Z t) = some (r, x_S Z' t) ∧ cn r = q_tX T F N s e a3 ∧ keepQ Z Z' := by
  have t0 : T 0 0 ≤ 7 := hT.1
  intro j
  induction j with
  | zero =>
    intro k most Z o7 o8 o9 hk hM hL hR hm
    obtain ⟨hv, h18, ⟨v0, _⟩, _⟩ := id hM
    obtain rfl : k = T 0 0 := by omega
    have hb := q_tur_b (F := F) (N := N) (s := s) (e := e) hT (T 0 0) t0
    rw [B231_37, h18, cn_nt (z := (v : Int)) rfl (by omega), Int.toNat_natCast, v0, if_pos (by omega), if_neg (Int.lt_irrefl _), cn_id (z := (q_tur T F N s e (T 0 0)).1) (by omega) (by omega)]
    unfold q_tX
    by_cases h2 : (q_tur T F N s e (T 0 0)).1 = -2
    · rw [if_pos (by omega), if_pos h2, h2]
      exact ⟨_, _, rfl, by split; rfl; decide, keepQ.rfl'⟩
    · rw [if_neg (by omega), if_neg h2]
      by_cases h : cn a3 = 0
      · rw [if_pos h, if_pos h]; exact ⟨_, _, rfl, rfl, keepQ.rfl'⟩
      · rw [if_neg h, if_neg h]; exact ⟨_, _, rfl, hm, keepQ.rfl'⟩
  | succ j ih =>
    intro k most Z o7 o8 o9 hk hM hL hR hm
    obtain ⟨hv, h18, ⟨v0, _⟩, _⟩ := id hM
    have rk := hR (5 + k) (by omega)
    rw [Nat.zero_add] at rk
    rw [B231_37, h18, cn_nt (z := (v : Int)) rfl (by omega), Int.toNat_natCast, v0, if_pos (by omega), cn_nt (z := (k : Int)) rfl (by omega), cn_nt (z := (T 0 0 : Int)) rfl (by omega), if_pos (by omega), cn_nt (z := 5 + (k : Int)) (n := 5 + k) (by omega) (by omega), if_pos (by omega), Int.toNat_natCast, rk]
    obtain ⟨Z1, most', p7, p8, p9, e1, e2, e3, e4⟩ := m_tin_loop (F := F) (c := k) hT hN hs (by omega) he t a3 (q_tur T F N s e k) (q_dg T k) 0 (N (5 + k)) most Z o9 (by omega) hM hL (by rw [q_nu_self]; exact hR) hm
    obtain ⟨r, Z', f1, f2, f3⟩ := ih (k + 1) most' Z1 p7 p8 p9 (by omega) (hM.congr (fun g i a b => e4 _ _ _ (by unfold wsc; omega)) (e4 _ _ _ (by unfold wsc; omega))) (hL.congr (fun g a b => funext fun m => funext fun i => e4 _ _ _ (by unfold wsc; omega))) e3 e2
    have hq : keepQ Z Z1 := fun g m i hs => e4 g m i (by unfold scr at hs; unfold wsc; omega)
    exact ⟨r, Z', e1.trans f1, f2, hq.trans f3⟩
theorem s29_ok : p_s29 PI := by
  intro a e b ha he hb Z t ⟨T, F, N, H, K, v, u, nx, h⟩
  obtain ⟨ht, hT, hC, hM, hL, hML, hS, hR, hN, hH, _⟩ := id h
  have c1 := C115 60 Z t a e b (by decide)
  rw [c_hasS hC hT (by decide), Option.bind_some, B115_8, cn_id ha.1 ha.2, cn_id hb.1 hb.2] at c1
  have m1 : ∀ Z1, MT Z1 v T → x_CALL 60 231 [.inr (.inr (some (56, 0))), .inl a, .inl e, .inl b] (x_S Z1 t) = _ := fun Z1 hM1 => by rw [C231 60 Z1 t a e b (by decide), m_isS hM1 hT (by decide), Option.bind_some, B231_5, cn_id ha.1 ha.2]
  by_cases h1 : 0 ≤ a ∧ a < (T 2 0 : Int)
  case neg =>
    have m2 := m1 Z hM
    rw [if_pos (ite_00 _ h1)] at c1 m2; exact p_fin h c1 keepQ.rfl' m2 keepQ.rfl' rfl
  obtain ⟨s, rfl⟩ := Int.eq_ofNat_of_zero_le h1.1
  have hs : s < T 2 0 := by omega
  rw [if_neg (ite_01 _ h1)] at c1
  have m3 : ∀ Z1, MT Z1 v T → x_CALL 60 231 [.inr (.inr (some (56, 0))), .inl ((s : Int)), .inl e, .inl b] (x_S Z1 t) = _ := fun Z1 hM1 => by rw [m1 Z1 hM1, if_neg (ite_01 _ h1), m_in (by decide), Option.bind_some, B231_14, cn_id hb.1 hb.2, cn_id (z := 0) (by decide) (by decide), cn_id (z := 1) (by decide) (by decide)]
  by_cases h2 : 0 ≤ b ∧ b ≤ 1
  case neg =>
    have m2 := m3 Z hM
    rw [if_pos (ite_00 _ h2)] at m2
    by_cases h0 : b < 0
    · rw [if_pos h0] at c1; exact p_fin h c1 keepQ.rfl' m2 keepQ.rfl' rfl
    · rw [if_neg h0, if_pos (by omega)] at c1; exact p_fin h c1 keepQ.rfl' m2 keepQ.rfl' rfl
  refine q_one h (X := q_tX T F N s e b) ?_ (fun Z1 hI => ?_)
  · obtain ⟨Z1, e1, e2, e3⟩ := c_copy (Z := Z) (d := 59) (by decide) t 1 0 (by decide)
    have hC1 : CT Z1 t T := hC.congr (fun g i a b c d => e3 _ _ _ (by omega))
    have hL1 : CLaw Z1 t F := hL.congr (fun g i a b => e3 _ _ _ (by omega))
    have hS1 : CS Z1 0 N := hS.congr (fun i => e3 _ _ _ (by omega)) (fun i => e3 _ _ _ (by omega)) (fun i => e3 _ _ _ (by omega))
    obtain ⟨r0, Z2, g1, g2, g3⟩ := c_may (d := 59) (m := 0) hC1 hT hL1 hS1 hN (by decide) hs
    obtain ⟨r, Z', f1, f2, f3⟩ := c_tur_loop (t := t) (F := F) hT hN hs he b (T 0 0) 0 r0 Z2 none none (by omega) (hC1.congr (fun g i a b c d => g3 _ _ _ (by omega))) (hL1.congr (fun g i a b => g3 _ _ _ (by omega))) (hS1.congr (fun i => g3 _ _ _ (by omega)) (fun i => g3 _ _ _ (by omega)) (fun i => g3 _ _ _ (by omega))) ((e2 N hS).congr (fun i => g3 _ _ _ (by omega)) (fun i => g3 _ _ _ (by omega)) (fun i => g3 _ _ _ (by omega))) g2
    rw [if_neg (by omega), if_neg (by omega), e1, Option.bind_some, B115_33, g1, Option.bind_some, B115_46] at c1
    have hq : keepQ Z Z1 := fun g m i hs => e3 g m i (by unfold scr at hs; omega)
    exact ⟨r, Z', c1.trans f1, f2, (hq.trans (kq_cw g3)).trans f3⟩
  · obtain ⟨Z2, g1, g2, g3, g4, g5, _⟩ := m_crr hI hT hH.2.2.1 (d := 59) (by decide) t
    obtain ⟨r0, Z3, i1, i2, i3⟩ := m_may (d := 59) g2.1 g2.2.1 g3 hT hN (by decide) t hs
    have hq : keepQ Z2 Z3 := fun g m i hs => i3 g m i (by unfold scr at hs; unfold wsc; omega)
    obtain ⟨r, Z', f1, f2, f3⟩ := m_tur_loop (F := F) hT hN hs he t b (T 0 0) 0 r0 Z3 none none none (by omega) (g2.1.congr (fun g i a b => i3 _ _ _ (by unfold wsc; omega)) (i3 _ _ _ (by unfold wsc; omega))) (g2.2.1.congr (fun g a b => funext fun m => funext fun i => i3 _ _ _ (by unfold wsc; omega))) (g3.congr (fun i => i3 _ _ _ (by unfold wsc; omega))) i2
    have m2 := m3 Z1 hI.1
    rw [if_neg (ite_01 _ h2), g1, Option.bind_some, B231_23, i1, Option.bind_some, B231_32] at m2
    exact ⟨r, Z', m2.trans f1, f2, (g5.trans hq).trans f3⟩
