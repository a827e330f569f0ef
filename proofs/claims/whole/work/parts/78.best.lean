/-! clearest, waits, who -/
theorem q_nu_nu (N : PN) (k : Nat) (a b : Int) : q_nu (q_nu N k a) k b = q_nu N k b := by
  funext j; unfold q_nu; split <;> rfl
theorem q_nu_self (N : PN) (k : Nat) : q_nu N k (N k) = N := by
  funext j; unfold q_nu; split
  · rename_i h; rw [h]
  · rfl
theorem q_eqv.st {T : PT} {F : PF} {N M : PN} (h : q_eqv N M) (s : Nat) {c : Nat} (hc : c < 7) : q_st T F N s c = q_st T F M s c := by
  unfold q_st; rw [h.sg hc, h.env]
theorem q_eqv.wl {T : PT} {N M : PN} (h : q_eqv N M) {c : Nat} (hc : c < 7) (b : Nat) : w_l T N c b = w_l T M c b := by
  unfold w_l; rw [h.sg hc]
theorem q_eqv.w {T : PT} {F : PF} {N M : PN} (h : q_eqv N M) (hT : TOK T) {s : Nat} (hs : s < T 2 0) (set k : Nat) : w_at T N s set k = w_at T M s set k ∧ w_mi T N s set k = w_mi T M s set k ∧ w_ca T F N s set k = w_ca T F M s set k := by
  have t0 : T 0 0 ≤ 7 := hT.1
  induction k with
  | zero => exact ⟨rfl, rfl, rfl⟩
  | succ k ih =>
    obtain ⟨h1, h2, h3⟩ := ih
    have hat := w_at_lt (N := M) (set := set) hT hs k
    refine ⟨?_, ?_, ?_⟩
    · rw [w_at, w_at, h1, h.wl (by omega)]
    · rw [w_mi, w_mi, h1, h2, h.wl (by omega)]
    · rw [w_ca, w_ca, h3, w_fa, w_fa, h1, w_q, w_q, h.st s (by omega)]
theorem q_eqv.may {T : PT} {F : PF} {N M : PN} (h : q_eqv N M) (hT : TOK T) {s : Nat} (hs : s < T 2 0) : q_may T F N s = q_may T F M s := by
  have : q_gm T F N s = q_gm T F M s := funext fun m => by
    obtain ⟨h1, h2, h3⟩ := h.w (F := F) hT hs m 8
    unfold q_gm w_buy w_come
    rw [h1, h2, h3]
  unfold q_may; rw [this]
def q_bst (p : Int × Int) (w x : Int) : Int × Int := if p.2 < x then (w, x) else p
def q_cle (T : PT) (F : PF) (N : PN) (s n : Nat) : Int × Int := match n with
  | 0 => (0, -1)
  | n + 1 => q_bst (q_cle T F N s n) (n : Int) (cn (q_may T F (q_nu N 12 (n : Int)) s : Int))
theorem c_cle_loop {T : PT} {F : PF} {N : PN} {t s : Nat} (hT : TOK T) (hN : NOK N) (hs : s < T 2 0) (a2 : Int) : ∀ (j k : Nat) (x most : Int) (Z : XZ) (o6 : Option XV), k + j = 10 → CT Z t T → CLaw Z t F → CS Z 1 (q_nu N 12 x) → cn most = (q_cle T F N s k).2 → ∃ (r : Int) (Z' : XZ), x_EX 59 112 41 [some (.inr (.inr (some (0, 0)))), some (.inl ((s : Int))), some (.inl a2), some (.inl ((q_cle T F N s k).1)), some (.inl most), some (.inl ((k : Int))), o6] [] (x_S Z t) = some (r, x_S Z' t) ∧ cn r = (if cn a2 = 0 then cn (q_cle T F N s 10).1 else (q_cle T F N s 10).2) ∧ keepQ Z Z' := by
  intro j
  induction j with
  | zero =>
    intro k x most Z o6 hk hC hL hS hm
    obtain rfl : k = 10 := by omega
    rw [B112_41, if_pos (by decide)]
    by_cases h : cn a2 = 0
    · rw [if_pos h, if_pos h]; exact ⟨_, _, rfl, rfl, keepQ.rfl'⟩
    · rw [if_neg h, if_neg h]; exact ⟨_, _, rfl, hm, keepQ.rfl'⟩
  | succ j ih =>
    intro k x most Z o6 hk hC hL hS hm
    have hS1 : CS (x_u Z 28 1 1 (k : Int)) 1 (q_nu N 12 (k : Int)) := by have := hS.up1 (a := (k : Int)) (b := (k : Int)) rfl; rwa [q_nu_nu] at this
    have hN1 : NOK (q_nu N 12 (k : Int)) := hN.up (by omega) (by omega) (fun _ => by rw [cn_nt rfl (by omega)]; omega) (by omega)
    obtain ⟨r, Z1, e1, e2, e3⟩ := c_may (d := 59) (m := 1) (hC.congr (fun g i a b c d => x_u_ne (by omega))) hT (hL.congr (fun g i a b => x_u_ne (by omega))) hS1 hN1 (by decide) hs
    have kz : ∀ g m i, ¬ (g = 19 ∨ g = 20 ∨ (41 ≤ g ∧ g ≤ 55)) → ¬ (g = 28 ∧ m = 1) → Z1 g m i = Z g m i := fun g m i a b => by rw [e3 g m i a, x_u_ne (by omega)]
    have hC1 : CT Z1 t T := hC.congr (fun g i a b c d => kz _ _ _ (by omega) (by omega))
    have hL1 : CLaw Z1 t F := hL.congr (fun g i a b => kz _ _ _ (by omega) (by omega))
    have hS2 : CS Z1 1 (q_nu N 12 (k : Int)) := hS1.congr (fun i => e3 _ _ _ (by omega)) (fun i => e3 _ _ _ (by omega)) (fun i => e3 _ _ _ (by omega))
    have hq : keepQ Z Z1 := fun g m i hs => kz g m i (by unfold scr at hs; omega) (by unfold scr at hs; omega)
    rw [B112_41, cn_nt (z := (k : Int)) rfl (by omega), if_neg (by omega), e1, Option.bind_some, B112_66, hm, e2]
    by_cases hlt : (q_cle T F N s k).2 < cn (q_may T F (q_nu N 12 (k : Int)) s : Int)
    · have hc : q_cle T F N s (k + 1) = ((k : Int), cn (q_may T F (q_nu N 12 (k : Int)) s : Int)) := by rw [q_cle, q_bst, if_pos hlt]
      have ih' := ih (k + 1) (k : Int) r Z1 (some (.inl r)) (by omega) hC1 hL1 hS2 (by rw [hc]; exact e2)
      rw [hc] at ih'
      obtain ⟨r', Z', f1, f2, f3⟩ := ih'
      rw [if_pos hlt]
      exact ⟨r', Z', f1, f2, hq.trans f3⟩
    · have hc : q_cle T F N s (k + 1) = q_cle T F N s k := by rw [q_cle, q_bst, if_neg hlt]
      have ih' := ih (k + 1) (k : Int) most Z1 (some (.inl r)) (by omega) hC1 hL1 hS2 (by rw [hc]; exact hm)
      rw [hc] at ih'
      obtain ⟨r', Z', f1, f2, f3⟩ := ih'
      rw [if_neg hlt]
      exact ⟨r', Z', f1, f2, hq.trans f3⟩
theorem m_cle_loop {T : PT} {F : PF} {N : PN} {v s : Nat} (hT : TOK T) (hN : NOK N) (hs : s < T 2 0) (t : Nat) (a2 : Int) : ∀ (j k : Nat) (x most : Int) (Z : XZ) (o6 : Option XV), k + j = 10 → MT Z v T → MLaw Z v F → MR Z 94 0 (q_nu N 12 x) → cn most = (q_cle T F N s k).2 → ∃ (r : Int) (Z' : XZ), x_EX 59 228 31 [some (.inr (.inr (some (56, 0)))), some (.inl ((s : Int))), some (.inl a2), some (.inl ((q_cle T F N s k).1)), some (.inl most), some (.inl ((k : Int))), o6] [] (x_S Z t) = some (r, x_S Z' t) ∧ cn r = (if cn a2 = 0 then cn (q_cle T F N s 10).1 else (q_cle T F N s 10).2) ∧ keepQ Z Z' := by
  intro j
  induction j with
  | zero =>
    intro k x most Z o6 hk hM hL hR hm
    obtain rfl : k = 10 := by omega
    rw [B228_31, if_neg (by decide)]
    by_cases h : cn a2 = 0
    · rw [if_pos h, if_pos h]; exact ⟨_, _, rfl, rfl, keepQ.rfl'⟩
    · rw [if_neg h, if_neg h]; exact ⟨_, _, rfl, hm, keepQ.rfl'⟩
  | succ j ih =>
    intro k x most Z o6 hk hM hL hR hm
    have hR1 : MR (x_u Z 94 0 12 (k : Int)) 94 0 (q_nu N 12 (k : Int)) := by have := hR.up (k := 12) (a := (k : Int)); rwa [q_nu_nu] at this
    have hN1 : NOK (q_nu N 12 (k : Int)) := hN.up (by omega) (by omega) (fun _ => by rw [cn_nt rfl (by omega)]; omega) (by omega)
    obtain ⟨r, Z1, e1, e2, e3⟩ := m_may (d := 59) (hM.congr (fun g i a b => x_u_ne (by omega)) (x_u_ne (by omega))) (hL.congr (fun g a b => funext fun m => funext fun i => x_u_ne (by omega))) hR1 hT hN1 (by decide) t hs
    have kz : ∀ g m i, ¬ (wsc g i ∨ (95 ≤ g ∧ g ≤ 98)) → g ≠ 94 → Z1 g m i = Z g m i := fun g m i a b => by rw [e3 g m i a, x_u_ne (by omega)]
    have hM1 : MT Z1 v T := hM.congr (fun g i a b => kz _ _ _ (by unfold wsc; omega) (by omega)) (kz _ _ _ (by unfold wsc; omega) (by omega))
    have hL1 : MLaw Z1 v F := hL.congr (fun g a b => funext fun m => funext fun i => kz _ _ _ (by unfold wsc; omega) (by omega))
    have hR2 : MR Z1 94 0 (q_nu N 12 (k : Int)) := hR1.congr (fun i => e3 _ _ _ (by unfold wsc; omega))
    have hq : keepQ Z Z1 := fun g m i hs => kz g m i (by unfold scr at hs; unfold wsc; omega) (by unfold scr at hs; omega)
    rw [B228_31, cn_nt (z := (k : Int)) rfl (by omega), if_pos (by omega), e1, Option.bind_some, B228_52, hm, e2]
    by_cases hlt : (q_cle T F N s k).2 < cn (q_may T F (q_nu N 12 (k : Int)) s : Int)
    · have hc : q_cle T F N s (k + 1) = ((k : Int), cn (q_may T F (q_nu N 12 (k : Int)) s : Int)) := by rw [q_cle, q_bst, if_pos hlt]
      have ih' := ih (k + 1) (k : Int) r Z1 (some (.inl r)) (by omega) hM1 hL1 hR2 (by rw [hc]; exact e2)
      rw [hc] at ih'
      obtain ⟨r', Z', f1, f2, f3⟩ := ih'
      rw [if_pos hlt]
      exact ⟨r', Z', f1, f2, hq.trans f3⟩
    · have hc : q_cle T F N s (k + 1) = q_cle T F N s k := by rw [q_cle, q_bst, if_neg hlt]
      have ih' := ih (k + 1) (k : Int) most Z1 (some (.inl r)) (by omega) hM1 hL1 hR2 (by rw [hc]; exact hm)
      rw [hc] at ih'
      obtain ⟨r', Z', f1, f2, f3⟩ := ih'
      rw [if_neg hlt]
      exact ⟨r', Z', f1, f2, hq.trans f3⟩
theorem s26_ok : p_s26 PI := by
  intro a b ha hb Z t ⟨T, F, N, H, K, v, u, nx, h⟩
  obtain ⟨ht, hT, hC, hM, hL, hML, hS, hR, hN, hH, _⟩ := id h
  have c1 := C112 60 Z t a b (by decide)
  rw [c_hasS hC hT (by decide), Option.bind_some, B112_8, cn_id ha.1 ha.2, cn_id hb.1 hb.2] at c1
  have m1 : ∀ Z1, MT Z1 v T → x_CALL 60 228 [.inr (.inr (some (56, 0))), .inl a, .inl b] (x_S Z1 t) = _ := fun Z1 hM1 => by rw [C228 60 Z1 t a b (by decide), m_isS hM1 hT (by decide), Option.bind_some, B228_5, cn_id ha.1 ha.2]
  by_cases h1 : 0 ≤ a ∧ a < (T 2 0 : Int)
  case neg =>
    have m2 := m1 Z hM
    rw [if_pos (ite_00 _ h1)] at c1 m2; exact p_fin h c1 keepQ.rfl' m2 keepQ.rfl' rfl
  obtain ⟨s, rfl⟩ := Int.eq_ofNat_of_zero_le h1.1
  have hs : s < T 2 0 := by omega
  rw [if_neg (ite_01 _ h1)] at c1
  have m3 : ∀ Z1, MT Z1 v T → x_CALL 60 228 [.inr (.inr (some (56, 0))), .inl ((s : Int)), .inl b] (x_S Z1 t) = _ := fun Z1 hM1 => by rw [m1 Z1 hM1, if_neg (ite_01 _ h1), m_in (by decide), Option.bind_some, B228_14, cn_id hb.1 hb.2, cn_id (z := 0) (by decide) (by decide), cn_id (z := 1) (by decide) (by decide)]
  by_cases h2 : 0 ≤ b ∧ b ≤ 1
  case neg =>
    have m2 := m3 Z hM
    rw [if_pos (ite_00 _ h2)] at m2
    by_cases h0 : b < 0
    · rw [if_pos h0] at c1; exact p_fin h c1 keepQ.rfl' m2 keepQ.rfl' rfl
    · rw [if_neg h0, if_pos (by omega)] at c1; exact p_fin h c1 keepQ.rfl' m2 keepQ.rfl' rfl
  refine q_one h (X := if cn b = 0 then cn (q_cle T F N s 10).1 else (q_cle T F N s 10).2) ?_ (fun Z1 hI => ?_)
  · obtain ⟨Z1, e1, e2, e3⟩ := c_copy (Z := Z) (d := 59) (by decide) t 1 0 (by decide)
    obtain ⟨r, Z', f1, f2, f3⟩ := c_cle_loop (t := t) (F := F) hT hN hs b 10 0 (N 12) (-1) Z1 none (by omega) (hC.congr (fun g i a b c d => e3 _ _ _ (by omega))) (hL.congr (fun g i a b => e3 _ _ _ (by omega))) (by rw [q_nu_self]; exact e2 N hS) (show cn (-1) = -1 by decide)
    rw [if_neg (by omega), if_neg (by omega), e1, Option.bind_some, B112_33] at c1
    have hq : keepQ Z Z1 := fun g m i hs => e3 g m i (by unfold scr at hs; omega)
    exact ⟨r, Z', c1.trans f1, f2, hq.trans f3⟩
  · obtain ⟨Z2, g1, g2, g3, g4, g5, _⟩ := m_crr hI hT hH.2.2.1 (d := 59) (by decide) t
    obtain ⟨r, Z', f1, f2, f3⟩ := m_cle_loop (F := F) hT hN hs t b 10 0 (N 12) (-1) Z2 none (by omega) g2.1 g2.2.1 (by rw [q_nu_self]; exact g3) (show cn (-1) = -1 by decide)
    have m2 := m3 Z1 hI.1
    rw [if_neg (ite_01 _ h2), g1, Option.bind_some, B228_23] at m2
    exact ⟨r, Z', m2.trans f1, f2, g5.trans f3⟩
