/-! waits, who -/
def q_wai (T : PT) (F : PF) (N : PN) (s n : Nat) : Int × Int := match n with
  | 0 => (0, -1)
  | n + 1 => q_bst (q_wai T F N s n) (n : Int) (cn (q_may T F (q_dns F n N) s : Int))
theorem q_dns_succ (F : PF) (n : Nat) : ∀ N : PN, q_dns F (n + 1) N = q_dn F (q_dns F n N) := by
  induction n with
  | zero => intro N; rfl
  | succ n ih => intro N; exact ih (q_dn F N)
theorem c_wai_loop {T : PT} {F : PF} {N : PN} {t s n : Nat} (hT : TOK T) (hN : NOK N) (hs : s < T 2 0) (hn : n ≤ 30) (a3 : Int) : ∀ (j k : Nat) (most : Int) (Z : XZ) (o7 : Option XV), k + j = n + 1 → CT Z t T → CLaw Z t F → CS Z 1 (q_dns F k N) → cn most = (q_wai T F N s k).2 → ∃ (r : Int) (Z' : XZ), x_EX 59 113 52 [some (.inr (.inr (some (0, 0)))), some (.inl ((s : Int))), some (.inl ((n : Int))), some (.inl a3), some (.inl ((q_wai T F N s k).1)), some (.inl most), some (.inl ((k : Int))), o7] [] (x_S Z t) = some (r, x_S Z' t) ∧ cn r = (if cn a3 = 0 then cn (q_wai T F N s (n + 1)).1 else (q_wai T F N s (n + 1)).2) ∧ keepQ Z Z' := by
  intro j
  induction j with
  | zero =>
    intro k most Z o7 hk hC hL hS hm
    obtain rfl : k = n + 1 := by omega
    rw [B113_52, cn_nt (z := (n : Int)) rfl (by omega), cn_nt (z := ((n + 1 : Nat) : Int)) rfl (by omega), if_pos (by omega)]
    by_cases h : cn a3 = 0
    · rw [if_pos h, if_pos h]; exact ⟨_, _, rfl, rfl, keepQ.rfl'⟩
    · rw [if_neg h, if_neg h]; exact ⟨_, _, rfl, hm, keepQ.rfl'⟩
  | succ j ih =>
    intro k most Z o7 hk hC hL hS hm
    obtain ⟨r, Z1, e1, e2, e3⟩ := c_may (d := 59) (m := 1) hC hT hL hS (hN.dns k) (by decide) hs
    have hC1 : CT Z1 t T := hC.congr (fun g i a b c d => e3 _ _ _ (by omega))
    have hL1 : CLaw Z1 t F := hL.congr (fun g i a b => e3 _ _ _ (by omega))
    have hS1 : CS Z1 1 (q_dns F k N) := hS.congr (fun i => e3 _ _ _ (by omega)) (fun i => e3 _ _ _ (by omega)) (fun i => e3 _ _ _ (by omega))
    obtain ⟨Z2, g1, g2, g3⟩ := c_day (d := 59) hL1 hS1 (hN.dns k) (by decide)
    rw [← q_dns_succ] at g2
    have hC2 : CT Z2 t T := hC1.congr (fun g i a b c d => g3 _ _ _ (by omega) (by omega))
    have hL2 : CLaw Z2 t F := hL1.congr (fun g i a b => g3 _ _ _ (by omega) (by omega))
    have hq : keepQ Z Z2 := fun g m i hs => (g3 g m i (by unfold scr at hs; omega) (by unfold scr at hs; omega)).trans (e3 g m i (by unfold scr at hs; omega))
    rw [B113_52, cn_nt (z := (n : Int)) rfl (by omega), cn_nt (z := (k : Int)) rfl (by omega), if_neg (by omega), e1, Option.bind_some, B113_67, hm, e2]
    by_cases hlt : (q_wai T F N s k).2 < cn (q_may T F (q_dns F k N) s : Int)
    · have hc : q_wai T F N s (k + 1) = ((k : Int), cn (q_may T F (q_dns F k N) s : Int)) := by rw [q_wai, q_bst, if_pos hlt]
      have ih' := ih (k + 1) r Z2 (some (.inl r)) (by omega) hC2 hL2 g2 (by rw [hc]; exact e2)
      rw [hc] at ih'
      obtain ⟨r', Z', f1, f2, f3⟩ := ih'
      rw [if_pos hlt, g1, Option.bind_some, B113_95]
      exact ⟨r', Z', f1, f2, hq.trans f3⟩
    · have hc : q_wai T F N s (k + 1) = q_wai T F N s k := by rw [q_wai, q_bst, if_neg hlt]
      have ih' := ih (k + 1) most Z2 (some (.inl r)) (by omega) hC2 hL2 g2 (by rw [hc]; exact hm)
      rw [hc] at ih'
      obtain ⟨r', Z', f1, f2, f3⟩ := ih'
      rw [if_neg hlt, g1, Option.bind_some, B113_95]
      exact ⟨r', Z', f1, f2, hq.trans f3⟩
theorem m_wai_loop {T : PT} {F : PF} {N : PN} {v s n : Nat} (hT : TOK T) (hN : NOK N) (hs : s < T 2 0) (hn : n ≤ 30) (t : Nat) (a3 : Int) : ∀ (j k : Nat) (most : Int) (Z : XZ) (N' : PN) (o7 : Option XV), k + j = n + 1 → MT Z v T → MLaw Z v F → MR Z 94 0 N' → q_eqv N' (q_dns F k N) → cn most = (q_wai T F N s k).2 → ∃ (r : Int) (Z' : XZ), x_EX 59 229 42 [some (.inr (.inr (some (56, 0)))), some (.inl ((s : Int))), some (.inl ((n : Int))), some (.inl a3), some (.inl ((q_wai T F N s k).1)), some (.inl most), some (.inl ((k : Int))), o7] [] (x_S Z t) = some (r, x_S Z' t) ∧ cn r = (if cn a3 = 0 then cn (q_wai T F N s (n + 1)).1 else (q_wai T F N s (n + 1)).2) ∧ keepQ Z Z' := by
  intro j
  induction j with
  | zero =>
    intro k most Z N' o7 hk hM hL hR hv hm
    obtain rfl : k = n + 1 := by omega
    rw [B229_42, cn_nt (z := (n : Int)) rfl (by omega), cn_nt (z := ((n + 1 : Nat) : Int)) rfl (by omega), if_pos (by omega)]
    by_cases h : cn a3 = 0
    · rw [if_pos h, if_pos h]; exact ⟨_, _, rfl, rfl, keepQ.rfl'⟩
    · rw [if_neg h, if_neg h]; exact ⟨_, _, rfl, hm, keepQ.rfl'⟩
  | succ j ih =>
    intro k most Z N' o7 hk hM hL hR hv hm
    have hN' : NOK N' := (hN.dns k).eqv hv.symm
    obtain ⟨r, Z1, e1, e2, e3⟩ := m_may (d := 59) hM hL hR hT hN' (by decide) t hs
    rw [hv.may hT hs] at e2
    have hM1 : MT Z1 v T := hM.congr (fun g i a b => e3 _ _ _ (by unfold wsc; omega)) (e3 _ _ _ (by unfold wsc; omega))
    have hL1 : MLaw Z1 v F := hL.congr (fun g a b => funext fun m => funext fun i => e3 _ _ _ (by unfold wsc; omega))
    have hR1 : MR Z1 94 0 N' := hR.congr (fun i => e3 _ _ _ (by unfold wsc; omega))
    obtain ⟨Z2, N2, g1, g2, g3, g4⟩ := m_day (d := 59) hM1 hL1 hR1 hN' (by decide) t
    have hv2 : q_eqv N2 (q_dns F (k + 1) N) := by rw [q_dns_succ]; exact g3.trans hv.dn
    have hM2 : MT Z2 v T := hM1.congr (fun g i a b => g4 _ _ _ (by omega) (by omega) (by omega) (by omega)) (g4 _ _ _ (by omega) (by omega) (by omega) (by omega))
    have hL2 : MLaw Z2 v F := hL1.congr (fun g a b => funext fun m => funext fun i => g4 _ _ _ (by omega) (by omega) (by omega) (by omega))
    have hq : keepQ Z Z2 := fun g m i hs => (g4 g m i (by unfold scr at hs; omega) (by unfold scr at hs; omega) (by unfold scr at hs; omega) (by unfold scr at hs; omega)).trans (e3 g m i (by unfold scr at hs; unfold wsc; omega))
    rw [B229_42, cn_nt (z := (n : Int)) rfl (by omega), cn_nt (z := (k : Int)) rfl (by omega), if_neg (by omega), e1, Option.bind_some, B229_53, hm, e2]
    by_cases hlt : (q_wai T F N s k).2 < cn (q_may T F (q_dns F k N) s : Int)
    · have hc : q_wai T F N s (k + 1) = ((k : Int), cn (q_may T F (q_dns F k N) s : Int)) := by rw [q_wai, q_bst, if_pos hlt]
      have ih' := ih (k + 1) r Z2 N2 (some (.inl r)) (by omega) hM2 hL2 g2 hv2 (by rw [hc]; exact e2)
      rw [hc] at ih'
      obtain ⟨r', Z', f1, f2, f3⟩ := ih'
      rw [if_pos hlt, g1, Option.bind_some, B229_74]
      exact ⟨r', Z', f1, f2, hq.trans f3⟩
    · have hc : q_wai T F N s (k + 1) = q_wai T F N s k := by rw [q_wai, q_bst, if_neg hlt]
      have ih' := ih (k + 1) most Z2 N2 (some (.inl r)) (by omega) hM2 hL2 g2 hv2 (by rw [hc]; exact hm)
      rw [hc] at ih'
      obtain ⟨r', Z', f1, f2, f3⟩ := ih'
      rw [if_neg hlt, g1, Option.bind_some, B229_74]
      exact ⟨r', Z', f1, f2, hq.trans f3⟩
theorem s27_ok : p_s27 PI := by
  intro a b e ha hb he Z t ⟨T, F, N, H, K, v, u, nx, h⟩
  obtain ⟨ht, hT, hC, hM, hL, hML, hS, hR, hN, hH, _⟩ := id h
  have c1 := C113 60 Z t a b e (by decide)
  rw [c_hasS hC hT (by decide), Option.bind_some, B113_8, cn_id ha.1 ha.2, cn_id hb.1 hb.2, cn_id he.1 he.2] at c1
  have m1 : ∀ Z1, MT Z1 v T → x_CALL 60 229 [.inr (.inr (some (56, 0))), .inl a, .inl b, .inl e] (x_S Z1 t) = _ := fun Z1 hM1 => by rw [C229 60 Z1 t a b e (by decide), m_isS hM1 hT (by decide), Option.bind_some, B229_5, cn_id ha.1 ha.2]
  by_cases h1 : 0 ≤ a ∧ a < (T 2 0 : Int)
  case neg =>
    have m2 := m1 Z hM
    rw [if_pos (ite_00 _ h1)] at c1 m2; exact p_fin h c1 keepQ.rfl' m2 keepQ.rfl' rfl
  obtain ⟨s, rfl⟩ := Int.eq_ofNat_of_zero_le h1.1
  have hs : s < T 2 0 := by omega
  rw [if_neg (ite_01 _ h1)] at c1
  have m3 : ∀ Z1, MT Z1 v T → x_CALL 60 229 [.inr (.inr (some (56, 0))), .inl ((s : Int)), .inl b, .inl e] (x_S Z1 t) = _ := fun Z1 hM1 => by rw [m1 Z1 hM1, if_neg (ite_01 _ h1), m_in (by decide), Option.bind_some, B229_15, cn_id hb.1 hb.2, cn_id (z := 0) (by decide) (by decide), cn_id (z := 30) (by decide) (by decide)]
  by_cases h2 : 0 ≤ b ∧ b ≤ 30
  case neg =>
    have m2 := m3 Z hM
    rw [if_pos (ite_00 _ h2)] at m2
    by_cases h0 : b < 0
    · rw [if_pos h0] at c1; exact p_fin h c1 keepQ.rfl' m2 keepQ.rfl' rfl
    · rw [if_neg h0, if_pos (by omega)] at c1; exact p_fin h c1 keepQ.rfl' m2 keepQ.rfl' rfl
  obtain ⟨n, rfl⟩ := Int.eq_ofNat_of_zero_le h2.1
  rw [if_neg (by omega), if_neg (by omega)] at c1
  have m4 : ∀ Z1, MT Z1 v T → x_CALL 60 229 [.inr (.inr (some (56, 0))), .inl ((s : Int)), .inl ((n : Int)), .inl e] (x_S Z1 t) = _ := fun Z1 hM1 => by rw [m3 Z1 hM1, if_neg (ite_01 _ h2), m_in (by decide), Option.bind_some, B229_24, cn_id he.1 he.2, cn_id (z := 0) (by decide) (by decide), cn_id (z := 1) (by decide) (by decide)]
  by_cases h3 : 0 ≤ e ∧ e ≤ 1
  case neg =>
    have m2 := m4 Z hM
    rw [if_pos (ite_00 _ h3)] at m2
    by_cases h0 : e < 0
    · rw [if_pos h0] at c1; exact p_fin h c1 keepQ.rfl' m2 keepQ.rfl' rfl
    · rw [if_neg h0, if_pos (by omega)] at c1; exact p_fin h c1 keepQ.rfl' m2 keepQ.rfl' rfl
  refine q_one h (X := if cn e = 0 then cn (q_wai T F N s (n + 1)).1 else (q_wai T F N s (n + 1)).2) ?_ (fun Z1 hI => ?_)
  · obtain ⟨Z1, e1, e2, e3⟩ := c_copy (Z := Z) (d := 59) (by decide) t 1 0 (by decide)
    obtain ⟨r, Z', f1, f2, f3⟩ := c_wai_loop (t := t) (F := F) (n := n) hT hN hs (by omega) e (n + 1) 0 (-1) Z1 none (by omega) (hC.congr (fun g i a b c d => e3 _ _ _ (by omega))) (hL.congr (fun g i a b => e3 _ _ _ (by omega))) (e2 N hS) (show cn (-1) = -1 by decide)
    rw [if_neg (by omega), if_neg (by omega), e1, Option.bind_some, B113_43] at c1
    have hq : keepQ Z Z1 := fun g m i hs => e3 g m i (by unfold scr at hs; omega)
    exact ⟨r, Z', c1.trans f1, f2, hq.trans f3⟩
  · obtain ⟨Z2, g1, g2, g3, g4, g5, _⟩ := m_crr hI hT hH.2.2.1 (d := 59) (by decide) t
    obtain ⟨r, Z', f1, f2, f3⟩ := m_wai_loop (F := F) (n := n) hT hN hs (by omega) t e (n + 1) 0 (-1) Z2 N none (by omega) g2.1 g2.2.1 g3 (q_eqv.refl N) (show cn (-1) = -1 by decide)
    have m2 := m4 Z1 hI.1
    rw [if_neg (ite_01 _ h3), g1, Option.bind_some, B229_33] at m2
    exact ⟨r, Z', m2.trans f1, f2, g5.trans f3⟩
def q_who (T : PT) (F : PF) (N : PN) (n : Nat) : Int × Int := match n with
  | 0 => (-2, -1)
  | n + 1 => if N n = 0 then q_bst (q_who T F N n) (n : Int) (cn (q_may T F N n : Int)) else q_who T F N n
theorem q_who_b (T : PT) (F : PF) (N : PN) (n : Nat) : -1 ≤ (q_who T F N n).2 := by
  induction n with
  | zero => show (-1 : Int) ≤ -1; decide
  | succ n ih =>
    unfold q_who
    split
    · unfold q_bst; split
      · rename_i h; simp only; omega
      · exact ih
    · exact ih
theorem c_who2_loop {T : PT} {F : PF} {N : PN} {t : Nat} (hT : TOK T) (hN : NOK N) : ∀ (j k : Nat) (most : Int) (Z : XZ) (o4 : Option XV), k + j = T 2 0 → CT Z t T → CLaw Z t F → CS Z 0 N → cn most = (q_who T F N k).2 → ∃ (r : Int) (Z' : XZ), x_EX 59 117 7 [some (.inr (.inr (some (0, 0)))), some (.inl ((q_who T F N k).1)), some (.inl most), some (.inl ((k : Int))), o4] [] (x_S Z t) = some (r, x_S Z' t) ∧ cn r = cn (q_who T F N (T 2 0)).1 ∧ keepQ Z Z' := by
  have t2 : T 2 0 ≤ 5 := hT.2.2.1
  intro j
  induction j with
  | zero =>
    intro k most Z o4 hk hC hL hS hm
    obtain rfl : k = T 2 0 := by omega
    rw [B117_7, hC.1 2 (by omega), if_neg (Int.lt_irrefl _)]
    exact ⟨_, _, rfl, rfl, keepQ.rfl'⟩
  | succ j ih =>
    intro k most Z o4 hk hC hL hS hm
    have nk := hN.1 k (by omega)
    rw [B117_7, hC.1 2 (by omega), cn_nt (z := (k : Int)) rfl (by omega), cn_nt (z := (T 2 0 : Int)) rfl (by omega), if_pos (by omega), if_pos (by omega), Int.toNat_natCast, hS.2.1 k (by omega), cn_id (z := N k) (by omega) (by omega)]
    by_cases h0 : N k = 0
    · obtain ⟨r, Z1, e1, e2, e3⟩ := c_may (d := 59) (m := 0) (s := k) hC hT hL hS hN (by decide) (by omega)
      have hC1 : CT Z1 t T := hC.congr (fun g i a b c d => e3 _ _ _ (by omega))
      have hL1 : CLaw Z1 t F := hL.congr (fun g i a b => e3 _ _ _ (by omega))
      have hS1 : CS Z1 0 N := hS.congr (fun i => e3 _ _ _ (by omega)) (fun i => e3 _ _ _ (by omega)) (fun i => e3 _ _ _ (by omega))
      rw [if_pos h0, e1, Option.bind_some, B117_39, hm, e2]
      by_cases hlt : (q_who T F N k).2 < cn (q_may T F N k : Int)
      · have hc : q_who T F N (k + 1) = ((k : Int), cn (q_may T F N k : Int)) := by rw [q_who, if_pos h0, q_bst, if_pos hlt]
        have ih' := ih (k + 1) r Z1 (some (.inl r)) (by omega) hC1 hL1 hS1 (by rw [hc]; exact e2)
        rw [hc] at ih'
        obtain ⟨r', Z', f1, f2, f3⟩ := ih'
        rw [if_pos hlt]
        exact ⟨r', Z', f1, f2, (kq_cw e3).trans f3⟩
      · have hc : q_who T F N (k + 1) = q_who T F N k := by rw [q_who, if_pos h0, q_bst, if_neg hlt]
        have ih' := ih (k + 1) most Z1 (some (.inl r)) (by omega) hC1 hL1 hS1 (by rw [hc]; exact hm)
        rw [hc] at ih'
        obtain ⟨r', Z', f1, f2, f3⟩ := ih'
        rw [if_neg hlt]
        exact ⟨r', Z', f1, f2, (kq_cw e3).trans f3⟩
    · have hc : q_who T F N (k + 1) = q_who T F N k := by rw [q_who, if_neg h0]
      have ih' := ih (k + 1) most Z o4 (by omega) hC hL hS (by rw [hc]; exact hm)
      rw [hc] at ih'
      rw [if_neg h0]
      exact ih'
theorem m_who2_loop {T : PT} {F : PF} {N : PN} {v : Nat} (hT : TOK T) (hN : NOK N) (t : Nat) : ∀ (j k : Nat) (most : Int) (Z : XZ) (o4 : Option XV), k + j = T 2 0 → MT Z v T → MLaw Z v F → MR Z 94 0 N → cn most = (q_who T F N k).2 → ∃ (r : Int) (Z' : XZ), x_EX 59 233 11 [some (.inr (.inr (some (56, 0)))), some (.inl ((q_who T F N k).1)), some (.inl most), some (.inl ((k : Int))), o4] [] (x_S Z t) = some (r, x_S Z' t) ∧ cn r = cn (q_who T F N (T 2 0)).1 ∧ keepQ Z Z' := by
  have t2 : T 2 0 ≤ 5 := hT.2.2.1
  intro j
  induction j with
  | zero =>
    intro k most Z o4 hk hM hL hR hm
    obtain ⟨hv, h18, ⟨_, _, v2, _, _, _, _⟩, _⟩ := id hM
    obtain rfl : k = T 2 0 := by omega
    rw [B233_11, h18, cn_nt (z := (v : Int)) rfl (by omega), Int.toNat_natCast, v2, if_pos (by omega), if_neg (Int.lt_irrefl _)]
    exact ⟨_, _, rfl, rfl, keepQ.rfl'⟩
  | succ j ih =>
    intro k most Z o4 hk hM hL hR hm
    obtain ⟨hv, h18, ⟨_, _, v2, _, _, _, _⟩, _⟩ := id hM
    have nk := hN.1 k (by omega)
    have rk := hR k (by omega)
    have hwb := q_who_b T F N k
    rw [Nat.zero_add] at rk
    rw [B233_11, h18, cn_nt (z := (v : Int)) rfl (by omega), Int.toNat_natCast, v2, if_pos (by omega), cn_nt (z := (k : Int)) rfl (by omega), cn_nt (z := (T 2 0 : Int)) rfl (by omega), if_pos (by omega), if_pos (by omega), Int.toNat_natCast, rk, cn_id (z := N k) (by omega) (by omega)]
    by_cases h0 : N k = 0
    · obtain ⟨r, Z1, e1, e2, e3⟩ := m_may (d := 59) (s := k) hM hL hR hT hN (by decide) t (by omega)
      have hM1 : MT Z1 v T := hM.congr (fun g i a b => e3 _ _ _ (by unfold wsc; omega)) (e3 _ _ _ (by unfold wsc; omega))
      have hL1 : MLaw Z1 v F := hL.congr (fun g a b => funext fun m => funext fun i => e3 _ _ _ (by unfold wsc; omega))
      have hR1 : MR Z1 94 0 N := hR.congr (fun i => e3 _ _ _ (by unfold wsc; omega))
      have hq : keepQ Z Z1 := fun g m i hs => e3 g m i (by unfold scr at hs; unfold wsc; omega)
      rw [if_pos h0, e1, Option.bind_some, B233_38, hm, e2]
      by_cases hlt : (q_who T F N k).2 < cn (q_may T F N k : Int)
      · have hc : q_who T F N (k + 1) = ((k : Int), cn (q_may T F N k : Int)) := by rw [q_who, if_pos h0, q_bst, if_pos hlt]
        have ih' := ih (k + 1) r Z1 (some (.inl r)) (by omega) hM1 hL1 hR1 (by rw [hc]; exact e2)
        rw [hc] at ih'
        obtain ⟨r', Z', f1, f2, f3⟩ := ih'
        rw [if_pos hlt]
        exact ⟨r', Z', f1, f2, hq.trans f3⟩
      · have hc : q_who T F N (k + 1) = q_who T F N k := by rw [q_who, if_pos h0, q_bst, if_neg hlt]
        have ih' := ih (k + 1) most Z1 (some (.inl r)) (by omega) hM1 hL1 hR1 (by rw [hc]; exact hm)
        rw [hc] at ih'
        obtain ⟨r', Z', f1, f2, f3⟩ := ih'
        rw [if_neg hlt]
        exact ⟨r', Z', f1, f2, hq.trans f3⟩
    · have hc : q_who T F N (k + 1) = q_who T F N k := by rw [q_who, if_neg h0]
      have ih' := ih (k + 1) most Z (some (.inl (-1))) (by omega) hM hL hR (by rw [hc]; exact hm)
      rw [hc] at ih'
      rw [if_neg h0, hm, if_neg (by omega)]
      exact ih'
theorem s31_ok : p_s31 PI := by
  intro Z t ⟨T, F, N, H, K, v, u, nx, h⟩
  obtain ⟨ht, hT, hC, hM, hL, hML, hS, hR, hN, hH, _⟩ := id h
  refine q_one h (X := cn (q_who T F N (T 2 0)).1) ?_ (fun Z1 hI => ?_)
  · obtain ⟨r, Z', f1, f2, f3⟩ := c_who2_loop (t := t) (F := F) hT hN (T 2 0) 0 (-1) Z none (by omega) hC hL hS (show cn (-1) = -1 by decide)
    exact ⟨r, Z', (C117 60 Z t (by decide)).trans f1, f2, f3⟩
  · obtain ⟨Z2, g1, g2, g3, g4, g5, _⟩ := m_crr hI hT hH.2.2.1 (d := 59) (by decide) t
    obtain ⟨r, Z', f1, f2, f3⟩ := m_who2_loop (F := F) hT hN t (T 2 0) 0 (-1) Z2 none (by omega) g2.1 g2.2.1 g3 (show cn (-1) = -1 by decide)
    have m2 := C233 60 Z1 t (by decide)
    rw [g1, Option.bind_some, B233_4] at m2
    exact ⟨r, Z', m2.trans f1, f2, g5.trans f3⟩
