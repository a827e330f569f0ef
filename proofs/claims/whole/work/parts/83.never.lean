/-! never, span -/
theorem never_tab : ∀ n : Fin 8, ∀ x : Fin 128, x_and (x_shl 1 ((n.val : Nat) : Int) - 1) (x_xor ((x.val : Nat) : Int) (-1)) = ((q_bs (fun c => decide (¬ x.val / 2 ^ c % 2 = 1)) n.val : Nat) : Int) := by decide +kernel
def q_or (T : PT) (N : PN) (s : Nat) (L : List Nat) : Nat := match L with
  | [] => 0
  | a :: L => w_co T N s a 8 ||| q_or T N s L
theorem q_or_lt {T : PT} {N : PN} {s : Nat} (hT : TOK T) (hs : s < T 2 0) (L : List Nat) : q_or T N s L < 2 ^ 7 := by
  induction L with
  | nil => show 0 < 128; decide
  | cons a L ih => exact Nat.or_lt_two_pow (w_co_lt hT hs 8) ih
theorem bit_iff (x c : Nat) : x / 2 ^ c % 2 = 1 ↔ x.testBit c = true := by
  rw [Nat.testBit_eq_decide_div_mod_eq]; simp
theorem q_or_bit (T : PT) (N : PN) (s c : Nat) (L : List Nat) : q_or T N s L / 2 ^ c % 2 = 1 ↔ ∃ m, m ∈ L ∧ w_co T N s m 8 / 2 ^ c % 2 = 1 := by
  induction L with
  | nil =>
    constructor
    · intro h; rw [q_or, Nat.zero_div] at h; exact absurd h (by decide)
    · rintro ⟨m, h, _⟩; cases h
  | cons a L ih =>
    rw [bit_iff, q_or, Nat.testBit_or, Bool.or_eq_true, ← bit_iff, ← bit_iff, ih]
    constructor
    · rintro (h | ⟨m, h1, h2⟩)
      · exact ⟨a, List.mem_cons_self .., h⟩
      · exact ⟨m, List.mem_cons_of_mem _ h1, h2⟩
    · rintro ⟨m, h1, h2⟩
      rcases List.mem_cons.1 h1 with rfl | h1
      · exact .inl h2
      · exact .inr ⟨m, h1, h2⟩
theorem q_sl_zero (g : Nat → Nat) (L : List Nat) : q_sl g L = 0 ↔ ∀ m, m ∈ L → g m = 0 := by
  induction L with
  | nil => constructor
           · intro _ m h; cases h
           · intro _; rfl
  | cons a L ih =>
    rw [q_sl]
    constructor
    · intro h m hm
      rcases List.mem_cons.1 hm with rfl | hm
      · omega
      · exact ih.1 (by omega) m hm
    · intro h
      have h1 := h a (List.mem_cons_self ..)
      have h2 := ih.2 (fun m hm => h m (List.mem_cons_of_mem _ hm))
      omega
theorem q_sl_le {g : Nat → Nat} {B : Nat} (hg : ∀ m, g m ≤ B) (L : List Nat) : q_sl g L ≤ L.length * B := by
  induction L with
  | nil => exact Nat.zero_le _
  | cons a L ih => rw [q_sl, List.length_cons, Nat.succ_mul]; have := hg a; omega
theorem q_bs_congr {p q : Nat → Bool} (n : Nat) (h : ∀ i, i < n → p i = q i) : q_bs p n = q_bs q n := by
  induction n with
  | zero => rfl
  | succ n ih => rw [q_bs, q_bs, ih (fun i hi => h i (by omega)), h n (by omega)]
theorem rows_ca {T : PT} {F : PF} {N : PN} {s m : Nat} (h : m ∈ w_rows T F N s 8) : m < 256 ∧ w_ca T F N s m 8 ≠ 0 := by
  have h1 := (w_rows_perm T F N s 8).mem_iff.1 h
  obtain ⟨h2, h3⟩ := List.mem_filter.1 h1
  exact ⟨List.mem_range.1 h2, by unfold w_ok at h3; simpa using h3⟩
theorem never_eq {T : PT} {F : PF} {N : PN} {s c : Nat} : (q_sl (q_gp T F N s c) (List.range 256) = 0) ↔ ¬ q_or T N s (w_rows T F N s 8) / 2 ^ c % 2 = 1 := by
  rw [← q_sl_rows (T := T) (F := F) (N := N) (s := s) (fun m hm => by unfold q_gp; split; exact hm; rfl), q_sl_zero, q_or_bit]
  constructor
  · rintro h ⟨m, h1, h2⟩
    have := h m h1
    unfold q_gp at this
    rw [if_pos h2] at this
    exact (rows_ca h1).2 this
  · intro h m hm
    unfold q_gp
    rw [if_neg (fun e => h ⟨m, hm, e⟩)]
theorem q_gp_b (T : PT) (F : PF) (N : PN) (s c : Nat) : q_sl (q_gp T F N s c) (List.range 256) < 2147483648 := by
  have h1 : ∀ m, q_gp T F N s c m ≤ 65536 := fun m => by
    have := w_ca_le T F N s m 8
    unfold q_gp; split <;> omega
  have h2 := q_sl_le h1 (List.range 256)
  rw [List.length_range] at h2
  omega
theorem c_nev_loop {T : PT} {F : PF} {N : PN} {Z0 : XZ} {s : Nat} (hT : TOK T) (hs : s < T 2 0) (hG : GR T F N s 8 Z0) {t : Nat} (hC : CT Z0 t T) : ∀ (j n acc : Nat), n + j = (w_rows T F N s 8).length → acc < 2 ^ 7 → x_EX 59 104 33 [some (.inr (.inr (some (0, 0)))), some (.inl ((s : Int))), some (.inl ((acc : Int))), some (.inl ((n : Int)))] [] (x_S Z0 t) = some (((q_bs (fun c => decide (¬ (acc ||| q_or T N s ((w_rows T F N s 8).drop n)) / 2 ^ c % 2 = 1)) (T 0 0) : Nat) : Int), x_S Z0 t) := by
  have t0 : T 0 0 ≤ 7 := hT.1
  have hr8 := w_rows_len T F N s 8
  intro j
  induction j with
  | zero =>
    intro n acc hn ha
    obtain rfl : n = (w_rows T F N s 8).length := by omega
    rw [B104_33, hG.2.1, if_neg (Int.lt_irrefl _), hC.1 0 (by omega), List.drop_length, q_or, Nat.or_zero]
    have := never_tab ⟨T 0 0, by omega⟩ ⟨acc, by omega⟩
    rw [this]
  | succ j ih =>
    intro n acc hn ha
    have hnR : n < (w_rows T F N s 8).length := by omega
    have hRn := hG.2.2 n hnR
    have hco := w_co_lt (N := N) (set := (w_rows T F N s 8).getD n 0) hT hs 8
    have e : (w_rows T F N s 8).drop n = (w_rows T F N s 8).getD n 0 :: (w_rows T F N s 8).drop (n + 1) := by rw [List.drop_eq_getElem_cons hnR, List.getD_eq_getElem?_getD, List.getElem?_eq_getElem hnR]; rfl
    rw [B104_33, hG.2.1, cn_nt (z := (n : Int)) rfl (by omega), cn_nt (z := ((w_rows T F N s 8).length : Int)) rfl (by omega), if_pos (by omega), if_pos (by omega), Int.toNat_natCast, hRn.1.2.2.2.2.1, x_or_nat (by omega) (by omega), e, q_or, ← Nat.or_assoc]
    exact ih (n + 1) _ (by omega) (Nat.or_lt_two_pow ha hco)
theorem m_nev_loop {T : PT} {F : PF} {N : PN} {v s : Nat} (hT : TOK T) (hs : s < T 2 0) (t : Nat) : ∀ (j k : Nat) (Z : XZ), k + j = T 0 0 → ME T F N s v Z → ∃ Z' : XZ, x_EX 59 221 19 [some (.inr (.inr (some (56, 0)))), some (.inl ((s : Int))), some (.inl ((q_bs (fun c => decide (q_sl (q_gp T F N s c) (List.range 256) = 0)) k : Int))), some (.inl ((k : Int)))] [] (x_S Z t) = some ((q_bs (fun c => decide (q_sl (q_gp T F N s c) (List.range 256) = 0)) (T 0 0) : Int), x_S Z' t) ∧ kM Z Z' := by
  have t0 : T 0 0 ≤ 7 := hT.1
  intro j
  induction j with
  | zero =>
    intro k Z hk hE
    obtain ⟨hv, h18, ⟨v0, _⟩, _⟩ := id hE.1
    obtain rfl : k = T 0 0 := by omega
    rw [B221_19, h18, cn_nt (z := (v : Int)) rfl (by omega), Int.toNat_natCast, v0, if_pos (by omega), if_neg (Int.lt_irrefl _)]
    exact ⟨Z, rfl, fun _ _ _ _ => rfl⟩
  | succ j ih =>
    intro k Z hk hE
    obtain ⟨hv, h18, ⟨v0, _⟩, _⟩ := id hE.1
    have hgb := q_gp_b T F N s k
    obtain ⟨r, Z1, e1, e2, e3⟩ := m_pass (c := k) hT hs hE (by omega) t
    obtain ⟨Z2, f1, f2⟩ := ih (k + 1) Z1 (by omega) (hE.congr e3)
    rw [q_bs] at f1
    rw [B221_19, h18, cn_nt (z := (v : Int)) rfl (by omega), Int.toNat_natCast, v0, if_pos (by omega), cn_nt (z := (k : Int)) rfl (by omega), cn_nt (z := (T 0 0 : Int)) rfl (by omega), if_pos (by omega), e1, Option.bind_some, B221_38, e2, cn_nt (z := (q_sl (q_gp T F N s k) (List.range 256) : Int)) rfl hgb]
    by_cases hz : q_sl (q_gp T F N s k) (List.range 256) = 0
    · rw [if_pos (by simp [hz])] at f1
      rw [if_pos (by omega), q_bs_or (by omega)]
      exact ⟨Z2, f1, fun g m i hg => (f2 g m i hg).trans (e3 g m i hg)⟩
    · rw [if_neg (by simp [hz])] at f1
      rw [if_neg (by omega)]
      exact ⟨Z2, f1, fun g m i hg => (f2 g m i hg).trans (e3 g m i hg)⟩
theorem s20_ok : p_s20 PI := by
  intro a ha Z t ⟨T, F, N, H, K, v, u, nx, h⟩
  obtain ⟨ht, hT, hC, hM, hL, hML, hS, hR, hN, hH, _⟩ := id h
  have c1 := C104 60 Z t a (by decide)
  rw [c_hasS hC hT (by decide), Option.bind_some, B104_8, cn_id ha.1 ha.2] at c1
  have m1 : ∀ Z1, MT Z1 v T → x_CALL 60 221 [.inr (.inr (some (56, 0))), .inl a] (x_S Z1 t) = _ := fun Z1 hM1 => by rw [C221 60 Z1 t a (by decide), m_isS hM1 hT (by decide), Option.bind_some, B221_5, cn_id ha.1 ha.2]
  by_cases h1 : 0 ≤ a ∧ a < (T 2 0 : Int)
  case neg =>
    have m2 := m1 Z hM
    rw [if_pos (ite_00 _ h1)] at c1 m2; exact p_fin h c1 keepQ.rfl' m2 keepQ.rfl' rfl
  obtain ⟨s, rfl⟩ := Int.eq_ofNat_of_zero_le h1.1
  have hs : s < T 2 0 := by omega
  refine q_one h (X := cn (q_bs (fun c => decide (q_sl (q_gp T F N s c) (List.range 256) = 0)) (T 0 0) : Int)) ?_ (fun Z1 hI => ?_)
  · obtain ⟨Z0, e1, hG, e3⟩ := c_all (d := 59) (m := 0) hC hT hL hS hN (by decide) hs
    have f1 := c_nev_loop hT hs hG (hC.congr (fun g i a b c d => e3 _ _ _ (by omega))) (w_rows T F N s 8).length 0 0 (by omega) (by decide)
    rw [if_neg (ite_01 _ h1), e1, Option.bind_some, B104_29] at c1
    refine ⟨_, Z0, c1.trans f1, ?_, kq_cw e3⟩
    rw [q_bs_congr (p := fun c => decide (¬ (0 ||| q_or T N s ((w_rows T F N s 8).drop 0)) / 2 ^ c % 2 = 1)) (q := fun c => decide (q_sl (q_gp T F N s c) (List.range 256) = 0)) (T 0 0) (fun i _ => by rw [Nat.zero_or, List.drop_zero]; exact decide_eq_decide.2 never_eq.symm)]
  · obtain ⟨Z2, g1, hE, g3⟩ := m_cps hI hT hN hH.2.2.1 (d := 59) (by decide) t (s := s) hs
    obtain ⟨Z', f1, f2⟩ := m_nev_loop hT hs t (T 0 0) 0 Z2 (by omega) hE
    have m2 := m1 Z1 hI.1
    rw [if_neg (ite_01 _ h1), g1, Option.bind_some, B221_15] at m2
    exact ⟨_, Z', m2.trans f1, rfl, g3.trans (kq_kM f2)⟩
