/-! look: the fewest that are left alike -/
def q_m7 (K : Nat → Nat → Nat) (i n : Nat) : Nat := match n with
  | 0 => 0
  | n + 1 => if q_m7 K i n < K i n then K i n else q_m7 K i n
theorem q_m7_ge (K : Nat → Nat → Nat) (i : Nat) : ∀ n c, c < n → K i c ≤ q_m7 K i n := by
  intro n
  induction n with
  | zero => intro c hc; omega
  | succ n ih =>
    intro c hc
    unfold q_m7
    by_cases h : c = n
    · subst h; split <;> omega
    · have := ih c (by omega)
      split <;> omega
theorem q_m7_le {K : Nat → Nat → Nat} {B i : Nat} (h : ∀ c, K i c ≤ B) (n : Nat) : q_m7 K i n ≤ B := by
  induction n with
  | zero => exact Nat.zero_le _
  | succ n ih => unfold q_m7; split; exact h n; exact ih
theorem c_alike {Z : XZ} {K : Nat → Nat → Nat} {i d : Nat} (hK : KC 40 Z K) (hB : ∀ i c, K i c ≤ 256) (h1 : 1 ≤ i) (h2 : i ≤ 8) (hd : 2 ≤ d) (t : Nat) : x_CALL d 18 [.inr (.inr (some (35, 0))), .inl ((i : Int))] (x_S Z t) = some ((q_m7 K i 7 : Int), x_S Z t) := by
  have loop : ∀ (n c : Nat), c + n = 7 → x_EX (d - 1) 18 4 [some (.inr (.inr (some (35, 0)))), some (.inl ((i : Int))), some (.inl ((q_m7 K i c : Int))), some (.inl ((c : Int)))] [] (x_S Z t) = some ((q_m7 K i 7 : Int), x_S Z t) := by
    intro n
    induction n with
    | zero => intro c hc; obtain rfl : c = 7 := by omega
              rw [B18_4, if_neg (by decide)]
    | succ n ih =>
      intro c hc
      have b1 := hB i c
      have b2 := q_m7_le (fun c => hB i c) c
      have ih' := ih (c + 1) (by omega)
      rw [q_m7] at ih'
      rw [B18_4, cn_nt (z := (c : Int)) rfl (by omega), if_pos (by omega), cn_nt (z := (i : Int) * 7 + (c : Int)) (n := 7 * i + c) (by omega) (by omega), if_pos (by omega), Int.toNat_natCast, hK i c h1 h2 (by omega), C260 _ _ _ _ _ (by omega), cn_nt (z := (q_m7 K i c : Int)) rfl (by omega), cn_nt (z := (K i c : Int)) rfl (by omega)]
      by_cases h : q_m7 K i c < K i c
      · rw [if_pos h] at ih'
        rw [if_pos (by omega), Option.bind_some, B18_25]; exact ih'
      · rw [if_neg h] at ih'
        rw [if_neg (by omega), Option.bind_some, B18_25]; exact ih'
  rw [C18 _ _ _ _ (by omega)]
  exact loop 7 0 (by omega)
def q_lk (K : Nat → Nat → Nat) (n : Nat) : Int × Int := match n with
  | 0 => (-2, 0)
  | n + 1 => if 0 < q_m7 K (n + 1) 7 ∧ ((q_lk K n).1 = -2 ∨ (q_m7 K (n + 1) 7 : Int) < (q_lk K n).2) then (((n + 1 : Nat) : Int), (q_m7 K (n + 1) 7 : Int)) else q_lk K n
theorem q_lk_b {K : Nat → Nat → Nat} (hB : ∀ i c, K i c ≤ 256) (n : Nat) (hn : n ≤ 8) : ((q_lk K n).1 = -2 ∨ (1 ≤ (q_lk K n).1 ∧ (q_lk K n).1 ≤ 8)) ∧ 0 ≤ (q_lk K n).2 ∧ (q_lk K n).2 ≤ 256 := by
  induction n with
  | zero => exact ⟨.inl rfl, show (0 : Int) ≤ 0 by decide, show (0 : Int) ≤ 256 by decide⟩
  | succ n ih =>
    have := q_m7_le (fun c => hB (n + 1) c) 7
    unfold q_lk
    split
    · simp only; omega
    · exact ih (by omega)
theorem c_lk_loop {Z : XZ} {K : Nat → Nat → Nat} (hK : KC 40 Z K) (hB : ∀ i c, K i c ≤ 256) (t : Nat) (a1 a2 : Int) : ∀ (r n : Nat) (o6 : Option XV), n + r = 8 → x_EX 59 125 66 [some (.inr (.inr (some (0, 0)))), some (.inl a1), some (.inl a2), some (.inl ((q_lk K n).1)), some (.inl ((q_lk K n).2)), some (.inl (((n + 1 : Nat) : Int))), o6] [] (x_S Z t) = some ((q_lk K 8).1, x_S Z t) := by
  intro r
  induction r with
  | zero => intro n o6 hn; obtain rfl : n = 8 := by omega
            rw [B125_66, if_pos (by decide)]
  | succ r ih =>
    intro n o6 hn
    have b := q_lk_b hB n (by omega)
    have bm := q_m7_le (fun c => hB (n + 1) c) 7
    rw [B125_66, cn_nt (z := ((n + 1 : Nat) : Int)) rfl (by omega), if_neg (by omega), c_alike hK hB (by omega) (by omega) (by decide) t, Option.bind_some, B125_82, cn_nt (z := (q_m7 K (n + 1) 7 : Int)) rfl (by omega), cn_id (z := (q_lk K n).1) (by omega) (by omega), cn_id (z := (q_lk K n).2) (by omega) (by omega)]
    have ih' := ih (n + 1) (some (.inl (q_m7 K (n + 1) 7 : Int))) (by omega)
    rw [q_lk] at ih'
    by_cases h1 : 0 < q_m7 K (n + 1) 7
    · rw [if_pos (by omega)]
      by_cases h2 : (q_lk K n).1 = -2
      · rw [if_pos ⟨h1, .inl h2⟩] at ih'
        rw [if_pos h2]; exact ih'
      · rw [if_neg h2]
        by_cases h3 : (q_m7 K (n + 1) 7 : Int) < (q_lk K n).2
        · rw [if_pos ⟨h1, .inr h3⟩] at ih'
          rw [if_pos h3]; exact ih'
        · rw [if_neg (by omega)] at ih'
          rw [if_neg h3]; exact ih'
    · rw [if_neg (by omega)] at ih'
      rw [if_neg (by omega)]; exact ih'
theorem m_lk_loop {Z : XZ} {K : Nat → Nat → Nat} {cnt : Nat} (hK : KC 106 Z K) (hB : ∀ i c, K i c ≤ 256) (hc0 : 0 < cnt) (hc : cnt ≤ 256) (hpos : ∀ i, 1 ≤ i → i ≤ 8 → 0 < q_m7 K i 7) (t : Nat) (a1 a2 : Int) : ∀ (r n : Nat) (o7 o8 : Option XV), n + r = 8 → x_EX 59 242 132 [some (.inr (.inr (some (56, 0)))), some (.inl a1), some (.inl a2), some (.inl ((cnt : Int))), some (.inl ((q_lk K n).1)), some (.inl ((q_lk K n).2)), some (.inl (((n + 1 : Nat) : Int))), o7, o8] [] (x_S Z t) = some ((q_lk K 8).1, x_S Z t) := by
  intro r
  induction r with
  | zero => intro n o7 o8 hn; obtain rfl : n = 8 := by omega
            rw [B242_132, if_neg (by decide)]
  | succ r ih =>
    intro n o7 o8 hn
    have b := q_lk_b hB n (by omega)
    have bm := q_m7_le (fun c => hB (n + 1) c) 7
    have hp := hpos (n + 1) (by omega) (by omega)
    have loop : ∀ (q c : Nat), c + q = 7 → x_EX 59 242 149 [some (.inr (.inr (some (56, 0)))), some (.inl a1), some (.inl a2), some (.inl ((cnt : Int))), some (.inl ((q_lk K n).1)), some (.inl ((q_lk K n).2)), some (.inl (((n + 1 : Nat) : Int))), some (.inl ((q_m7 K (n + 1) c : Int))), some (.inl ((c : Int)))] [] (x_S Z t) = x_EX 59 242 149 [some (.inr (.inr (some (56, 0)))), some (.inl a1), some (.inl a2), some (.inl ((cnt : Int))), some (.inl ((q_lk K n).1)), some (.inl ((q_lk K n).2)), some (.inl (((n + 1 : Nat) : Int))), some (.inl ((q_m7 K (n + 1) 7 : Int))), some (.inl 7)] [] (x_S Z t) := by
      intro q
      induction q with
      | zero => intro c hc; obtain rfl : c = 7 := by omega
                rfl
      | succ q ih2 =>
        intro c hc
        have b1 := hB (n + 1) c
        have b2 := q_m7_le (fun c => hB (n + 1) c) c
        have ih' := ih2 (c + 1) (by omega)
        rw [q_m7] at ih'
        rw [B242_149, cn_nt (z := (c : Int)) rfl (by omega), if_pos (by omega), cn_nt (z := 7 * ((n + 1 : Nat) : Int) + (c : Int)) (n := 7 * (n + 1) + c) (by omega) (by omega), if_pos (by omega), Int.toNat_natCast, hK (n + 1) c (by omega) (by omega) (by omega), cn_nt (z := (q_m7 K (n + 1) c : Int)) rfl (by omega), cn_nt (z := (K (n + 1) c : Int)) rfl (by omega)]
        by_cases h : q_m7 K (n + 1) c < K (n + 1) c
        · rw [if_pos h] at ih'
          rw [if_pos (by omega), if_pos (by omega)]; exact ih'
        · rw [if_neg h] at ih'
          rw [if_neg (by omega)]; exact ih'
    have l0 := loop 7 0 (by omega)
    have ih' := ih (n + 1) (some (.inl (q_m7 K (n + 1) 7 : Int))) (some (.inl 7)) (by omega)
    rw [q_lk] at ih'
    rw [B242_132, cn_nt (z := ((n + 1 : Nat) : Int)) rfl (by omega), if_pos (by omega), cn_nt (z := (cnt : Int)) rfl (by omega), if_pos (by omega)]
    refine l0.trans ?_
    rw [B242_149, if_neg (by decide), cn_id (z := (q_lk K n).1) (by omega) (by omega), cn_id (z := (q_lk K n).2) (by omega) (by omega), cn_nt (z := (q_m7 K (n + 1) 7 : Int)) rfl (by omega)]
    by_cases h2 : (q_lk K n).1 = -2
    · rw [if_pos ⟨hp, .inl h2⟩] at ih'
      rw [if_pos (by omega)]; exact ih'
    · rw [if_neg (by omega)]
      by_cases h3 : (q_m7 K (n + 1) 7 : Int) < (q_lk K n).2
      · rw [if_pos ⟨hp, .inr h3⟩] at ih'
        rw [if_pos h3]; exact ih'
      · rw [if_neg (by omega)] at ih'
        rw [if_neg h3]; exact ih'
theorem q_lk_0 {K : Nat → Nat → Nat} (h : ∀ i, q_m7 K i 7 = 0) (n : Nat) : q_lk K n = (-2, 0) := by
  induction n with
  | zero => rfl
  | succ n ih => rw [q_lk, if_neg (fun x => by have := h (n + 1); omega)]; exact ih
theorem s39_ok : p_s39 PI := by
  intro a b ha hb Z t ⟨T, F, N, H, K, v, u, nx, h⟩
  obtain ⟨ht, hT, hC, hM, hL, hML, hS, hR, hN, hH, hK, hNI, hTI⟩ := id h
  obtain ⟨A, q, q20, n2, n3, hA, hZc, hZm⟩ := hNI.na
  have t0 : T 0 0 ≤ 7 := hT.1
  have c1 := C125 60 Z t a b (by decide)
  rw [c_hasS hC hT (by decide), Option.bind_some, B125_23, cn_id ha.1 ha.2, cn_id hb.1 hb.2, n2, cn_nt (z := (q : Int)) rfl (by omega)] at c1
  have m1 : ∀ Z1 : XZ, Z1 56 0 70 = (q : Int) → x_CALL 60 242 [.inr (.inr (some (56, 0))), .inl a, .inl b] (x_S Z1 t) = _ := fun Z1 y => by rw [C242 60 Z1 t a b (by decide), y, m_in (by decide), Option.bind_some, B242_9, cn_id ha.1 ha.2, cn_id (z := 0) (by decide) (by decide), cn_nt (z := (q : Int)) rfl (by omega)]
  by_cases h0 : 0 ≤ a ∧ a ≤ (q : Int)
  case neg =>
    have m2 := m1 Z n3
    rw [if_pos (ite_00 _ h0)] at m2
    by_cases g : a < 0
    · rw [if_pos g] at c1; exact p_fin h c1 keepQ.rfl' m2 keepQ.rfl' rfl
    · rw [if_neg g, if_pos (by omega)] at c1; exact p_fin h c1 keepQ.rfl' m2 keepQ.rfl' rfl
  obtain ⟨k, rfl⟩ := Int.eq_ofNat_of_zero_le h0.1
  rw [if_neg (by omega), if_neg (by omega)] at c1
  have m3 : ∀ Z1 : XZ, Z1 56 0 70 = (q : Int) → MT Z1 v T → x_CALL 60 242 [.inr (.inr (some (56, 0))), .inl ((k : Int)), .inl b] (x_S Z1 t) = _ := fun Z1 y hM1 => by rw [m1 Z1 y, if_neg (ite_01 _ h0), m_isS hM1 hT (by decide), Option.bind_some, B242_17, cn_id hb.1 hb.2]
  by_cases h1 : 0 ≤ b ∧ b < (T 2 0 : Int)
  case neg =>
    have m2 := m3 Z n3 hM
    rw [if_pos (ite_00 _ h1)] at c1 m2; exact p_fin h c1 keepQ.rfl' m2 keepQ.rfl' rfl
  obtain ⟨s, rfl⟩ := Int.eq_ofNat_of_zero_le h1.1
  have hs : s < T 2 0 := by omega
  rw [if_neg (ite_01 _ h1)] at c1
  -- the counts
  have hKB : ∀ i c, q_sl (q_gk A T F N s k i c) (List.range 256) ≤ 256 := fun i c => by
    have := q_sl_le (g := q_gk A T F N s k i c) (B := 1) (fun m => by unfold q_gk; split <;> omega) (List.range 256)
    rw [List.length_range] at this; omega
  have hKr : ∀ i c, q_sl (q_gk A T F N s k i c) (w_rows T F N s 8) = q_sl (q_gk A T F N s k i c) (List.range 256) := fun i c => q_sl_rows (fun m hm => by unfold q_gk; rw [if_neg]; rintro ⟨x, _⟩; unfold w_fit at x; simp [hm] at x)
  -- the class
  obtain ⟨Z0, e1, hG, e3⟩ := c_all (d := 59) (m := 0) hC hT hL hS hN (by decide) hs
  have kf : ∀ g m i, g ≠ 40 → x_fil Z0 40 0 63 0 g m i = Z0 g m i := fun g m i hg => x_fil_ne (by omega)
  obtain ⟨Z1, f1, f2, f3⟩ := c_tly_loop (A := A) (F := F) (k := k) (q := q) hT hs hA q20 (by omega) t (w_rows T F N s 8).length 0 (x_fil Z0 40 0 63 0) (fun _ _ => 0) none (by omega) ⟨hG.1.congr (fun g m i hg => kf _ _ _ (by omega)), (kf _ _ _ (by omega)).trans hG.2.1, fun i hi => (hG.2.2 i hi).congr (fun g a b => kf _ _ _ (by omega))⟩ (by rw [kf _ _ _ (by omega), e3 _ _ _ (by omega)]; exact n2) (fun j hj => by rw [kf 36 _ _ (by omega), kf 37 _ _ (by omega), kf 38 _ _ (by omega), kf 39 _ _ (by omega), e3 36 _ _ (by omega), e3 37 _ _ (by omega), e3 38 _ _ (by omega), e3 39 _ _ (by omega)]; exact hZc j hj) (fun i c x1 x2 x3 => x_fil_in (by omega))
  have hK1 : KC 40 Z1 (fun i c => q_sl (q_gk A T F N s k i c) (List.range 256)) := fun i c x1 x2 x3 => by
    rw [f2 i c x1 x2 x3]
    exact congrArg (fun x : Nat => (x : Int)) (by show 0 + q_sl (q_gk A T F N s k i c) ((w_rows T F N s 8).drop 0) = _; rw [Nat.zero_add, List.drop_zero, hKr])
  have f4 := c_lk_loop hK1 hKB t (k : Int) (s : Int) 8 0 none (by omega)
  have ct : x_CALL 59 17 [.inr (.inr (some (35, 0))), .inl ((k : Int)), .inl ((s : Int)), .inr (.inr (some (41, 0)))] (x_S Z0 t) = some (0, x_S Z1 t) := by
    rw [C17 _ _ _ _ _ (by decide), c_fill40 (by decide), Option.bind_some, B17_8]; exact f1
  rw [e1, Option.bind_some, B125_44, ct, Option.bind_some, B125_57] at c1
  have hq1 : keepQ Z Z1 := fun g m i hs => by
    unfold scr at hs
    rw [f3 g m i (by omega), kf g m i (by omega)]; exact e3 g m i (by omega)
  -- the model
  have hI := h.mi.congr (fun g m i _ _ hs => hq1 g m i hs)
  obtain ⟨Z2, g1, hE, g3⟩ := m_cps hI hT hN hH.2.2.1 (d := 59) (by decide) t (s := s) hs
  have hq2 := hq1.trans g3
  have fl : ∀ (r j : Nat), j + r = 63 → x_EX 59 242 29 [some (.inr (.inr (some (56, 0)))), some (.inl ((k : Int))), some (.inl ((s : Int))), some (.inl ((j : Int))), none, none, none, none, none] [] (x_S (x_fil Z2 106 0 j 0) t) = x_EX 59 242 53 [some (.inr (.inr (some (56, 0)))), some (.inl ((k : Int))), some (.inl ((s : Int))), some (.inl 0), some (.inl 0), none, none, none, none] [] (x_S (x_fil Z2 106 0 63 0) t) := by
    intro r
    induction r with
    | zero => intro j hj; obtain rfl : j = 63 := by omega
              rw [B242_29, if_neg (by decide)]
    | succ r ih =>
      intro j hj
      rw [B242_29, cn_nt (z := (j : Int)) rfl (by omega), if_pos (by omega), if_pos (by omega), Int.toNat_natCast, x_fil_succ]
      exact ih (j + 1) (by omega)
  have fl0 := fl 63 0 (by omega)
  rw [x_fil_0] at fl0
  have kf2 : ∀ g m i, g ≠ 106 → x_fil Z2 106 0 63 0 g m i = Z2 g m i := fun g m i hg => x_fil_ne (by omega)
  obtain ⟨Z3, i1, i2, i3⟩ := m_tly_loop (A := A) (k := k) (q := q) hT hs hA q20 (by omega) t none none none 256 0 0 (x_fil Z2 106 0 63 0) (fun _ _ => 0) none (by omega) (hE.congr' kf2) (fun j hj => by rw [kf2 102 _ _ (by omega), kf2 103 _ _ (by omega), kf2 104 _ _ (by omega), kf2 105 _ _ (by omega), hq2 102 _ _ (by unfold scr; omega), hq2 103 _ _ (by unfold scr; omega), hq2 104 _ _ (by unfold scr; omega), hq2 105 _ _ (by unfold scr; omega)]; exact hZm j hj) (fun i c x1 x2 x3 => x_fil_in (by omega))
  have hK3 : KC 106 Z3 (fun i c => q_sl (q_gk A T F N s k i c) (List.range 256)) := fun i c x1 x2 x3 => by
    rw [i2 i c x1 x2 x3]
    exact congrArg (fun x : Nat => (x : Int)) (by show 0 + q_sl (q_gk A T F N s k i c) (List.range' 0 256) = _; rw [Nat.zero_add, range_sl])
  have hq3 : keepQ Z1 Z3 := fun g m i hs => by
    rw [i3 g m i (by unfold scr at hs; unfold wsc; omega), kf2 g m i (by unfold scr at hs; omega)]; exact g3 g m i hs
  have m2 := m3 Z1 ((hq1 _ _ _ (by unfold scr; omega)).trans n3) hI.1
  rw [if_neg (ite_01 _ h1), g1, Option.bind_some, B242_27] at m2
  have m4 := (m2.trans fl0).trans i1
  rw [Nat.zero_add] at m4
  generalize hcnt : q_sl (fun m => if w_fit A T F N s k m = true then 1 else 0) (List.range' 0 256) = cnt at m4
  have hcl : cnt ≤ 256 := by
    have := q_sl_le (g := fun m => if w_fit A T F N s k m = true then 1 else 0) (B := 1) (fun m => by show (if _ then 1 else 0) ≤ 1; split <;> omega) (List.range' 0 256)
    rw [List.length_range'] at this; omega
  by_cases hc0 : cnt = 0
  · have hz : ∀ m, m ∈ List.range' 0 256 → ¬ w_fit A T F N s k m = true := fun m hm hf => by
      have := (q_sl_zero _ _).1 (hcnt.trans hc0) m hm
      simp only [if_pos hf] at this
      exact absurd this (by decide)
    have hK0 : ∀ i c, q_sl (q_gk A T F N s k i c) (List.range 256) = 0 := fun i c => by
      rw [← range_sl, q_sl_zero]
      intro m hm; unfold q_gk; rw [if_neg (fun x => hz m hm x.1)]
    have hm0 : ∀ i, q_m7 (fun i c => q_sl (q_gk A T F N s k i c) (List.range 256)) i 7 = 0 := fun i => Nat.le_zero.1 (q_m7_le (K := fun i c => q_sl (q_gk A T F N s k i c) (List.range 256)) (B := 0) (fun c => by rw [hK0 i c]; exact Nat.le_refl 0) 7)
    rw [hc0, B242_132, if_pos (by decide), if_neg (by decide)] at m4
    exact p_fin h (c1.trans f4) hq1 m4 hq3 (by rw [q_lk_0 hm0])
  · have hex : ∃ m, m ∈ List.range' 0 256 ∧ w_fit A T F N s k m = true := by
      by_cases hx : ∃ m, m ∈ List.range' 0 256 ∧ w_fit A T F N s k m = true
      · exact hx
      · refine absurd ((q_sl_zero _ _).2 (fun m hm => ?_)) (hcnt ▸ hc0)
        show (if w_fit A T F N s k m = true then 1 else 0) = 0
        rw [if_neg (fun hf => hx ⟨m, hm, hf⟩)]
    obtain ⟨m, hm, hf⟩ := hex
    have hpos : ∀ i, 1 ≤ i → i ≤ 8 → 0 < q_m7 (fun i c => q_sl (q_gk A T F N s k i c) (List.range 256)) i 7 := fun i _ _ => by
      have hat := w_at_lt (N := N) (set := m) hT hs i
      have h1 := q_m7_ge (fun i c => q_sl (q_gk A T F N s k i c) (List.range 256)) i 7 (w_at T N s m i) (by omega)
      have h2 : q_sl (q_gk A T F N s k i (w_at T N s m i)) (List.range 256) ≠ 0 := fun h0 => by
        rw [← range_sl] at h0
        have := (q_sl_zero _ _).1 h0 m hm
        unfold q_gk at this
        rw [if_pos ⟨hf, rfl⟩] at this
        exact absurd this (by decide)
      exact Nat.lt_of_lt_of_le (Nat.pos_of_ne_zero h2) h1
    have m5 := m_lk_loop hK3 hKB (Nat.pos_of_ne_zero hc0) hcl hpos t (k : Int) (s : Int) 8 0 none none (by omega)
    exact p_fin h (c1.trans f4) hq1 (m4.trans m5) hq3 rfl
