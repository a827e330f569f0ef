/-! the laws told: what they say is read alike on both sides -/
def x_fil (Z : XZ) (g m n : Nat) (a : Int) : XZ := fun g' m' i => if g' = g ∧ m' = m ∧ i < n then a else Z g' m' i
theorem x_fil_0 (Z : XZ) (g m : Nat) (a : Int) : x_fil Z g m 0 a = Z := by funext g' m' i; unfold x_fil; rw [if_neg (by omega)]
theorem x_fil_in {Z : XZ} {g m n i : Nat} {a : Int} (h : i < n) : x_fil Z g m n a g m i = a := by unfold x_fil; rw [if_pos ⟨rfl, rfl, h⟩]
theorem x_fil_ne {Z : XZ} {g m n g' m' i : Nat} {a : Int} (h : ¬ (g' = g ∧ m' = m ∧ i < n)) : x_fil Z g m n a g' m' i = Z g' m' i := by unfold x_fil; rw [if_neg h]
theorem x_fil_succ (Z : XZ) (g m k : Nat) (a : Int) : x_u (x_fil Z g m k a) g m k a = x_fil Z g m (k + 1) a := by
  funext g' m' i
  unfold x_u x_fil
  by_cases h1 : g' = g ∧ m' = m ∧ i = k
  · rw [if_pos h1, if_pos (by omega)]
  · rw [if_neg h1]
    by_cases h2 : g' = g ∧ m' = m ∧ i < k
    · rw [if_pos h2, if_pos (by omega)]
    · rw [if_neg h2, if_neg (by omega)]
theorem c_fill16_loop {Z : XZ} {d : Nat} (t : Nat) (m : Nat) (a : Int) : ∀ (n k : Nat), k + n = 4 → x_EX d 247 5 [some (.inr (.inr (some (16, m)))), some (.inl a), some (.inl ((k : Int))), some (.inl ((4 : Int)))] [] (x_S (x_fil Z 16 m k a) t) = some (0, x_S (x_fil Z 16 m 4 a) t) := by
  intro n
  induction n with
  | zero => intro k hk; obtain rfl : k = 4 := by omega
            rw [B247_5_g16, if_neg (by decide)]
  | succ n ih =>
    intro k hk
    rw [B247_5_g16, cn_nt (z := (k : Int)) rfl (by omega), cn_id (z := 4) (by decide) (by decide), if_pos (by omega), if_pos (by omega), Int.toNat_natCast, x_fil_succ]
    exact ih (k + 1) (by omega)
theorem c_fill16 {Z : XZ} {d : Nat} (hd : 1 ≤ d) (t : Nat) (m : Nat) (a : Int) : x_CALL d 247 [.inr (.inr (some (16, m))), .inl a] (x_S Z t) = some (0, x_S (x_fil Z 16 m 4 a) t) := by
  rw [C247_g16 _ _ _ _ _ (by omega)]
  have := c_fill16_loop (d := d - 1) (Z := Z) t m a 4 0 (by omega)
  rw [x_fil_0] at this
  exact this
theorem c_fill14_loop {Z : XZ} {d : Nat} (t : Nat) (m : Nat) (a : Int) : ∀ (n k : Nat), k + n = 7 → x_EX d 247 5 [some (.inr (.inr (some (14, m)))), some (.inl a), some (.inl ((k : Int))), some (.inl ((7 : Int)))] [] (x_S (x_fil Z 14 m k a) t) = some (0, x_S (x_fil Z 14 m 7 a) t) := by
  intro n
  induction n with
  | zero => intro k hk; obtain rfl : k = 7 := by omega
            rw [B247_5_g14, if_neg (by decide)]
  | succ n ih =>
    intro k hk
    rw [B247_5_g14, cn_nt (z := (k : Int)) rfl (by omega), cn_id (z := 7) (by decide) (by decide), if_pos (by omega), if_pos (by omega), Int.toNat_natCast, x_fil_succ]
    exact ih (k + 1) (by omega)
theorem c_fill14 {Z : XZ} {d : Nat} (hd : 1 ≤ d) (t : Nat) (m : Nat) (a : Int) : x_CALL d 247 [.inr (.inr (some (14, m))), .inl a] (x_S Z t) = some (0, x_S (x_fil Z 14 m 7 a) t) := by
  rw [C247_g14 _ _ _ _ _ (by omega)]
  have := c_fill14_loop (d := d - 1) (Z := Z) t m a 7 0 (by omega)
  rw [x_fil_0] at this
  exact this
theorem c_fill20_loop {Z : XZ} {d : Nat} (t : Nat) (m : Nat) (a : Int) : ∀ (n k : Nat), k + n = 9 → x_EX d 247 5 [some (.inr (.inr (some (20, m)))), some (.inl a), some (.inl ((k : Int))), some (.inl ((9 : Int)))] [] (x_S (x_fil Z 20 m k a) t) = some (0, x_S (x_fil Z 20 m 9 a) t) := by
  intro n
  induction n with
  | zero => intro k hk; obtain rfl : k = 9 := by omega
            rw [B247_5_g20, if_neg (by decide)]
  | succ n ih =>
    intro k hk
    rw [B247_5_g20, cn_nt (z := (k : Int)) rfl (by omega), cn_id (z := 9) (by decide) (by decide), if_pos (by omega), if_pos (by omega), Int.toNat_natCast, x_fil_succ]
    exact ih (k + 1) (by omega)
theorem c_fill20 {Z : XZ} {d : Nat} (hd : 1 ≤ d) (t : Nat) (m : Nat) (a : Int) : x_CALL d 247 [.inr (.inr (some (20, m))), .inl a] (x_S Z t) = some (0, x_S (x_fil Z 20 m 9 a) t) := by
  rw [C247_g20 _ _ _ _ _ (by omega)]
  have := c_fill20_loop (d := d - 1) (Z := Z) t m a 9 0 (by omega)
  rw [x_fil_0] at this
  exact this
theorem c_fill21_loop {Z : XZ} {d : Nat} (t : Nat) (m : Nat) (a : Int) : ∀ (n k : Nat), k + n = 7 → x_EX d 247 5 [some (.inr (.inr (some (21, m)))), some (.inl a), some (.inl ((k : Int))), some (.inl ((7 : Int)))] [] (x_S (x_fil Z 21 m k a) t) = some (0, x_S (x_fil Z 21 m 7 a) t) := by
  intro n
  induction n with
  | zero => intro k hk; obtain rfl : k = 7 := by omega
            rw [B247_5_g21, if_neg (by decide)]
  | succ n ih =>
    intro k hk
    rw [B247_5_g21, cn_nt (z := (k : Int)) rfl (by omega), cn_id (z := 7) (by decide) (by decide), if_pos (by omega), if_pos (by omega), Int.toNat_natCast, x_fil_succ]
    exact ih (k + 1) (by omega)
theorem c_fill21 {Z : XZ} {d : Nat} (hd : 1 ≤ d) (t : Nat) (m : Nat) (a : Int) : x_CALL d 247 [.inr (.inr (some (21, m))), .inl a] (x_S Z t) = some (0, x_S (x_fil Z 21 m 7 a) t) := by
  rw [C247_g21 _ _ _ _ _ (by omega)]
  have := c_fill21_loop (d := d - 1) (Z := Z) t m a 7 0 (by omega)
  rw [x_fil_0] at this
  exact this
theorem c_fill22_loop {Z : XZ} {d : Nat} (t : Nat) (m : Nat) (a : Int) : ∀ (n k : Nat), k + n = 7 → x_EX d 247 5 [some (.inr (.inr (some (22, m)))), some (.inl a), some (.inl ((k : Int))), some (.inl ((7 : Int)))] [] (x_S (x_fil Z 22 m k a) t) = some (0, x_S (x_fil Z 22 m 7 a) t) := by
  intro n
  induction n with
  | zero => intro k hk; obtain rfl : k = 7 := by omega
            rw [B247_5_g22, if_neg (by decide)]
  | succ n ih =>
    intro k hk
    rw [B247_5_g22, cn_nt (z := (k : Int)) rfl (by omega), cn_id (z := 7) (by decide) (by decide), if_pos (by omega), if_pos (by omega), Int.toNat_natCast, x_fil_succ]
    exact ih (k + 1) (by omega)
theorem c_fill22 {Z : XZ} {d : Nat} (hd : 1 ≤ d) (t : Nat) (m : Nat) (a : Int) : x_CALL d 247 [.inr (.inr (some (22, m))), .inl a] (x_S Z t) = some (0, x_S (x_fil Z 22 m 7 a) t) := by
  rw [C247_g22 _ _ _ _ _ (by omega)]
  have := c_fill22_loop (d := d - 1) (Z := Z) t m a 7 0 (by omega)
  rw [x_fil_0] at this
  exact this
theorem c_fill30_loop {Z : XZ} {d : Nat} (t : Nat) (m : Nat) (a : Int) : ∀ (n k : Nat), k + n = 5 → x_EX d 247 5 [some (.inr (.inr (some (30, m)))), some (.inl a), some (.inl ((k : Int))), some (.inl ((5 : Int)))] [] (x_S (x_fil Z 30 m k a) t) = some (0, x_S (x_fil Z 30 m 5 a) t) := by
  intro n
  induction n with
  | zero => intro k hk; obtain rfl : k = 5 := by omega
            rw [B247_5_g30, if_neg (by decide)]
  | succ n ih =>
    intro k hk
    rw [B247_5_g30, cn_nt (z := (k : Int)) rfl (by omega), cn_id (z := 5) (by decide) (by decide), if_pos (by omega), if_pos (by omega), Int.toNat_natCast, x_fil_succ]
    exact ih (k + 1) (by omega)
theorem c_fill30 {Z : XZ} {d : Nat} (hd : 1 ≤ d) (t : Nat) (m : Nat) (a : Int) : x_CALL d 247 [.inr (.inr (some (30, m))), .inl a] (x_S Z t) = some (0, x_S (x_fil Z 30 m 5 a) t) := by
  rw [C247_g30 _ _ _ _ _ (by omega)]
  have := c_fill30_loop (d := d - 1) (Z := Z) t m a 5 0 (by omega)
  rw [x_fil_0] at this
  exact this
theorem c_fill40_loop {Z : XZ} {d : Nat} (t : Nat) (a : Int) : ∀ (n k : Nat), k + n = 63 → x_EX d 247 5 [some (.inr (.inr (some (40, 0)))), some (.inl a), some (.inl ((k : Int))), some (.inl ((63 : Int)))] [] (x_S (x_fil Z 40 0 k a) t) = some (0, x_S (x_fil Z 40 0 63 a) t) := by
  intro n
  induction n with
  | zero => intro k hk; obtain rfl : k = 63 := by omega
            rw [B247_5_g40, if_neg (by decide)]
  | succ n ih =>
    intro k hk
    rw [B247_5_g40, cn_nt (z := (k : Int)) rfl (by omega), cn_id (z := 63) (by decide) (by decide), if_pos (by omega), if_pos (by omega), Int.toNat_natCast, x_fil_succ]
    exact ih (k + 1) (by omega)
theorem c_fill40 {Z : XZ} {d : Nat} (hd : 1 ≤ d) (t : Nat) (a : Int) : x_CALL d 247 [.inr (.inr (some (40, 0))), .inl a] (x_S Z t) = some (0, x_S (x_fil Z 40 0 63 a) t) := by
  rw [C247_g40 _ _ _ _ (by omega)]
  have := c_fill40_loop (d := d - 1) (Z := Z) t a 63 0 (by omega)
  rw [x_fil_0] at this
  exact this
def q_raw (a0 a1 a3 a5 a6 a8 : Int) (N : PN) (i : Nat) : Int := if i = 0 then a0 else if i = 1 then a1 else if i = 2 then N 12 else if i = 3 then a3 else if i = 4 then N 13 else if i = 5 then a5 else if i = 6 then a6 else if i = 7 then (if N 15 < 0 then 0 else 1) else a8
def q_env (a0 a1 a3 a5 a6 a8 : Int) (N : PN) : Nat → Int := fun i => if i < 9 then cn (q_raw a0 a1 a3 a5 a6 a8 N i) else 0
theorem q_va_env {Z : XZ} {g m : Nat} {a0 a1 a3 a5 a6 a8 : Int} {N : PN} (h : ∀ i, i < 9 → cn (Z g m i) = cn (q_raw a0 a1 a3 a5 a6 a8 N i)) : q_va Z g m = q_env a0 a1 a3 a5 a6 a8 N := by
  funext i
  unfold q_va q_env
  by_cases hi : i < 9
  · rw [if_pos hi, if_pos hi]; exact h i hi
  · rw [if_neg hi, if_neg hi]
def q_eqv (N M : PN) : Prop := (∀ k, k ≠ 12 → N k = M k) ∧ cn (N 12) = cn (M 12)
theorem q_eqv.env {N M : PN} (h : q_eqv N M) (a0 a1 a3 a5 a6 a8 : Int) : q_env a0 a1 a3 a5 a6 a8 N = q_env a0 a1 a3 a5 a6 a8 M := by
  funext i
  unfold q_env q_raw
  rw [h.1 13 (by decide), h.1 15 (by decide)]
  by_cases h9 : i < 9
  · rw [if_pos h9, if_pos h9]
    by_cases h2 : i = 2
    · subst h2; exact h.2
    · rw [if_neg h2, if_neg h2]
  · rw [if_neg h9, if_neg h9]
theorem q_eqv.sg {N M : PN} (h : q_eqv N M) {c : Nat} (hc : c < 7) : q_sg N c = q_sg M c := by unfold q_sg; rw [h.1 (5 + c) (by omega)]
theorem q_eqv.refl (N : PN) : q_eqv N N := ⟨fun _ _ => rfl, rfl⟩
theorem q_eqv.symm {N M : PN} (h : q_eqv N M) : q_eqv M N := ⟨fun k hk => (h.1 k hk).symm, h.2.symm⟩
theorem CS.eqv {Z : XZ} {m : Nat} {N M : PN} (hS : CS Z m N) (h : q_eqv N M) : CS Z m M := by
  obtain ⟨h1, h2, h3, h4, h5, h6⟩ := hS
  refine ⟨fun c hc => by rw [h1 c hc, h.sg hc], fun s hs => by rw [h2 s hs, h.1 s (by omega)], by rw [h3, h.1 13 (by decide)], by rw [h4, h.2], by rw [h5, h.1 15 (by decide)], by rw [h6, h.1 14 (by decide)]⟩
theorem NOK.eqv {N M : PN} (hN : NOK N) (h : q_eqv N M) : NOK M := by
  obtain ⟨h1, h2, h3, h4⟩ := hN
  refine ⟨fun s hs => by rw [← h.1 s (by omega)]; exact h1 s hs, fun c hc => by rw [← h.1 (5 + c) (by omega)]; exact h2 c hc, by rw [← h.2]; exact h3, by rw [← h.1 15 (by decide)]; exact h4⟩
def q_cl (z m : Int) : Int := if z < 0 then 0 else if m < z then m else z
theorem q_cl_b {z m : Int} (hm : 0 ≤ m) : 0 ≤ q_cl z m ∧ q_cl z m ≤ m := by unfold q_cl; split <;> (try split) <;> omega
theorem c_within {Z : XZ} {d : Nat} (hd : 1 ≤ d) (t : Nat) (a : Int) {m : Int} (h1 : -2147483648 ≤ m) (h2 : m < 2147483648) : ∃ r, x_CALL d 131 [.inl a, .inl m] (x_S Z t) = some (r, x_S Z t) ∧ cn r = q_cl (cn a) m := by
  rw [C131 _ _ _ _ _ (by omega), cn_id h1 h2]
  unfold q_cl
  by_cases k1 : cn a < 0
  · rw [if_pos k1, if_pos k1]; exact ⟨_, rfl, cn_0⟩
  · rw [if_neg k1, if_neg k1]
    by_cases k2 : m < cn a
    · rw [if_pos k2, if_pos k2]; exact ⟨_, rfl, cn_id h1 h2⟩
    · rw [if_neg k2, if_neg k2]; exact ⟨_, rfl, rfl⟩
theorem m_within {Z : XZ} {d : Nat} (hd : 1 ≤ d) (t : Nat) (a : Int) {m : Int} (h1 : -2147483648 ≤ m) (h2 : m < 2147483648) : ∃ r, x_CALL d 169 [.inl a, .inl 0, .inl m] (x_S Z t) = some (r, x_S Z t) ∧ cn r = q_cl (cn a) m := by
  rw [C169 _ _ _ _ _ _ (by omega), cn_id h1 h2, cn_0]
  unfold q_cl
  by_cases k1 : cn a < 0
  · rw [if_pos k1, if_pos k1]; exact ⟨_, rfl, cn_0⟩
  · rw [if_neg k1, if_neg k1]
    by_cases k2 : m < cn a
    · rw [if_pos k2, if_pos k2]; exact ⟨_, rfl, cn_id h1 h2⟩
    · rw [if_neg k2, if_neg k2]; exact ⟨_, rfl, rfl⟩
theorem c_scene {Z : XZ} {d m : Nat} {N : PN} (hd : 2 ≤ d) (t t' : Nat) (hS : CS Z m N) (hN : NOK N) : ∃ Z' : XZ, x_CALL d 10 [.inr (.inr (some (15, t))), .inr (.inr (some (28, m)))] (x_S Z t') = some (0, x_S Z' t') ∧ (∀ i, i < 9 → Z' 20 t i = if i = 2 then Z 28 m 1 else if i = 4 then N 13 else if i = 7 then (if N 15 < 0 then 0 else 1) else 0) ∧ ∀ g m' i, ¬ (g = 20 ∧ m' = t) → Z' g m' i = Z g m' i := by
  have h15 := hN.2.2.2
  rw [C10 _ _ _ _ _ (by omega), c_fill20 (by omega), Option.bind_some, B10_8, C42 _ _ _ _ (by omega), x_u_ne (g' := 28) (by omega), x_u_ne (g' := 28) (by omega), x_fil_ne (g' := 28) (by omega), x_fil_ne (g' := 28) (by omega), x_fil_ne (g' := 28) (by omega), hS.2.2.2.2.1, hS.2.2.1, cn_id (z := N 15) (by omega) (by omega)]
  by_cases hs : N 15 = -2
  · rw [if_pos hs, Option.bind_some, B10_38, if_pos cn_0, cn_id (z := 7) (by decide) (by decide), if_pos (by decide)]
    refine ⟨_, rfl, ?_, ?_⟩
    · intro i hi
      rw [if_pos (by omega : N 15 < 0)]
      by_cases i7 : i = 7
      · subst i7; exact x_u_eq
      · rw [x_u_ne (by omega)]
        by_cases i4 : i = 4
        · subst i4; rw [x_u_eq]; simp
        · rw [x_u_ne (by omega)]
          by_cases i2 : i = 2
          · subst i2; rw [x_u_eq]; simp
          · rw [x_u_ne (by omega), x_fil_in hi, if_neg i2, if_neg i4, if_neg i7]
    · intro g m' i hg
      rw [x_u_ne (by omega), x_u_ne (by omega), x_u_ne (by omega), x_fil_ne (by omega)]
  · rw [if_neg hs, Option.bind_some, B10_38, if_neg cn_1n, cn_id (z := 7) (by decide) (by decide), if_pos (by decide)]
    refine ⟨_, rfl, ?_, ?_⟩
    · intro i hi
      rw [if_neg (by omega : ¬ N 15 < 0)]
      by_cases i7 : i = 7
      · subst i7; exact x_u_eq
      · rw [x_u_ne (by omega)]
        by_cases i4 : i = 4
        · subst i4; rw [x_u_eq]; simp
        · rw [x_u_ne (by omega)]
          by_cases i2 : i = 2
          · subst i2; rw [x_u_eq]; simp
          · rw [x_u_ne (by omega), x_fil_in hi, if_neg i2, if_neg i4, if_neg i7]
    · intro g m' i hg
      rw [x_u_ne (by omega), x_u_ne (by omega), x_u_ne (by omega), x_fil_ne (by omega)]
theorem c_set {Z : XZ} {d : Nat} (hd : 1 ≤ d) (t t' k : Nat) (hk : k < 9) (a : Int) : x_CALL d 11 [.inr (.inr (some (15, t))), .inl ((k : Int)), .inl a] (x_S Z t') = some (0, x_S (x_u Z 20 t k a) t') := by
  rw [C11 _ _ _ _ _ _ (by omega), cn_nt (z := (k : Int)) rfl (by omega), if_pos (by omega), Int.toNat_natCast]
def q_st (T : PT) (F : PF) (N : PN) (s c : Nat) : Int := if q_dg T c = 0 then 0 else match F 0 with
  | none => 1
  | some f => q_cl (f (q_env (T 7 s) (T 3 c) (T 6 (q_at T c (q_sg N c))) (q_dg T c) s 0 N)) 4
def q_am (T : PT) (F : PF) (N : PN) (s : Nat) (mi : Int) (k : Nat) : Int := match F k with
  | none => mi
  | some f => q_cl (f (q_env (T 7 s) 0 0 0 s mi N)) 999
theorem q_at_lt {T : PT} {c p : Nat} (h : q_dg T c ≠ 0) : q_at T c p < T 1 0 := by
  have hlt : p % q_dg T c < (q_ln T c).length := Nat.mod_lt _ (by unfold q_dg at h ⊢; omega)
  unfold q_at
  have : (q_ln T c).getD (p % q_dg T c) 0 ∈ q_ln T c := by
    rw [List.getD_eq_getElem?_getD, List.getElem?_eq_getElem hlt]
    exact List.getElem_mem _
  unfold q_ln q_lu at this
  have := (List.mem_filter.1 this).1
  exact List.mem_range.1 this
theorem c_toldN {Z : XZ} {t : Nat} {F : PF} {d k : Nat} (hL : CLaw Z t F) (hd : 1 ≤ d) (t' : Nat) (hk : k < 4) (hF : F k = none) : x_CALL d 9 [.inr (.inr (some (15, t))), .inl ((k : Int))] (x_S Z t') = some (0, x_S Z t') := by
  obtain ⟨h1, h2⟩ := hL k hk
  rw [C9 _ _ _ _ _ (by omega), cn_nt (z := (k : Int)) rfl (by omega), if_pos (by omega), Int.toNat_natCast, h1 hF, if_pos (by decide)]
theorem c_toldS {Z : XZ} {t : Nat} {F : PF} {d k : Nat} {f : (Nat → Int) → Int} (hL : CLaw Z t F) (hd : 1 ≤ d) (t' : Nat) (hk : k < 4) (hF : F k = some f) : x_CALL d 9 [.inr (.inr (some (15, t))), .inl ((k : Int))] (x_S Z t') = some (1, x_S Z t') := by
  obtain ⟨h1, h2⟩ := hL k hk
  rw [C9 _ _ _ _ _ (by omega), cn_nt (z := (k : Int)) rfl (by omega), if_pos (by omega), Int.toNat_natCast, if_neg (h2 f hF).1]
theorem c_quart {T : PT} {F : PF} {N : PN} {Z : XZ} {t : Nat} {d m s c : Nat} (hC : CT Z t T) (hT : TOK T) (hL : CLaw Z t F) (hS : CS Z m N) (hN : NOK N) (hd : 4 ≤ d) (hs : s < T 2 0) (hc : c < T 0 0) : ∃ (r : Int) (Z' : XZ), x_CALL d 62 [.inr (.inr (some (7, t))), .inr (.inr (some (28, m))), .inl ((s : Int)), .inl ((c : Int))] (x_S Z t) = some (r, x_S Z' t) ∧ cn r = q_st T F N s c ∧ ∀ g m i, ¬ (g = 19 ∨ g = 20) → Z' g m i = Z g m i := by
  have t0 : T 0 0 ≤ 7 := hT.1
  have t1 : T 1 0 ≤ 10 := hT.2.1
  have t2 : T 2 0 ≤ 5 := hT.2.2.1
  have n1 := hN.2.1 c (by omega)
  have hsg : q_sg N c ≤ 9 := by unfold q_sg; omega
  rw [C62 _ _ _ _ _ _ _ (by omega), cn_nt (z := (c : Int)) rfl (by omega), if_pos (by omega), Int.toNat_natCast, hS.1 c (by omega), c_laneAt hC hT (by omega) t hc (by omega), Option.bind_some, B62_11]
  unfold q_st
  by_cases h0 : q_dg T c = 0
  · rw [if_pos h0, if_pos h0, if_pos (show cn (-1) = -1 by decide)]
    exact ⟨_, _, rfl, cn_0, fun _ _ _ _ => rfl⟩
  have hat := q_at_lt (p := q_sg N c) h0
  rw [if_neg h0, if_neg h0, cn_nt (z := (q_at T c (q_sg N c) : Int)) rfl (by omega), if_neg (by omega), show (0 : Int) = ((0 : Nat) : Int) from rfl]
  cases hF : F 0 with
  | none =>
    rw [c_toldN hL (by omega) t (by decide) hF, Option.bind_some, B62_29, if_pos cn_0]
    exact ⟨_, _, rfl, cn_id (by decide) (by decide), fun _ _ _ _ => rfl⟩
  | some f =>
    obtain ⟨Z1, e1, e2, e3⟩ := c_scene (d := d - 1) (by omega) t t hS hN
    rw [c_toldS hL (by omega) t (by decide) hF, Option.bind_some, B62_29, if_neg cn_1n, e1, Option.bind_some, B62_42, cn_nt (z := (s : Int)) rfl (by omega), if_pos (by omega), Int.toNat_natCast, show (0 : Int) = ((0 : Nat) : Int) from rfl, c_set (by omega) t t 0 (by decide), Option.bind_some]
    rw [B62_56, cn_nt (z := (c : Int)) rfl (by omega), if_pos (by omega), Int.toNat_natCast, show (1 : Int) = ((1 : Nat) : Int) from rfl, c_set (by omega) t t 1 (by decide), Option.bind_some]
    rw [B62_70, cn_nt (z := (q_at T c (q_sg N c) : Int)) rfl (by omega), if_pos (by omega), Int.toNat_natCast, show (3 : Int) = ((3 : Nat) : Int) from rfl, c_set (by omega) t t 3 (by decide), Option.bind_some]
    rw [B62_85, cn_nt (z := (c : Int)) rfl (by omega), if_pos (by omega), Int.toNat_natCast, show (5 : Int) = ((5 : Nat) : Int) from rfl, c_set (by omega) t t 5 (by decide), Option.bind_some]
    rw [B62_99, show (6 : Int) = ((6 : Nat) : Int) from rfl, c_set (by omega) t t 6 (by decide), Option.bind_some, B62_109]
    rw [x_u_ne (g' := 8) (by omega), x_u_ne (g' := 11) (by omega), x_u_ne (g' := 11) (by omega), x_u_ne (g' := 21) (by omega), x_u_ne (g' := 21) (by omega), x_u_ne (g' := 21) (by omega), e3 12 _ _ (by omega), e3 8 _ _ (by omega), e3 11 _ _ (by omega), e3 21 _ _ (by omega), (hC.2.2.2.1 s hs).1, (hC.2.1 c hc).1, (hC.2.1 c hc).2.1, (hC.2.2.1 _ hat).2.2]
    generalize hZ2 : x_u (x_u (x_u (x_u (x_u Z1 20 t 0 (T 7 s : Int)) 20 t 1 (T 3 c : Int)) 20 t 3 (T 6 (q_at T c (q_sg N c)) : Int)) 20 t 5 (q_dg T c : Int)) 20 t 6 (s : Int) = Z2
    have k2 : ∀ g m i, ¬ (g = 20 ∧ m = t) → Z2 g m i = Z g m i := fun g m i hg => by rw [← hZ2, x_u_ne (by omega), x_u_ne (by omega), x_u_ne (by omega), x_u_ne (by omega), x_u_ne (by omega)]; exact e3 g m i hg
    obtain ⟨r, Z3, f1, f2, f3⟩ := ((hL 0 (by decide)).2 f hF).2 Z2 t (d - 1) (by omega) (funext fun i => k2 _ _ _ (by omega)) (funext fun i => k2 _ _ _ (by omega)) (funext fun i => k2 _ _ _ (by omega)) (funext fun i => k2 _ _ _ (by omega))
    obtain ⟨r', w1, w2⟩ := c_within (Z := Z3) (d := d - 1) (by omega) t r (m := 4) (by decide) (by decide)
    have he : q_va Z2 20 t = q_env (T 7 s) (T 3 c) (T 6 (q_at T c (q_sg N c))) (q_dg T c) s 0 N := q_va_env fun i hi => by
      have h4 := hS.2.2.2.1
      have e2' := e2 i hi
      have : i = 0 ∨ i = 1 ∨ i = 2 ∨ i = 3 ∨ i = 4 ∨ i = 5 ∨ i = 6 ∨ i = 7 ∨ i = 8 := by omega
      rcases this with rfl | rfl | rfl | rfl | rfl | rfl | rfl | rfl | rfl <;> simp [← hZ2, x_u, q_raw, e2', h4]
    refine ⟨r', Z3, ?_, ?_, ?_⟩
    · rw [show (0 : Int) = ((0 : Nat) : Int) from rfl, f1, Option.bind_some, B62_117, w1, Option.bind_some, B62_121]
    · rw [w2, f3, he]; rfl
    · intro g m i hg
      rw [f2 g m i (by omega)]; exact k2 _ _ _ (by omega)
theorem c_miles {T : PT} {F : PF} {N : PN} {Z : XZ} {t : Nat} {d m s k mi : Nat} (hC : CT Z t T) (hT : TOK T) (hL : CLaw Z t F) (hS : CS Z m N) (hN : NOK N) (hd : 4 ≤ d) (hs : s < T 2 0) (hk : k < 4) (hm : mi < 1000) : ∃ (r : Int) (Z' : XZ), x_CALL d 63 [.inr (.inr (some (7, t))), .inl ((k : Int)), .inr (.inr (some (28, m))), .inl ((s : Int)), .inl ((mi : Int))] (x_S Z t) = some (r, x_S Z' t) ∧ cn r = q_am T F N s mi k ∧ ∀ g m i, ¬ (g = 19 ∨ g = 20) → Z' g m i = Z g m i := by
  have t2 : T 2 0 ≤ 5 := hT.2.2.1
  rw [C63 _ _ _ _ _ _ _ _ (by omega)]
  unfold q_am
  cases hF : F k with
  | none =>
    rw [c_toldN hL (by omega) t hk hF, Option.bind_some, B63_8, if_pos cn_0]
    exact ⟨_, _, rfl, cn_nt rfl (by omega), fun _ _ _ _ => rfl⟩
  | some f =>
    obtain ⟨Z1, e1, e2, e3⟩ := c_scene (d := d - 1) (by omega) t t hS hN
    rw [c_toldS hL (by omega) t hk hF, Option.bind_some, B63_8, if_neg cn_1n, e1, Option.bind_some, B63_22, cn_nt (z := (s : Int)) rfl (by omega), if_pos (by omega), Int.toNat_natCast, show (0 : Int) = ((0 : Nat) : Int) from rfl, c_set (by omega) t t 0 (by decide), Option.bind_some]
    rw [B63_36, show (8 : Int) = ((8 : Nat) : Int) from rfl, c_set (by omega) t t 8 (by decide), Option.bind_some]
    rw [B63_47, show (6 : Int) = ((6 : Nat) : Int) from rfl, c_set (by omega) t t 6 (by decide), Option.bind_some, B63_57]
    rw [e3 12 _ _ (by omega), (hC.2.2.2.1 s hs).1]
    generalize hZ2 : x_u (x_u (x_u Z1 20 t 0 (T 7 s : Int)) 20 t 8 (mi : Int)) 20 t 6 (s : Int) = Z2
    have k2 : ∀ g m i, ¬ (g = 20 ∧ m = t) → Z2 g m i = Z g m i := fun g m i hg => by rw [← hZ2, x_u_ne (by omega), x_u_ne (by omega), x_u_ne (by omega)]; exact e3 g m i hg
    obtain ⟨r, Z3, f1, f2, f3⟩ := ((hL k hk).2 f hF).2 Z2 t (d - 1) (by omega) (funext fun i => k2 _ _ _ (by omega)) (funext fun i => k2 _ _ _ (by omega)) (funext fun i => k2 _ _ _ (by omega)) (funext fun i => k2 _ _ _ (by omega))
    obtain ⟨r', w1, w2⟩ := c_within (Z := Z3) (d := d - 1) (by omega) t r (m := 999) (by decide) (by decide)
    have he : q_va Z2 20 t = q_env (T 7 s) 0 0 0 s mi N := q_va_env fun i hi => by
      have h4 := hS.2.2.2.1
      have e2' := e2 i hi
      have : i = 0 ∨ i = 1 ∨ i = 2 ∨ i = 3 ∨ i = 4 ∨ i = 5 ∨ i = 6 ∨ i = 7 ∨ i = 8 := by omega
      rcases this with rfl | rfl | rfl | rfl | rfl | rfl | rfl | rfl | rfl <;> simp [← hZ2, x_u, q_raw, e2', h4]
    refine ⟨r', Z3, ?_, ?_, ?_⟩
    · rw [f1, Option.bind_some, B63_65, w1, Option.bind_some, B63_71]
    · rw [w2, f3, he]; rfl
    · intro g m i hg
      rw [f2 g m i (by omega)]; exact k2 _ _ _ (by omega)
def q_fg (F : PF) (N : PN) : Int := match F 3 with
  | none => cn (N 12)
  | some f => q_cl (f (q_env 0 0 0 0 0 0 N)) 9
def q_dn (F : PF) (N : PN) : PN := q_nu (q_nu N 12 (q_fg F N)) 13 (N 13 + 1)
theorem q_eqv.fg {F : PF} {N M : PN} (h : q_eqv N M) : q_fg F N = q_fg F M := by unfold q_fg; rw [h.2, h.env]
theorem q_eqv.dn {F : PF} {N M : PN} (h : q_eqv N M) : q_eqv (q_dn F N) (q_dn F M) := by
  unfold q_dn
  rw [h.fg]
  constructor
  · intro k hk
    by_cases h3 : k = 13
    · subst h3; rw [q_nu_eq, q_nu_eq, h.1 13 (by decide)]
    · rw [q_nu_ne h3, q_nu_ne h3, q_nu_ne hk, q_nu_ne hk]; exact h.1 k hk
  · rw [q_nu_ne (by decide), q_nu_eq, q_nu_ne (by decide), q_nu_eq]
theorem q_fg_b {F : PF} {N : PN} (hN : NOK N) : 0 ≤ q_fg F N ∧ q_fg F N ≤ 9 := by
  unfold q_fg
  split
  · exact hN.2.2.1
  · exact q_cl_b (by decide)
theorem NOK.dn {F : PF} {N : PN} (hN : NOK N) : NOK (q_dn F N) := by
  have hb := q_fg_b (F := F) hN
  unfold q_dn
  exact (hN.up (by omega) (by omega) (fun _ => by rw [cn_id (by omega) (by omega)]; exact hb) (by omega)).up (by omega) (by omega) (by omega) (by omega)
theorem CS.up0 {Z : XZ} {m : Nat} {N : PN} {a : Int} (h : CS Z m N) : CS (x_u Z 28 m 0 a) m (q_nu N 13 a) := by
  obtain ⟨h1, h2, h3, h4, h5, h6⟩ := h
  refine ⟨?_, ?_, ?_, ?_, ?_, ?_⟩
  · intro j hj; unfold q_sg; rw [x_u_ne (by omega), q_nu_ne (by omega)]; exact h1 j hj
  · intro j hj; rw [x_u_ne (by omega), q_nu_ne (by omega)]; exact h2 j hj
  · rw [x_u_eq, q_nu_eq]
  · rw [x_u_ne (by omega), q_nu_ne (by omega)]; exact h4
  · rw [x_u_ne (by omega), q_nu_ne (by omega)]; exact h5
  · rw [x_u_ne (by omega), q_nu_ne (by omega)]; exact h6
theorem q_nu_cn (N : PN) : q_eqv N (q_nu N 12 (cn (N 12))) := ⟨fun k hk => (q_nu_ne hk).symm, by rw [q_nu_eq, cn_cn]⟩
theorem c_day {F : PF} {N : PN} {Z : XZ} {t : Nat} {d m : Nat} (hL : CLaw Z t F) (hS : CS Z m N) (hN : NOK N) (hd : 4 ≤ d) : ∃ Z' : XZ, x_CALL d 64 [.inr (.inr (some (7, t))), .inr (.inr (some (28, m)))] (x_S Z t) = some (0, x_S Z' t) ∧ CS Z' m (q_dn F N) ∧ ∀ g m' i, ¬ (g = 19 ∨ g = 20) → ¬ (g = 28 ∧ m' = m) → Z' g m' i = Z g m' i := by
  rw [C64 _ _ _ _ _ (by omega), show (3 : Int) = ((3 : Nat) : Int) from rfl]
  unfold q_dn q_fg
  cases hF : F 3 with
  | none =>
    rw [c_toldN hL (by omega) t (by decide) hF, Option.bind_some, B64_8, if_pos cn_0]
    refine ⟨_, rfl, ?_, fun g m' i a b => x_u_ne (by omega)⟩
    rw [hS.2.2.1]
    have := (hS.eqv (q_nu_cn N)).up0 (a := N 13 + 1)
    exact this
  | some f =>
    obtain ⟨Z1, e1, e2, e3⟩ := c_scene (d := d - 1) (by omega) t t hS hN
    rw [c_toldS hL (by omega) t (by decide) hF, Option.bind_some, B64_8, if_neg cn_1n, e1, Option.bind_some, B64_19]
    obtain ⟨r, Z3, f1, f2, f3⟩ := ((hL 3 (by decide)).2 f hF).2 Z1 t (d - 1) (by omega) (funext fun i => e3 _ _ _ (by omega)) (funext fun i => e3 _ _ _ (by omega)) (funext fun i => e3 _ _ _ (by omega)) (funext fun i => e3 _ _ _ (by omega))
    obtain ⟨r', w1, w2⟩ := c_within (Z := Z3) (d := d - 1) (by omega) t r (m := 9) (by decide) (by decide)
    have he : q_va Z1 20 t = q_env 0 0 0 0 0 0 N := q_va_env fun i hi => by
      have h4 := hS.2.2.2.1
      have e2' := e2 i hi
      have : i = 0 ∨ i = 1 ∨ i = 2 ∨ i = 3 ∨ i = 4 ∨ i = 5 ∨ i = 6 ∨ i = 7 ∨ i = 8 := by omega
      rcases this with rfl | rfl | rfl | rfl | rfl | rfl | rfl | rfl | rfl <;> simp [q_raw, e2', h4]
    rw [show (3 : Int) = ((3 : Nat) : Int) from rfl, f1, Option.bind_some, B64_28, w1, Option.bind_some, B64_33]
    have kz : ∀ g m' i, ¬ (g = 19 ∨ g = 20) → Z3 g m' i = Z g m' i := fun g m' i hg => by rw [f2 g m' i (by omega)]; exact e3 _ _ _ (by omega)
    have hS3 : CS Z3 m N := hS.congr (fun i => kz _ _ _ (by omega)) (fun i => kz _ _ _ (by omega)) (fun i => kz _ _ _ (by omega))
    have hcl := q_cl_b (z := f (q_env 0 0 0 0 0 0 N)) (m := 9) (by decide)
    refine ⟨_, rfl, ?_, fun g m' i a b => by rw [x_u_ne (by omega), x_u_ne (by omega)]; exact kz g m' i a⟩
    rw [x_u_ne (by omega), kz 28 m 0 (by omega), hS.2.2.1]
    have hS4 := hS3.up1 (a := r') (b := q_cl (f (q_env 0 0 0 0 0 0 N)) 9) (by rw [w2, f3, he, cn_id (by omega) (by omega)])
    exact hS4.up0 (a := N 13 + 1)
theorem m_looks_loop {Z : XZ} {d : Nat} (t : Nat) : ∀ (n k : Nat), k + n = 9 → x_EX d 186 2 [some (.inr (.inr (some (56, 0)))), some (.inl ((k : Int)))] [] (x_S (x_fil Z 91 0 k 0) t) = x_EX d 186 2 [some (.inr (.inr (some (56, 0)))), some (.inl 9)] [] (x_S (x_fil Z 91 0 9 0) t) := by
  intro n
  induction n with
  | zero => intro k hk; obtain rfl : k = 9 := by omega
            rfl
  | succ n ih =>
    intro k hk
    rw [B186_2, cn_nt (z := (k : Int)) rfl (by omega), if_pos (by omega), if_pos (by omega), Int.toNat_natCast, x_fil_succ]
    exact ih (k + 1) (by omega)
theorem m_looks {Z : XZ} {d : Nat} {N : PN} (hd : 1 ≤ d) (t : Nat) (hR : MR Z 94 0 N) (hN : NOK N) : ∃ Z' : XZ, x_CALL d 186 [.inr (.inr (some (56, 0)))] (x_S Z t) = some (0, x_S Z' t) ∧ (∀ i, i < 9 → Z' 91 0 i = if i = 2 then N 12 else if i = 4 then N 13 else if i = 7 then (if N 15 < 0 then 0 else 1) else 0) ∧ ∀ g m' i, g ≠ 91 → Z' g m' i = Z g m' i := by
  have h15 := hN.2.2.2
  have a15 := hR 15 (by decide)
  have a12 := hR 12 (by decide)
  have a13 := hR 13 (by decide)
  rw [Nat.zero_add] at a15 a12 a13
  have lp := m_looks_loop (Z := Z) (d := d - 1) t 9 0 (by omega)
  rw [x_fil_0] at lp
  have lp' : x_CALL d 186 [.inr (.inr (some (56, 0)))] (x_S Z t) = _ := (C186 _ _ _ (by omega)).trans lp
  rw [B186_2, if_neg (by decide), x_fil_ne (g' := 94) (by omega), x_fil_ne (g' := 94) (by omega), x_fil_ne (g' := 94) (by omega), a15, a12, a13, cn_id (z := N 15) (by omega) (by omega)] at lp'
  rw [lp']
  by_cases hs : N 15 < 0
  · rw [if_pos hs]
    refine ⟨_, rfl, ?_, ?_⟩
    · intro i hi
      by_cases i7 : i = 7
      · subst i7; rw [x_u_eq]; simp [hs]
      · rw [x_u_ne (by omega)]
        by_cases i4 : i = 4
        · subst i4; rw [x_u_eq]; simp
        · rw [x_u_ne (by omega)]
          by_cases i2 : i = 2
          · subst i2; rw [x_u_eq]; simp
          · rw [x_u_ne (by omega), x_fil_in hi, if_neg i2, if_neg i4, if_neg i7]
    · intro g m' i hg
      rw [x_u_ne (by omega), x_u_ne (by omega), x_u_ne (by omega), x_fil_ne (by omega)]
  · rw [if_neg hs]
    refine ⟨_, rfl, ?_, ?_⟩
    · intro i hi
      by_cases i7 : i = 7
      · subst i7; rw [x_u_eq]; simp [hs]
      · rw [x_u_ne (by omega)]
        by_cases i4 : i = 4
        · subst i4; rw [x_u_eq]; simp
        · rw [x_u_ne (by omega)]
          by_cases i2 : i = 2
          · subst i2; rw [x_u_eq]; simp
          · rw [x_u_ne (by omega), x_fil_in hi, if_neg i2, if_neg i4, if_neg i7]
    · intro g m' i hg
      rw [x_u_ne (by omega), x_u_ne (by omega), x_u_ne (by omega), x_fil_ne (by omega)]
theorem m_looksBy {Z : XZ} {v : Nat} {T : PT} {d s : Nat} {N : PN} (hM : MT Z v T) (hT : TOK T) (hd : 2 ≤ d) (t : Nat) (hR : MR Z 94 0 N) (hN : NOK N) (hs : s < T 2 0) : ∃ Z' : XZ, x_CALL d 187 [.inr (.inr (some (56, 0))), .inl ((s : Int))] (x_S Z t) = some (0, x_S Z' t) ∧ (∀ i, i < 9 → Z' 91 0 i = if i = 0 then (T 7 s : Int) else if i = 6 then (s : Int) else if i = 2 then N 12 else if i = 4 then N 13 else if i = 7 then (if N 15 < 0 then 0 else 1) else 0) ∧ ∀ g m' i, g ≠ 91 → Z' g m' i = Z g m' i := by
  have t2 : T 2 0 ≤ 5 := hT.2.2.1
  have hv := hM.1
  obtain ⟨Z1, e1, e2, e3⟩ := m_looks (Z := Z) (d := d - 1) (by omega) t hR hN
  rw [C187 _ _ _ _ (by omega), e1, Option.bind_some, B187_4, e3 56 _ _ (by decide), hM.2.1, cn_nt (z := 5 * (v : Int) + (s : Int)) (n := 5 * v + s) (by omega) (by omega), if_pos (by omega), Int.toNat_natCast, e3 75 _ _ (by decide), (hM.2.2.2.2.2.1 s hs).1]
  refine ⟨_, rfl, ?_, fun g m' i hg => by rw [x_u_ne (by omega), x_u_ne (by omega)]; exact e3 g m' i hg⟩
  intro i hi
  by_cases i6 : i = 6
  · subst i6; rw [x_u_eq]; simp
  · rw [x_u_ne (by omega)]
    by_cases i0 : i = 0
    · subst i0; rw [x_u_eq]; simp
    · rw [x_u_ne (by omega), if_neg i0, if_neg i6]; exact e2 i hi
theorem MR.k {Z Z' : XZ} {g o : Nat} {N : PN} (h : MR Z g o N) (hk : ∀ i, Z' g 0 i = Z g 0 i) : MR Z' g o N := h.congr hk
theorem m_lawN {Z : XZ} {v : Nat} {F : PF} {k : Nat} {d : Nat} (hL : MLaw Z v F) (h18 : Z 56 0 18 = (v : Int)) (hv : v < 2) (hk : k < 4) (hF : F k = none) (hd : 1 ≤ d) (t : Nat) (p : Int) : x_CALL d 185 [.inr (.inr (some (56, 0))), .inl ((k : Int)), .inl p] (x_S Z t) = some (p, x_S Z t) := by
  have e := (hL k hk).1 hF
  rw [C185 _ _ _ _ _ (by omega), h18, cn_nt (z := 4 * (v : Int) + (k : Int)) (n := 4 * v + k) (by omega) (by omega), Int.toNat_natCast, if_pos (by omega), if_pos (by omega), e, if_pos rfl]
theorem m_lawS {Z : XZ} {v : Nat} {F : PF} {k : Nat} {d : Nat} {f : (Nat → Int) → Int} (hL : MLaw Z v F) (h18 : Z 56 0 18 = (v : Int)) (hk : k < 4) (hF : F k = some f) (hd : 3 ≤ d) (t : Nat) (p : Int) : ∃ (r : Int) (Z'' : XZ), x_CALL d 185 [.inr (.inr (some (56, 0))), .inl ((k : Int)), .inl p] (x_S Z t) = some (r, x_S Z'' t) ∧ (∀ g m i, g ≠ 92 → (g ≠ 56 ∨ i ≠ 53) → Z'' g m i = Z g m i) ∧ cn r = f (q_va Z 91 0) :=
  ((hL k hk).2 f hF).2 Z t d p hd (fun _ _ _ => rfl) h18
theorem m_strays {Z : XZ} {v : Nat} {T : PT} {F : PF} {N : PN} {d s c : Nat} (hM : MT Z v T) (hL : MLaw Z v F) (hT : TOK T) (hR : MR Z 94 0 N) (hN : NOK N) (hd : 4 ≤ d) (t : Nat) (hs : s < T 2 0) (hc : c < T 0 0) : ∃ (r : Int) (Z' : XZ), x_CALL d 188 [.inr (.inr (some (56, 0))), .inl ((s : Int)), .inl ((c : Int))] (x_S Z t) = some (r, x_S Z' t) ∧ cn r = q_st T F N s c ∧ ∀ g m i, g ≠ 91 → g ≠ 92 → (g ≠ 56 ∨ i ≠ 53) → Z' g m i = Z g m i := by
  have t0 : T 0 0 ≤ 7 := hT.1
  have t1 : T 1 0 ≤ 10 := hT.2.1
  have t2 : T 2 0 ≤ 5 := hT.2.2.1
  have hv := hM.1
  have hdg := q_dg_le hT c
  rw [C188 _ _ _ _ _ (by omega), m_lan hM hT (by omega) t (by omega), Option.bind_some, B188_5, cn_nt (z := (q_dg T c : Int)) rfl (by omega)]
  unfold q_st
  by_cases h0 : q_dg T c = 0
  · rw [if_pos (by omega), if_pos h0]
    exact ⟨_, _, rfl, cn_0, fun _ _ _ _ _ _ => rfl⟩
  have hat := q_at_lt (p := q_sg N c) h0
  obtain ⟨Z1, e1, e2, e3⟩ := m_looksBy (d := d - 1) hM hT (by omega) t hR hN hs
  rw [if_neg (by omega), if_neg h0, e1, Option.bind_some, B188_17, e3 56 _ _ (by decide), hM.2.1, cn_nt (z := 7 * (v : Int) + (c : Int)) (n := 7 * v + c) (by omega) (by omega), if_pos (by omega), Int.toNat_natCast, e3 67 _ _ (by decide), hM.2.2.2.1 c hc]
  have hM1 : MT (x_u Z1 91 0 1 (T 3 c : Int)) v T := hM.congr (fun g i a b => by rw [x_u_ne (by omega)]; exact e3 _ _ _ (by omega)) (by rw [x_u_ne (by omega)]; exact e3 _ _ _ (by omega))
  have hR1 : MR (x_u Z1 91 0 1 (T 3 c : Int)) 94 0 N := hR.congr (fun i => by rw [x_u_ne (by omega)]; exact e3 _ _ _ (by omega))
  rw [show (0 : Int) = ((0 : Nat) : Int) from rfl, m_lnBy hM1 hT hR1 hN (by omega) t (by omega) (b := 0) (by omega), Option.bind_some, if_neg h0, Nat.add_zero, B188_59, cn_nt (z := 10 * (v : Int) + (q_at T c (q_sg N c) : Int)) (n := 10 * v + q_at T c (q_sg N c)) (by omega) (by omega), if_pos (by omega), cn_id (z := 3) (by decide) (by decide), if_pos (by omega), Int.toNat_natCast, x_u_ne (g' := 72) (by omega), e3 72 _ _ (by decide), (hM.2.2.2.2.1 _ hat).2.2]
  generalize hZ2 : x_u (x_u (x_u Z1 91 0 1 (T 3 c : Int)) 91 0 (3 : Int).toNat (T 6 (q_at T c (q_sg N c)) : Int)) 91 0 5 (q_dg T c : Int) = Z2
  have k2 : ∀ g m i, g ≠ 91 → Z2 g m i = Z g m i := fun g m i hg => by rw [← hZ2, x_u_ne (by omega), x_u_ne (by omega), x_u_ne (by omega)]; exact e3 g m i hg
  have hL2 : MLaw Z2 v F := hL.congr (fun g a b => funext fun m => funext fun i => k2 _ _ _ (by omega))
  have h18 : Z2 56 0 18 = (v : Int) := (k2 _ _ _ (by decide)).trans hM.2.1
  cases hF : F 0 with
  | none =>
    obtain ⟨r', w1, w2⟩ := m_within (Z := Z2) (d := d - 1) (by omega) t 1 (m := 4) (by decide) (by decide)
    rw [show (0 : Int) = ((0 : Nat) : Int) from rfl, m_lawN hL2 h18 hv (by decide) hF (by omega) t 1, Option.bind_some, B188_75, w1, Option.bind_some, B188_80]
    exact ⟨_, _, rfl, by rw [w2, cn_id (by decide) (by decide)]; rfl, fun g m i a _ _ => k2 g m i a⟩
  | some f =>
    obtain ⟨r, Z3, f1, f2, f3⟩ := m_lawS hL2 h18 (k := 0) (by decide) hF (d := d - 1) (by omega) t 1
    obtain ⟨r', w1, w2⟩ := m_within (Z := Z3) (d := d - 1) (by omega) t r (m := 4) (by decide) (by decide)
    have he : q_va Z2 91 0 = q_env (T 7 s) (T 3 c) (T 6 (q_at T c (q_sg N c))) (q_dg T c) s 0 N := q_va_env fun i hi => by
      have e2' := e2 i hi
      have : i = 0 ∨ i = 1 ∨ i = 2 ∨ i = 3 ∨ i = 4 ∨ i = 5 ∨ i = 6 ∨ i = 7 ∨ i = 8 := by omega
      rcases this with rfl | rfl | rfl | rfl | rfl | rfl | rfl | rfl | rfl <;> simp [← hZ2, x_u, q_raw, e2']
    rw [show (0 : Int) = ((0 : Nat) : Int) from rfl, f1, Option.bind_some, B188_75, w1, Option.bind_some, B188_80]
    exact ⟨_, _, rfl, by rw [w2, f3, he]; rfl, fun g m i a b c => by rw [f2 g m i b c]; exact k2 g m i a⟩
theorem m_amount {Z : XZ} {v : Nat} {T : PT} {F : PF} {N : PN} {d s k mi : Nat} (hM : MT Z v T) (hL : MLaw Z v F) (hT : TOK T) (hR : MR Z 94 0 N) (hN : NOK N) (hd : 4 ≤ d) (t : Nat) (hs : s < T 2 0) (hk : k < 4) (hm : mi < 1000) : ∃ (r : Int) (Z' : XZ), x_CALL d 189 [.inr (.inr (some (56, 0))), .inl ((s : Int)), .inl ((mi : Int)), .inl ((k : Int))] (x_S Z t) = some (r, x_S Z' t) ∧ cn r = q_am T F N s mi k ∧ ∀ g m i, g ≠ 91 → g ≠ 92 → (g ≠ 56 ∨ i ≠ 53) → Z' g m i = Z g m i := by
  have hv := hM.1
  obtain ⟨Z1, e1, e2, e3⟩ := m_looksBy (d := d - 1) hM hT (by omega) t hR hN hs
  rw [C189 _ _ _ _ _ _ (by omega), e1, Option.bind_some, B189_5]
  generalize hZ2 : x_u Z1 91 0 8 (mi : Int) = Z2
  have k2 : ∀ g m i, g ≠ 91 → Z2 g m i = Z g m i := fun g m i hg => by rw [← hZ2, x_u_ne (by omega)]; exact e3 g m i hg
  have hL2 : MLaw Z2 v F := hL.congr (fun g a b => funext fun m => funext fun i => k2 _ _ _ (by omega))
  have h18 : Z2 56 0 18 = (v : Int) := (k2 _ _ _ (by decide)).trans hM.2.1
  unfold q_am
  cases hF : F k with
  | none =>
    obtain ⟨r', w1, w2⟩ := m_within (Z := Z2) (d := d - 1) (by omega) t (mi : Int) (m := 999) (by decide) (by decide)
    rw [m_lawN hL2 h18 hv hk hF (by omega) t _, Option.bind_some, B189_19, w1, Option.bind_some, B189_26]
    refine ⟨_, _, rfl, ?_, fun g m i a _ _ => k2 g m i a⟩
    rw [w2, cn_nt (z := (mi : Int)) rfl (by omega)]
    unfold q_cl
    rw [if_neg (by omega), if_neg (by omega)]
  | some f =>
    obtain ⟨r, Z3, f1, f2, f3⟩ := m_lawS hL2 h18 hk hF (d := d - 1) (by omega) t (mi : Int)
    obtain ⟨r', w1, w2⟩ := m_within (Z := Z3) (d := d - 1) (by omega) t r (m := 999) (by decide) (by decide)
    have he : q_va Z2 91 0 = q_env (T 7 s) 0 0 0 s mi N := q_va_env fun i hi => by
      have e2' := e2 i hi
      have : i = 0 ∨ i = 1 ∨ i = 2 ∨ i = 3 ∨ i = 4 ∨ i = 5 ∨ i = 6 ∨ i = 7 ∨ i = 8 := by omega
      rcases this with rfl | rfl | rfl | rfl | rfl | rfl | rfl | rfl | rfl <;> simp [← hZ2, x_u, q_raw, e2']
    rw [f1, Option.bind_some, B189_19, w1, Option.bind_some, B189_26]
    exact ⟨_, _, rfl, by rw [w2, f3, he], fun g m i a b c => by rw [f2 g m i b c]; exact k2 g m i a⟩
theorem m_day {Z : XZ} {v : Nat} {T : PT} {F : PF} {N : PN} {d : Nat} (hM : MT Z v T) (hL : MLaw Z v F) (hR : MR Z 94 0 N) (hN : NOK N) (hd : 4 ≤ d) (t : Nat) : ∃ (Z' : XZ) (N' : PN), x_CALL d 191 [.inr (.inr (some (56, 0)))] (x_S Z t) = some (0, x_S Z' t) ∧ MR Z' 94 0 N' ∧ q_eqv N' (q_dn F N) ∧ ∀ g m i, g ≠ 91 → g ≠ 92 → g ≠ 94 → (g ≠ 56 ∨ i ≠ 53) → Z' g m i = Z g m i := by
  have hv := hM.1
  have h18 := hM.2.1
  obtain ⟨Z1, e1, e2, e3⟩ := m_looks (Z := Z) (d := d - 1) (by omega) t hR hN
  have hR1 : MR Z1 94 0 N := hR.congr (fun i => e3 _ _ _ (by omega))
  have hL1 : MLaw Z1 v F := hL.congr (fun g a b => funext fun m => funext fun i => e3 _ _ _ (by omega))
  have a13 := hR1 13 (by decide)
  rw [Nat.zero_add] at a13
  rw [C191 _ _ _ (by omega), e1, Option.bind_some, B191_4, C190 _ _ _ (by omega), e3 56 _ _ (by decide), h18, cn_nt (z := 4 * (v : Int) + 3) (n := 4 * v + 3) (by omega) (by omega), if_pos (by omega), if_pos (by omega), Int.toNat_natCast]
  unfold q_dn q_fg
  cases hF : F 3 with
  | none =>
    rw [(hL1 3 (by decide)).1 hF, if_pos rfl, Option.bind_some, B191_8, if_pos cn_0, a13]
    refine ⟨_, _, rfl, hR1.up (k := 13) (a := N 13 + 1), ?_, fun g m i a b c d => by rw [x_u_ne (by omega)]; exact e3 g m i a⟩
    constructor
    · intro k hk
      by_cases h3 : k = 13
      · subst h3; rw [q_nu_eq, q_nu_eq]
      · rw [q_nu_ne h3, q_nu_ne h3, q_nu_ne hk]
    · rw [q_nu_ne (by decide), q_nu_ne (by decide), q_nu_eq, cn_cn]
  | some f =>
    obtain ⟨r, Z3, f1, f2, f3⟩ := m_lawS hL1 ((e3 _ _ _ (by decide)).trans h18) (k := 3) (by decide) hF (d := d - 1) (by omega) t 0
    obtain ⟨r', w1, w2⟩ := m_within (Z := Z3) (d := d - 1) (by omega) t r (m := 9) (by decide) (by decide)
    have he : q_va Z1 91 0 = q_env 0 0 0 0 0 0 N := q_va_env fun i hi => by
      have e2' := e2 i hi
      have : i = 0 ∨ i = 1 ∨ i = 2 ∨ i = 3 ∨ i = 4 ∨ i = 5 ∨ i = 6 ∨ i = 7 ∨ i = 8 := by omega
      rcases this with rfl | rfl | rfl | rfl | rfl | rfl | rfl | rfl | rfl <;> simp [q_raw, e2']
    rw [if_neg ((hL1 3 (by decide)).2 f hF).1, Option.bind_some, B191_8, if_neg cn_1n, show (3 : Int) = ((3 : Nat) : Int) from rfl, f1, Option.bind_some, B191_23, w1, Option.bind_some, B191_29, cn_id (z := 12) (by decide) (by decide), if_pos (by decide)]
    have hR3 : MR Z3 94 0 N := hR1.congr (fun i => f2 _ _ _ (by omega) (by omega))
    have b13 : x_u Z3 94 0 (12 : Int).toNat r' 94 0 13 = N 13 := by
      have := hR3 13 (by decide)
      rw [Nat.zero_add] at this
      rw [x_u_ne (by decide), this]
    rw [b13]
    refine ⟨_, _, rfl, (hR3.up (k := 12) (a := r')).up (k := 13) (a := N 13 + 1), ?_, fun g m i a b c d => by rw [x_u_ne (by omega), x_u_ne (by omega), f2 g m i b d]; exact e3 g m i a⟩
    have hcl := q_cl_b (z := f (q_env 0 0 0 0 0 0 N)) (m := 9) (by decide)
    constructor
    · intro k hk
      by_cases h3 : k = 13
      · subst h3; rw [q_nu_eq, q_nu_eq]
      · rw [q_nu_ne h3, q_nu_ne h3, q_nu_ne hk, q_nu_ne hk]
    · rw [q_nu_ne (by decide), q_nu_eq, q_nu_ne (by decide), q_nu_eq, w2, f3, he, cn_id (z := q_cl _ 9) (by omega) (by omega)]
