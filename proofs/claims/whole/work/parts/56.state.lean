/-! states kept and brought back -/
theorem PP.reT {T : PT} {F : PF} {N : PN} {H K : Nat → PN} {v u nx : Nat} {Z Z' : XZ} {t : Nat} (h : PP T F N H K v u nx Z t) (hk : ∀ g m i, ¬ scr g m i → ¬ (g = 0 ∨ g = 1 ∨ g = 57 ∨ (g = 56 ∧ (i = 2 ∨ i = 17))) → Z' g m i = Z g m i) (h7 : TI Z') : PP T F N H K v u nx Z' t := by
  obtain ⟨_, _, _, _, _, _, a1, a2, a3, a4, a5, a6, _⟩ := id h
  exact h.re (fun g m i hg => hk g m i (by unfold bsc at hg; unfold scr; omega) (by unfold bsc at hg; omega)) (a1.congr (fun i => hk _ _ _ (by unfold scr; omega) (by omega)) (fun i => hk _ _ _ (by unfold scr; omega) (by omega)) (fun i => hk _ _ _ (by unfold scr; omega) (by omega))) (a2.congr (fun i => hk _ _ _ (by unfold scr; omega) (by omega))) a3 (a4.congr (fun g m i hg => hk g m i (by unfold scr; omega) (by omega))) (a5.congr (fun g m i hg => hk g m i (by unfold scr; omega) (by omega))) (a6.congr (fun g m i hg => hk g m i (by unfold scr; omega) (by omega))) h7
theorem PP.reN {T : PT} {F : PF} {N : PN} {H K : Nat → PN} {v u nx : Nat} {Z Z' : XZ} {t : Nat} (h : PP T F N H K v u nx Z t) (hk : ∀ g m i, ¬ scr g m i → ¬ ((35 ≤ g ∧ g ≤ 39) ∨ (102 ≤ g ∧ g ≤ 105) ∨ (g = 56 ∧ i = 70)) → Z' g m i = Z g m i) (h6 : NI Z') : PP T F N H K v u nx Z' t := by
  obtain ⟨_, _, _, _, _, _, a1, a2, a3, a4, a5, _, a7⟩ := id h
  exact h.re (fun g m i hg => hk g m i (by unfold bsc at hg; unfold scr; omega) (by unfold bsc at hg; omega)) (a1.congr (fun i => hk _ _ _ (by unfold scr; omega) (by omega)) (fun i => hk _ _ _ (by unfold scr; omega) (by omega)) (fun i => hk _ _ _ (by unfold scr; omega) (by omega))) (a2.congr (fun i => hk _ _ _ (by unfold scr; omega) (by omega))) a3 (a4.congr (fun g m i hg => hk g m i (by unfold scr; omega) (by omega))) (a5.congr (fun g m i hg => hk g m i (by unfold scr; omega) (by omega))) h6 (a7.congr (fun g m i hg => hk g m i (by unfold scr; omega) (by omega)))
theorem c_copy {Z : XZ} {d : Nat} (hd : 1 ≤ d) (t i0 i1 : Nat) (hne : i0 ≠ i1) : ∃ Z' : XZ, x_CALL d 41 [.inr (.inr (some (28, i0))), .inr (.inr (some (28, i1)))] (x_S Z t) = some (0, x_S Z' t) ∧ (∀ N, CS Z i1 N → CS Z' i0 N) ∧ ∀ g m i, ¬ (28 ≤ g ∧ g ≤ 30 ∧ m = i0) → Z' g m i = Z g m i := by
  refine ⟨_, C41 _ _ _ _ _ (by omega), ?_, ?_⟩
  · intro N h
    have hne' : i1 ≠ i0 := fun e => hne e.symm
    obtain ⟨h1, h2, h3, h4, h5, h6⟩ := h
    refine ⟨?_, ?_, ?_, ?_, ?_, ?_⟩
    · intro c hc
      simp [x_cp, x_u, hne', hc, h1 c hc]
    · intro c hc
      simp [x_cp, x_u, hne', hc, h2 c hc]
    · simp [x_cp, x_u, hne', h3]
    · simp [x_cp, x_u, hne', h4]
    · simp [x_cp, x_u, hne', h5]
    · simp [x_cp, x_u, hne', h6]
  · intro g m i hg
    rw [x_cp_ne (by omega), x_cp_ne (by omega), x_u_ne (by omega), x_u_ne (by omega), x_u_ne (by omega), x_u_ne (by omega)]
def q_h (u : Nat) (H : Nat → PN) (N : PN) : Nat → PN := fun j => if u = 40 then (if j = 39 then N else H (j + 1)) else (if j = u then N else H j)
def q_u (u : Nat) : Nat := if u = 40 then 40 else u + 1
theorem c_push {Z : XZ} {d u nx : Nat} {N : PN} (hd : 2 ≤ d) (t : Nat) (h0 : Z 31 0 0 = (u : Int)) (hu : u ≤ 40) (h1 : Z 31 0 1 = (nx : Int)) (hx : nx < 40) (hN : CS Z 0 N) : ∃ Z' : XZ, x_CALL d 3 [.inr (.inr (some (31, 0))), .inr (.inr (some (28, 0)))] (x_S Z t) = some (0, x_S Z' t) ∧ CS Z' (2 + nx) N ∧ Z' 31 0 0 = (q_u u : Int) ∧ Z' 31 0 1 = (((nx + 1) % 40 : Nat) : Int) ∧ ∀ g m i, ¬ (28 ≤ g ∧ g ≤ 30 ∧ m = 2 + nx) → g ≠ 31 → Z' g m i = Z g m i := by
  obtain ⟨Z1, e1, e2, e3⟩ := c_copy (Z := Z) (d := d - 1) (by omega) t (nx + 2) 0 (by omega)
  have hnx : (nx + 1) % 40 < 40 := Nat.mod_lt _ (by decide)
  rw [C3 _ _ _ _ (by omega), h1, cn_nt (z := (nx : Int)) rfl (by omega), Int.toNat_natCast, if_pos (by omega), e1, Option.bind_some, B3_13]
  rw [e3 31 0 0 (by omega), e3 31 0 1 (by omega), h0, h1, cn_nt (z := (u : Int)) rfl (by omega), show (nx : Int) + 1 = ((nx + 1 : Nat) : Int) by omega, show x_rem ((nx + 1 : Nat) : Int) 40 = (((nx + 1) % 40 : Nat) : Int) from x_rem_nat (a := nx + 1) (b := 40) (by omega) (by decide)]
  have hCS : CS Z1 (2 + nx) N := by rw [Nat.add_comm]; exact e2 N hN
  by_cases hlt : u = 40
  · rw [if_neg (by omega)]
    refine ⟨_, rfl, hCS.congr (fun i => x_u_ne (by omega)) (fun i => x_u_ne (by omega)) (fun i => x_u_ne (by omega)), ?_, x_u_eq, ?_⟩
    · rw [x_u_ne (by omega), e3 31 0 0 (by omega), h0, q_u, if_pos hlt]; omega
    · intro g m i a b; rw [x_u_ne (by omega)]; exact e3 g m i (by omega)
  · rw [if_pos (by omega)]
    refine ⟨_, rfl, hCS.congr (fun i => by rw [x_u_ne (by omega), x_u_ne (by omega)]) (fun i => by rw [x_u_ne (by omega), x_u_ne (by omega)]) (fun i => by rw [x_u_ne (by omega), x_u_ne (by omega)]), ?_, ?_, ?_⟩
    · rw [x_u_eq, q_u, if_neg hlt]; omega
    · rw [x_u_ne (by omega), x_u_eq]
    · intro g m i a b; rw [x_u_ne (by omega), x_u_ne (by omega)]; exact e3 g m i (by omega)
/-- history pushed along -/
def q_sh (Z : XZ) (k : Nat) : XZ := fun g m i => if g = 100 ∧ m = 0 ∧ i < k then Z 100 0 (i + 16) else Z g m i
theorem q_sh_0 (Z : XZ) : q_sh Z 0 = Z := by funext g m i; unfold q_sh; rw [if_neg (by omega)]
theorem q_sh_succ (Z : XZ) (k : Nat) : x_u (q_sh Z k) 100 0 k (q_sh Z k 100 0 (k + 16)) = q_sh Z (k + 1) := by
  funext g m i
  have e : q_sh Z k 100 0 (k + 16) = Z 100 0 (k + 16) := by unfold q_sh; rw [if_neg (by omega)]
  rw [e]
  unfold x_u q_sh
  by_cases h1 : g = 100 ∧ m = 0 ∧ i = k
  · rw [if_pos h1, if_pos (by omega), h1.2.2]
  · rw [if_neg h1]
    by_cases h2 : g = 100 ∧ m = 0 ∧ i < k
    · rw [if_pos h2, if_pos (by omega)]
    · rw [if_neg h2, if_neg (by omega)]
section
variable {Z : XZ} {d : Nat}
theorem m_keeps_loop (t : Nat) : ∀ (n k : Nat), k + n = 16 → x_EX d 176 2 [some (.inr (.inr (some (56, 0)))), some (.inl ((k : Int)))] [] (x_S (x_cp Z 94 0 0 93 0 0 k) t) = some (0, x_S (x_cp Z 94 0 0 93 0 0 16) t) := by
  intro n
  induction n with
  | zero => intro k hk; obtain rfl : k = 16 := by omega
            rw [B176_2, if_neg (by decide)]
  | succ n ih =>
    intro k hk
    rw [B176_2, cn_nt (z := (k : Int)) rfl (by omega), if_pos (by omega), if_pos (by omega), if_pos (by omega), Int.toNat_natCast]
    have := x_cp_succ (Z := Z) (gs := 94) (is := 0) (sp := 0) (gd := 93) (id := 0) (dp := 0) (k := k) (by decide)
    rw [Nat.zero_add] at this
    rw [this]
    exact ih (k + 1) (by omega)
theorem m_keeps (hd : 1 ≤ d) (t : Nat) : x_CALL d 176 [.inr (.inr (some (56, 0)))] (x_S Z t) = some (0, x_S (x_cp Z 94 0 0 93 0 0 16) t) := by
  rw [C176 _ _ _ (by omega)]
  have := m_keeps_loop (d := d - 1) (Z := Z) t 16 0 (by omega)
  rw [x_cp_0] at this
  exact this
theorem m_rec_sh (t : Nat) : ∀ (n k : Nat), k + n = 624 → x_EX d 205 11 [some (.inr (.inr (some (56, 0)))), some (.inl ((k : Int)))] [] (x_S (q_sh Z k) t) = x_EX d 205 51 [some (.inr (.inr (some (56, 0)))), some (.inl 0)] [] (x_S (x_u (q_sh Z 624) 56 0 67 (Z 56 0 67 - 1)) t) := by
  intro n
  induction n with
  | zero => intro k hk; obtain rfl : k = 624 := by omega
            rw [B205_11, if_neg (by decide)]
            rfl
  | succ n ih =>
    intro k hk
    rw [B205_11, cn_nt (z := (k : Int)) rfl (by omega), cn_nt (z := (k : Int) + 16) (n := k + 16) (by omega) (by omega), if_pos (by omega), if_pos (by omega), if_pos (by omega), Int.toNat_natCast, Int.toNat_natCast, q_sh_succ]
    exact ih (k + 1) (by omega)
theorem m_rec_cp {u : Nat} (hu : u < 40) (h67 : Z 56 0 67 = (u : Int)) (hd : 1 ≤ d) (t : Nat) : ∀ (n k : Nat), k + n = 16 → x_EX d 205 51 [some (.inr (.inr (some (56, 0)))), some (.inl ((k : Int)))] [] (x_S (x_cp Z 93 0 0 100 0 (16 * u) k) t) = some (0, x_S (x_cp (x_u (x_cp Z 93 0 0 100 0 (16 * u) 16) 56 0 67 ((u : Int) + 1)) 94 0 0 93 0 0 16) t) := by
  intro n
  have e : ∀ k, x_cp Z 93 0 0 100 0 (16 * u) k 56 0 67 = (u : Int) := fun k => by rw [x_cp_ne (by omega), h67]
  induction n with
  | zero => intro k hk; obtain rfl : k = 16 := by omega
            rw [B205_51, if_neg (by decide), e, m_keeps hd, Option.bind_some, B205_97]
  | succ n ih =>
    intro k hk
    rw [B205_51, e, cn_nt (z := (k : Int)) rfl (by omega), cn_nt (z := 16 * (u : Int) + (k : Int)) (n := 16 * u + k) (by omega) (by omega), if_pos (by omega), if_pos (by omega), if_pos (by omega), Int.toNat_natCast, Int.toNat_natCast]
    have := x_cp_succ (Z := Z) (gs := 93) (is := 0) (sp := 0) (gd := 100) (id := 0) (dp := 16 * u) (k := k) (by decide)
    rw [Nat.zero_add] at this
    rw [this]
    exact ih (k + 1) (by omega)
theorem m_records {u : Nat} {H : Nat → PN} {N N' : PN} (hu : u ≤ 40) (h67 : Z 56 0 67 = (u : Int)) (hH : ∀ j, j < u → MR Z 100 (16 * j) (H j)) (hN : MR Z 93 0 N) (hN' : MR Z 94 0 N') (hd : 2 ≤ d) (t : Nat) : ∃ Z' : XZ, x_CALL d 205 [.inr (.inr (some (56, 0)))] (x_S Z t) = some (0, x_S Z' t) ∧ MR Z' 93 0 N' ∧ Z' 56 0 67 = (q_u u : Int) ∧ (∀ j, j < q_u u → MR Z' 100 (16 * j) (q_h u H N j)) ∧ ∀ g m i, g ≠ 93 → g ≠ 100 → ¬ (g = 56 ∧ i = 67) → Z' g m i = Z g m i := by
  rw [C205 _ _ _ (by omega), h67, cn_nt (z := (u : Int)) rfl (by omega)]
  by_cases h40 : u = 40
  · rw [if_pos (by omega)]
    have s1 := m_rec_sh (d := d - 1) (Z := Z) t 624 0 (by omega)
    rw [q_sh_0] at s1
    have s2 := m_rec_cp (d := d - 1) (Z := x_u (q_sh Z 624) 56 0 67 (Z 56 0 67 - 1)) (u := 39) (by omega) (by rw [x_u_eq, h67]; omega) (by omega) t 16 0 (by omega)
    rw [x_cp_0] at s2
    refine ⟨_, s1.trans s2, ?_, ?_, ?_, ?_⟩
    · intro k hk
      rw [x_cp_in hk, x_u_ne (by omega), x_cp_ne (by omega), x_u_ne (by omega)]
      unfold q_sh
      rw [if_neg (by omega)]
      exact hN' k hk
    · rw [x_cp_ne (by omega), x_u_eq, q_u, if_pos h40]; rfl
    · intro j hj k hk
      rw [q_u, if_pos h40] at hj
      rw [x_cp_ne (by omega), x_u_ne (by omega), q_h, if_pos h40]
      by_cases hj9 : j = 39
      · rw [if_pos hj9, hj9, x_cp_in hk, x_u_ne (by omega)]
        unfold q_sh
        rw [if_neg (by omega)]
        exact hN k hk
      · rw [if_neg hj9, x_cp_ne (by omega), x_u_ne (by omega)]
        unfold q_sh
        rw [if_pos (by omega), show 16 * j + k + 16 = 16 * (j + 1) + k by omega]
        exact hH (j + 1) (by omega) k hk
    · intro g m i a b c
      rw [x_cp_ne (by omega), x_u_ne (by omega), x_cp_ne (by omega), x_u_ne (by omega)]
      unfold q_sh
      rw [if_neg (by omega)]
  · rw [if_neg (by omega)]
    have s2 := m_rec_cp (d := d - 1) (Z := Z) (u := u) (by omega) h67 (by omega) t 16 0 (by omega)
    rw [x_cp_0] at s2
    refine ⟨_, s2, ?_, ?_, ?_, ?_⟩
    · intro k hk
      rw [x_cp_in hk, x_u_ne (by omega), x_cp_ne (by omega)]
      exact hN' k hk
    · rw [x_cp_ne (by omega), x_u_eq, q_u, if_neg h40]; omega
    · intro j hj k hk
      rw [q_u, if_neg h40] at hj
      rw [x_cp_ne (by omega), x_u_ne (by omega), q_h, if_neg h40]
      by_cases hj9 : j = u
      · rw [if_pos hj9, hj9, x_cp_in hk]
        exact hN k hk
      · rw [if_neg hj9, x_cp_ne (by omega)]
        exact hH j (by omega) k hk
    · intro g m i a b c
      rw [x_cp_ne (by omega), x_u_ne (by omega), x_cp_ne (by omega)]
end
/-- a thing is done: pushed on both sides, then changed -/
theorem PP.do {T : PT} {F : PF} {N N' : PN} {H K : Nat → PN} {v u nx : Nat} {Z Z' : XZ} {t : Nat} (h : PP T F N H K v u nx Z t) (hk : ∀ g m i, ¬ scr g m i → ¬ (28 ≤ g ∧ g ≤ 30 ∧ (m = 0 ∨ m = 2 + nx)) → g ≠ 31 → g ≠ 93 → g ≠ 100 → ¬ (g = 56 ∧ i = 67) → Z' g m i = Z g m i) (h1 : CS Z' 0 N') (h2 : MR Z' 93 0 N') (h3 : NOK N') (c1 : CS Z' (2 + nx) N) (c2 : Z' 31 0 0 = (q_u u : Int)) (c3 : Z' 31 0 1 = (((nx + 1) % 40 : Nat) : Int)) (m1 : Z' 56 0 67 = (q_u u : Int)) (m2 : ∀ j, j < q_u u → MR Z' 100 (16 * j) (q_h u H N j)) : PI Z' t := by
  obtain ⟨_, _, _, _, _, _, a1, a2, a3, a4, a5, a6, a7⟩ := id h
  obtain ⟨b1, b2, b3, b4, b5, b6⟩ := a4
  have hu : q_u u ≤ 40 := by unfold q_u; split <;> omega
  refine ⟨T, F, N', q_h u H N, K, v, q_u u, (nx + 1) % 40, h.re (fun g m i hg => hk g m i (by unfold bsc at hg; unfold scr; omega) (by unfold bsc at hg; omega) (by unfold bsc at hg; omega) (by unfold bsc at hg; omega) (by unfold bsc at hg; omega) (by unfold bsc at hg; omega)) h1 h2 h3 ⟨c2, m1, hu, c3, Nat.mod_lt _ (by decide), fun j hj => ⟨?_, m2 j hj, ?_⟩⟩ (a5.congr (fun g m i hg => hk g m i (by unfold scr; omega) (by omega) (by omega) (by omega) (by omega) (by omega))) (a6.congr (fun g m i hg => hk g m i (by unfold scr; omega) (by omega) (by omega) (by omega) (by omega) (by omega))) (a7.congr (fun g m i hg => hk g m i (by unfold scr; omega) (by omega) (by omega) (by omega) (by omega) (by omega)))⟩
  · unfold q_h
    unfold q_u at hj ⊢
    by_cases h40 : u = 40
    · rw [if_pos h40] at hj ⊢
      rw [if_pos h40]
      by_cases hj9 : j = 39
      · rw [if_pos hj9, show 2 + ((nx + 1) % 40 + 40 - 40 + j) % 40 = 2 + nx by omega]
        exact c1
      · rw [if_neg hj9]
        have := (b6 (j + 1) (by omega)).1
        rw [show 2 + (nx + 40 - u + (j + 1)) % 40 = 2 + ((nx + 1) % 40 + 40 - 40 + j) % 40 by omega] at this
        exact this.congr (fun i => hk _ _ _ (by unfold scr; omega) (by omega) (by omega) (by omega) (by omega) (by omega)) (fun i => hk _ _ _ (by unfold scr; omega) (by omega) (by omega) (by omega) (by omega) (by omega)) (fun i => hk _ _ _ (by unfold scr; omega) (by omega) (by omega) (by omega) (by omega) (by omega))
    · rw [if_neg h40] at hj ⊢
      rw [if_neg h40]
      by_cases hj9 : j = u
      · rw [if_pos hj9, show 2 + ((nx + 1) % 40 + 40 - (u + 1) + j) % 40 = 2 + nx by omega]
        exact c1
      · rw [if_neg hj9]
        have := (b6 j (by omega)).1
        rw [show 2 + (nx + 40 - u + j) % 40 = 2 + ((nx + 1) % 40 + 40 - (u + 1) + j) % 40 by omega] at this
        exact this.congr (fun i => hk _ _ _ (by unfold scr; omega) (by omega) (by omega) (by omega) (by omega) (by omega)) (fun i => hk _ _ _ (by unfold scr; omega) (by omega) (by omega) (by omega) (by omega) (by omega)) (fun i => hk _ _ _ (by unfold scr; omega) (by omega) (by omega) (by omega) (by omega) (by omega))
  · unfold q_h
    unfold q_u at hj
    by_cases h40 : u = 40
    · rw [if_pos h40] at hj ⊢
      by_cases hj9 : j = 39
      · rw [if_pos hj9]; exact a3
      · rw [if_neg hj9]; exact (b6 (j + 1) (by omega)).2.2
    · rw [if_neg h40] at hj ⊢
      by_cases hj9 : j = u
      · rw [if_pos hj9]; exact a3
      · rw [if_neg hj9]; exact (b6 j (by omega)).2.2
