/-! the model cuts a text: all -/
theorem tx1_eq : x_tx 1 = [59, 61, 43, 45, 42, 47, 60, 40, 41] := by decide +kernel
theorem tx1_i {w : Int} : w ∈ x_tx 1 ↔ (w = 59 ∨ w = 61 ∨ w = 43 ∨ w = 45 ∨ w = 42 ∨ w = 47 ∨ w = 60 ∨ w = 40 ∨ w = 41) := by
  rw [tx1_eq]; simp
theorem m_sign {Z Z1 : XZ} {d : Nat} {w : Int} (h1 : -128 ≤ w) (h2 : w < 128) (hd : 1 ≤ d) (t : Nat) (p x : Int) (e : x_CALL (d - 1) 141 [.inr (.inr (some (56, 0))), .inl (t_m (if w ∈ x_tx 1 then w else 257)), .inl p, .inl 0, .inr (.inl 0)] (x_S Z t) = some (0, x_S Z1 t)) : x_CALL d 143 [.inr (.inr (some (56, 0))), .inl p, .inl (w % 256), .inl x] (x_S Z t) = some (1, x_S Z1 t) := by
  have hb : cn (w % 256) = w % 256 := cn_id (by omega) (by omega)
  by_cases hm : w ∈ x_tx 1
  · rw [if_pos hm] at e
    rcases tx1_i.1 hm with rfl | rfl | rfl | rfl | rfl | rfl | rfl | rfl | rfl <;>
    · rw [C143 _ _ _ _ _ _ (by omega)]
      simp only [hb, B143_43, B143_55, B143_65]
      simp only [show ((59 : Int) % 256) = 59 from rfl, show ((61 : Int) % 256) = 61 from rfl, show ((43 : Int) % 256) = 43 from rfl, show ((45 : Int) % 256) = 45 from rfl, show ((42 : Int) % 256) = 42 from rfl, show ((47 : Int) % 256) = 47 from rfl, show ((60 : Int) % 256) = 60 from rfl, show ((40 : Int) % 256) = 40 from rfl, show ((41 : Int) % 256) = 41 from rfl, Int.reduceEq, ↓reduceIte]
      simp only [t_m, Int.reduceEq, Int.reduceLE, ↓reduceIte] at e
      rw [e, Option.bind_some, B143_104]
  · rw [if_neg hm, show t_m 257 = 3 by simp [t_m]] at e
    have hx : ¬ (w = 59 ∨ w = 61 ∨ w = 43 ∨ w = 45 ∨ w = 42 ∨ w = 47 ∨ w = 60 ∨ w = 40 ∨ w = 41) := fun e => hm (tx1_i.2 e)
    rw [C143 _ _ _ _ _ _ (by omega), hb, if_neg (by omega), if_neg (by omega), if_neg (by omega), if_neg (by omega), B143_43, hb, if_neg (by omega), B143_55, hb, if_neg (by omega), B143_65, hb, if_neg (by omega), if_neg (by omega), if_neg (by omega), e, Option.bind_some, B143_104]
/-- names -/
def t_n (W : Nat → Int) (n p : Nat) : Int := v_27 (fun i => W (p + i) - 96) (q_run bL W n p - p)
def MK1 (Z : XZ) (W : Nat → Int) (n j : Nat) : Prop := Z 59 0 j = t_m (t_k W n (t_p W n j)) ∧ Z 60 0 j = (t_p W n j : Int) ∧ (t_k W n (t_p W n j) = 259 → Z 61 0 j = t_v W n (t_p W n j)) ∧ (t_k W n (t_p W n j) = 258 → Z 62 0 j = t_n W n (t_p W n j))
def MK (Z : XZ) (W : Nat → Int) (n : Nat) : Prop := ∀ j, j ≤ 400 → t_l W n j → MK1 Z W n j
theorem m_tok1 {Z : XZ} {W : Nat → Int} {n j d : Nat} (hX : TX Z 58 W n) (h4 : Z 56 0 4 = (n : Int)) (hK : ∀ k, k < 24 → Z 63 0 k = x_Z0 63 0 k) (hd : 2 ≤ d) (t : Nat) (hp : t_p W n j < n) (hj : Z 56 0 10 = (j : Int)) (hj4 : j < 401) (o2 o3 o4 o5 o6 o7 : Option XV) : ∃ (Z' : XZ) (p2 p3 p4 p5 p6 p7 : Option XV), x_EX d 142 7 [some (.inr (.inr (some (56, 0)))), some (.inl ((t_p W n j : Int))), o2, o3, o4, o5, o6, o7] [] (x_S Z t) = x_EX d 142 7 [some (.inr (.inr (some (56, 0)))), some (.inl ((t_e W n (t_p W n j) : Int))), p2, p3, p4, p5, p6, p7] [] (x_S Z' t) ∧ MK1 Z' W n j ∧ Z' 56 0 10 = ((j + 1 : Nat) : Int) ∧ ∀ g m i, ¬ (59 ≤ g ∧ g ≤ 62 ∧ i = j) → ¬ (g = 56 ∧ i = 10) → Z' g m i = Z g m i := by
  have hn := hX.1
  have hpw := hX.2 _ hp
  have hmw := mW_lt (W := W) hp
  obtain ⟨s1, s2, s3, s4⟩ := q_run_spec (P := bB) (W := W) (n := n) (n - t_b W n j) (t_b W n j) (by have := (t_b_le W n j).1; omega)
  have hnb : ¬ bB (W (t_p W n j)) = true := s4 hp
  have hnb' : ¬ (W (t_p W n j) = 9 ∨ W (t_p W n j) = 10 ∨ W (t_p W n j) = 13 ∨ W (t_p W n j) = 32) := fun e => hnb ((bB_i _).2 e)
  unfold MK1
  generalize hpe : t_p W n j = p at *
  rw [B142_7, hj, cn_nt (z := (j : Int)) rfl (by omega), if_neg (by omega), m_byte2 hX h4 (by omega) (by omega) t, Option.bind_some, B142_22, h4, cn_nt (z := (p : Int)) rfl (by omega), cn_nt (z := (n : Int)) rfl (by omega), if_pos (by omega), hmw, cn_id (z := W p % 256) (by omega) (by omega), if_neg (by omega), if_neg (by omega), if_neg (by omega), if_neg (by omega), m_letr hpw.2.1 hpw.2.2 (by omega) t, Option.bind_some, B142_77]
  by_cases hL : bL (W p) = true
  · obtain ⟨r1, r2, r3, r4⟩ := q_run_spec (P := bL) (W := W) (n := n) (n - p) p (by omega)
    have hte : t_e W n p = q_run bL W n p := by unfold t_e; rw [if_neg (by omega), if_pos hL]
    have htk : t_k W n p = if 8 < q_run bL W n p - p then 257 else if t_w W n p = -1 then 258 else 260 + t_w W n p := by unfold t_k; rw [if_neg (by omega), if_pos hL]
    have hw := t_w_24 W n p
    have l0 := m_lets hX h4 hp (show 1 ≤ d by omega) t (W p % 256) o6 o7 (q_run bL W n p - p) 0 (by omega)
    rw [Nat.zero_min] at l0
    rw [if_pos hL, if_neg cn_1n]
    have l1 : x_EX d 142 85 [some (.inr (.inr (some (56, 0)))), some (.inl ((p : Int))), some (.inl ((W p % 256))), some (.inl 0), some (.inr (.inl (0))), none, o6, o7] [] (x_S Z t) = _ := l0
    rw [l1, B142_95, if_pos cn_0, cn_nt (z := ((q_run bL W n p - p : Nat) : Int)) rfl (by omega), hte, htk]
    by_cases h8 : 8 < q_run bL W n p - p
    · obtain ⟨Z1, e1, ⟨e2, e3, e4, e5⟩, e6, e7⟩ := m_token (d := d) hj (by omega) (by omega) t 3 (p : Int) 0 (v_27 (fun i => W (p + i) - 96) (min (q_run bL W n p - p) 8))
      rw [if_pos (by omega), if_pos (by omega), e1, Option.bind_some, B142_189, if_pos h8, show (p : Int) + ((q_run bL W n p - p : Nat) : Int) = (q_run bL W n p : Int) by omega]
      exact ⟨Z1, _, _, _, _, _, _, rfl, ⟨by rw [e2]; simp [t_m], e3, fun x => absurd x (by decide), fun x => absurd x (by decide)⟩, e6, e7⟩
    · have k0 := m_keysl (Z := Z) (W := W) (d := d) hK hp (by omega) t (p : Int) (W p % 256) ((q_run bL W n p - p : Nat) : Int) 24 0 (by omega)
      rw [if_neg (by omega)] at k0
      obtain ⟨Z1, e1, ⟨e2, e3, e4, e5⟩, e6, e7⟩ := m_token (d := d) hj (by omega) (by omega) t (if t_w W n p = -1 then 1 else 20 + t_w W n p) (p : Int) 0 (v_27 (fun i => W (p + i) - 96) (q_run bL W n p - p))
      rw [if_neg (by omega), if_neg (by omega), show min (q_run bL W n p - p) 8 = q_run bL W n p - p by omega]
      have k1 : x_EX d 142 146 [some (.inr (.inr (some (56, 0)))), some (.inl ((p : Int))), some (.inl ((W p % 256))), some (.inl (((q_run bL W n p - p : Nat) : Int))), some (.inr (.inl (v_27 (fun i => W (p + i) - 96) (q_run bL W n p - p)))), none, some (.inl 1), some (.inl 0)] [] (x_S Z t) = _ := k0
      rw [k1, e1, Option.bind_some, B142_189, if_neg h8, show (p : Int) + ((q_run bL W n p - p : Nat) : Int) = (q_run bL W n p : Int) by omega]
      refine ⟨Z1, _, _, _, _, _, _, rfl, ⟨?_, e3, ?_, ?_⟩, e6, e7⟩
      · rw [e2]
        by_cases hw1 : t_w W n p = -1
        · rw [if_pos hw1, if_pos hw1]; simp [t_m]
        · rw [if_neg hw1, if_neg hw1]; unfold t_m
          rw [if_neg (by omega), if_neg (by omega), if_neg (by omega), if_neg (by omega), if_pos (by omega)]; omega
      · intro x
        by_cases hw1 : t_w W n p = -1
        · rw [if_pos hw1] at x; omega
        · rw [if_neg hw1] at x; omega
      · intro _; exact e5
  · rw [if_neg hL, if_pos cn_0, m_digt hpw.2.1 hpw.2.2 (by omega) t, Option.bind_some, B142_200]
    by_cases hD : bD (W p) = true
    · obtain ⟨r1, r2, r3, r4⟩ := q_run_spec (P := bD) (W := W) (n := n) (n - p) p (by omega)
      have hte : t_e W n p = q_run bD W n p := by unfold t_e; rw [if_neg (by omega), if_neg hL, if_pos hD]
      have htk : t_k W n p = if 4 < q_run bD W n p - p then 257 else 259 := by unfold t_k; rw [if_neg (by omega), if_neg hL, if_pos hD]
      have htv : t_v W n p = q_dv W p (q_run bD W n p - p) := by unfold t_v; rw [if_neg hL]
      have l0 := m_digs hX h4 hp (show 1 ≤ d by omega) t (W p % 256) o5 o6 o7 (q_run bD W n p - p) 0 (by omega)
      rw [Nat.zero_min] at l0
      have l1 : x_EX d 142 208 [some (.inr (.inr (some (56, 0)))), some (.inl ((p : Int))), some (.inl ((W p % 256))), some (.inl 0), some (.inl 0), o5, o6, o7] [] (x_S Z t) = _ := l0
      rw [if_pos hD, if_neg cn_1n, l1, B142_218, if_pos cn_0, cn_nt (z := ((q_run bD W n p - p : Nat) : Int)) rfl (by omega), hte, htk, htv]
      by_cases h8 : 4 < q_run bD W n p - p
      · obtain ⟨Z1, e1, ⟨e2, e3, e4, e5⟩, e6, e7⟩ := m_token (d := d) hj (by omega) (by omega) t 3 (p : Int) (q_dv W p (min (q_run bD W n p - p) 4)) 0
        rw [if_pos (by omega), e1, Option.bind_some, B142_268, if_pos h8, show (p : Int) + ((q_run bD W n p - p : Nat) : Int) = (q_run bD W n p : Int) by omega]
        exact ⟨Z1, _, _, _, _, _, _, rfl, ⟨by rw [e2]; simp [t_m], e3, fun x => absurd x (by decide), fun x => absurd x (by decide)⟩, e6, e7⟩
      · obtain ⟨Z1, e1, ⟨e2, e3, e4, e5⟩, e6, e7⟩ := m_token (d := d) hj (by omega) (by omega) t 2 (p : Int) (q_dv W p (min (q_run bD W n p - p) 4)) 0
        rw [if_neg (by omega), e1, Option.bind_some, B142_268, if_neg h8, show (p : Int) + ((q_run bD W n p - p : Nat) : Int) = (q_run bD W n p : Int) by omega]
        exact ⟨Z1, _, _, _, _, _, _, rfl, ⟨by rw [e2]; simp [t_m], e3, fun _ => by rw [e4, show min (q_run bD W n p - p) 4 = q_run bD W n p - p by omega], fun x => absurd x (by decide)⟩, e6, e7⟩
    · have hte : t_e W n p = p + 1 := by unfold t_e; rw [if_neg (by omega), if_neg hL, if_neg hD]
      have htk : t_k W n p = if W p ∈ x_tx 1 then W p else 257 := by unfold t_k; rw [if_neg (by omega), if_neg hL, if_neg hD]
      have hb := mW_b hX (p + 1)
      obtain ⟨Z1, e1, ⟨e2, e3, e4, e5⟩, e6, e7⟩ := m_token (d := d - 1) hj (by omega) (by omega) t (t_m (if W p ∈ x_tx 1 then W p else 257)) (p : Int) 0 0
      have mb := m_byte2 (i := p + 1) hX h4 (by omega) (show 1 ≤ d by omega) t
      rw [Int.natCast_add] at mb
      rw [if_neg hD, if_pos cn_0, show (p : Int) + 1 = (p : Int) + ((1 : Nat) : Int) from rfl, mb, Option.bind_some, B142_286, m_sign hpw.2.1 hpw.2.2 (by omega) t _ _ e1, Option.bind_some, B142_289, hte, htk]
      have hk : (if W p ∈ x_tx 1 then W p else (257 : Int)) < 258 := by
        by_cases hm : W p ∈ x_tx 1
        · rw [if_pos hm]; omega
        · rw [if_neg hm]; decide
      exact ⟨Z1, _, _, _, _, _, _, rfl, ⟨e2, e3, fun x => by omega, fun x => by omega⟩, e6, e7⟩
theorem m_cut {Z : XZ} {W : Nat → Int} {n d : Nat} (hX : TX Z 58 W n) (h4 : Z 56 0 4 = (n : Int)) (hK : ∀ k, k < 24 → Z 63 0 k = x_Z0 63 0 k) (hd : 3 ≤ d) (t : Nat) : ∃ Z' : XZ, x_CALL d 142 [.inr (.inr (some (56, 0)))] (x_S Z t) = some (0, x_S Z' t) ∧ MK Z' W n ∧ ∀ g m i, ¬ (59 ≤ g ∧ g ≤ 62) → ¬ (g = 56 ∧ i = 10) → Z' g m i = Z g m i := by
  have hn := hX.1
  have loop : ∀ (r b j : Nat) (Z : XZ) (o2 o3 o4 o5 o6 o7 : Option XV), n - b + (401 - j) ≤ r → b ≤ n → j ≤ 401 → TX Z 58 W n → Z 56 0 4 = (n : Int) → (∀ k, k < 24 → Z 63 0 k = x_Z0 63 0 k) → Z 56 0 10 = (j : Int) → q_run bB W n b = t_p W n j → (∀ i, i < j → MK1 Z W n i) → ∃ Z' : XZ, x_EX (d - 1) 142 7 [some (.inr (.inr (some (56, 0)))), some (.inl ((b : Int))), o2, o3, o4, o5, o6, o7] [] (x_S Z t) = some (0, x_S Z' t) ∧ MK Z' W n ∧ ∀ g m i, ¬ (59 ≤ g ∧ g ≤ 62) → ¬ (g = 56 ∧ i = 10) → Z' g m i = Z g m i := by
    intro r
    induction r with
    | zero =>
      intro b j Z o2 o3 o4 o5 o6 o7 hr hb hj hX h4 hK hjt hq hI
      obtain rfl : j = 401 := by omega
      rw [B142_7, hjt, if_pos (by decide)]
      exact ⟨Z, rfl, fun i hi _ => hI i (by omega), fun _ _ _ _ _ => rfl⟩
    | succ r ih =>
      intro b j Z o2 o3 o4 o5 o6 o7 hr hb hj hX h4 hK hjt hq hI
      by_cases hj1 : j = 401
      · subst hj1
        rw [B142_7, hjt, if_pos (by decide)]
        exact ⟨Z, rfl, fun i hi _ => hI i (by omega), fun _ _ _ _ _ => rfl⟩
      · have hmb := mW_b hX b
        by_cases hbn : b < n
        · by_cases hB : bB (W b) = true
          · have hmw := mW_lt (W := W) hbn
            have hq' : q_run bB W n (b + 1) = t_p W n j := by rw [← hq, q_run_go hbn hB]
            have hB' := (bB_i _).1 hB
            obtain ⟨Z', e1, e2, e3⟩ := ih (b + 1) j Z (some (.inl (W b % 256))) o3 o4 o5 o6 o7 (by omega) (by omega) hj hX h4 hK hjt hq' hI
            refine ⟨Z', ?_, e2, e3⟩
            rw [B142_7, hjt, cn_nt (z := (j : Int)) rfl (by omega), if_neg (by omega), m_byte2 hX h4 (by omega) (by omega) t, Option.bind_some, B142_22, h4, cn_nt (z := (b : Int)) rfl (by omega), cn_nt (z := (n : Int)) rfl (by omega), if_pos (by omega), hmw, cn_id (z := W b % 256) (by omega) (by omega)]
            rcases hB' with h | h | h | h
            · rw [if_pos (by omega)]; exact e1
            · rw [if_neg (by omega), if_pos (by omega)]; exact e1
            · rw [if_neg (by omega), if_neg (by omega), if_pos (by omega)]; exact e1
            · rw [if_neg (by omega), if_neg (by omega), if_neg (by omega), if_pos (by omega)]; exact e1
          · have hbp : b = t_p W n j := by rw [← hq, q_run_stop hB]
            obtain ⟨Z1, p2, p3, p4, p5, p6, p7, e1, e2, e3, e4⟩ := m_tok1 (d := d - 1) hX h4 hK (by omega) t (hbp ▸ hbn) hjt (by omega) o2 o3 o4 o5 o6 o7
            have hle := t_e_le (W := W) (n := n) (p := t_p W n j) (by omega)
            have hlt : t_p W n j < t_e W n (t_p W n j) := by
              unfold t_e
              rw [if_neg (by omega)]
              split
              · rename_i h; rw [q_run_go (by omega) h]; have := q_run_spec (P := bL) (W := W) (n := n) (n - (t_p W n j + 1)) (t_p W n j + 1) (by omega); omega
              · split
                · rename_i h; rw [q_run_go (by omega) h]; have := q_run_spec (P := bD) (W := W) (n := n) (n - (t_p W n j + 1)) (t_p W n j + 1) (by omega); omega
                · omega
            obtain ⟨Z', f1, f2, f3⟩ := ih (t_e W n (t_p W n j)) (j + 1) Z1 p2 p3 p4 p5 p6 p7 (by omega) hle.2 (by omega) (hX.congr (fun i => e4 _ _ _ (by omega) (by omega))) (by rw [e4 _ _ _ (by omega) (by omega)]; exact h4) (fun k hk => by rw [e4 _ _ _ (by omega) (by omega)]; exact hK k hk) e3 rfl (fun i hi => by
              by_cases hij : i = j
              · rw [hij]; exact e2
              · unfold MK1; rw [e4 59 _ _ (by omega) (by omega), e4 60 _ _ (by omega) (by omega), e4 61 _ _ (by omega) (by omega), e4 62 _ _ (by omega) (by omega)]; exact hI i (by omega))
            refine ⟨Z', ?_, f2, fun g m i a c => (f3 g m i a c).trans (e4 g m i (by omega) c)⟩
            rw [hbp, e1]; exact f1
        · have hbe : b = n := by omega
          have htp : t_p W n j = n := by rw [← hq, hbe, q_run_end (Nat.le_refl _)]
          obtain ⟨Z1, e1, ⟨e2, e3, e4, e5⟩, e6, e7⟩ := m_token (d := d - 1) hjt (by omega) (by omega) t 0 (n : Int) 0 0
          rw [B142_7, hjt, cn_nt (z := (j : Int)) rfl (by omega), if_neg (by omega), m_byte2 hX h4 (by omega) (by omega) t, Option.bind_some, B142_22, h4, cn_nt (z := (b : Int)) rfl (by omega), cn_nt (z := (n : Int)) rfl (by omega), if_neg (by omega), e1, Option.bind_some, B142_42]
          refine ⟨Z1, rfl, fun i hi hl => ?_, fun g m i a c => e7 g m i (by omega) c⟩
          by_cases hij : i = j
          · subst hij
            unfold MK1
            rw [htp, t_k_end]
            exact ⟨by rw [e2]; simp [t_m], e3, fun x => absurd x (by decide), fun x => absurd x (by decide)⟩
          · by_cases hlt : i < j
            · unfold MK1; rw [e7 59 _ _ (by omega) (by omega), e7 60 _ _ (by omega) (by omega), e7 61 _ _ (by omega) (by omega), e7 62 _ _ (by omega) (by omega)]; exact hI i hlt
            · exact absurd (by rw [htp]; exact t_k_end) (hl j (by omega)).1
  rw [C142 _ _ _ (by omega)]
  obtain ⟨Z', e1, e2, e3⟩ := loop (n + 401) 0 0 (x_u Z 56 0 10 0) none none none none none none (by omega) (by omega) (by omega) (hX.congr (fun i => x_u_ne (by omega))) (by rw [x_u_ne (by omega)]; exact h4) (fun k hk => by rw [x_u_ne (by omega)]; exact hK k hk) x_u_eq rfl (fun i hi => by omega)
  exact ⟨Z', e1, e2, fun g m i a c => by rw [e3 g m i a c, x_u_ne (by omega)]⟩
