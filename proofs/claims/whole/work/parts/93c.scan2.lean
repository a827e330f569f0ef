/-! the class scans: signs, and all -/
theorem and255 : ∀ x : Fin 256, x_and ((x.val : Int) - 128) 255 = ((x.val : Int) - 128) % 256 := by decide +kernel
theorem x_and255 {w : Int} (h1 : -128 ≤ w) (h2 : w < 128) : x_and w 255 = w % 256 := by
  have := and255 ⟨(w + 128).toNat, by omega⟩
  have e : (((w + 128).toNat : Nat) : Int) - 128 = w := by omega
  simp only [e] at this
  exact this
theorem tx1_ok : ∀ c, c ∈ x_tx 1 → 33 ≤ c ∧ c < 97 ∧ ¬ (48 ≤ c ∧ c ≤ 57) := by decide +kernel
theorem tx1_len : (x_tx 1).length = 9 := by decide +kernel
theorem c_sgn {Z : XZ} {d : Nat} {w : Int} (h1 : -128 ≤ w) (h2 : w < 128) (hd : 7 ≤ d) (t : Nat) : ∃ r : Int, x_CALL d 250 [.inr (.inr (some (901, 1))), .inl (x_i2c (w % 256))] (x_S Z t) = some (r, x_S Z t) ∧ (cn r < 0 ↔ w ∉ x_tx 1) := by
  have hl := tx1_len
  have e1 : x_i2c (w % 256) = w % 256 := by unfold x_i2c; omega
  have e2 : x_i2b (w % 256) = w := by unfold x_i2b; omega
  have hlen : ∀ d', 2 ≤ d' → x_CALL d' 248 [.inr (.inr (some (901, 1)))] (x_S Z t) = some (9, x_S Z t) := fun d' hd' => by
    rw [C248 _ _ _ _ (by omega), C252 _ _ _ _ (by omega), if_neg (by decide), Option.bind_some, B248_9, tx1_len]
    rw [show x_shr ((9 : Nat) : Int) 0 = 9 by decide]
  have loop : ∀ (j i : Nat), i + j = 9 → ∃ r : Int, x_EX (d - 1 - 1 - 1 - 1) 258 7 [some (.inr (.inr (some (902, 1)))), some (.inl (w % 256)), some (.inl 0), some (.inl 9), some (.inl w), some (.inl ((i : Int)))] [] (x_S Z t) = some (r, x_S Z t) ∧ (cn r < 0 ↔ w ∉ (x_tx 1).drop i) := by
    intro j
    induction j with
    | zero =>
      intro i hi
      obtain rfl : i = 9 := by omega
      rw [B258_7, if_neg (by decide)]
      refine ⟨_, rfl, ?_⟩
      rw [show (x_tx 1).drop 9 = [] from by rw [← tx1_len, List.drop_length]]
      exact ⟨fun _ => List.not_mem_nil, fun _ => by decide⟩
    | succ j ih =>
      intro i hi
      have hil : i < (x_tx 1).length := by omega
      have hm : (x_tx 1).getD i 0 ∈ x_tx 1 := by rw [List.getD_eq_getElem?_getD, List.getElem?_eq_getElem hil]; exact List.getElem_mem _
      obtain ⟨m1, m2, _⟩ := tx1_ok _ hm
      have ed : (x_tx 1).drop i = (x_tx 1).getD i 0 :: (x_tx 1).drop (i + 1) := by rw [List.drop_eq_getElem_cons hil, List.getD_eq_getElem?_getD, List.getElem?_eq_getElem hil]; rfl
      rw [B258_7, cn_nt (z := (i : Int)) rfl (by omega), cn_id (z := 9) (by decide) (by decide), if_pos (by omega), if_pos (by omega), Int.toNat_natCast, cn_id (z := (x_tx 1).getD i 0) (by omega) (by omega), cn_id (z := w) (by omega) (by omega), ed, List.mem_cons]
      by_cases h : (x_tx 1).getD i 0 = w
      · rw [if_pos h]
        refine ⟨_, rfl, ?_⟩
        rw [cn_nt rfl (by omega)]
        constructor
        · intro x; omega
        · intro x; exact absurd (.inl h.symm) x
      · rw [if_neg h]
        obtain ⟨r, f1, f2⟩ := ih (i + 1) (by omega)
        refine ⟨r, f1, f2.trans ?_⟩
        constructor
        · rintro x (y | y)
          · exact h y.symm
          · exact x y
        · intro x y; exact x (.inr y)
  obtain ⟨r, f1, f2⟩ := loop 9 0 (by omega)
  rw [List.drop_zero] at f2
  refine ⟨r, ?_, f2⟩
  have c58 : x_CALL (d - 1 - 1 - 1) 258 [.inr (.inr (some (902, 1))), .inl (w % 256), .inl 0, .inl 9] (x_S Z t) = some (r, x_S Z t) := by
    rw [C258 _ _ _ _ _ _ _ (by omega), e2]; exact f1
  rw [e1, C250 _ _ _ _ _ (by omega), C251 _ _ _ _ _ _ (by omega), C253 _ _ _ _ (by omega), if_neg (by decide), if_pos rfl, Option.bind_some, B251_4, if_neg cn_1n, hlen _ (by omega), Option.bind_some, B251_17, C257 _ _ _ _ _ _ _ (by omega), C256 _ _ _ _ (by omega), cn_id (z := w % 256) (by omega) (by omega), if_neg (by omega), if_neg (by omega), Option.bind_some, B257_4, if_neg cn_1n, C260 _ _ _ _ _ (by omega), if_neg (by decide), Option.bind_some, B257_14, tx1_len, C261 _ _ _ _ _ (by omega), if_neg (show ¬ cn ((9 : Nat) : Int) < cn 9 by decide), Option.bind_some, B257_21, if_pos (show cn 0 < cn 9 by decide), c58, Option.bind_some, B257_36, Option.bind_some, B251_20, Option.bind_some, B250_6]
theorem c_one {Z : XZ} {W : Nat → Int} {n p j d : Nat} (hX : TX Z 1 W n) (hj : j < 402) (hp : p < n) (h5 : Z 5 0 j = (p : Int)) (hd : 8 ≤ d) (t : Nat) : ∃ Z' : XZ, x_CALL d 47 [.inr (.inr (some (3, 0))), .inl ((j : Int)), .inr (.inr (some (1, 0))), .inl ((n : Int))] (x_S Z t) = some ((t_e W n p : Int), x_S Z' t) ∧ Z' 4 0 j = t_k W n p ∧ (258 ≤ t_k W n p → Z' 6 0 j = t_v W n p) ∧ ∀ g m i, ¬ ((g = 4 ∨ g = 6) ∧ i = j) → Z' g m i = Z g m i := by
  have hn := hX.1
  have bj : 0 ≤ (j : Int) ∧ (j : Int) < 402 := by omega
  obtain ⟨z1, z2, z3⟩ := hX.2 p hp
  rw [C47 _ _ _ _ _ (by omega), cn_nt (z := (j : Int)) rfl (by omega), if_pos bj, Int.toNat_natCast, h5, cn_nt (z := (p : Int)) rfl (by omega), if_pos (by omega), Int.toNat_natCast, z1, x_and255 z2 z3, cn_id (z := W p % 256) (by omega) (by omega)]
  by_cases hL : bL (W p) = true
  · have hl := (bL_i _).1 hL
    obtain ⟨Z', e1, e2, e3, e4⟩ := c_let (d := d - 1) hX hj hp h5 hL (by omega) t
    rw [if_neg (by omega), if_neg (by omega), e1, Option.bind_some, B47_39]
    exact ⟨Z', rfl, e2, fun _ => e3, e4⟩
  · have hnl : ¬ (97 ≤ W p ∧ W p ≤ 122) := fun e => hL ((bL_i _).2 e)
    have go : ∃ Z' : XZ, x_EX (d - 1) 47 40 [some (.inr (.inr (some (3, 0)))), some (.inl (j : Int)), some (.inr (.inr (some (1, 0)))), some (.inl (n : Int)), some (.inl (p : Int)), some (.inl (W p % 256))] [] (x_S Z t) = some ((t_e W n p : Int), x_S Z' t) ∧ Z' 4 0 j = t_k W n p ∧ (258 ≤ t_k W n p → Z' 6 0 j = t_v W n p) ∧ ∀ g m i, ¬ ((g = 4 ∨ g = 6) ∧ i = j) → Z' g m i = Z g m i := by
      rw [B47_40, cn_id (z := W p % 256) (by omega) (by omega)]
      by_cases hD : bD (W p) = true
      · have hdd := (bD_i _).1 hD
        obtain ⟨Z', e1, e2, e3, e4⟩ := c_dig (d := d - 1) hX hj hp h5 hL hD (by omega) t
        rw [if_neg (by omega), if_neg (by omega), e1, Option.bind_some, B47_61]
        exact ⟨Z', rfl, e2, fun _ => e3, e4⟩
      · have hnd : ¬ (48 ≤ W p ∧ W p ≤ 57) := fun e => hD ((bD_i _).2 e)
        have hte : t_e W n p = p + 1 := by unfold t_e; rw [if_neg (by omega), if_neg hL, if_neg hD]
        have htk : t_k W n p = if W p ∈ x_tx 1 then W p else 257 := by unfold t_k; rw [if_neg (by omega), if_neg hL, if_neg hD]
        obtain ⟨r, s1, s2⟩ := c_sgn (Z := Z) (d := d - 1) (w := W p) z2 z3 (by omega) t
        have tail : ∃ Z' : XZ, x_EX (d - 1) 47 75 [some (.inr (.inr (some (3, 0)))), some (.inl (j : Int)), some (.inr (.inr (some (1, 0)))), some (.inl (n : Int)), some (.inl (p : Int)), some (.inl (W p % 256))] [.inl r, .inl (j : Int), .inr (.inr (some (4, 0)))] (x_S Z t) = some (((p + 1 : Nat) : Int), x_S Z' t) ∧ Z' 4 0 j = (if W p ∈ x_tx 1 then W p else 257) ∧ ∀ g m i, ¬ ((g = 4 ∨ g = 6) ∧ i = j) → Z' g m i = Z g m i := by
          rw [B47_75, cn_nt (z := (j : Int)) rfl (by omega), Int.toNat_natCast]
          by_cases hm : W p ∈ x_tx 1
          · have hmm := tx1_ok _ hm
            rw [if_neg (fun x => s2.1 x hm), if_pos bj, if_pos hm]
            exact ⟨_, rfl, by rw [x_u_eq]; omega, fun g m i hg => x_u_ne (by omega)⟩
          · rw [if_pos (s2.2 hm), if_pos bj, if_neg hm]
            exact ⟨_, rfl, x_u_eq, fun g m i hg => x_u_ne (by omega)⟩
        obtain ⟨Z', f1, f2, f3⟩ := tail
        have hlt : ¬ 258 ≤ t_k W n p := by
          rw [htk]
          by_cases hm : W p ∈ x_tx 1
          · rw [if_pos hm]; omega
          · rw [if_neg hm]; decide
        rw [hte, htk] at *
        by_cases h48 : W p % 256 < 48
        · rw [if_pos h48, s1, Option.bind_some]; exact ⟨Z', f1, f2, fun x => absurd x hlt, f3⟩
        · rw [if_neg h48, if_pos (by omega), s1, Option.bind_some]; exact ⟨Z', f1, f2, fun x => absurd x hlt, f3⟩
    by_cases h97 : W p % 256 < 97
    · rw [if_pos h97]; exact go
    · rw [if_neg h97, if_pos (by omega)]; exact go
/-- where the tokens stand -/
def t_b (W : Nat → Int) (n j : Nat) : Nat := match j with
  | 0 => 0
  | j + 1 => t_e W n (q_run bB W n (t_b W n j))
def t_p (W : Nat → Int) (n j : Nat) : Nat := q_run bB W n (t_b W n j)
theorem t_e_le {W : Nat → Int} {n p : Nat} (hp : p ≤ n) : p ≤ t_e W n p ∧ t_e W n p ≤ n := by
  unfold t_e
  split
  · omega
  · split
    · have := q_run_spec (P := bL) (W := W) (n := n) (n - p) p (by omega); omega
    · split
      · have := q_run_spec (P := bD) (W := W) (n := n) (n - p) p (by omega); omega
      · omega
theorem t_b_le (W : Nat → Int) (n j : Nat) : t_b W n j ≤ n ∧ t_p W n j ≤ n := by
  have key : ∀ b, b ≤ n → q_run bB W n b ≤ n := fun b hb => (q_run_spec (P := bB) (W := W) (n := n) (n - b) b (by omega)).2.1
  induction j with
  | zero => exact ⟨Nat.zero_le _, key 0 (Nat.zero_le _)⟩
  | succ j ih =>
    have h1 : t_b W n (j + 1) ≤ n := by unfold t_b; exact (t_e_le ih.2).2
    exact ⟨h1, key _ h1⟩
/-- tokens that a reader may come to -/
def t_l (W : Nat → Int) (n j : Nat) : Prop := ∀ i, i < j → t_k W n (t_p W n i) ≠ 256 ∧ t_k W n (t_p W n i) ≠ 257
def CK (Z : XZ) (W : Nat → Int) (n : Nat) : Prop := ∀ j, j ≤ 400 → t_l W n j → Z 4 0 j = t_k W n (t_p W n j) ∧ Z 5 0 j = (t_p W n j : Int) ∧ (258 ≤ t_k W n (t_p W n j) → Z 6 0 j = t_v W n (t_p W n j))
theorem t_k_end {W : Nat → Int} {n : Nat} : t_k W n n = 256 := by unfold t_k; rw [if_pos (Nat.le_refl _)]
theorem c_scan {Z : XZ} {W : Nat → Int} {n d : Nat} (hX : TX Z 1 W n) (hd : 10 ≤ d) (t : Nat) : ∃ Z' : XZ, x_CALL d 45 [.inr (.inr (some (3, 0))), .inr (.inr (some (1, 0))), .inl ((n : Int))] (x_S Z t) = some (0, x_S Z' t) ∧ CK Z' W n ∧ ∀ g m i, ¬ (4 ≤ g ∧ g ≤ 6) → Z' g m i = Z g m i := by
  have hn := hX.1
  have loop : ∀ (r j : Nat) (Z : XZ) (o6 : Option XV), j + r = 401 → TX Z 1 W n → t_l W n j → (∀ i, i < j → Z 4 0 i = t_k W n (t_p W n i) ∧ Z 5 0 i = (t_p W n i : Int) ∧ (258 ≤ t_k W n (t_p W n i) → Z 6 0 i = t_v W n (t_p W n i))) → ∃ Z' : XZ, x_EX (d - 1) 45 13 [some (.inr (.inr (some (3, 0)))), some (.inr (.inr (some (1, 0)))), some (.inl (n : Int)), some (.inl (j : Int)), some (.inl (t_p W n j : Int)), some (.inl (j : Int)), o6] [] (x_S Z t) = some (0, x_S Z' t) ∧ CK Z' W n ∧ ∀ g m i, ¬ (4 ≤ g ∧ g ≤ 6) → Z' g m i = Z g m i := by
    intro r
    induction r with
    | zero =>
      intro j Z o6 hj hX hl hI
      obtain rfl : j = 401 := by omega
      rw [B45_13, if_pos (by decide), cn_id (z := ((401 : Nat) : Int)) (by decide) (by decide), if_pos (by decide), if_pos (by decide)]
      refine ⟨_, rfl, fun i hi hli => ?_, fun g m i hg => by rw [x_u_ne (by omega), x_u_ne (by omega)]⟩
      rw [x_u_ne (by rintro ⟨x, _⟩; omega), x_u_ne (by rintro ⟨_, _, x⟩; simp at x; omega), x_u_ne (by rintro ⟨_, _, x⟩; simp at x; omega), x_u_ne (by rintro ⟨x, _⟩; omega), x_u_ne (by rintro ⟨x, _⟩; omega), x_u_ne (by rintro ⟨x, _⟩; omega)]
      exact hI i (by omega)
    | succ r ih =>
      intro j Z o6 hj hX hl hI
      have bj : 0 ≤ (j : Int) ∧ (j : Int) < 402 := by omega
      have htp := (t_b_le W n j).2
      rw [B45_13, cn_nt (z := (j : Int)) rfl (by omega), if_neg (by omega), cn_nt (z := (t_p W n j : Int)) rfl (by omega), cn_nt (z := (n : Int)) rfl (by omega), Int.toNat_natCast]
      by_cases hp : t_p W n j < n
      · obtain ⟨Z1, e1, e2, e3, e4⟩ := c_one (Z := x_u Z 5 0 j (t_p W n j : Int)) (j := j) (p := t_p W n j) (d := d - 1) (hX.congr (fun i => x_u_ne (by omega))) (by omega) hp x_u_eq (by omega) t
        have hI1 : ∀ i, i < j + 1 → Z1 4 0 i = t_k W n (t_p W n i) ∧ Z1 5 0 i = (t_p W n i : Int) ∧ (258 ≤ t_k W n (t_p W n i) → Z1 6 0 i = t_v W n (t_p W n i)) := fun i hi => by
          by_cases hij : i = j
          · subst hij
            exact ⟨e2, by rw [e4 _ _ _ (by omega), x_u_eq], e3⟩
          · rw [e4 4 _ _ (by omega), e4 5 _ _ (by omega), e4 6 _ _ (by omega), x_u_ne (by omega), x_u_ne (by omega), x_u_ne (by omega)]; exact hI i (by omega)
        have hX1 : TX Z1 1 W n := hX.congr (fun i => by rw [e4 _ _ _ (by omega), x_u_ne (by omega)])
        have kk : ∀ g m i, ¬ (4 ≤ g ∧ g ≤ 6) → Z1 g m i = Z g m i := fun g m i hg => by rw [e4 _ _ _ (by omega), x_u_ne (by omega)]
        have hk256 : t_k W n (t_p W n j) ≠ 256 := by
          intro hk
          unfold t_k at hk
          rw [if_neg (by omega)] at hk
          have hwb := t_w_b W n (t_p W n j)
          split at hk
          · split at hk
            · omega
            · split at hk <;> omega
          · split at hk
            · split at hk <;> omega
            · split at hk
              · rename_i hm; have := tx1_ok _ hm; omega
              · omega
        rw [if_pos (by omega), if_pos bj, e1, Option.bind_some, B45_44, cn_nt (z := (j : Int)) rfl (by omega), if_pos bj, Int.toNat_natCast, e2]
        have hkb : -2147483648 ≤ t_k W n (t_p W n j) ∧ t_k W n (t_p W n j) < 2147483648 := by
          have hwb := t_w_b W n (t_p W n j)
          have hz := (hX.2 _ hp).2
          unfold t_k
          split
          · omega
          · split
            · split
              · omega
              · split <;> omega
            · split
              · split <;> omega
              · split <;> omega
        rw [cn_id hkb.1 hkb.2]
        by_cases hbad : t_k W n (t_p W n j) = 257
        · rw [if_pos hbad, cn_nt (z := (j : Int) + 1) (n := j + 1) (by omega) (by omega), if_pos (by omega), if_pos (by omega), Int.toNat_natCast]
          refine ⟨_, rfl, fun i hi hli => ?_, fun g m i hg => by rw [x_u_ne (by omega), x_u_ne (by omega)]; exact kk g m i hg⟩
          have hij : i ≤ j := by
            by_cases hx : i ≤ j
            · exact hx
            · exact absurd hbad (hli j (by omega)).2
          rw [x_u_ne (by omega), x_u_ne (by omega), x_u_ne (by omega), x_u_ne (by omega), x_u_ne (by omega), x_u_ne (by omega)]
          exact hI1 i (by omega)
        · have hl1 : t_l W n (j + 1) := fun i hi => by
            by_cases hij : i = j
            · rw [hij]; exact ⟨hk256, hbad⟩
            · exact hl i (by omega)
          obtain ⟨Z2, f1, f2, f3⟩ := ih (j + 1) Z1 (some (.inl (t_e W n (t_p W n j) : Int))) (by omega) hX1 hl1 hI1
          rw [if_neg hbad, c_skip hX1 (by omega) (t_e_le htp).2 t, Option.bind_some, B45_74]
          exact ⟨Z2, f1, f2, fun g m i hg => (f3 g m i hg).trans (kk g m i hg)⟩
      · have hpn : t_p W n j = n := by omega
        rw [if_neg (by omega), if_pos bj, if_pos bj]
        refine ⟨_, rfl, fun i hi hli => ?_, fun g m i hg => by rw [x_u_ne (by omega), x_u_ne (by omega)]⟩
        have hij : i ≤ j := by
          by_cases hx : i ≤ j
          · exact hx
          · exact absurd (by rw [hpn]; exact t_k_end) (hli j (by omega)).1
        by_cases hie : i = j
        · subst hie
          rw [hpn, t_k_end]
          exact ⟨by rw [x_u_ne (by omega), x_u_eq], by rw [x_u_eq], fun x => by omega⟩
        · rw [x_u_ne (by omega), x_u_ne (by omega), x_u_ne (by omega), x_u_ne (by omega), x_u_ne (by omega), x_u_ne (by omega)]
          exact hI i (by omega)
  have hs0 : x_CALL (d - 1) 46 [.inr (.inr (some (1, 0))), .inl 0, .inl ((n : Int))] (x_S Z t) = some ((q_run bB W n 0 : Int), x_S Z t) := c_skip (s := 0) hX (by omega) (Nat.zero_le _) t
  rw [C45 _ _ _ _ (by omega), hs0, Option.bind_some, B45_8]
  exact loop 401 0 Z none (by omega) hX (fun i hi => by omega) (fun i hi => by omega)
