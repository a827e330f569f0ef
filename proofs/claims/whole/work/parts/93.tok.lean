/-! tokens: what the class cuts -/
def q_rn (P : Int → Bool) (W : Nat → Int) (f s : Nat) : Nat := match f with
  | 0 => s
  | f + 1 => if P (W s) = true then q_rn P W f (s + 1) else s
def q_run (P : Int → Bool) (W : Nat → Int) (n s : Nat) : Nat := q_rn P W (n - s) s
theorem q_run_go {P : Int → Bool} {W : Nat → Int} {n s : Nat} (hs : s < n) (hP : P (W s) = true) : q_run P W n s = q_run P W n (s + 1) := by
  unfold q_run; rw [show n - s = (n - (s + 1)) + 1 by omega, q_rn, if_pos hP]
theorem q_run_stop {P : Int → Bool} {W : Nat → Int} {n s : Nat} (hP : ¬ P (W s) = true) : q_run P W n s = s := by
  unfold q_run
  cases n - s with
  | zero => rfl
  | succ f => rw [q_rn, if_neg hP]
theorem q_run_end {P : Int → Bool} {W : Nat → Int} {n s : Nat} (hs : n ≤ s) : q_run P W n s = s := by
  unfold q_run; rw [show n - s = 0 by omega]; rfl
theorem q_run_spec {P : Int → Bool} {W : Nat → Int} {n : Nat} : ∀ (j s : Nat), s + j = n → s ≤ q_run P W n s ∧ q_run P W n s ≤ n ∧ (∀ i, s ≤ i → i < q_run P W n s → P (W i) = true) ∧ (q_run P W n s < n → ¬ P (W (q_run P W n s)) = true) := by
  intro j
  induction j with
  | zero => intro s hs; rw [q_run_end (by omega)]; exact ⟨Nat.le_refl _, by omega, fun i a b => by omega, fun h => by omega⟩
  | succ j ih =>
    intro s hs
    by_cases hP : P (W s) = true
    · rw [q_run_go (by omega) hP]
      obtain ⟨h1, h2, h3, h4⟩ := ih (s + 1) (by omega)
      exact ⟨by omega, h2, fun i a b => by
        by_cases hi : i = s
        · rw [hi]; exact hP
        · exact h3 i (by omega) b, h4⟩
    · rw [q_run_stop hP]; exact ⟨Nat.le_refl _, by omega, fun i a b => by omega, fun _ => hP⟩
def bB (x : Int) : Bool := decide (x = 9) || decide (x = 10) || decide (x = 13) || decide (x = 32)
def bL (x : Int) : Bool := decide (97 ≤ x) && decide (x ≤ 122)
def bD (x : Int) : Bool := decide (48 ≤ x) && decide (x ≤ 57)
theorem bB_i (x : Int) : bB x = true ↔ (x = 9 ∨ x = 10 ∨ x = 13 ∨ x = 32) := by unfold bB; simp [or_assoc]
theorem bL_i (x : Int) : bL x = true ↔ (97 ≤ x ∧ x ≤ 122) := by unfold bL; simp
theorem bD_i (x : Int) : bD x = true ↔ (48 ≤ x ∧ x ≤ 57) := by unfold bD; simp
/-- the text -/
def TX (Z : XZ) (g : Nat) (W : Nat → Int) (n : Nat) : Prop := n ≤ 2000 ∧ ∀ i, i < n → Z g 0 i = W i ∧ -128 ≤ W i ∧ W i < 128
theorem TX.congr {Z Z' : XZ} {g : Nat} {W : Nat → Int} {n : Nat} (h : TX Z g W n) (hk : ∀ i, Z' g 0 i = Z g 0 i) : TX Z' g W n := ⟨h.1, fun i hi => by rw [hk]; exact h.2 i hi⟩
theorem c_skip {Z : XZ} {W : Nat → Int} {n s d : Nat} (hX : TX Z 1 W n) (hd : 1 ≤ d) (hs : s ≤ n) (t : Nat) : x_CALL d 46 [.inr (.inr (some (1, 0))), .inl ((s : Int)), .inl ((n : Int))] (x_S Z t) = some ((q_run bB W n s : Int), x_S Z t) := by
  have hn := hX.1
  have loop : ∀ (j i : Nat), i + j = n → x_EX (d - 1) 46 2 [some (.inr (.inr (some (1, 0)))), some (.inl ((s : Int))), some (.inl ((n : Int))), some (.inl ((i : Int)))] [] (x_S Z t) = some ((q_run bB W n i : Int), x_S Z t) := by
    intro j
    induction j with
    | zero =>
      intro i hi
      obtain rfl : i = n := by omega
      rw [B46_2, if_neg (Int.lt_irrefl _), q_run_end (Nat.le_refl _)]
    | succ j ih =>
      intro i hi
      obtain ⟨z1, z2, z3⟩ := hX.2 i (by omega)
      have bi : 0 ≤ (i : Int) ∧ (i : Int) < 2000 := by omega
      have ih' := ih (i + 1) (by omega)
      rw [B46_2, cn_nt (z := (i : Int)) rfl (by omega), cn_nt (z := (n : Int)) rfl (by omega), if_pos (by omega), Int.toNat_natCast, z1, cn_id (z := W i) (by omega) (by omega)]
      simp only [if_pos bi]
      by_cases hb : bB (W i) = true
      · rw [q_run_go (by omega) hb]
        rcases (bB_i _).1 hb with h | h | h | h
        · rw [if_pos h]; exact ih'
        · rw [if_neg (by omega), if_pos h]; exact ih'
        · rw [if_neg (by omega), if_neg (by omega), if_pos h]; exact ih'
        · rw [if_neg (by omega), if_neg (by omega), if_neg (by omega), if_pos h]; exact ih'
      · rw [q_run_stop hb]
        have hb' : ¬ (W i = 9 ∨ W i = 10 ∨ W i = 13 ∨ W i = 32) := fun e => hb ((bB_i _).2 e)
        rw [if_neg (by omega), if_neg (by omega), if_neg (by omega), if_neg (by omega)]
  rw [C46 _ _ _ _ _ (by omega)]
  exact loop (n - s) s (by omega)
/-! the words -/
def q_wa (cs : List Int) (W : Nat → Int) (p len : Nat) (w al : Int) : Int := match cs with
  | [] => -1
  | c :: cs => if c = 32 then (if al = (len : Int) then w else q_wa cs W p len (w + 1) 0) else if al < 0 then q_wa cs W p len w (-1) else if al < (len : Int) then (if W (p + al.toNat) = c then q_wa cs W p len w (al + 1) else q_wa cs W p len w (-1)) else q_wa cs W p len w (-1)
theorem tx0_ok : ∀ c, c ∈ x_tx 0 → 0 ≤ c ∧ c < 128 := by decide +kernel
theorem tx0_len : (x_tx 0).length = 133 := by decide +kernel
theorem c_len0 {Z : XZ} {d : Nat} (hd : 2 ≤ d) (t : Nat) : x_CALL d 248 [.inr (.inr (some (901, 0)))] (x_S Z t) = some (((x_tx 0).length : Int), x_S Z t) := by
  rw [C248 _ _ _ _ (by omega), C252 _ _ _ _ (by omega), if_neg (by decide), Option.bind_some, B248_9]
  rw [show x_shr ((x_tx 0).length : Int) 0 = ((x_tx 0).length : Int) by rw [tx0_len]; decide]
theorem c_char0 {Z : XZ} {d i : Nat} (hi : i < (x_tx 0).length) (hd : 4 ≤ d) (t : Nat) : x_CALL d 249 [.inr (.inr (some (901, 0))), .inl ((i : Int))] (x_S Z t) = some ((x_tx 0).getD i 0, x_S Z t) := by
  have hl := tx0_len
  have hm : (x_tx 0).getD i 0 ∈ x_tx 0 := by rw [List.getD_eq_getElem?_getD, List.getElem?_eq_getElem hi]; exact List.getElem_mem _
  obtain ⟨m1, m2⟩ := tx0_ok _ hm
  obtain ⟨q, hq⟩ := Int.eq_ofNat_of_zero_le m1
  have hand : x_i2c (x_and ((x_tx 0).getD i 0) 255) = (x_tx 0).getD i 0 := by
    rw [hq, show (255 : Int) = ((255 : Nat) : Int) from rfl, x_and_nat (by omega) (by decide), show (255 : Nat) = 2 ^ 8 - 1 from rfl, Nat.and_two_pow_sub_one_eq_mod]
    unfold x_i2c; omega
  rw [C249 _ _ _ _ _ (by omega), C253 _ _ _ _ (by omega), if_neg (by decide), if_pos rfl, Option.bind_some, B249_4, if_neg cn_1n, C255 _ _ _ _ _ (by omega), C254 _ _ _ _ _ (by omega), C259 _ _ _ _ _ (by omega), cn_nt (z := (i : Int)) rfl (by omega), cn_nt (z := ((x_tx 0).length : Int)) rfl (by omega), if_neg (by omega), if_pos (by omega), Option.bind_some, B254_8, Option.bind_some, B255_6, cn_nt (z := (i : Int)) rfl (by omega), if_pos (by omega), Int.toNat_natCast, hand, if_pos (by omega), Option.bind_some, B249_15, if_pos (by show 0 ≤ (x_tx 0).getD i 0 ∧ (x_tx 0).getD i 0 < 65536; omega)]
theorem c_word {Z : XZ} {W : Nat → Int} {n p len d : Nat} (hX : TX Z 1 W n) (hp : p + len ≤ n) (hd : 5 ≤ d) (t : Nat) : x_CALL d 50 [.inr (.inr (some (1, 0))), .inl ((p : Int)), .inl ((len : Int))] (x_S Z t) = some (q_wa (x_tx 0) W p len 0 0, x_S Z t) := by
  have hn := hX.1
  have hl := tx0_len
  have loop : ∀ (j i : Nat) (w : Nat) (al : Int) (o6 : Option XV), i + j = (x_tx 0).length → (-1 ≤ al ∧ al ≤ 2000) → w ≤ i → x_EX (d - 1) 50 8 [some (.inr (.inr (some (1, 0)))), some (.inl ((p : Int))), some (.inl ((len : Int))), some (.inl ((w : Int))), some (.inl al), some (.inl ((i : Int))), o6] [] (x_S Z t) = some (q_wa ((x_tx 0).drop i) W p len (w : Int) al, x_S Z t) := by
    intro j
    induction j with
    | zero =>
      intro i w al o6 hi ha hw
      have hil : i = (x_tx 0).length := by omega
      rw [hil, B50_8, c_len0 (by omega), Option.bind_some, B50_15, if_neg (Int.lt_irrefl _), List.drop_length, q_wa]
    | succ j ih =>
      intro i w al o6 hi ha hw
      have hil : i < (x_tx 0).length := by omega
      have hm : (x_tx 0).getD i 0 ∈ x_tx 0 := by rw [List.getD_eq_getElem?_getD, List.getElem?_eq_getElem hil]; exact List.getElem_mem _
      obtain ⟨m1, m2⟩ := tx0_ok _ hm
      have ed : (x_tx 0).drop i = (x_tx 0).getD i 0 :: (x_tx 0).drop (i + 1) := by rw [List.drop_eq_getElem_cons hil, List.getD_eq_getElem?_getD, List.getElem?_eq_getElem hil]; rfl
      rw [B50_8, c_len0 (by omega), Option.bind_some, B50_15, cn_nt (z := (i : Int)) rfl (by omega), cn_nt (z := ((x_tx 0).length : Int)) rfl (by omega), if_pos (by omega), c_char0 hil (by omega), Option.bind_some, B50_25, ed, q_wa, cn_id (z := (x_tx 0).getD i 0) (by omega) (by omega), cn_id (z := al) (by omega) (by omega), cn_nt (z := (len : Int)) rfl (by omega)]
      by_cases h1 : (x_tx 0).getD i 0 = 32
      · rw [if_pos h1, if_pos h1]
        by_cases h2 : al = (len : Int)
        · rw [if_pos h2, if_pos h2]
        · rw [if_neg h2, if_neg h2]
          exact ih (i + 1) (w + 1) 0 _ (by omega) (by omega) (by omega)
      · rw [if_neg h1, if_neg h1]
        by_cases h3 : al < 0
        · rw [if_pos h3, if_pos h3]; exact ih (i + 1) w (-1) _ (by omega) (by omega) (by omega)
        · rw [if_neg h3, if_neg h3]
          by_cases h4 : al < (len : Int)
          · obtain ⟨q, rfl⟩ := Int.eq_ofNat_of_zero_le (show 0 ≤ al by omega)
            obtain ⟨z1, z2, z3⟩ := hX.2 (p + q) (by omega)
            rw [if_pos h4, if_pos h4, cn_nt (z := (p : Int) + (q : Int)) (n := p + q) (by omega) (by omega), if_pos (by omega), Int.toNat_natCast, z1, cn_id (z := W (p + q)) (by omega) (by omega), Int.toNat_natCast]
            by_cases h5 : W (p + q) = (x_tx 0).getD i 0
            · rw [if_pos h5, if_pos h5]; exact ih (i + 1) w _ _ (by omega) (by omega) (by omega)
            · rw [if_neg h5, if_neg h5]; exact ih (i + 1) w (-1) _ (by omega) (by omega) (by omega)
          · rw [if_neg h4, if_neg h4]; exact ih (i + 1) w (-1) _ (by omega) (by omega) (by omega)
  rw [C50 _ _ _ _ _ (by omega)]
  have := loop (x_tx 0).length 0 0 0 none (by omega) (by omega) (by omega)
  rw [List.drop_zero] at this
  exact this
