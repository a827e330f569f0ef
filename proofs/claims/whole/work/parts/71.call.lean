/-! the class: all ways are gone -/
def w_rows (T : PT) (F : PF) (N : PN) (s k : Nat) : List Nat := match k with
  | 0 => [0]
  | k + 1 => (w_rows T F N s k).map (w_nx T F N s k) ++ ((w_rows T F N s k).filter (w_sp T F N s k)).map (fun m => m + 2 ^ k)
theorem w_rows_len (T : PT) (F : PF) (N : PN) (s k : Nat) : (w_rows T F N s k).length ≤ 2 ^ k := by
  induction k with
  | zero => exact Nat.le_refl 1
  | succ k ih =>
    have := List.length_filter_le (w_sp T F N s k) (w_rows T F N s k)
    rw [w_rows, List.length_append, List.length_map, List.length_map, Nat.pow_succ]; omega
def w_S (T : PT) (F : PF) (N : PN) (s k : Nat) (R : List Nat) (n : Nat) : List Nat := ((R.take n).filter (w_sp T F N s k)).map (fun m => m + 2 ^ k)
theorem w_S_len (T : PT) (F : PF) (N : PN) (s k : Nat) (R : List Nat) (n : Nat) : (w_S T F N s k R n).length ≤ n := by
  unfold w_S
  rw [List.length_map]
  exact Nat.le_trans (List.length_filter_le _ _) (by rw [List.length_take]; omega)
theorem w_S_succ {T : PT} {F : PF} {N : PN} {s k : Nat} {R : List Nat} {n : Nat} (hn : n < R.length) : w_S T F N s k R (n + 1) = w_S T F N s k R n ++ (if w_sp T F N s k (R.getD n 0) = true then [R.getD n 0 + 2 ^ k] else []) := by
  have e : R.getD n 0 = R[n] := by rw [List.getD_eq_getElem?_getD, List.getElem?_eq_getElem hn]; rfl
  unfold w_S
  rw [List.take_succ, List.getElem?_eq_getElem hn, List.filter_append, List.map_append, e]
  congr 1
  by_cases h : w_sp T F N s k R[n] = true
  · rw [if_pos h]; simp [h]
  · rw [if_neg h]; simp [h]
def GI (T : PT) (F : PF) (N : PN) (s k : Nat) (R : List Nat) (n : Nat) (Z : XZ) : Prop := CW T F N s Z ∧ Z 41 0 0 = ((R.length + (w_S T F N s k R n).length : Nat) : Int) ∧ (∀ i, i < n → RR T F N s Z i (w_nx T F N s k (R.getD i 0)) (k + 1)) ∧ (∀ i, n ≤ i → i < R.length → RR T F N s Z i (R.getD i 0) k) ∧ ∀ j, j < (w_S T F N s k R n).length → RR T F N s Z (R.length + j) ((w_S T F N s k R n).getD j 0) (k + 1)
theorem getD_app_r {L M : List Nat} {i : Nat} (h : L.length ≤ i) : (L ++ M).getD i 0 = M.getD (i - L.length) 0 := by
  rw [List.getD_eq_getElem?_getD, List.getD_eq_getElem?_getD, List.getElem?_append_right h]
theorem getD_app_l {L M : List Nat} {i : Nat} (h : i < L.length) : (L ++ M).getD i 0 = L.getD i 0 := by
  rw [List.getD_eq_getElem?_getD, List.getD_eq_getElem?_getD, List.getElem?_append_left h]
theorem getD_map_n {L : List Nat} {f : Nat → Nat} {i : Nat} (h : i < L.length) : (L.map f).getD i 0 = f (L.getD i 0) := by
  rw [List.getD_eq_getElem?_getD, List.getD_eq_getElem?_getD, List.getElem?_map, List.getElem?_eq_getElem h]; rfl
theorem c_round {T : PT} {F : PF} {N : PN} {d s k : Nat} {R : List Nat} (hT : TOK T) (hs : s < T 2 0) (hk : k < 8) (hR : R.length ≤ 2 ^ k) (hd : 2 ≤ d) (t i1 i2 : Nat) (a3 : Int) : ∀ (j n : Nat) (Z : XZ), n + j = R.length → GI T F N s k R n Z → ∃ Z' : XZ, x_EX d 68 26 [some (.inr (.inr (some (41, 0)))), some (.inr (.inr (some (7, i1)))), some (.inr (.inr (some (28, i2)))), some (.inl a3), some (.inl ((k : Int))), some (.inl ((R.length : Int))), some (.inl ((n : Int)))] [] (x_S Z t) = x_EX d 68 10 [some (.inr (.inr (some (41, 0)))), some (.inr (.inr (some (7, i1)))), some (.inr (.inr (some (28, i2)))), some (.inl a3), some (.inl ((k : Int) + 1)), some (.inl ((R.length : Int))), some (.inl ((R.length : Int)))] [] (x_S Z' t) ∧ GI T F N s k R R.length Z' ∧ ∀ g m i, ¬ (41 ≤ g ∧ g ≤ 50) → Z' g m i = Z g m i := by
  have t0 : T 0 0 ≤ 7 := hT.1
  have hp : 2 ^ k ≤ 2 ^ 7 := Nat.pow_le_pow_right (by decide) (by omega)
  intro j
  induction j with
  | zero =>
    intro n Z hn hG
    obtain rfl : n = R.length := by omega
    rw [B68_26, if_neg (Int.lt_irrefl _)]
    exact ⟨Z, rfl, hG, fun _ _ _ _ => rfl⟩
  | succ j ih =>
    intro n Z hn hG
    have hnR : n < R.length := by omega
    obtain ⟨hW, hc, g1, g2, g3⟩ := id hG
    have hRn := g2 n (Nat.le_refl n) hnR
    have hSl := w_S_len T F N s k R n
    have hat : w_at T N s (R.getD n 0) k < T 0 0 := w_at_lt hT hs k
    have hz52 := (hW.2.2 _ hat).1
    have step : ∃ Z1 : XZ, x_EX d 68 26 [some (.inr (.inr (some (41, 0)))), some (.inr (.inr (some (7, i1)))), some (.inr (.inr (some (28, i2)))), some (.inl a3), some (.inl ((k : Int))), some (.inl ((R.length : Int))), some (.inl ((n : Int)))] [] (x_S Z t) = x_EX d 68 26 [some (.inr (.inr (some (41, 0)))), some (.inr (.inr (some (7, i1)))), some (.inr (.inr (some (28, i2)))), some (.inl a3), some (.inl ((k : Int))), some (.inl ((R.length : Int))), some (.inl (((n + 1 : Nat) : Int)))] [] (x_S Z1 t) ∧ GI T F N s k R (n + 1) Z1 ∧ ∀ g m i, ¬ (41 ≤ g ∧ g ≤ 50) → Z1 g m i = Z g m i := by
      rw [B68_26, cn_nt (z := (n : Int)) rfl (by omega), cn_nt (z := (R.length : Int)) rfl (by omega), if_pos (by omega), if_pos (by omega), Int.toNat_natCast, hRn.1.1, cn_nt (z := (w_at T N s (R.getD n 0) k : Int)) rfl (by omega), if_pos (by omega), Int.toNat_natCast, hz52]
      by_cases he : w_e T (w_at T N s (R.getD n 0) k) = true
      · have hsp : ¬ w_sp T F N s k (R.getD n 0) = true := by unfold w_sp; rw [he]; simp
        have hS1 := w_S_succ (T := T) (F := F) (N := N) (s := s) (k := k) hnR
        rw [if_neg hsp, List.append_nil] at hS1
        rw [if_pos he, if_neg cn_1n, B68_54]
        refine ⟨Z, rfl, ⟨hW, by rw [hS1]; exact hc, ?_, fun i a b => g2 i (by omega) b, by rw [hS1]; exact g3⟩, fun _ _ _ _ => rfl⟩
        intro i hi
        by_cases hin : i = n
        · subst hin
          have : w_nx T F N s k (R.getD i 0) = R.getD i 0 := by unfold w_nx; rw [if_pos he]
          rw [this]; exact hRn.ended he hk
        · exact g1 i (by omega)
      · obtain ⟨Z1, e1, e2, e3, e4⟩ := c_part (d := d) (c := R.length + (w_S T F N s k R n).length) hT hW hRn hs hc (by omega) (by omega) (fun _ => by omega) hk he hd t
        have hS1 := w_S_succ (T := T) (F := F) (N := N) (s := s) (k := k) hnR
        rw [if_neg he, if_pos cn_0, e1, Option.bind_some, B68_54]
        have keepR : ∀ i, i ≠ n → i < R.length + (w_S T F N s k R n).length → ∀ g, 42 ≤ g → g ≤ 50 → Z1 g 0 i = Z g 0 i := fun i a b g c d => e4 _ _ _ (by omega) (by omega)
        refine ⟨Z1, rfl, ⟨hW.congr (fun g m i hg => e4 _ _ _ (by omega) (by omega)), ?_, ?_, ?_, ?_⟩, fun g m i hg => e4 _ _ _ (by omega) (by omega)⟩
        · rw [hS1]
          by_cases hsp : w_sp T F N s k (R.getD n 0) = true
          · rw [if_pos hsp] at e3 ⊢
            rw [e3.1, List.length_append]; rfl
          · rw [if_neg hsp] at e3 ⊢
            rw [e3, List.append_nil]
        · intro i hi
          by_cases hin : i = n
          · subst hin; exact e2
          · exact (g1 i (by omega)).congr (keepR i hin (by omega))
        · intro i a b
          exact (g2 i (by omega) b).congr (keepR i (by omega) (by omega))
        · rw [hS1]
          intro i hi
          by_cases hil : i < (w_S T F N s k R n).length
          · rw [getD_app_l hil]; exact (g3 i hil).congr (keepR _ (by omega) (by omega))
          · by_cases hsp : w_sp T F N s k (R.getD n 0) = true
            · rw [if_pos hsp] at e3 hi ⊢
              rw [List.length_append] at hi
              have hie : i = (w_S T F N s k R n).length := by simp only [List.length_cons, List.length_nil] at hi; omega
              rw [getD_app_r (by omega), hie, Nat.sub_self]
              exact e3.2
            · rw [if_neg hsp, List.append_nil] at hi; omega
    obtain ⟨Z1, e1, e2, e3⟩ := step
    obtain ⟨Z2, f1, f2, f3⟩ := ih (n + 1) Z1 (by omega) e2
    exact ⟨Z2, e1.trans f1, f2, fun g m i hg => (f3 g m i hg).trans (e3 g m i hg)⟩
def GR (T : PT) (F : PF) (N : PN) (s k : Nat) (Z : XZ) : Prop := CW T F N s Z ∧ Z 41 0 0 = ((w_rows T F N s k).length : Int) ∧ ∀ i, i < (w_rows T F N s k).length → RR T F N s Z i ((w_rows T F N s k).getD i 0) k
theorem c_rounds {T : PT} {F : PF} {N : PN} {d s : Nat} (hT : TOK T) (hs : s < T 2 0) (hd : 2 ≤ d) (t i1 i2 : Nat) (a3 : Int) : ∀ (j k : Nat) (Z : XZ) (o5 o6 : Option XV), k + j = 8 → GR T F N s k Z → ∃ Z' : XZ, x_EX d 68 10 [some (.inr (.inr (some (41, 0)))), some (.inr (.inr (some (7, i1)))), some (.inr (.inr (some (28, i2)))), some (.inl a3), some (.inl ((k : Int))), o5, o6] [] (x_S Z t) = some (0, x_S Z' t) ∧ GR T F N s 8 Z' ∧ ∀ g m i, ¬ (41 ≤ g ∧ g ≤ 50) → Z' g m i = Z g m i := by
  intro j
  induction j with
  | zero =>
    intro k Z o5 o6 hk hG
    obtain rfl : k = 8 := by omega
    rw [B68_10, if_neg (by decide)]
    exact ⟨Z, rfl, hG, fun _ _ _ _ => rfl⟩
  | succ j ih =>
    intro k Z o5 o6 hk hG
    obtain ⟨hW, hc, hr⟩ := hG
    obtain ⟨Z1, e1, ⟨hW1, hc1, g1, g2, g3⟩, e3⟩ := c_round (d := d) (k := k) (R := w_rows T F N s k) hT hs (by omega) (w_rows_len _ _ _ _ _) hd t i1 i2 a3 (w_rows T F N s k).length 0 Z (by omega) ⟨hW, by rw [hc]; unfold w_S; simp, fun i hi => by omega, fun i a b => hr i b, fun j hj => by unfold w_S at hj; simp at hj⟩
    rw [B68_10, cn_nt (z := (k : Int)) rfl (by omega), if_pos (by omega), hc]
    have hS : w_S T F N s k (w_rows T F N s k) (w_rows T F N s k).length = ((w_rows T F N s k).filter (w_sp T F N s k)).map (fun m => m + 2 ^ k) := by unfold w_S; rw [List.take_length]
    have hG1 : GR T F N s (k + 1) Z1 := by
      refine ⟨hW1, ?_, ?_⟩
      · rw [hc1, hS, w_rows, List.length_append, List.length_map (f := w_nx T F N s k)]
      · intro i hi
        rw [w_rows] at hi ⊢
        rw [List.length_append, List.length_map] at hi
        by_cases hil : i < (w_rows T F N s k).length
        · rw [getD_app_l (by rw [List.length_map]; exact hil), getD_map_n hil]; exact g1 i hil
        · rw [getD_app_r (by rw [List.length_map]; omega), List.length_map]
          have := g3 (i - (w_rows T F N s k).length) (by rw [hS]; omega)
          rw [hS, show (w_rows T F N s k).length + (i - (w_rows T F N s k).length) = i by omega] at this
          exact this
    obtain ⟨Z2, f1, f2, f3⟩ := ih (k + 1) Z1 _ _ (by omega) hG1
    exact ⟨Z2, e1.trans f1, f2, fun g m i hg => (f3 g m i hg).trans (e3 g m i hg)⟩
theorem c_all {T : PT} {F : PF} {N : PN} {Z : XZ} {t d m s : Nat} (hC : CT Z t T) (hT : TOK T) (hL : CLaw Z t F) (hS : CS Z m N) (hN : NOK N) (hd : 6 ≤ d) (hs : s < T 2 0) : ∃ Z' : XZ, x_CALL d 68 [.inr (.inr (some (41, 0))), .inr (.inr (some (7, t))), .inr (.inr (some (28, m))), .inl ((s : Int))] (x_S Z t) = some (0, x_S Z' t) ∧ GR T F N s 8 Z' ∧ ∀ g m i, ¬ (g = 19 ∨ g = 20 ∨ (41 ≤ g ∧ g ≤ 55)) → Z' g m i = Z g m i := by
  obtain ⟨Z1, e1, e2, e3, e4, e5, e6⟩ := c_setOut (d := d - 1) hC hT hL hS hN (by omega) hs
  have hG : GR T F N s 0 Z1 := by
    refine ⟨e2, by rw [e5]; rfl, fun i hi => ?_⟩
    obtain rfl : i = 0 := by simp only [w_rows, List.length_cons, List.length_nil] at hi; omega
    exact ⟨e3, by rw [e4]; show cn 65536 = ((1 * 4 ^ 8 : Nat) : Int); decide, show 0 < 1 by decide⟩
  obtain ⟨Z2, f1, f2, f3⟩ := c_rounds (d := d - 1) hT hs (by omega) t t m (s : Int) 8 0 Z1 none none (by omega) hG
  rw [C68 _ _ _ _ _ _ (by omega), e1, Option.bind_some, B68_7]
  exact ⟨Z2, f1, f2, fun g m i hg => (f3 g m i (by omega)).trans (e6 g m i hg)⟩
