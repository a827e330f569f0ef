/-! look -/
def q_gk (A : Nat → Nat → Int) (T : PT) (F : PF) (N : PN) (s k i c m : Nat) : Nat := if w_fit A T F N s k m = true ∧ w_at T N s m i = c then 1 else 0
/-- the counts' cells -/
def KC (g : Nat) (Z : XZ) (K : Nat → Nat → Nat) : Prop := ∀ i c, 1 ≤ i → i ≤ 8 → c < 7 → Z g 0 (7 * i + c) = (K i c : Int)
def q_k1 (T : PT) (N : PN) (s m : Nat) (K : Nat → Nat → Nat) (j i c : Nat) : Nat := if i < j ∧ w_at T N s m i = c then K i c + 1 else K i c
theorem KC.step {g : Nat} {Z : XZ} {K : Nat → Nat → Nat} {T : PT} {N : PN} {s m j : Nat} (h : KC g Z (q_k1 T N s m K j)) (hw : w_at T N s m j < 7) : KC g (x_u Z g 0 (7 * j + w_at T N s m j) (Z g 0 (7 * j + w_at T N s m j) + 1)) (q_k1 T N s m K (j + 1)) := by
  intro i c h1 h2 h3
  by_cases hh : i = j ∧ c = w_at T N s m j
  · obtain ⟨rfl, rfl⟩ := hh
    rw [x_u_eq, h _ _ h1 h2 h3]
    unfold q_k1
    rw [if_neg (by omega), if_pos ⟨by omega, rfl⟩]; rfl
  · rw [x_u_ne (by omega), h _ _ h1 h2 h3]
    unfold q_k1
    by_cases h4 : i < j ∧ w_at T N s m i = c
    · rw [if_pos h4, if_pos ⟨by omega, h4.2⟩]
    · rw [if_neg h4, if_neg]
      rintro ⟨h5, h6⟩
      by_cases hij : i = j
      · subst hij; exact hh ⟨rfl, h6.symm⟩
      · exact h4 ⟨by omega, h6⟩
theorem c_tin {T : PT} {N : PN} {s n m : Nat} {K : Nat → Nat → Nat} (hT : TOK T) (hs : s < T 2 0) (hn : n < 256) (t : Nat) (a1 a2 : Int) : ∀ (r j : Nat) (Z : XZ), j + r = 9 → 1 ≤ j → RW T N s Z n m 8 → KC 40 Z (q_k1 T N s m K j) → ∃ (Z' : XZ) (o5 : Option XV), x_EX 58 17 35 [some (.inr (.inr (some (35, 0)))), some (.inl a1), some (.inl a2), some (.inr (.inr (some (41, 0)))), some (.inl ((n : Int))), some (.inl ((j : Int)))] [] (x_S Z t) = x_EX 58 17 11 [some (.inr (.inr (some (35, 0)))), some (.inl a1), some (.inl a2), some (.inr (.inr (some (41, 0)))), some (.inl (((n + 1 : Nat) : Int))), o5] [] (x_S Z' t) ∧ KC 40 Z' (q_k1 T N s m K 9) ∧ ∀ g m i, g ≠ 40 → Z' g m i = Z g m i := by
  have t0 : T 0 0 ≤ 7 := hT.1
  intro r
  induction r with
  | zero =>
    intro j Z hj h1 hR hK
    obtain rfl : j = 9 := by omega
    rw [B17_35, if_pos (by decide)]
    exact ⟨Z, _, rfl, hK, fun _ _ _ _ => rfl⟩
  | succ r ih =>
    intro j Z hj h1 hR hK
    have hat := w_at_lt (N := N) (set := m) hT hs j
    have cw := c_where (d := 58) (i := j) hT hs hR hn (by omega) (by decide) t
    rw [B17_35, cn_nt (z := (j : Int)) rfl (by omega), if_neg (by omega), cw, Option.bind_some, B17_59, cn_nt (z := (j : Int) * 7 + (w_at T N s m j : Int)) (n := 7 * j + w_at T N s m j) (by omega) (by omega), if_pos (by omega), if_pos (by omega), Int.toNat_natCast]
    obtain ⟨Z', o5, f1, f2, f3⟩ := ih (j + 1) _ (by omega) (by omega) (hR.congr (fun g a b c => x_u_ne (by omega))) (hK.step (by omega))
    exact ⟨Z', o5, f1, f2, fun g m i hg => by rw [f3 g m i hg, x_u_ne (by omega)]⟩
theorem m_tin9 {T : PT} {F : PF} {N : PN} {s m : Nat} {K : Nat → Nat → Nat} (hT : TOK T) (hs : s < T 2 0) (t : Nat) (a1 a2 a3 : Int) (o6 o7 o8 : Option XV) : ∀ (r j : Nat) (Z : XZ), j + r = 9 → 1 ≤ j → LW T F N s m 8 Z → KC 106 Z (q_k1 T N s m K j) → ∃ (Z' : XZ) (o5 : Option XV), x_EX 59 242 81 [some (.inr (.inr (some (56, 0)))), some (.inl a1), some (.inl a2), some (.inl a3), some (.inl ((m : Int))), some (.inl ((j : Int))), o6, o7, o8] [] (x_S Z t) = x_EX 59 242 53 [some (.inr (.inr (some (56, 0)))), some (.inl a1), some (.inl a2), some (.inl a3), some (.inl (((m + 1 : Nat) : Int))), o5, o6, o7, o8] [] (x_S Z' t) ∧ KC 106 Z' (q_k1 T N s m K 9) ∧ ∀ g m i, g ≠ 106 → Z' g m i = Z g m i := by
  have t0 : T 0 0 ≤ 7 := hT.1
  intro r
  induction r with
  | zero =>
    intro j Z hj h1 hL hK
    obtain rfl : j = 9 := by omega
    rw [B242_81, if_neg (by decide)]
    exact ⟨Z, _, rfl, hK, fun _ _ _ _ => rfl⟩
  | succ r ih =>
    intro j Z hj h1 hL hK
    have hat := w_at_lt (N := N) (set := m) hT hs j
    have hL' : LW T F N s m 8 (x_u Z 106 0 (7 * j + w_at T N s m j) (Z 106 0 (7 * j + w_at T N s m j) + 1)) := by
      obtain ⟨y1, y2, y3, y4, y5, y6⟩ := hL
      exact ⟨by rw [x_u_ne (by omega)]; exact y1, by rw [x_u_ne (by omega)]; exact y2, by rw [x_u_ne (by omega)]; exact y3, by rw [x_u_ne (by omega)]; exact y4, by rw [x_u_ne (by omega)]; exact y5, fun j hj => by rw [x_u_ne (by omega)]; exact y6 j hj⟩
    rw [B242_81, cn_nt (z := (j : Int)) rfl (by omega), if_pos (by omega), if_pos (by omega), Int.toNat_natCast, hL.2.2.2.2.2 j (by omega), cn_nt (z := 7 * (j : Int) + (w_at T N s m j : Int)) (n := 7 * j + w_at T N s m j) (by omega) (by omega), if_pos (by omega), if_pos (by omega), Int.toNat_natCast]
    obtain ⟨Z', o5, f1, f2, f3⟩ := ih (j + 1) _ (by omega) (by omega) hL' (hK.step (by omega))
    exact ⟨Z', o5, f1, f2, fun g m i hg => by rw [f3 g m i hg, x_u_ne (by omega)]⟩
theorem ME.congr' {T : PT} {F : PF} {N : PN} {s v : Nat} {Z Z' : XZ} (h : ME T F N s v Z) (hk : ∀ g m i, g ≠ 106 → Z' g m i = Z g m i) : ME T F N s v Z' := by
  obtain ⟨h1, h2, h3, h4, h5⟩ := h
  exact ⟨h1.congr (fun g i a b => hk _ _ _ (by omega)) (hk _ _ _ (by omega)), h2.congr (fun g a b => funext fun m => funext fun i => hk _ _ _ (by omega)), h3.congr (fun i => hk _ _ _ (by omega)), h4.congr (fun g i a b => hk _ _ _ (by omega)), fun c hc => (hk _ _ _ (by omega)).trans (h5 c hc)⟩
theorem c_tly_loop {A : Nat → Nat → Int} {T : PT} {F : PF} {N : PN} {s k q : Nat} (hT : TOK T) (hs : s < T 2 0) (hA : NA A q) (hq : q ≤ 20) (hk : k ≤ q) (t : Nat) : ∀ (j n : Nat) (Z : XZ) (K : Nat → Nat → Nat) (o5 : Option XV), n + j = (w_rows T F N s 8).length → GR T F N s 8 Z → Z 35 0 0 = (q : Int) → (∀ j, j < q → Z 36 0 j = A 0 j ∧ Z 37 0 j = A 1 j ∧ Z 38 0 j = A 2 j ∧ Z 39 0 j = A 3 j) → KC 40 Z K → ∃ Z' : XZ, x_EX 58 17 11 [some (.inr (.inr (some (35, 0)))), some (.inl ((k : Int))), some (.inl ((s : Int))), some (.inr (.inr (some (41, 0)))), some (.inl ((n : Int))), o5] [] (x_S Z t) = some (0, x_S Z' t) ∧ KC 40 Z' (fun i c => K i c + q_sl (q_gk A T F N s k i c) ((w_rows T F N s 8).drop n)) ∧ ∀ g m i, g ≠ 40 → Z' g m i = Z g m i := by
  have hr8 := w_rows_len T F N s 8
  intro j
  induction j with
  | zero =>
    intro n Z K o5 hn hG h35 hZ hK
    obtain rfl : n = (w_rows T F N s 8).length := by omega
    rw [B17_11, hG.2.1, if_neg (Int.lt_irrefl _), List.drop_length]
    exact ⟨Z, rfl, hK, fun _ _ _ _ => rfl⟩
  | succ j ih =>
    intro n Z K o5 hn hG h35 hZ hK
    have hnR : n < (w_rows T F N s 8).length := by omega
    have hRn := hG.2.2 n hnR
    have h6 := rows_lt T F N s hnR
    have ed : (w_rows T F N s 8).drop n = (w_rows T F N s 8).getD n 0 :: (w_rows T F N s 8).drop (n + 1) := by rw [List.drop_eq_getElem_cons hnR, List.getD_eq_getElem?_getD, List.getElem?_eq_getElem hnR]; rfl
    have hmem : (w_rows T F N s 8).getD n 0 ∈ w_rows T F N s 8 := by rw [List.getD_eq_getElem?_getD, List.getElem?_eq_getElem hnR]; exact List.getElem_mem _
    have hca := (rows_ca hmem).2
    rw [B17_11, hG.2.1, cn_nt (z := (n : Int)) rfl (by omega), cn_nt (z := ((w_rows T F N s 8).length : Int)) rfl (by omega), if_pos (by omega), c_al hT hs hRn.1 h6 hA hq hk h35 hZ (by decide) t, Option.bind_some, B17_29, ed]
    have hfit : w_fit A T F N s k ((w_rows T F N s 8).getD n 0) = q_al A T N s ((w_rows T F N s 8).getD n 0) k 0 := by unfold w_fit; rw [decide_eq_true hca, Bool.true_and]
    by_cases hb : q_al A T N s ((w_rows T F N s 8).getD n 0) k 0 = true
    · rw [if_neg (ite_01 _ hb)]
      obtain ⟨Z1, o5', e1, e2, e3⟩ := c_tin (K := K) hT hs h6 t (k : Int) (s : Int) 8 1 Z (by omega) (by omega) hRn.1 (fun i c h1 h2 h3 => by unfold q_k1; rw [if_neg (by omega)]; exact hK i c h1 h2 h3)
      obtain ⟨Z2, f1, f2, f3⟩ := ih (n + 1) Z1 _ o5' (by omega) ⟨hG.1.congr (fun g m i hg => e3 _ _ _ (by omega)), (e3 _ _ _ (by omega)).trans hG.2.1, fun i hi => (hG.2.2 i hi).congr (fun g a b => e3 _ _ _ (by omega))⟩ ((e3 _ _ _ (by omega)).trans h35) (fun j hj => by rw [e3 36 _ _ (by omega), e3 37 _ _ (by omega), e3 38 _ _ (by omega), e3 39 _ _ (by omega)]; exact hZ j hj) e2
      refine ⟨Z2, e1.trans f1, ?_, fun g m i hg => (f3 g m i hg).trans (e3 g m i hg)⟩
      intro i c h1 h2 h3
      refine (f2 i c h1 h2 h3).trans (congrArg (fun x : Nat => (x : Int)) ?_)
      show q_k1 T N s ((w_rows T F N s 8).getD n 0) K 9 i c + q_sl (q_gk A T F N s k i c) ((w_rows T F N s 8).drop (n + 1)) = K i c + (q_gk A T F N s k i c ((w_rows T F N s 8).getD n 0) + q_sl (q_gk A T F N s k i c) ((w_rows T F N s 8).drop (n + 1)))
      generalize q_sl (q_gk A T F N s k i c) ((w_rows T F N s 8).drop (n + 1)) = X
      unfold q_k1 q_gk
      by_cases hw : w_at T N s ((w_rows T F N s 8).getD n 0) i = c
      · rw [if_pos ⟨by omega, hw⟩, if_pos ⟨by rw [hfit]; exact hb, hw⟩]; omega
      · rw [if_neg (fun x => hw x.2), if_neg (fun x => hw x.2)]; omega
    · rw [if_pos (ite_00 _ hb)]
      obtain ⟨Z2, f1, f2, f3⟩ := ih (n + 1) Z K o5 (by omega) hG h35 hZ hK
      refine ⟨Z2, f1, ?_, f3⟩
      intro i c h1 h2 h3
      refine (f2 i c h1 h2 h3).trans (congrArg (fun x : Nat => (x : Int)) ?_)
      show K i c + q_sl (q_gk A T F N s k i c) ((w_rows T F N s 8).drop (n + 1)) = K i c + (q_gk A T F N s k i c ((w_rows T F N s 8).getD n 0) + q_sl (q_gk A T F N s k i c) ((w_rows T F N s 8).drop (n + 1)))
      have : q_gk A T F N s k i c ((w_rows T F N s 8).getD n 0) = 0 := by unfold q_gk; rw [if_neg (fun x => hb (by rw [← hfit]; exact x.1))]
      rw [this]; omega
theorem m_tly_loop {A : Nat → Nat → Int} {T : PT} {F : PF} {N : PN} {v s k q : Nat} (hT : TOK T) (hs : s < T 2 0) (hA : NA A q) (hq : q ≤ 20) (hk : k ≤ q) (t : Nat) (o6 o7 o8 : Option XV) : ∀ (n set cnt : Nat) (Z : XZ) (K : Nat → Nat → Nat) (o5 : Option XV), set + n = 256 → ME T F N s v Z → (∀ j, j < q → Z 102 0 j = A 0 j ∧ Z 103 0 j = A 1 j ∧ Z 104 0 j = A 2 j ∧ Z 105 0 j = A 3 j) → KC 106 Z K → ∃ (Z' : XZ), x_EX 59 242 53 [some (.inr (.inr (some (56, 0)))), some (.inl ((k : Int))), some (.inl ((s : Int))), some (.inl ((cnt : Int))), some (.inl ((set : Int))), o5, o6, o7, o8] [] (x_S Z t) = x_EX 59 242 132 [some (.inr (.inr (some (56, 0)))), some (.inl ((k : Int))), some (.inl ((s : Int))), some (.inl (((cnt + q_sl (fun m => if w_fit A T F N s k m = true then 1 else 0) (List.range' set n) : Nat) : Int))), some (.inl (-2)), some (.inl 0), some (.inl 1), o7, o8] [] (x_S Z' t) ∧ KC 106 Z' (fun i c => K i c + q_sl (q_gk A T F N s k i c) (List.range' set n)) ∧ ∀ g m i, ¬ (wsc g i ∨ g = 106) → Z' g m i = Z g m i := by
  intro n
  induction n with
  | zero =>
    intro set cnt Z K o5 hn hE hZ hK
    obtain rfl : set = 256 := by omega
    rw [B242_53, if_neg (by decide)]
    exact ⟨Z, rfl, hK, fun _ _ _ _ => rfl⟩
  | succ n ih =>
    intro set cnt Z K o5 hn hE hZ hK
    obtain ⟨Z1, f1, hE1, hL1, k1⟩ := m_fit (d := 59) hT hs hE (m := set) (by omega) hA hq hk hZ (by decide) t
    have hZ1 : ∀ j, j < q → Z1 102 0 j = A 0 j ∧ Z1 103 0 j = A 1 j ∧ Z1 104 0 j = A 2 j ∧ Z1 105 0 j = A 3 j := fun j hj => by rw [k1 102 _ _ (by unfold wsc; omega), k1 103 _ _ (by unfold wsc; omega), k1 104 _ _ (by unfold wsc; omega), k1 105 _ _ (by unfold wsc; omega)]; exact hZ j hj
    have hK1 : KC 106 Z1 K := fun i c h1 h2 h3 => by rw [k1 _ _ _ (by unfold wsc; omega)]; exact hK i c h1 h2 h3
    rw [B242_53, cn_nt (z := (set : Int)) rfl (by omega), if_pos (by omega), f1, Option.bind_some, B242_69, List.range'_succ]
    by_cases hf : w_fit A T F N s k set = true
    · rw [if_neg (ite_01 _ hf)]
      obtain ⟨Z2, o5', e1, e2, e3⟩ := m_tin9 (F := F) (K := K) hT hs t (k : Int) (s : Int) ((cnt : Int) + 1) o6 o7 o8 8 1 Z1 (by omega) (by omega) hL1 (fun i c h1 h2 h3 => by unfold q_k1; rw [if_neg (by omega)]; exact hK1 i c h1 h2 h3)
      obtain ⟨Z3, g1, g2, g3⟩ := ih (set + 1) (cnt + 1) Z2 _ o5' (by omega) (hE1.congr' (fun g m i hg => e3 g m i hg)) (fun j hj => by rw [e3 102 _ _ (by omega), e3 103 _ _ (by omega), e3 104 _ _ (by omega), e3 105 _ _ (by omega)]; exact hZ1 j hj) e2
      refine ⟨Z3, e1.trans ?_, ?_, fun g m i hg => by rw [g3 g m i hg, e3 g m i (by unfold wsc at hg; omega)]; exact k1 g m i (fun x => hg (.inl x))⟩
      · rw [q_sl, if_pos hf, ← Nat.add_assoc]; exact g1
      · intro i c h1 h2 h3
        refine (g2 i c h1 h2 h3).trans (congrArg (fun x : Nat => (x : Int)) ?_)
        show q_k1 T N s set K 9 i c + q_sl (q_gk A T F N s k i c) (List.range' (set + 1) n) = K i c + (q_gk A T F N s k i c set + q_sl (q_gk A T F N s k i c) (List.range' (set + 1) n))
        generalize q_sl (q_gk A T F N s k i c) (List.range' (set + 1) n) = X
        unfold q_k1 q_gk
        by_cases hw : w_at T N s set i = c
        · rw [if_pos ⟨by omega, hw⟩, if_pos ⟨hf, hw⟩]; omega
        · rw [if_neg (fun x => hw x.2), if_neg (fun x => hw x.2)]; omega
    · rw [if_pos (ite_00 _ hf)]
      obtain ⟨Z3, g1, g2, g3⟩ := ih (set + 1) cnt Z1 K o5 (by omega) hE1 hZ1 hK1
      refine ⟨Z3, ?_, ?_, fun g m i hg => by rw [g3 g m i hg]; exact k1 g m i (fun x => hg (.inl x))⟩
      · rw [q_sl, if_neg hf, Nat.zero_add]; exact g1
      · intro i c h1 h2 h3
        refine (g2 i c h1 h2 h3).trans (congrArg (fun x : Nat => (x : Int)) ?_)
        show K i c + q_sl (q_gk A T F N s k i c) (List.range' (set + 1) n) = K i c + (q_gk A T F N s k i c set + q_sl (q_gk A T F N s k i c) (List.range' (set + 1) n))
        have : q_gk A T F N s k i c set = 0 := by unfold q_gk; rw [if_neg (fun x => hf x.1)]
        rw [this]; omega
