/-! span -/
def q_sn (T : PT) (N : PN) (s : Nat) (e : Int) (z : Int) (m : Nat) : Int := if w_buy T N s m = true then (if e = 0 then (if z < 0 ∨ (w_mi T N s m 8 : Int) < z then (w_mi T N s m 8 : Int) else z) else (if z < (w_mi T N s m 8 : Int) then (w_mi T N s m 8 : Int) else z)) else z
theorem mn_comm {z a b : Int} (ha : 0 ≤ a) (hb : 0 ≤ b) : (if (if z < 0 ∨ a < z then a else z) < 0 ∨ b < (if z < 0 ∨ a < z then a else z) then b else (if z < 0 ∨ a < z then a else z)) = (if (if z < 0 ∨ b < z then b else z) < 0 ∨ a < (if z < 0 ∨ b < z then b else z) then a else (if z < 0 ∨ b < z then b else z)) := by
  by_cases h1 : z < 0 ∨ a < z
  · rw [if_pos h1]
    by_cases h2 : z < 0 ∨ b < z
    · rw [if_pos h2]; split <;> (try split) <;> omega
    · rw [if_neg h2]; split <;> (try split) <;> omega
  · rw [if_neg h1]
    by_cases h2 : z < 0 ∨ b < z
    · rw [if_pos h2]; split <;> omega
    · rw [if_neg h2, if_neg h1]
theorem mx_comm {z a b : Int} : (if (if z < a then a else z) < b then b else (if z < a then a else z)) = (if (if z < b then b else z) < a then a else (if z < b then b else z)) := by
  by_cases h1 : z < a
  · rw [if_pos h1]
    by_cases h2 : z < b
    · rw [if_pos h2]; split <;> (try split) <;> omega
    · rw [if_neg h2]; split <;> (try split) <;> omega
  · rw [if_neg h1]
    by_cases h2 : z < b
    · rw [if_pos h2]; split <;> omega
    · rw [if_neg h2, if_neg h1]
theorem q_sn0 (T : PT) (N : PN) (s : Nat) (z : Int) (m : Nat) : q_sn T N s 0 z m = if w_buy T N s m = true then (if z < 0 ∨ (w_mi T N s m 8 : Int) < z then (w_mi T N s m 8 : Int) else z) else z := by
  unfold q_sn; by_cases h : w_buy T N s m = true
  · rw [if_pos h, if_pos h, if_pos rfl]
  · rw [if_neg h, if_neg h]
theorem q_sn1 (T : PT) (N : PN) (s : Nat) (z : Int) (m : Nat) : q_sn T N s 1 z m = if w_buy T N s m = true then (if z < (w_mi T N s m 8 : Int) then (w_mi T N s m 8 : Int) else z) else z := by
  unfold q_sn; by_cases h : w_buy T N s m = true
  · rw [if_pos h, if_pos h, if_neg (by decide)]
  · rw [if_neg h, if_neg h]
theorem q_sn_comm (T : PT) (N : PN) (s : Nat) (e z : Int) (x y : Nat) : q_sn T N s e (q_sn T N s e z x) y = q_sn T N s e (q_sn T N s e z y) x := by
  unfold q_sn
  by_cases hx : w_buy T N s x = true
  · rw [if_pos hx, if_pos hx]
    by_cases hy : w_buy T N s y = true
    · rw [if_pos hy, if_pos hy]
      by_cases he : e = 0
      · rw [if_pos he, if_pos he, if_pos he, if_pos he]; exact mn_comm (by omega) (by omega)
      · rw [if_neg he, if_neg he, if_neg he, if_neg he]; exact mx_comm
    · rw [if_neg hy, if_neg hy]
  · rw [if_neg hx, if_neg hx]
theorem fold_rows {T : PT} {F : PF} {N : PN} {s : Nat} {α : Type} {f : α → Nat → α} (hc : ∀ z x y, f (f z x) y = f (f z y) x) (z : α) : (w_rows T F N s 8).foldl f z = (List.range 256).foldl (fun z m => if w_ca T F N s m 8 = 0 then z else f z m) z := by
  rw [(w_rows_perm T F N s 8).foldl_eq' (fun x _ y _ z => hc z x y) z, List.foldl_filter]
  congr 1
  funext z m
  unfold w_ok
  by_cases h : w_ca T F N s m 8 = 0
  · rw [if_pos h]; simp [h]
  · rw [if_neg h]; simp [h]
theorem q_sn_b {T : PT} {N : PN} {s : Nat} {e z : Int} (hT : TOK T) (hz : z = -2 ∨ (0 ≤ z ∧ z < 1000)) (m : Nat) : q_sn T N s e z m = -2 ∨ (0 ≤ q_sn T N s e z m ∧ q_sn T N s e z m < 1000) := by
  have := w_mi_le (N := N) (s := s) (set := m) hT 8
  unfold q_sn
  split
  · split <;> split <;> omega
  · exact hz
theorem c_sn_loop {T : PT} {F : PF} {N : PN} {Z0 : XZ} {s : Nat} (hT : TOK T) (hs : s < T 2 0) (hG : GR T F N s 8 Z0) (t : Nat) {e : Int} (he : e = 0 ∨ e = 1) : ∀ (j n : Nat) (z : Int) (o5 : Option XV), n + j = (w_rows T F N s 8).length → (z = -2 ∨ (0 ≤ z ∧ z < 1000)) → x_EX 59 108 44 [some (.inr (.inr (some (0, 0)))), some (.inl ((s : Int))), some (.inl e), some (.inl z), some (.inl ((n : Int))), o5] [] (x_S Z0 t) = some (((w_rows T F N s 8).drop n).foldl (q_sn T N s e) z, x_S Z0 t) := by
  have hr8 := w_rows_len T F N s 8
  intro j
  induction j with
  | zero =>
    intro n z o5 hn hz
    obtain rfl : n = (w_rows T F N s 8).length := by omega
    rw [B108_44, hG.2.1, if_neg (Int.lt_irrefl _), List.drop_length]
    rfl
  | succ j ih =>
    intro n z o5 hn hz
    have hnR : n < (w_rows T F N s 8).length := by omega
    have hRn := hG.2.2 n hnR
    have h6 := rows_lt T F N s hnR
    have hmi := w_mi_le (N := N) (s := s) (set := (w_rows T F N s 8).getD n 0) hT 8
    have ed : (w_rows T F N s 8).drop n = (w_rows T F N s 8).getD n 0 :: (w_rows T F N s 8).drop (n + 1) := by rw [List.drop_eq_getElem_cons hnR, List.getD_eq_getElem?_getD, List.getElem?_eq_getElem hnR]; rfl
    have hz' := q_sn_b (N := N) (s := s) (e := e) hT hz ((w_rows T F N s 8).getD n 0)
    rw [ed, List.foldl_cons, B108_44, hG.2.1, cn_nt (z := (n : Int)) rfl (by omega), cn_nt (z := ((w_rows T F N s 8).length : Int)) rfl (by omega), if_pos (by omega), c_buy hT hs hG.1 hRn h6 (by decide) t, Option.bind_some, B108_65]
    have ih1 := fun o => ih (n + 1) _ o (by omega) hz'
    generalize hq : q_sn T N s e z ((w_rows T F N s 8).getD n 0) = q at ih1 hz'
    unfold q_sn at hq
    by_cases hb : w_buy T N s ((w_rows T F N s 8).getD n 0) = true
    · rw [if_pos hb] at hq
      rw [if_neg (ite_01 _ hb), cn_nt (z := (n : Int)) rfl (by omega), if_pos (by omega), Int.toNat_natCast, hRn.1.2.1, cn_id (z := z) (by omega) (by omega), cn_nt (z := (w_mi T N s ((w_rows T F N s 8).getD n 0) 8 : Int)) rfl (by omega)]
      by_cases hz2 : z = -2
      · have : q = (w_mi T N s ((w_rows T F N s 8).getD n 0) 8 : Int) := by
          rw [← hq]; rcases he with rfl | rfl
          · rw [if_pos rfl, if_pos (by omega)]
          · rw [if_neg (by decide), if_pos (by omega)]
        rw [if_pos hz2, ← this]; exact ih1 _
      · rw [if_neg hz2]
        rcases he with rfl | rfl
        · rw [if_pos rfl] at hq
          rw [if_pos cn_0]
          by_cases hl : (w_mi T N s ((w_rows T F N s 8).getD n 0) 8 : Int) < z
          · rw [if_pos (by omega)] at hq
            rw [if_pos hl, hq]; exact ih1 _
          · rw [if_neg (by omega)] at hq
            rw [if_neg hl, hq]; exact ih1 _
        · rw [if_neg (by decide)] at hq
          rw [if_neg cn_1n]
          by_cases hl : z < (w_mi T N s ((w_rows T F N s 8).getD n 0) 8 : Int)
          · rw [if_pos hl] at hq
            rw [if_pos hl, hq]; exact ih1 _
          · rw [if_neg hl] at hq
            rw [if_neg hl, hq]; exact ih1 _
    · rw [if_neg hb] at hq
      rw [if_pos (ite_00 _ hb), hq]; exact ih1 _
def q_sr (T : PT) (F : PF) (N : PN) (s : Nat) (e : Int) : Int := (List.range 256).foldl (fun z m => if w_ca T F N s m 8 = 0 then z else q_sn T N s e z m) (-2)
theorem m_sn_loop {T : PT} {F : PF} {N : PN} {v s : Nat} (hT : TOK T) (hs : s < T 2 0) (t : Nat) (e : Int) : ∀ (n set : Nat) (z y : Int) (Z : XZ), set + n = 256 → ME T F N s v Z → (z = -2 ∨ (0 ≤ z ∧ z < 1000)) → (y = -2 ∨ (0 ≤ y ∧ y < 1000)) → ∃ Z' : XZ, x_EX 59 224 34 [some (.inr (.inr (some (56, 0)))), some (.inl ((s : Int))), some (.inl e), some (.inl z), some (.inl y), some (.inl ((set : Int)))] [] (x_S Z t) = some ((if cn e = 0 then (List.range' set n).foldl (fun z m => if w_ca T F N s m 8 = 0 then z else q_sn T N s 0 z m) z else (List.range' set n).foldl (fun z m => if w_ca T F N s m 8 = 0 then z else q_sn T N s 1 z m) y), x_S Z' t) ∧ kM Z Z' := by
  intro n
  induction n with
  | zero =>
    intro set z y Z hn hE hz hy
    obtain rfl : set = 256 := by omega
    rw [B224_34, if_neg (by decide)]
    by_cases h : cn e = 0
    · rw [if_pos h, if_pos h]; exact ⟨Z, rfl, fun _ _ _ _ => rfl⟩
    · rw [if_neg h, if_neg h]; exact ⟨Z, rfl, fun _ _ _ _ => rfl⟩
  | succ n ih =>
    intro set z y Z hn hE hz hy
    obtain ⟨Z1, w1, w2, w3⟩ := m_walks (d := 59) hE.1 hT hE.2.2.2.1 (by decide) t hs (set := set) (by omega)
    have k1 : kM Z Z1 := fun g m i hg => w3 g m i (by unfold wsc at hg; omega)
    have hE1 := hE.congr k1
    have hcl := w_ca_le T F N s set 8
    have hmi := w_mi_le (N := N) (s := s) (set := set) hT 8
    rw [B224_34, cn_nt (z := (set : Int)) rfl (by omega), if_pos (by omega), w1, Option.bind_some, B224_49, w2.2.2.2.2.1, List.range'_succ, List.foldl_cons, List.foldl_cons]
    have go : ∀ z' y' : Int, (z' = -2 ∨ (0 ≤ z' ∧ z' < 1000)) → (y' = -2 ∨ (0 ≤ y' ∧ y' < 1000)) → ∃ Z' : XZ, x_EX 59 224 34 [some (.inr (.inr (some (56, 0)))), some (.inl ((s : Int))), some (.inl e), some (.inl z'), some (.inl y'), some (.inl ((set : Int) + 1))] [] (x_S Z1 t) = some ((if cn e = 0 then (List.range' (set + 1) n).foldl (fun z m => if w_ca T F N s m 8 = 0 then z else q_sn T N s 0 z m) z' else (List.range' (set + 1) n).foldl (fun z m => if w_ca T F N s m 8 = 0 then z else q_sn T N s 1 z m) y'), x_S Z' t) ∧ kM Z Z' := fun z' y' h1 h2 => by
      obtain ⟨Z2, f1, f2⟩ := ih (set + 1) z' y' Z1 (by omega) hE1 h1 h2
      exact ⟨Z2, f1, fun g m i hg => (f2 g m i hg).trans (k1 g m i hg)⟩
    by_cases hca : w_ca T F N s set 8 = 0
    · rw [if_pos (by omega), if_pos hca, if_pos hca]; exact go z y hz hy
    · rw [if_neg (by omega), if_neg hca, if_neg hca, m_buy hE1 hT w2 (by decide) t hs (by omega), Option.bind_some, B224_63]
      have hzz := q_sn_b (N := N) (s := s) (e := 0) hT hz set
      have hyy := q_sn_b (N := N) (s := s) (e := 1) hT hy set
      have go' := go _ _ hzz hyy
      by_cases hb : w_buy T N s set = true
      · rw [if_neg (ite_01 _ hb), w2.2.1, cn_id (z := z) (by omega) (by omega), cn_id (z := y) (by omega) (by omega), cn_nt (z := (w_mi T N s set 8 : Int)) rfl (by omega)]
        by_cases g2 : y < (w_mi T N s set 8 : Int)
        · have ey : q_sn T N s 1 y set = (w_mi T N s set 8 : Int) := by rw [q_sn1, if_pos hb, if_pos g2]
          rw [ey] at go' ⊢
          simp only [if_pos g2]
          by_cases g1 : z < 0
          · have ez : q_sn T N s 0 z set = (w_mi T N s set 8 : Int) := by rw [q_sn0, if_pos hb, if_pos (.inl g1)]
            rw [ez] at go' ⊢
            rw [if_pos g1]; exact go'
          · rw [if_neg g1]
            by_cases g3 : (w_mi T N s set 8 : Int) < z
            · have ez : q_sn T N s 0 z set = (w_mi T N s set 8 : Int) := by rw [q_sn0, if_pos hb, if_pos (.inr g3)]
              rw [ez] at go' ⊢
              rw [if_pos g3]; exact go'
            · have ez : q_sn T N s 0 z set = z := by rw [q_sn0, if_pos hb, if_neg (by omega)]
              rw [ez] at go' ⊢
              rw [if_neg g3]; exact go'
        · have ey : q_sn T N s 1 y set = y := by rw [q_sn1, if_pos hb, if_neg g2]
          rw [ey] at go' ⊢
          simp only [if_neg g2]
          by_cases g1 : z < 0
          · have ez : q_sn T N s 0 z set = (w_mi T N s set 8 : Int) := by rw [q_sn0, if_pos hb, if_pos (.inl g1)]
            rw [ez] at go' ⊢
            rw [if_pos g1]; exact go'
          · rw [if_neg g1]
            by_cases g3 : (w_mi T N s set 8 : Int) < z
            · have ez : q_sn T N s 0 z set = (w_mi T N s set 8 : Int) := by rw [q_sn0, if_pos hb, if_pos (.inr g3)]
              rw [ez] at go' ⊢
              rw [if_pos g3]; exact go'
            · have ez : q_sn T N s 0 z set = z := by rw [q_sn0, if_pos hb, if_neg (by omega)]
              rw [ez] at go' ⊢
              rw [if_neg g3]; exact go'
      · have ez : q_sn T N s 0 z set = z := by rw [q_sn0, if_neg hb]
        have ey : q_sn T N s 1 y set = y := by rw [q_sn1, if_neg hb]
        rw [if_pos (ite_00 _ hb)]
        rw [ez, ey] at go' ⊢
        exact go'
theorem s23_ok : p_s23 PI := by
  intro a b ha hb Z t ⟨T, F, N, H, K, v, u, nx, h⟩
  obtain ⟨ht, hT, hC, hM, hL, hML, hS, hR, hN, hH, _⟩ := id h
  have c1 := C108 60 Z t a b (by decide)
  rw [c_hasS hC hT (by decide), Option.bind_some, B108_8, cn_id ha.1 ha.2, cn_id hb.1 hb.2] at c1
  have m1 : ∀ Z1, MT Z1 v T → x_CALL 60 224 [.inr (.inr (some (56, 0))), .inl a, .inl b] (x_S Z1 t) = _ := fun Z1 hM1 => by rw [C224 60 Z1 t a b (by decide), m_isS hM1 hT (by decide), Option.bind_some, B224_5, cn_id ha.1 ha.2]
  by_cases h1 : 0 ≤ a ∧ a < (T 2 0 : Int)
  case neg =>
    have m2 := m1 Z hM
    rw [if_pos (ite_00 _ h1)] at c1 m2; exact p_fin h c1 keepQ.rfl' m2 keepQ.rfl' rfl
  obtain ⟨s, rfl⟩ := Int.eq_ofNat_of_zero_le h1.1
  have hs : s < T 2 0 := by omega
  rw [if_neg (ite_01 _ h1)] at c1
  have m3 : ∀ Z1, MT Z1 v T → x_CALL 60 224 [.inr (.inr (some (56, 0))), .inl ((s : Int)), .inl b] (x_S Z1 t) = _ := fun Z1 hM1 => by rw [m1 Z1 hM1, if_neg (ite_01 _ h1), m_in (by decide), Option.bind_some, B224_14, cn_id hb.1 hb.2, cn_id (z := 0) (by decide) (by decide), cn_id (z := 1) (by decide) (by decide)]
  by_cases h2 : 0 ≤ b ∧ b ≤ 1
  case neg =>
    have m2 := m3 Z hM
    rw [if_pos (ite_00 _ h2)] at m2
    by_cases h0 : b < 0
    · rw [if_pos h0] at c1; exact p_fin h c1 keepQ.rfl' m2 keepQ.rfl' rfl
    · rw [if_neg h0, if_pos (by omega)] at c1; exact p_fin h c1 keepQ.rfl' m2 keepQ.rfl' rfl
  refine q_one h (X := cn (q_sr T F N s b)) ?_ (fun Z1 hI => ?_)
  · obtain ⟨Z0, e1, hG, e3⟩ := c_all (d := 59) (m := 0) hC hT hL hS hN (by decide) hs
    have f1 := c_sn_loop hT hs hG t (e := b) (by omega) (w_rows T F N s 8).length 0 (-2) none (by omega) (.inl rfl)
    rw [if_neg (by omega), if_neg (by omega), e1, Option.bind_some, B108_38] at c1
    refine ⟨_, Z0, c1.trans f1, ?_, kq_cw e3⟩
    rw [List.drop_zero, fold_rows (q_sn_comm T N s b)]; rfl
  · obtain ⟨Z2, g1, hE, g3⟩ := m_cps hI hT hN hH.2.2.1 (d := 59) (by decide) t (s := s) hs
    obtain ⟨Z', f1, f2⟩ := m_sn_loop hT hs t b 256 0 (-2) (-2) Z2 (by omega) hE (.inl rfl) (.inl rfl)
    have m2 := m3 Z1 hI.1
    rw [if_neg (ite_01 _ h2), g1, Option.bind_some, B224_24] at m2
    refine ⟨_, Z', m2.trans f1, ?_, g3.trans (kq_kM f2)⟩
    unfold q_sr
    rw [List.range_eq_range', cn_id hb.1 hb.2]
    rcases (show b = 0 ∨ b = 1 by omega) with rfl | rfl
    · rw [if_pos rfl]
    · rw [if_neg (by decide)]
