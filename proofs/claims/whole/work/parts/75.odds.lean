/-! comes, may, straight, miles, worth, afraid -/
def q_gm (T : PT) (F : PF) (N : PN) (s m : Nat) : Nat := if w_buy T N s m = true then w_ca T F N s m 8 else 0
def q_may (T : PT) (F : PF) (N : PN) (s : Nat) : Nat := q_sl (q_gm T F N s) (List.range 256)
theorem c_may {T : PT} {F : PF} {N : PN} {Z : XZ} {t d m s : Nat} (hC : CT Z t T) (hT : TOK T) (hL : CLaw Z t F) (hS : CS Z m N) (hN : NOK N) (hd : 7 ≤ d) (hs : s < T 2 0) : ∃ (r : Int) (Z' : XZ), x_CALL d 111 [.inr (.inr (some (0, 0))), .inr (.inr (some (28, m))), .inl ((s : Int))] (x_S Z t) = some (r, x_S Z' t) ∧ cn r = cn (q_may T F N s : Int) ∧ ∀ g m i, ¬ (g = 19 ∨ g = 20 ∨ (41 ≤ g ∧ g ≤ 55)) → Z' g m i = Z g m i := by
  obtain ⟨Z0, e1, hG, e3⟩ := c_all (d := d - 1) hC hT hL hS hN (by omega) hs
  have hr8 := w_rows_len T F N s 8
  rw [C111 _ _ _ _ _ (by omega), e1, Option.bind_some, B111_13]
  obtain ⟨r, Z', f1, f2, f3⟩ := c_sum (L := fun acc n Z => x_EX (d - 1) 111 18 [some (.inr (.inr (some (0, 0)))), some (.inr (.inr (some (28, m)))), some (.inl ((s : Int))), some (.inl acc), some (.inl n)] [] (x_S Z t)) (g := q_gm T F N s) (R := w_rows T F N s 8) (Z0 := Z0) (t := t) (by
    intro acc n Z hn hk
    have hRn := hG.row hk hn
    have hW := hG.1.congr (fun g m i hg => hk g m i (by omega))
    have h6 := rows_lt T F N s hn
    show ∃ acc' Z2, x_EX (d - 1) 111 18 [some (.inr (.inr (some (0, 0)))), some (.inr (.inr (some (28, m)))), some (.inl ((s : Int))), some (.inl acc), some (.inl ((n : Int)))] [] (x_S Z t) = x_EX (d - 1) 111 18 [some (.inr (.inr (some (0, 0)))), some (.inr (.inr (some (28, m)))), some (.inl ((s : Int))), some (.inl acc'), some (.inl (((n + 1 : Nat) : Int)))] [] (x_S Z2 t) ∧ _
    rw [B111_18, hk 41 0 0 (by omega), hG.2.1, cn_nt (z := (n : Int)) rfl (by omega), cn_nt (z := ((w_rows T F N s 8).length : Int)) rfl (by omega), if_pos (by omega), c_buy hT hs hW hRn h6 (by omega) t, Option.bind_some, B111_39]
    unfold q_gm
    by_cases hb : w_buy T N s ((w_rows T F N s 8).getD n 0) = true
    · rw [if_neg (ite_01 _ hb), cn_nt (z := (n : Int)) rfl (by omega), if_pos (by omega), Int.toNat_natCast, if_pos hb]
      exact ⟨_, _, rfl, cn_ad hRn.cas, hk⟩
    · rw [if_pos (ite_00 _ hb), if_neg hb]
      exact ⟨_, _, rfl, by rw [show acc + ((0 : Nat) : Int) = acc from Int.add_zero _], hk⟩) (by
    intro acc Z hk
    show x_EX (d - 1) 111 18 [some (.inr (.inr (some (0, 0)))), some (.inr (.inr (some (28, m)))), some (.inl ((s : Int))), some (.inl acc), some (.inl (((w_rows T F N s 8).length : Int)))] [] (x_S Z t) = _
    rw [B111_18, hk 41 0 0 (by omega), hG.2.1, if_neg (Int.lt_irrefl _)]) (w_rows T F N s 8).length 0 0 Z0 (by omega) (fun _ _ _ _ => rfl)
  refine ⟨r, Z', f1, ?_, fun g m i hg => (f3 g m i (by omega)).trans (e3 g m i hg)⟩
  rw [f2, Int.zero_add, List.drop_zero, q_sl_rows (fun m hm => by unfold q_gm; split; exact hm; rfl)]
  rfl
theorem m_may {T : PT} {F : PF} {N : PN} {Z : XZ} {v d s : Nat} (hM : MT Z v T) (hL : MLaw Z v F) (hR : MR Z 94 0 N) (hT : TOK T) (hN : NOK N) (hd : 6 ≤ d) (t : Nat) (hs : s < T 2 0) : ∃ (r : Int) (Z' : XZ), x_CALL d 215 [.inr (.inr (some (56, 0))), .inl ((s : Int))] (x_S Z t) = some (r, x_S Z' t) ∧ cn r = cn (q_may T F N s : Int) ∧ ∀ g m i, ¬ (wsc g i ∨ (95 ≤ g ∧ g ≤ 98)) → Z' g m i = Z g m i := by
  obtain ⟨Z0, e1, hE, e3⟩ := m_fst (d := d - 1) hM hL hR hT hN (by omega) t hs
  rw [C215 _ _ _ _ (by omega), e1, Option.bind_some, B215_5]
  obtain ⟨r, Z', f1, f2, f3⟩ := m_sum (L := fun acc n Z => x_EX (d - 1) 215 9 [some (.inr (.inr (some (56, 0)))), some (.inl ((s : Int))), some (.inl acc), some (.inl n)] [] (x_S Z t)) (g := q_gm T F N s) (d := d - 1) (t := t) hT hs (by omega) hE (by
    intro acc set Z Z1 hset hE1 hL1 w1
    show ∃ acc' Z2, x_EX (d - 1) 215 9 [some (.inr (.inr (some (56, 0)))), some (.inl ((s : Int))), some (.inl acc), some (.inl ((set : Int)))] [] (x_S Z t) = x_EX (d - 1) 215 9 [some (.inr (.inr (some (56, 0)))), some (.inl ((s : Int))), some (.inl acc'), some (.inl (((set + 1 : Nat) : Int)))] [] (x_S Z2 t) ∧ _
    rw [B215_9, cn_nt (z := (set : Int)) rfl (by omega), if_pos (by omega), w1, Option.bind_some, B215_22, m_buy hE1 hT hL1 (by omega) t hs hset, Option.bind_some, B215_28]
    unfold q_gm
    by_cases hb : w_buy T N s set = true
    · rw [if_neg (ite_01 _ hb), if_pos hb]
      exact ⟨_, _, rfl, cn_ad hL1.cas, fun _ _ _ _ => rfl⟩
    · rw [if_pos (ite_00 _ hb), if_neg hb]
      exact ⟨_, _, rfl, by rw [show acc + ((0 : Nat) : Int) = acc from Int.add_zero _], fun _ _ _ _ => rfl⟩) (by
    intro acc Z
    show x_EX (d - 1) 215 9 [some (.inr (.inr (some (56, 0)))), some (.inl ((s : Int))), some (.inl acc), some (.inl 256)] [] (x_S Z t) = _
    rw [B215_9, if_neg (by decide)]) 255 1 0 Z0 (by omega) (fun _ _ _ _ => rfl)
  refine ⟨r, Z', f1, ?_, fun g m i hg => (f3 g m i (fun e => hg (.inl e))).trans (e3 g m i (by unfold wsc at hg; omega))⟩
  have h0 : q_gm T F N s 0 = 0 := by unfold q_gm w_buy; simp
  have hz : q_may T F N s = q_sl (q_gm T F N s) (List.range' 1 255) := by
    unfold q_may
    rw [← range_sl, List.range'_succ, q_sl, h0, Nat.zero_add]
  rw [f2, Int.zero_add, hz]
/-- a question about a seeker: both sides in turn -/
theorem q_one {T : PT} {F : PF} {N : PN} {H K : Nat → PN} {v u nx : Nat} {Z : XZ} {t : Nat} (h : PP T F N H K v u nx Z t) {jc jm : Nat} {as : List XV} {X : Int} (hc : ∃ (r : Int) (Z1 : XZ), x_CALL 60 jc (.inr (.inr (some (0, 0))) :: as) (x_S Z t) = some (r, x_S Z1 t) ∧ cn r = X ∧ keepQ Z Z1) (hm : ∀ Z1 : XZ, MI T F N H v u Z1 → ∃ (r : Int) (Z2 : XZ), x_CALL 60 jm (.inr (.inr (some (56, 0))) :: as) (x_S Z1 t) = some (r, x_S Z2 t) ∧ cn r = X ∧ keepQ Z1 Z2) : ∃ (r r' : Int) (Z1 Z2 : XZ) (t1 : Nat), x_CALL 60 jc (.inr (.inr (some (0, 0))) :: as) (x_S Z t) = some (r, x_S Z1 t1) ∧ (∀ g, 900 ≤ g → Z1 g = Z g) ∧ x_CALL 60 jm (.inr (.inr (some (56, 0))) :: as) (x_S Z1 t1) = some (r', x_S Z2 t1) ∧ (∀ g, 900 ≤ g → Z2 g = Z g) ∧ cn r = cn r' ∧ PI Z2 t1 := by
  obtain ⟨r, Z1, c1, c2, c3⟩ := hc
  obtain ⟨r', Z2, m1, m2, m3⟩ := hm Z1 (h.mi.congr (fun g m i _ _ hs => c3 g m i hs))
  exact p_fin h c1 c3 m1 m3 (by rw [c2, m2])
theorem s16_ok : p_s16 PI := by
  intro a ha Z t ⟨T, F, N, H, K, v, u, nx, h⟩
  obtain ⟨ht, hT, hC, hM, hL, hML, hS, hR, hN, hH, _⟩ := id h
  have c1 := C100 60 Z t a (by decide)
  rw [c_hasS hC hT (by decide), Option.bind_some, B100_8, cn_id ha.1 ha.2] at c1
  have m1 : ∀ Z1, MT Z1 v T → x_CALL 60 216 [.inr (.inr (some (56, 0))), .inl a] (x_S Z1 t) = _ := fun Z1 hM1 => by rw [C216 60 Z1 t a (by decide), m_isS hM1 hT (by decide), Option.bind_some, B216_5, cn_id ha.1 ha.2]
  by_cases h1 : 0 ≤ a ∧ a < (T 2 0 : Int)
  case neg =>
    have m2 := m1 Z hM
    rw [if_pos (ite_00 _ h1)] at c1 m2; exact p_fin h c1 keepQ.rfl' m2 keepQ.rfl' rfl
  obtain ⟨s, rfl⟩ := Int.eq_ofNat_of_zero_le h1.1
  refine q_one h (X := cn (q_may T F N s : Int)) ?_ (fun Z1 hI => ?_)
  · obtain ⟨r, Z1, e1, e2, e3⟩ := c_may (d := 59) (m := 0) (s := s) hC hT hL hS hN (by decide) (by omega)
    rw [if_neg (ite_01 _ h1), e1, Option.bind_some, B100_20] at c1
    exact ⟨r, Z1, c1, e2, kq_cw e3⟩
  · obtain ⟨Z2, g1, g2, g3, g4, g5, _⟩ := m_crr hI hT hH.2.2.1 (d := 59) (by decide) t
    obtain ⟨r, Z3, f1, f2, f3⟩ := m_may (d := 59) (s := s) g2.1 g2.2.1 g3 hT hN (by decide) t (by omega)
    have m2 := m1 Z1 hI.1
    rw [if_neg (ite_01 _ h1), g1, Option.bind_some, B216_14, f1, Option.bind_some, B216_19] at m2
    exact ⟨r, Z3, m2, f2, fun g m i hs => (f3 g m i (by unfold scr at hs; unfold wsc; omega)).trans (g5 g m i hs)⟩
theorem q_am_b {T : PT} {F : PF} {N : PN} {s k mi : Nat} (hm : mi ≤ 999) : 0 ≤ q_am T F N s mi k ∧ q_am T F N s mi k ≤ 999 := by
  unfold q_am
  split
  · omega
  · exact q_cl_b (by decide)
def w_am (T : PT) (F : PF) (N : PN) (s k m : Nat) : Nat := (q_am T F N s (w_mi T N s m 8 : Int) k).toNat
theorem w_am_eq {T : PT} {F : PF} {N : PN} {s k m : Nat} (hT : TOK T) : q_am T F N s (w_mi T N s m 8 : Int) k = (w_am T F N s k m : Int) ∧ w_am T F N s k m ≤ 999 := by
  have h1 := w_mi_le (N := N) (s := s) (set := m) hT 8
  have h2 := q_am_b (T := T) (F := F) (N := N) (s := s) (k := k) (mi := w_mi T N s m 8) (by omega)
  unfold w_am; omega
def q_gf (T : PT) (F : PF) (N : PN) (s fv m : Nat) : Nat := if w_come T N s m = true then (if fv ≤ w_am T F N s 2 m then w_ca T F N s m 8 else 0) else 0
theorem c_coming {T : PT} {F : PF} {N : PN} {Z : XZ} {t d s fv : Nat} (hC : CT Z t T) (hT : TOK T) (hL : CLaw Z t F) (hS : CS Z 0 N) (hN : NOK N) (hd : 7 ≤ d) (hs : s < T 2 0) (hf : fv ≤ 999) : ∃ (r : Int) (Z' : XZ), x_CALL d 107 [.inr (.inr (some (0, 0))), .inl ((s : Int)), .inl ((fv : Int))] (x_S Z t) = some (r, x_S Z' t) ∧ cn r = cn (q_sl (q_gf T F N s fv) (List.range 256) : Int) ∧ keepQ Z Z' := by
  obtain ⟨Z0, e1, hG, e3⟩ := c_all (d := d - 1) hC hT hL hS hN (by omega) hs
  have hr8 := w_rows_len T F N s 8
  have hC0 : CT Z0 t T := hC.congr (fun g i a b c d => e3 _ _ _ (by omega))
  have hL0 : CLaw Z0 t F := hL.congr (fun g i a b => e3 _ _ _ (by omega))
  have hS0 : CS Z0 0 N := hS.congr (fun i => e3 _ _ _ (by omega)) (fun i => e3 _ _ _ (by omega)) (fun i => e3 _ _ _ (by omega))
  rw [C107 _ _ _ _ _ (by omega), e1, Option.bind_some, B107_16]
  obtain ⟨r, Z', f1, f2, f3⟩ := c_sum (L := fun acc n Z => x_EX (d - 1) 107 21 [some (.inr (.inr (some (0, 0)))), some (.inl ((s : Int))), some (.inl ((fv : Int))), some (.inl acc), some (.inl n)] [] (x_S Z t)) (g := q_gf T F N s fv) (R := w_rows T F N s 8) (Z0 := Z0) (t := t) (by
    intro acc n Z hn hk
    have hRn := hG.row hk hn
    have hW := hG.1.congr (fun g m i hg => hk g m i (by omega))
    have h6 := rows_lt T F N s hn
    show ∃ acc' Z2, x_EX (d - 1) 107 21 [some (.inr (.inr (some (0, 0)))), some (.inl ((s : Int))), some (.inl ((fv : Int))), some (.inl acc), some (.inl ((n : Int)))] [] (x_S Z t) = x_EX (d - 1) 107 21 [some (.inr (.inr (some (0, 0)))), some (.inl ((s : Int))), some (.inl ((fv : Int))), some (.inl acc'), some (.inl (((n + 1 : Nat) : Int)))] [] (x_S Z2 t) ∧ _
    rw [B107_21, hk 41 0 0 (by omega), hG.2.1, cn_nt (z := (n : Int)) rfl (by omega), cn_nt (z := ((w_rows T F N s 8).length : Int)) rfl (by omega), if_pos (by omega), c_came hT hs hW hRn h6 (by omega) t, Option.bind_some, B107_42]
    unfold q_gf
    by_cases hb : w_come T N s ((w_rows T F N s 8).getD n 0) = true
    · rw [if_neg (ite_01 _ hb), if_pos hb, cn_nt (z := (fv : Int)) rfl (by omega), cn_nt (z := (n : Int)) rfl (by omega), Int.toNat_natCast]
      by_cases hf0 : fv = 0
      · rw [if_pos (by omega), if_pos (by omega), if_pos (by omega)]
        exact ⟨_, _, rfl, cn_ad hRn.cas, hk⟩
      · have hmi := w_mi_le (N := N) (s := s) (set := (w_rows T F N s 8).getD n 0) hT 8
        have ha := w_am_eq (F := F) (N := N) (s := s) (k := 2) (m := (w_rows T F N s 8).getD n 0) hT
        obtain ⟨r, Z2, g1, g2, g3⟩ := c_miles (d := d - 1) (m := 0) (s := s) (k := 2) (mi := w_mi T N s ((w_rows T F N s 8).getD n 0) 8) (hC0.congr (fun g i a b c d => hk _ _ _ (by omega))) hT (hL0.congr (fun g i a b => hk _ _ _ (by omega))) (hS0.congr (fun i => hk _ _ _ (by omega)) (fun i => hk _ _ _ (by omega)) (fun i => hk _ _ _ (by omega))) hN (by omega) hs (by decide) (by omega)
        rw [if_neg (by omega), if_pos (by omega), hRn.1.2.1, show (2 : Int) = ((2 : Nat) : Int) from rfl, g1, Option.bind_some, B107_72, g2, ha.1, cn_nt (z := (fv : Int)) rfl (by omega)]
        have hk2 : kC Z0 Z2 := fun g m i hg => (g3 g m i hg).trans (hk g m i hg)
        by_cases hle : fv ≤ w_am T F N s 2 ((w_rows T F N s 8).getD n 0)
        · rw [if_neg (by omega), cn_nt (z := (n : Int)) rfl (by omega), if_pos (by omega), Int.toNat_natCast, if_pos hle]
          exact ⟨_, _, rfl, cn_ad (hG.row hk2 hn).cas, hk2⟩
        · rw [if_pos (by omega), if_neg hle]
          exact ⟨_, _, rfl, by rw [show acc + ((0 : Nat) : Int) = acc from Int.add_zero _], hk2⟩
    · rw [if_pos (ite_00 _ hb), if_neg hb]
      exact ⟨_, _, rfl, by rw [show acc + ((0 : Nat) : Int) = acc from Int.add_zero _], hk⟩) (by
    intro acc Z hk
    show x_EX (d - 1) 107 21 [some (.inr (.inr (some (0, 0)))), some (.inl ((s : Int))), some (.inl ((fv : Int))), some (.inl acc), some (.inl (((w_rows T F N s 8).length : Int)))] [] (x_S Z t) = _
    rw [B107_21, hk 41 0 0 (by omega), hG.2.1, if_neg (Int.lt_irrefl _)]) (w_rows T F N s 8).length 0 0 Z0 (by omega) (fun _ _ _ _ => rfl)
  refine ⟨r, Z', f1, ?_, (kq_cw e3).trans (kq_kC f3)⟩
  rw [f2, Int.zero_add, List.drop_zero, q_sl_rows (fun m hm => by unfold q_gf; split; split; exact hm; rfl; rfl)]
theorem s15_ok : p_s15 PI := by
  intro a ha Z t ⟨T, F, N, H, K, v, u, nx, h⟩
  obtain ⟨ht, hT, hC, hM, hL, hML, hS, hR, hN, hH, _⟩ := id h
  have c1 := C99 60 Z t a (by decide)
  rw [c_hasS hC hT (by decide), Option.bind_some, B99_8, cn_id ha.1 ha.2] at c1
  have m1 : ∀ Z1, MT Z1 v T → x_CALL 60 214 [.inr (.inr (some (56, 0))), .inl a] (x_S Z1 t) = _ := fun Z1 hM1 => by rw [C214 60 Z1 t a (by decide), m_isS hM1 hT (by decide), Option.bind_some, B214_5, cn_id ha.1 ha.2]
  by_cases h1 : 0 ≤ a ∧ a < (T 2 0 : Int)
  case neg =>
    have m2 := m1 Z hM
    rw [if_pos (ite_00 _ h1)] at c1 m2; exact p_fin h c1 keepQ.rfl' m2 keepQ.rfl' rfl
  obtain ⟨s, rfl⟩ := Int.eq_ofNat_of_zero_le h1.1
  refine q_one h (X := cn (q_sl (q_gf T F N s 0) (List.range 256) : Int)) ?_ (fun Z1 hI => ?_)
  · obtain ⟨r, Z1, e1, e2, e3⟩ := c_coming (d := 59) (s := s) (fv := 0) hC hT hL hS hN (by decide) (by omega) (by decide)
    rw [if_neg (ite_01 _ h1), show (0 : Int) = ((0 : Nat) : Int) from rfl, e1, Option.bind_some, B99_17] at c1
    exact ⟨r, Z1, c1, e2, e3⟩
  · obtain ⟨Z2, g1, hE, g3⟩ := m_cps hI hT hN hH.2.2.1 (d := 59) (by decide) t (s := s) (by omega)
    obtain ⟨r, Z', f1, f2, f3⟩ := m_sum (L := fun acc n Z => x_EX 59 214 19 [some (.inr (.inr (some (56, 0)))), some (.inl ((s : Int))), some (.inl acc), some (.inl n)] [] (x_S Z t)) (g := q_gf T F N s 0) (d := 59) (t := t) hT (by omega) (by decide) hE (by
      intro acc set Z Z1 hset hE1 hL1 w1
      show ∃ acc' Z2, x_EX 59 214 19 [some (.inr (.inr (some (56, 0)))), some (.inl ((s : Int))), some (.inl acc), some (.inl ((set : Int)))] [] (x_S Z t) = x_EX 59 214 19 [some (.inr (.inr (some (56, 0)))), some (.inl ((s : Int))), some (.inl acc'), some (.inl (((set + 1 : Nat) : Int)))] [] (x_S Z2 t) ∧ _
      rw [B214_19, cn_nt (z := (set : Int)) rfl (by omega), if_pos (by omega), w1, Option.bind_some, B214_32, m_come hE1.1 hT hL1 (by decide) t (by omega), Option.bind_some, B214_36]
      unfold q_gf
      by_cases hb : w_come T N s set = true
      · rw [if_neg (ite_01 _ hb), if_pos hb, if_pos (Nat.zero_le _)]
        exact ⟨_, _, rfl, cn_ad hL1.cas, fun _ _ _ _ => rfl⟩
      · rw [if_pos (ite_00 _ hb), if_neg hb]
        exact ⟨_, _, rfl, by rw [show acc + ((0 : Nat) : Int) = acc from Int.add_zero _], fun _ _ _ _ => rfl⟩) (by
      intro acc Z
      show x_EX 59 214 19 [some (.inr (.inr (some (56, 0)))), some (.inl ((s : Int))), some (.inl acc), some (.inl 256)] [] (x_S Z t) = _
      rw [B214_19, if_neg (by decide)]) 256 0 0 Z2 (by omega) (fun _ _ _ _ => rfl)
    have m2 := m1 Z1 hI.1
    rw [if_neg (ite_01 _ h1), g1, Option.bind_some, B214_15] at m2
    exact ⟨r, Z', m2.trans f1, by rw [f2, Int.zero_add, range_sl], g3.trans (kq_kM f3)⟩
