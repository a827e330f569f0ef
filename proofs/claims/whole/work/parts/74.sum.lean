/-! sums over the class's rows and over the model's sets -/
def kC (Z0 Z : XZ) : Prop := ∀ g m i, ¬ (g = 19 ∨ g = 20) → Z g m i = Z0 g m i
def kM (Z0 Z : XZ) : Prop := ∀ g m i, ¬ wsc g i → Z g m i = Z0 g m i
theorem cn_acc {a b c x : Int} (h1 : cn a = cn (b + c)) : cn (a + x) = cn (b + (c + x)) := by
  have := cn_ac x h1; rw [this, Int.add_assoc]
theorem c_sum {L : Int → Int → XZ → Option (Int × XH)} {g : Nat → Nat} {R : List Nat} {Z0 : XZ} {t : Nat} (hstep : ∀ (acc : Int) (n : Nat) (Z : XZ), n < R.length → kC Z0 Z → ∃ (acc' : Int) (Z2 : XZ), L acc (n : Int) Z = L acc' ((n + 1 : Nat) : Int) Z2 ∧ cn acc' = cn (acc + (g (R.getD n 0) : Int)) ∧ kC Z0 Z2) (hend : ∀ (acc : Int) (Z : XZ), kC Z0 Z → L acc (R.length : Int) Z = some (acc, x_S Z t)) : ∀ (j n : Nat) (acc : Int) (Z : XZ), n + j = R.length → kC Z0 Z → ∃ (r : Int) (Z' : XZ), L acc (n : Int) Z = some (r, x_S Z' t) ∧ cn r = cn (acc + (q_sl g (R.drop n) : Int)) ∧ kC Z0 Z' := by
  intro j
  induction j with
  | zero =>
    intro n acc Z hn hk
    obtain rfl : n = R.length := by omega
    rw [hend acc Z hk, List.drop_length]
    exact ⟨acc, Z, rfl, by show cn acc = cn (acc + 0); rw [Int.add_zero], hk⟩
  | succ j ih =>
    intro n acc Z hn hk
    have hnR : n < R.length := by omega
    obtain ⟨acc', Z2, e1, e2, e3⟩ := hstep acc n Z hnR hk
    obtain ⟨r, Z', f1, f2, f3⟩ := ih (n + 1) acc' Z2 (by omega) e3
    refine ⟨r, Z', e1.trans f1, ?_, f3⟩
    have e : R.drop n = R.getD n 0 :: R.drop (n + 1) := by rw [List.drop_eq_getElem_cons hnR, List.getD_eq_getElem?_getD, List.getElem?_eq_getElem hnR]; rfl
    rw [f2, e, q_sl, cn_acc e2]; congr 1
theorem m_sum {L : Int → Int → XZ → Option (Int × XH)} {T : PT} {F : PF} {N : PN} {s v d : Nat} {g : Nat → Nat} {Z0 : XZ} {t : Nat} (hT : TOK T) (hs : s < T 2 0) (hd : 2 ≤ d) (hE : ME T F N s v Z0) (hstep : ∀ (acc : Int) (set : Nat) (Z Z1 : XZ), set < 256 → ME T F N s v Z1 → LW T F N s set 8 Z1 → x_CALL d 201 [.inr (.inr (some (56, 0))), .inl ((s : Int)), .inl ((set : Int))] (x_S Z t) = some (0, x_S Z1 t) → ∃ (acc' : Int) (Z2 : XZ), L acc (set : Int) Z = L acc' ((set + 1 : Nat) : Int) Z2 ∧ cn acc' = cn (acc + (g set : Int)) ∧ kM Z1 Z2) (hend : ∀ (acc : Int) (Z : XZ), L acc 256 Z = some (acc, x_S Z t)) : ∀ (n set : Nat) (acc : Int) (Z : XZ), set + n = 256 → kM Z0 Z → ∃ (r : Int) (Z' : XZ), L acc (set : Int) Z = some (r, x_S Z' t) ∧ cn r = cn (acc + (q_sl g (List.range' set n) : Int)) ∧ kM Z0 Z' := by
  intro n
  induction n with
  | zero =>
    intro set acc Z hn hk
    obtain rfl : set = 256 := by omega
    rw [show ((256 : Nat) : Int) = 256 from rfl, hend acc Z]
    exact ⟨acc, Z, rfl, by show cn acc = cn (acc + 0); rw [Int.add_zero], hk⟩
  | succ n ih =>
    intro set acc Z hn hk
    have hEZ := hE.congr hk
    obtain ⟨Z1, w1, w2, w3⟩ := m_walks hEZ.1 hT hEZ.2.2.2.1 hd t hs (set := set) (by omega)
    have k1 : kM Z Z1 := fun g m i hg => w3 g m i (by unfold wsc at hg; omega)
    obtain ⟨acc', Z2, e1, e2, e3⟩ := hstep acc set Z Z1 (by omega) (hEZ.congr k1) w2 w1
    obtain ⟨r, Z', f1, f2, f3⟩ := ih (set + 1) acc' Z2 (by omega) (fun g m i hg => (e3 g m i hg).trans ((k1 g m i hg).trans (hk g m i hg)))
    refine ⟨r, Z', e1.trans f1, ?_, f3⟩
    rw [f2, List.range'_succ, q_sl, cn_acc e2]; congr 1
theorem GR.row {T : PT} {F : PF} {N : PN} {s k : Nat} {Z Z' : XZ} (h : GR T F N s k Z) (hk : kC Z Z') {n : Nat} (hn : n < (w_rows T F N s k).length) : RR T F N s Z' n ((w_rows T F N s k).getD n 0) k := (h.2.2 n hn).congr (fun g a b => hk _ _ _ (by omega))
theorem rows_lt (T : PT) (F : PF) (N : PN) (s : Nat) {n : Nat} (hn : n < (w_rows T F N s 8).length) : n < 256 := by have := w_rows_len T F N s 8; omega
theorem c_came {T : PT} {F : PF} {N : PN} {s n m d : Nat} {Z : XZ} (hT : TOK T) (hs : s < T 2 0) (hW : CW T F N s Z) (hR : RR T F N s Z n m 8) (hn : n < 256) (hd : 1 ≤ d) (t : Nat) : x_CALL d 70 [.inr (.inr (some (41, 0))), .inl ((n : Int))] (x_S Z t) = some ((if w_come T N s m = true then 1 else 0), x_S Z t) := by
  have t0 : T 0 0 ≤ 7 := hT.1
  have hat : w_at T N s m 8 < T 0 0 := w_at_lt hT hs 8
  have h10 : T 10 0 < T 0 0 := hT.2.2.2.2.2.2.1 (by omega)
  rw [C70 _ _ _ _ (by omega), cn_nt (z := (n : Int)) rfl (by omega), if_pos (by omega), Int.toNat_natCast, hR.1.1, hW.1, cn_nt (z := (w_at T N s m 8 : Int)) rfl (by omega), cn_nt (z := (T 10 0 : Int)) rfl (by omega)]
  unfold w_come
  by_cases h : w_at T N s m 8 = T 10 0
  · rw [if_pos (by omega), if_pos (by simp [h])]
  · rw [if_neg (by omega), if_neg (by simp [h])]
theorem c_buy {T : PT} {F : PF} {N : PN} {s n m d : Nat} {Z : XZ} (hT : TOK T) (hs : s < T 2 0) (hW : CW T F N s Z) (hR : RR T F N s Z n m 8) (hn : n < 256) (hd : 1 ≤ d) (t : Nat) : x_CALL d 71 [.inr (.inr (some (41, 0))), .inl ((n : Int))] (x_S Z t) = some ((if w_buy T N s m = true then 1 else 0), x_S Z t) := by
  have t0 : T 0 0 ≤ 7 := hT.1
  have hat : w_at T N s m 8 < T 0 0 := w_at_lt hT hs 8
  have h10 : T 10 0 < T 0 0 := hT.2.2.2.2.2.2.1 (by omega)
  have h11 : T 11 0 ≤ 99 := hT.2.2.2.2.2.2.2.1
  have hm := hR.2.2
  have hmi := w_mi_le (N := N) (s := s) (set := m) hT 8
  rw [C71 _ _ _ _ (by omega), cn_nt (z := (n : Int)) rfl (by omega), if_pos (by omega), Int.toNat_natCast, hR.1.1, hW.1, cn_nt (z := (w_at T N s m 8 : Int)) rfl (by omega), cn_nt (z := (T 10 0 : Int)) rfl (by omega)]
  unfold w_buy
  by_cases h : w_at T N s m 8 = T 10 0
  · have hc : w_come T N s m = true := by unfold w_come; simp [h]
    have hf := w_come_fin hT hs hc
    have hq : q_mi T (T 8 s) = (q_ds T 99 (T 8 s) : Int) := by unfold q_mi; rw [if_neg (by omega)]
    rw [if_pos (by omega), if_pos (by omega), hR.1.2.2.2.1, cn_nt (z := (m : Int)) rfl (by omega), hc]
    by_cases h2 : m = 0
    · rw [if_pos (by omega), if_neg (by simp [h2])]
    · rw [if_neg (by omega), if_pos (by omega), hR.1.2.1, hW.2.1, hq, cn_nt (z := (w_mi T N s m 8 : Int)) rfl (by omega), cn_nt (z := (q_ds T 99 (T 8 s) : Int) + (T 11 0 : Int)) (n := q_ds T 99 (T 8 s) + T 11 0) (by omega) (by omega)]
      by_cases h3 : q_ds T 99 (T 8 s) + T 11 0 ≤ w_mi T N s m 8
      · rw [if_neg (by omega), if_pos (by simp [h2, h3])]
      · rw [if_pos (by omega), if_neg (by simp [h3])]
  · have hc : w_come T N s m = false := by unfold w_come; simp [h]
    rw [if_neg (by omega), hc]; rfl
theorem RR.cas {T : PT} {F : PF} {N : PN} {s n m : Nat} {Z : XZ} (hR : RR T F N s Z n m 8) : cn (Z 46 0 n) = cn (w_ca T F N s m 8 : Int) := by
  have h1 := hR.2.1
  have h2 := w_ca_le T F N s m 8
  rw [h1, cn_nt (z := (w_ca T F N s m 8 : Int)) rfl (by omega), Nat.sub_self, Nat.pow_zero, Nat.mul_one]
theorem LW.cas {T : PT} {F : PF} {N : PN} {s set : Nat} {Z : XZ} (hL : LW T F N s set 8 Z) : cn (Z 56 0 66) = cn (w_ca T F N s set 8 : Int) := by
  have h2 := w_ca_le T F N s set 8
  rw [hL.2.2.2.2.1, cn_nt rfl (by omega)]
theorem cn_ad {a b c : Int} (h : cn b = cn c) : cn (a + b) = cn (a + c) := by unfold cn at *; omega
theorem m_cps {T : PT} {F : PF} {N : PN} {H : Nat → PN} {v u : Nat} {Z : XZ} {d s : Nat} (h : MI T F N H v u Z) (hT : TOK T) (hN : NOK N) (hu : u ≤ 40) (hd : 6 ≤ d) (t : Nat) (hs : s < T 2 0) : ∃ Z' : XZ, x_CALL d 213 [.inr (.inr (some (56, 0))), .inl ((s : Int))] (x_S Z t) = some (0, x_S Z' t) ∧ ME T F N s v Z' ∧ keepQ Z Z' := by
  obtain ⟨Z1, g1, g2, g3, g4, g5, _⟩ := m_crr h hT hu (d := d - 1) (by omega) t
  obtain ⟨Z2, f1, f2, f3⟩ := m_fst (d := d - 1) g2.1 g2.2.1 g3 hT hN (by omega) t hs
  rw [C213 _ _ _ _ (by omega), g1, Option.bind_some, B213_4, f1, Option.bind_some, B213_9]
  exact ⟨Z2, rfl, f2, fun g m i hq => (f3 g m i (by unfold scr at hq; omega)).trans (g5 g m i hq)⟩
theorem kq_cw {Z Z' : XZ} (h : ∀ g m i, ¬ (g = 19 ∨ g = 20 ∨ (41 ≤ g ∧ g ≤ 55)) → Z' g m i = Z g m i) : keepQ Z Z' := fun g m i hs => h g m i (by unfold scr at hs; omega)
theorem kq_kC {Z Z' : XZ} (h : kC Z Z') : keepQ Z Z' := fun g m i hs => h g m i (by unfold scr at hs; omega)
theorem kq_kM {Z Z' : XZ} (h : kM Z Z') : keepQ Z Z' := fun g m i hs => h g m i (by unfold scr at hs; unfold wsc; omega)
theorem range_sl (g : Nat → Nat) : q_sl g (List.range' 0 256) = q_sl g (List.range 256) := by rw [List.range_eq_range']
