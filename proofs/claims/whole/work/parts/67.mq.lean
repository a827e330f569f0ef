/-! what the model has at hand when it walks -/
def ME (T : PT) (F : PF) (N : PN) (s v : Nat) (Z : XZ) : Prop := MT Z v T ∧ MLaw Z v F ∧ MR Z 94 0 N ∧ MW T F N s Z ∧ MD Z (q_ds T 99)
/-- cells that walking and the laws may change -/
def wsc (g i : Nat) : Prop := g = 91 ∨ g = 92 ∨ g = 99 ∨ (g = 56 ∧ (i = 53 ∨ (62 ≤ i ∧ i ≤ 66)))
theorem ME.congr {T : PT} {F : PF} {N : PN} {s v : Nat} {Z Z' : XZ} (h : ME T F N s v Z) (hk : ∀ g m i, ¬ wsc g i → Z' g m i = Z g m i) : ME T F N s v Z' := by
  obtain ⟨h1, h2, h3, h4, h5⟩ := h
  exact ⟨h1.congr (fun g i a b => hk _ _ _ (by unfold wsc; omega)) (hk _ _ _ (by unfold wsc; omega)), h2.congr (fun g a b => funext fun m => funext fun i => hk _ _ _ (by unfold wsc; omega)), h3.congr (fun i => hk _ _ _ (by unfold wsc; omega)), h4.congr (fun g i a b => hk _ _ _ (by unfold wsc; omega)), fun c hc => (hk _ _ _ (by unfold wsc; omega)).trans (h5 c hc)⟩
theorem q_ds_le (T : PT) (wo c : Nat) : q_ds T wo c ≤ 1000 := Nat.le_trans (q_rs_le _ _ _ _ _) (q_d0_le T c)
theorem m_fst_loop {v : Nat} {T : PT} {F : PF} {N : PN} {d s : Nat} (hT : TOK T) (hN : NOK N) (hd : 4 ≤ d) (t : Nat) (hs : s < T 2 0) : ∀ (n k : Nat) (Z : XZ), k + n = T 0 0 → MT Z v T → MLaw Z v F → MR Z 94 0 N → (∀ c, c < k → cn (Z 96 0 c) = q_st T F N s c ∧ Z 97 0 c = (if q_dg T c = 0 then -2 else (w_l T N c 0 : Int)) ∧ Z 98 0 c = (if q_dg T c = 0 then -2 else (w_l T N c 1 : Int))) → ∃ Z' : XZ, x_EX d 200 7 [some (.inr (.inr (some (56, 0)))), some (.inl ((s : Int))), some (.inl ((k : Int)))] [] (x_S Z t) = some (0, x_S Z' t) ∧ MW T F N s Z' ∧ ∀ g m i, ¬ (g = 91 ∨ g = 92 ∨ (96 ≤ g ∧ g ≤ 98) ∨ (g = 56 ∧ i = 53)) → Z' g m i = Z g m i := by
  have t0 : T 0 0 ≤ 7 := hT.1
  intro n
  induction n with
  | zero =>
    intro k Z hk hM hL hR hW
    obtain ⟨hv, h18, ⟨h1, _, _, _, _, _, _⟩, _⟩ := id hM
    obtain rfl : k = T 0 0 := by omega
    rw [B200_7, h18, cn_nt (z := (v : Int)) rfl (by omega), Int.toNat_natCast, h1, if_pos (by omega), if_neg (Int.lt_irrefl _)]
    exact ⟨Z, rfl, hW, fun _ _ _ _ => rfl⟩
  | succ n ih =>
    intro k Z hk hM hL hR hW
    obtain ⟨hv, h18, ⟨h1, _, _, _, _, _, _⟩, _⟩ := id hM
    obtain ⟨r, Z1, e1, e2, e3⟩ := m_strays hM hL hT hR hN hd t hs (c := k) (by omega)
    have k2 : ∀ g m i, ¬ (g = 91 ∨ g = 92 ∨ (96 ≤ g ∧ g ≤ 98) ∨ (g = 56 ∧ i = 53)) → x_u Z1 96 0 k r g m i = Z g m i := fun g m i hg => by rw [x_u_ne (by omega)]; exact e3 g m i (by omega) (by omega) (by omega)
    have hM2 : MT (x_u Z1 96 0 k r) v T := hM.congr (fun g i a b => k2 _ _ _ (by omega)) (k2 _ _ _ (by omega))
    have hR2 : MR (x_u Z1 96 0 k r) 94 0 N := hR.congr (fun i => k2 _ _ _ (by omega))
    have e5 := m_lnBy hM2 hT hR2 hN (d := d) (by omega) t (c := k) (b := 0) (by omega) (by omega)
    generalize hx : (if q_dg T k = 0 then -2 else (q_at T k (q_sg N k + 0) : Int)) = x5 at e5
    have k3 : ∀ g m i, ¬ (g = 91 ∨ g = 92 ∨ (96 ≤ g ∧ g ≤ 98) ∨ (g = 56 ∧ i = 53)) → x_u (x_u Z1 96 0 k r) 97 0 k x5 g m i = Z g m i := fun g m i hg => by rw [x_u_ne (by omega)]; exact k2 g m i hg
    have hM3 : MT (x_u (x_u Z1 96 0 k r) 97 0 k x5) v T := hM.congr (fun g i a b => k3 _ _ _ (by omega)) (k3 _ _ _ (by omega))
    have hR3 : MR (x_u (x_u Z1 96 0 k r) 97 0 k x5) 94 0 N := hR.congr (fun i => k3 _ _ _ (by omega))
    have e6 := m_lnBy hM3 hT hR3 hN (d := d) (by omega) t (c := k) (b := 1) (by omega) (by omega)
    generalize hy : (if q_dg T k = 0 then -2 else (q_at T k (q_sg N k + 1) : Int)) = x6 at e6
    have k4 : ∀ g m i, ¬ (g = 91 ∨ g = 92 ∨ (96 ≤ g ∧ g ≤ 98) ∨ (g = 56 ∧ i = 53)) → x_u (x_u (x_u Z1 96 0 k r) 97 0 k x5) 98 0 k x6 g m i = Z g m i := fun g m i hg => by rw [x_u_ne (by omega)]; exact k3 g m i hg
    rw [B200_7, h18, cn_nt (z := (v : Int)) rfl (by omega), Int.toNat_natCast, h1, if_pos (by omega), cn_nt (z := (k : Int)) rfl (by omega), cn_nt (z := (T 0 0 : Int)) rfl (by omega), if_pos (by omega), e1, Option.bind_some, B200_31, cn_nt (z := (k : Int)) rfl (by omega), if_pos (by omega), Int.toNat_natCast]
    rw [show (0 : Int) = ((0 : Nat) : Int) from rfl, e5, Option.bind_some, B200_43, cn_nt (z := (k : Int)) rfl (by omega), if_pos (by omega), Int.toNat_natCast]
    rw [show (1 : Int) = ((1 : Nat) : Int) from rfl, e6, Option.bind_some, B200_55, cn_nt (z := (k : Int)) rfl (by omega), if_pos (by omega), Int.toNat_natCast]
    obtain ⟨Z', f1, f2, f3⟩ := ih (k + 1) (x_u (x_u (x_u Z1 96 0 k r) 97 0 k x5) 98 0 k x6) (by omega) (hM.congr (fun g i a b => k4 _ _ _ (by omega)) (k4 _ _ _ (by omega))) (hL.congr (fun g a b => funext fun m => funext fun i => k4 _ _ _ (by omega))) (hR.congr (fun i => k4 _ _ _ (by omega))) (fun c hc => by
      by_cases hck : c = k
      · subst hck
        refine ⟨?_, ?_, ?_⟩
        · rw [x_u_ne (by omega), x_u_ne (by omega), x_u_eq]; exact e2
        · rw [x_u_ne (by omega), x_u_eq, ← hx]; rfl
        · rw [x_u_eq, ← hy]; rfl
      · rw [x_u_ne (by omega), x_u_ne (by omega), x_u_ne (by omega), x_u_ne (by omega), x_u_ne (by omega), x_u_ne (by omega), x_u_ne (by omega), x_u_ne (by omega), x_u_ne (by omega), e3 _ _ _ (by omega) (by omega) (by omega), e3 _ _ _ (by omega) (by omega) (by omega), e3 _ _ _ (by omega) (by omega) (by omega)]
        exact hW c (by omega))
    exact ⟨Z', f1, f2, fun g m i hg => (f3 g m i hg).trans (k4 g m i hg)⟩
theorem m_fst {Z : XZ} {v : Nat} {T : PT} {F : PF} {N : PN} {d s : Nat} (hM : MT Z v T) (hL : MLaw Z v F) (hR : MR Z 94 0 N) (hT : TOK T) (hN : NOK N) (hd : 5 ≤ d) (t : Nat) (hs : s < T 2 0) : ∃ Z' : XZ, x_CALL d 200 [.inr (.inr (some (56, 0))), .inl ((s : Int))] (x_S Z t) = some (0, x_S Z' t) ∧ ME T F N s v Z' ∧ ∀ g m i, ¬ (g = 91 ∨ g = 92 ∨ (95 ≤ g ∧ g ≤ 98) ∨ (g = 56 ∧ i = 53)) → Z' g m i = Z g m i := by
  have t1 : T 1 0 ≤ 10 := hT.2.1
  obtain ⟨Z1, e1, e2, e3⟩ := m_miles (d := d - 1) (a1 := -1) (wo := 99) hM hT (by omega) t (fun l hl => by rw [cn_id (by decide) (by decide)]; omega)
  have hM1 : MT Z1 v T := hM.congr (fun g i a b => e3 _ _ _ (by omega)) (e3 _ _ _ (by omega))
  have hL1 : MLaw Z1 v F := hL.congr (fun g a b => funext fun m => funext fun i => e3 _ _ _ (by omega))
  have hR1 : MR Z1 94 0 N := hR.congr (fun i => e3 _ _ _ (by omega))
  obtain ⟨Z2, f1, f2, f3⟩ := m_fst_loop (d := d - 1) hT hN (by omega) t hs (T 0 0) 0 Z1 (by omega) hM1 hL1 hR1 (fun c hc => by omega)
  rw [C200 _ _ _ _ (by omega), e1, Option.bind_some, B200_5]
  refine ⟨Z2, f1, ⟨hM1.congr (fun g i a b => f3 _ _ _ (by omega)) (f3 _ _ _ (by omega)), hL1.congr (fun g a b => funext fun m => funext fun i => f3 _ _ _ (by omega)), hR1.congr (fun i => f3 _ _ _ (by omega)), f2, fun c hc => (f3 _ _ _ (by omega)).trans (e2 c hc)⟩, fun g m i hg => by rw [f3 g m i (by omega)]; exact e3 g m i (by omega)⟩
def w_come (T : PT) (N : PN) (s set : Nat) : Bool := w_at T N s set 8 == T 10 0
def w_buy (T : PT) (N : PN) (s set : Nat) : Bool := w_come T N s set && (set != 0) && decide (q_ds T 99 (T 8 s) + T 11 0 ≤ w_mi T N s set 8)
theorem m_come {Z : XZ} {v : Nat} {T : PT} {F : PF} {N : PN} {d s set : Nat} (hM : MT Z v T) (hT : TOK T) (hL : LW T F N s set 8 Z) (hd : 2 ≤ d) (t : Nat) (hs : s < T 2 0) : x_CALL d 202 [.inr (.inr (some (56, 0)))] (x_S Z t) = some ((if w_come T N s set = true then 1 else 0), x_S Z t) := by
  have t0 : T 0 0 ≤ 7 := hT.1
  have hat : w_at T N s set 8 < T 0 0 := w_at_lt hT hs 8
  have hh : q_ho T = (T 10 0 : Int) := by unfold q_ho; rw [if_neg (by omega)]
  have h10 : T 10 0 < T 0 0 := hT.2.2.2.2.2.2.1 (by omega)
  rw [C202 _ _ _ (by omega), m_house hM hT (by omega) t, Option.bind_some, B202_11, hL.2.2.2.2.2 8 (by omega), hh, cn_nt (z := (T 10 0 : Int)) rfl (by omega), cn_nt (z := (w_at T N s set 8 : Int)) rfl (by omega)]
  unfold w_come
  by_cases h : w_at T N s set 8 = T 10 0
  · rw [if_pos (by omega), if_pos (by simp [h])]
  · rw [if_neg (by omega), if_neg (by simp [h])]
theorem m_buy {Z : XZ} {v : Nat} {T : PT} {F : PF} {N : PN} {d s set : Nat} (hE : ME T F N s v Z) (hT : TOK T) (hL : LW T F N s set 8 Z) (hd : 3 ≤ d) (t : Nat) (hs : s < T 2 0) (hset : set < 256) : x_CALL d 203 [.inr (.inr (some (56, 0))), .inl ((s : Int)), .inl ((set : Int))] (x_S Z t) = some ((if w_buy T N s set = true then 1 else 0), x_S Z t) := by
  have t0 : T 0 0 ≤ 7 := hT.1
  have h8 := (hT.2.2.2.2.2.1 s hs).2
  have h11 : T 11 0 ≤ 99 := hT.2.2.2.2.2.2.2.1
  have hM := hE.1
  have hv := hM.1
  rw [C203 _ _ _ _ _ (by omega), m_come hM hT hL (by omega) t hs, Option.bind_some, B203_4]
  unfold w_buy
  by_cases h1 : w_come T N s set = true
  · rw [h1, if_neg (ite_01 _ rfl), cn_nt (z := (set : Int)) rfl (by omega)]
    by_cases h2 : set = 0
    · rw [if_pos (by omega), if_neg (by simp [h2])]
    · have hmi := w_mi_le (N := N) (s := s) (set := set) hT 8
      have hds := q_ds_le T 99 (T 8 s)
      rw [if_neg (by omega), m_start hM hT (by omega) t hs, Option.bind_some, B203_24, cn_nt (z := (T 8 s : Int)) rfl (by omega), if_pos (by omega), hM.2.1, cn_nt (z := (v : Int)) rfl (by omega), if_pos (by omega), Int.toNat_natCast, Int.toNat_natCast, hE.2.2.2.2 _ (by omega), hM.2.2.1.2.2.2.2.1, hL.2.1, cn_nt (z := (q_ds T 99 (T 8 s) : Int) + (T 11 0 : Int)) (n := q_ds T 99 (T 8 s) + T 11 0) (by omega) (by omega), cn_nt (z := (w_mi T N s set 8 : Int)) rfl (by omega)]
      by_cases h3 : q_ds T 99 (T 8 s) + T 11 0 ≤ w_mi T N s set 8
      · rw [if_neg (by omega), if_pos (by simp [h2, h3])]
      · rw [if_pos (by omega), if_neg (by simp [h3])]
  · have h1' : w_come T N s set = false := by simpa using h1
    rw [h1', if_pos (ite_00 _ (by decide))]; rfl
