/-! the model's miles to the house and strayings at the corners -/
def MD (Z : XZ) (D : Nat → Nat) : Prop := ∀ c, c < 7 → Z 95 0 c = (D c : Int)
theorem q_rx_le (D : Nat → Nat) (a b w c : Nat) : q_rx D a b w c ≤ D c := by
  unfold q_rx
  split
  · unfold q_up; split
    · rename_i h1 h2; subst h2; omega
    · exact Nat.le_refl _
  · exact Nat.le_refl _
theorem q_ro_le (T : PT) (wo n : Nat) (D : Nat → Nat) (c : Nat) : q_ro T wo n D c ≤ D c := by
  induction n with
  | zero => exact Nat.le_refl _
  | succ n ih =>
    unfold q_ro
    split
    · exact ih
    · exact Nat.le_trans (q_rx_le _ _ _ _ _) (Nat.le_trans (q_rx_le _ _ _ _ _) ih)
theorem q_rs_le (T : PT) (wo k : Nat) (D : Nat → Nat) (c : Nat) : q_rs T wo k D c ≤ D c := by
  induction k with
  | zero => exact Nat.le_refl _
  | succ k ih => unfold q_rs; exact Nat.le_trans (q_ro_le _ _ _ _ _) ih
theorem q_d0_le (T : PT) (c : Nat) : q_d0 T c ≤ 1000 := by unfold q_d0; split <;> omega
theorem MD.rx {Z : XZ} {D : Nat → Nat} (h : MD Z D) {a b w : Nat} (hlt : D b + w < D a) : MD (x_u Z 95 0 a ((D b : Int) + (w : Int))) (q_rx D a b w) := by
  intro c hc
  unfold q_rx
  rw [if_pos hlt]
  unfold q_up
  by_cases hca : c = a
  · rw [hca, x_u_eq, if_pos rfl]; omega
  · rw [x_u_ne (by omega), if_neg hca]; exact h c hc
theorem MD.rx' {Z : XZ} {D : Nat → Nat} (h : MD Z D) {a b w : Nat} (hlt : ¬ D b + w < D a) : MD Z (q_rx D a b w) := by
  unfold q_rx
  rw [if_neg hlt]
  exact h
theorem m_mil_lane {Z : XZ} {v : Nat} {T : PT} {D : Nat → Nat} {d l : Nat} {a1 a2 : Int} (hM : MT Z v T) (hT : TOK T) (hD : MD Z D) (hB : ∀ c, D c ≤ 1000) (t : Nat) (hl : l < T 1 0) (hwo : ¬ cn a1 = (l : Int)) (o4 o5 o6 : Option XV) : ∃ (Z' : XZ) (p4 p5 p6 : Option XV), x_EX d 193 45 [some (.inr (.inr (some (56, 0)))), some (.inl a1), some (.inl a2), some (.inl ((l : Int))), o4, o5, o6] [] (x_S Z t) = x_EX d 193 45 [some (.inr (.inr (some (56, 0)))), some (.inl a1), some (.inl a2), some (.inl (((l + 1 : Nat) : Int))), p4, p5, p6] [] (x_S Z' t) ∧ MD Z' (q_rx (q_rx D (T 4 l) (T 5 l) (T 6 l)) (T 5 l) (T 4 l) (T 6 l)) ∧ ∀ g m i, g ≠ 95 → Z' g m i = Z g m i := by
  have t0 : T 0 0 ≤ 7 := hT.1
  have t1 : T 1 0 ≤ 10 := hT.2.1
  obtain ⟨hv, h18, ⟨_, h1, _, _, _, _, _⟩, _, h2, _⟩ := id hM
  obtain ⟨r1, r2, r3⟩ := h2 l hl
  obtain ⟨b1, b2, b3, b4, b5⟩ := hT.2.2.2.2.1 l hl
  have bv : 0 ≤ (v : Int) ∧ (v : Int) < 2 := by omega
  have bl : 0 ≤ ((10 * v + l : Nat) : Int) ∧ ((10 * v + l : Nat) : Int) < 20 := by omega
  have ba : 0 ≤ (T 4 l : Int) ∧ (T 4 l : Int) < 7 := by omega
  have bb : 0 ≤ (T 5 l : Int) ∧ (T 5 l : Int) < 7 := by omega
  have da := hB (T 4 l)
  have db := hB (T 5 l)
  have tail : ∀ (Z1 : XZ) (D1 : Nat → Nat), MD Z1 D1 → (∀ c, D1 c ≤ 1000) → ∃ Z' : XZ, x_EX d 193 151 [some (.inr (.inr (some (56, 0)))), some (.inl a1), some (.inl a2), some (.inl ((l : Int))), some (.inl ((T 4 l : Int))), some (.inl ((T 5 l : Int))), some (.inl ((T 6 l : Int)))] [] (x_S Z1 t) = x_EX d 193 188 [some (.inr (.inr (some (56, 0)))), some (.inl a1), some (.inl a2), some (.inl ((l : Int))), some (.inl ((T 4 l : Int))), some (.inl ((T 5 l : Int))), some (.inl ((T 6 l : Int)))] [] (x_S Z' t) ∧ MD Z' (q_rx D1 (T 5 l) (T 4 l) (T 6 l)) ∧ ∀ g m i, g ≠ 95 → Z' g m i = Z1 g m i := by
    intro Z1 D1 hD1 hB1
    have da1 := hB1 (T 4 l)
    have db1 := hB1 (T 5 l)
    rw [B193_151, cn_nt (z := (T 4 l : Int)) rfl (by omega), cn_nt (z := (T 5 l : Int)) rfl (by omega), if_pos ba, if_pos bb, Int.toNat_natCast, Int.toNat_natCast, hD1 _ (by omega), hD1 _ (by omega), cn_nt (z := (D1 (T 4 l) : Int) + (T 6 l : Int)) (n := D1 (T 4 l) + T 6 l) (by omega) (by omega), cn_nt (z := (D1 (T 5 l) : Int)) rfl (by omega)]
    by_cases hlt : D1 (T 4 l) + T 6 l < D1 (T 5 l)
    · rw [if_pos (by omega), if_pos ba, if_pos bb]
      exact ⟨_, rfl, hD1.rx hlt, fun g m i hg => x_u_ne (by omega)⟩
    · rw [if_neg (by omega)]
      exact ⟨_, rfl, hD1.rx' hlt, fun _ _ _ _ => rfl⟩
  rw [B193_45, h18, cn_nt (z := (v : Int)) rfl (by omega), Int.toNat_natCast, h1, if_pos bv, cn_nt (z := (l : Int)) rfl (by omega), cn_nt (z := (T 1 0 : Int)) rfl (by omega), if_pos (by omega), if_neg (fun e => hwo e.symm), cn_nt (z := 10 * (v : Int) + (l : Int)) (n := 10 * v + l) (by omega) (by omega), Int.toNat_natCast, r1, r2, r3, cn_nt (z := (T 4 l : Int)) rfl (by omega), cn_nt (z := (T 5 l : Int)) rfl (by omega), Int.toNat_natCast, Int.toNat_natCast, hD _ (by omega), hD _ (by omega), cn_nt (z := (D (T 5 l) : Int) + (T 6 l : Int)) (n := D (T 5 l) + T 6 l) (by omega) (by omega), cn_nt (z := (D (T 4 l) : Int)) rfl (by omega)]
  simp only [if_pos bl, if_pos ba, if_pos bb]
  by_cases hlt : D (T 5 l) + T 6 l < D (T 4 l)
  · rw [if_pos (by omega)]
    obtain ⟨Z', e1, e2, e3⟩ := tail _ _ (hD.rx hlt) (fun c => Nat.le_trans (q_rx_le _ _ _ _ _) (hB c))
    rw [e1, B193_188]
    exact ⟨Z', _, _, _, rfl, e2, fun g m i hg => by rw [e3 g m i hg, x_u_ne (by omega)]⟩
  · rw [if_neg (by omega)]
    obtain ⟨Z', e1, e2, e3⟩ := tail _ _ (hD.rx' hlt) (fun c => Nat.le_trans (q_rx_le _ _ _ _ _) (hB c))
    rw [e1, B193_188]
    exact ⟨Z', _, _, _, rfl, e2, e3⟩
theorem m_mil_round {v : Nat} {T : PT} {D : Nat → Nat} {d wo : Nat} {a1 a2 : Int} (hT : TOK T) (hB : ∀ c, D c ≤ 1000) (t : Nat) (hwo : ∀ l : Nat, l < T 1 0 → (cn a1 = (l : Int) ↔ l = wo)) : ∀ (n l : Nat) (Z : XZ) (o4 o5 o6 : Option XV), l + n = T 1 0 → MT Z v T → MD Z (q_ro T wo l D) → ∃ (Z' : XZ) (p3 p4 p5 p6 : Option XV), x_EX d 193 45 [some (.inr (.inr (some (56, 0)))), some (.inl a1), some (.inl a2), some (.inl ((l : Int))), o4, o5, o6] [] (x_S Z t) = x_EX d 193 37 [some (.inr (.inr (some (56, 0)))), some (.inl a1), some (.inl (a2 + 1)), p3, p4, p5, p6] [] (x_S Z' t) ∧ MD Z' (q_ro T wo (T 1 0) D) ∧ ∀ g m i, g ≠ 95 → Z' g m i = Z g m i := by
  have t1 : T 1 0 ≤ 10 := hT.2.1
  intro n
  induction n with
  | zero =>
    intro l Z o4 o5 o6 hl hM hD
    obtain ⟨hv, h18, ⟨_, h1, _, _, _, _, _⟩, _⟩ := id hM
    obtain rfl : l = T 1 0 := by omega
    rw [B193_45, h18, cn_nt (z := (v : Int)) rfl (by omega), Int.toNat_natCast, h1, if_pos (by omega), if_neg (Int.lt_irrefl _)]
    exact ⟨Z, _, _, _, _, rfl, hD, fun _ _ _ _ => rfl⟩
  | succ n ih =>
    intro l Z o4 o5 o6 hl hM hD
    by_cases hw : l = wo
    · obtain ⟨hv, h18, ⟨_, h1, _, _, _, _, _⟩, _⟩ := id hM
      have e : x_EX d 193 45 [some (.inr (.inr (some (56, 0)))), some (.inl a1), some (.inl a2), some (.inl ((l : Int))), o4, o5, o6] [] (x_S Z t) = x_EX d 193 45 [some (.inr (.inr (some (56, 0)))), some (.inl a1), some (.inl a2), some (.inl (((l + 1 : Nat) : Int))), o4, o5, o6] [] (x_S Z t) := by
        rw [B193_45, h18, cn_nt (z := (v : Int)) rfl (by omega), Int.toNat_natCast, h1, if_pos (by omega), cn_nt (z := (l : Int)) rfl (by omega), cn_nt (z := (T 1 0 : Int)) rfl (by omega), if_pos (by omega), if_pos (((hwo l (by omega)).2 hw).symm), B193_188]
        rfl
      have hD' : MD Z (q_ro T wo (l + 1) D) := by rw [q_ro, if_pos hw]; exact hD
      obtain ⟨Z', p3, p4, p5, p6, e1, e2, e3⟩ := ih (l + 1) Z o4 o5 o6 (by omega) hM hD'
      exact ⟨Z', p3, p4, p5, p6, e.trans e1, e2, e3⟩
    · obtain ⟨Z1, p4, p5, p6, e1, e2, e3⟩ := m_mil_lane (d := d) (a2 := a2) hM hT hD (fun c => Nat.le_trans (q_ro_le _ _ _ _ _) (hB c)) t (by omega) (fun e => hw ((hwo l (by omega)).1 e)) o4 o5 o6
      have hD' : MD Z1 (q_ro T wo (l + 1) D) := by rw [q_ro, if_neg hw]; exact e2
      obtain ⟨Z2, p3', p4', p5', p6', f1, f2, f3⟩ := ih (l + 1) Z1 p4 p5 p6 (by omega) (hM.congr (fun g i a b => e3 _ _ _ (by omega)) (e3 _ _ _ (by omega))) hD'
      exact ⟨Z2, p3', p4', p5', p6', e1.trans f1, f2, fun g m i hg => (f3 g m i hg).trans (e3 g m i hg)⟩
theorem m_mil_rounds {v : Nat} {T : PT} {D : Nat → Nat} {d wo : Nat} {a1 : Int} (hT : TOK T) (hB : ∀ c, D c ≤ 1000) (t : Nat) (hwo : ∀ l : Nat, l < T 1 0 → (cn a1 = (l : Int) ↔ l = wo)) : ∀ (n k : Nat) (Z : XZ) (o3 o4 o5 o6 : Option XV), k + n = 7 → MT Z v T → MD Z (q_rs T wo k D) → ∃ Z' : XZ, x_EX d 193 37 [some (.inr (.inr (some (56, 0)))), some (.inl a1), some (.inl ((k : Int))), o3, o4, o5, o6] [] (x_S Z t) = some (0, x_S Z' t) ∧ MD Z' (q_rs T wo 7 D) ∧ ∀ g m i, g ≠ 95 → Z' g m i = Z g m i := by
  intro n
  induction n with
  | zero =>
    intro k Z o3 o4 o5 o6 hk hM hD
    obtain rfl : k = 7 := by omega
    rw [B193_37, if_neg (by decide)]
    exact ⟨Z, rfl, hD, fun _ _ _ _ => rfl⟩
  | succ n ih =>
    intro k Z o3 o4 o5 o6 hk hM hD
    obtain ⟨Z1, p3, p4, p5, p6, e1, e2, e3⟩ := m_mil_round (d := d) (D := q_rs T wo k D) (a2 := (k : Int)) hT (fun c => Nat.le_trans (q_rs_le _ _ _ _ _) (hB c)) t hwo (T 1 0) 0 Z o4 o5 o6 (by omega) hM hD
    rw [B193_37, cn_nt (z := (k : Int)) rfl (by omega), if_pos (by omega)]
    obtain ⟨Z2, f1, f2, f3⟩ := ih (k + 1) Z1 p3 p4 p5 p6 (by omega) (hM.congr (fun g i a b => e3 _ _ _ (by omega)) (e3 _ _ _ (by omega))) e2
    exact ⟨Z2, e1.trans f1, f2, fun g m i hg => (f3 g m i hg).trans (e3 g m i hg)⟩
theorem m_mil_init {v : Nat} {T : PT} {d : Nat} {a1 : Int} (hT : TOK T) (hd : 1 ≤ d) (t : Nat) (o3 o4 o5 o6 : Option XV) : ∀ (n k : Nat) (Z : XZ), k + n = 7 → MT Z v T → (∀ c, c < k → Z 95 0 c = (q_d0 T c : Int)) → ∃ Z' : XZ, x_EX d 193 2 [some (.inr (.inr (some (56, 0)))), some (.inl a1), some (.inl ((k : Int))), o3, o4, o5, o6] [] (x_S Z t) = x_EX d 193 37 [some (.inr (.inr (some (56, 0)))), some (.inl a1), some (.inl 0), o3, o4, o5, o6] [] (x_S Z' t) ∧ MD Z' (q_d0 T) ∧ ∀ g m i, g ≠ 95 → Z' g m i = Z g m i := by
  have t0 : T 0 0 ≤ 7 := hT.1
  intro n
  induction n with
  | zero =>
    intro k Z hk hM hD
    obtain rfl : k = 7 := by omega
    rw [B193_2, if_neg (by decide)]
    exact ⟨Z, rfl, hD, fun _ _ _ _ => rfl⟩
  | succ n ih =>
    intro k Z hk hM hD
    have hstep : x_EX d 193 2 [some (.inr (.inr (some (56, 0)))), some (.inl a1), some (.inl ((k : Int))), o3, o4, o5, o6] [] (x_S Z t) = x_EX d 193 2 [some (.inr (.inr (some (56, 0)))), some (.inl a1), some (.inl (((k + 1 : Nat) : Int))), o3, o4, o5, o6] [] (x_S (x_u Z 95 0 k (q_d0 T k : Int)) t) := by
      rw [B193_2, cn_nt (z := (k : Int)) rfl (by omega), if_pos (by omega), m_house hM hT hd t, Option.bind_some, B193_18, cn_nt (z := (k : Int)) rfl (by omega), Int.toNat_natCast]
      unfold q_ho q_d0
      by_cases h0 : T 0 0 = 0
      · rw [if_pos h0, cn_id (z := -2) (by decide) (by decide), if_neg (by omega), if_pos (by omega), if_neg (by omega)]; rfl
      · have h10 := hT.2.2.2.2.2.2.1 (by omega)
        rw [if_neg h0, cn_nt (z := (T 10 0 : Int)) rfl (by omega)]
        by_cases hk0 : k = T 10 0
        · rw [if_pos (by omega), if_pos (by omega), if_pos ⟨hk0, h0⟩]; rfl
        · rw [if_neg (by omega), if_pos (by omega), if_neg (fun e => hk0 e.1)]; rfl
    obtain ⟨Z2, f1, f2, f3⟩ := ih (k + 1) (x_u Z 95 0 k (q_d0 T k : Int)) (by omega) (hM.congr (fun g i a b => x_u_ne (by omega)) (x_u_ne (by omega))) (fun c hc => by
      by_cases hck : c = k
      · rw [hck, x_u_eq]
      · rw [x_u_ne (by omega)]; exact hD c (by omega))
    exact ⟨Z2, hstep.trans f1, f2, fun g m i hg => by rw [f3 g m i hg, x_u_ne (by omega)]⟩
theorem m_miles {Z : XZ} {v : Nat} {T : PT} {d wo : Nat} {a1 : Int} (hM : MT Z v T) (hT : TOK T) (hd : 2 ≤ d) (t : Nat) (hwo : ∀ l : Nat, l < T 1 0 → (cn a1 = (l : Int) ↔ l = wo)) : ∃ Z' : XZ, x_CALL d 193 [.inr (.inr (some (56, 0))), .inl a1] (x_S Z t) = some (0, x_S Z' t) ∧ MD Z' (q_ds T wo) ∧ ∀ g m i, g ≠ 95 → Z' g m i = Z g m i := by
  rw [C193 _ _ _ _ (by omega)]
  obtain ⟨Z1, e1, e2, e3⟩ := m_mil_init (d := d - 1) (a1 := a1) hT (by omega) t none none none none 7 0 Z (by omega) hM (fun c hc => by omega)
  obtain ⟨Z2, f1, f2, f3⟩ := m_mil_rounds (d := d - 1) (a1 := a1) hT (q_d0_le T) t hwo 7 0 Z1 none none none none (by omega) (hM.congr (fun g i a b => e3 _ _ _ (by omega)) (e3 _ _ _ (by omega))) e2
  exact ⟨Z2, e1.trans f1, f2, fun g m i hg => (f3 g m i hg).trans (e3 g m i hg)⟩
