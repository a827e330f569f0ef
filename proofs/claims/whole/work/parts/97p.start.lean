/-! where reading begins -/
theorem c_start {Z : XZ} {W : Nat → Int} {n t d : Nat} (hX : TX Z 1 W n) (hd : 12 ≤ d) : ∃ Z0 : XZ, x_CALL d 20 [.inr (.inr (some (2, 0))), .inr (.inr (some (1, 0))), .inl ((n : Int))] (x_S Z t) = x_EX (d - 1) 20 43 [some (.inr (.inr (some (2, 0)))), some (.inr (.inr (some (1, 0)))), some (.inl ((n : Int))), some (.inl 0)] [] (x_S Z0 t) ∧ JC Z0 (kK W n) (kP W n) (kV W n) t 0 0 0 (0, -1) T00 (fun _ => 0) (fun _ => 0) (fun _ => none) ∧ ∀ g m i, ¬ (4 ≤ g ∧ g ≤ 6) → g ≠ 2 → ¬ (m = 1 - t ∧ 7 ≤ g ∧ g ≤ 18) → Z0 g m i = Z g m i := by
  obtain ⟨Z1, e1, e2, e3⟩ := c_scan (d := d - 1) hX (by omega) t
  refine ⟨x_u (x_u (x_u (x_u (x_u (x_fil (x_fil (x_u (x_u (x_u (x_u (x_u (x_u (x_u (x_u Z1 7 (1 - t) 0 0) 7 (1 - t) 1 0) 7 (1 - t) 2 0) 7 (1 - t) 10 0) 7 (1 - t) 11 1) 7 (1 - t) 12 0) 7 (1 - t) 13 0) 15 (1 - t) 1 0) 16 (1 - t) 4 (-1)) 14 (1 - t) 7 0) 2 0 3 0) 2 0 9 0) 2 0 4 1) 2 0 5 0) 2 0 6 (-1), ?_, ?_, ?_⟩
  · rw [C20 _ _ _ _ (by omega), e1, Option.bind_some, B20_9, C52 _ _ _ _ (by omega), C6 _ _ _ _ (by omega), c_fill16 (by omega) t, Option.bind_some, B6_13, Option.bind_some, B52_42, c_fill14 (by omega) t, Option.bind_some, B52_50, Option.bind_some, B20_16]
  · have hT := k_TKc e2
    refine ⟨hT.congr (fun g i a b => ?_), ⟨by omega, fun i a b => by omega, ?_, ?_, by omega⟩, Nat.le_refl _, ?_, ⟨?_, ?_, by show 0 ≤ 5; omega⟩, ?_, ⟨?_, ?_, ?_⟩, ⟨fun i h => absurd h (by show ¬ i < 0; omega), fun i h => absurd h (by show ¬ i < 0; omega)⟩, fun k hk => ⟨fun _ => ?_, fun bs fin e => absurd e (by simp)⟩, fun _ _ => ⟨fun k hk => ?_, fun c h => absurd h (by show ¬ c < 0; omega), fun c h => absurd h (by show ¬ c < 0; omega), fun c h => absurd h (by show ¬ c < 0; omega), fun c hc => ?_⟩⟩
    · rw [x_u_ne (by omega), x_u_ne (by omega), x_u_ne (by omega), x_u_ne (by omega), x_u_ne (by omega), x_fil_ne (by omega), x_fil_ne (by omega), x_u_ne (by omega), x_u_ne (by omega), x_u_ne (by omega), x_u_ne (by omega), x_u_ne (by omega), x_u_ne (by omega), x_u_ne (by omega), x_u_ne (by omega)]
    · simp [x_u]
    · simp [x_u, x_fil]
    · simp [x_u]
    · simp [x_u]
    · simp [x_u]
    · simp [x_u]
    · simp [x_u, x_fil, T00]
    · simp [x_u, x_fil, T00]
    · simp [x_u, x_fil, T00]
    · simp [x_u, x_fil, hk]
    · have hk' : k = 0 ∨ k = 1 ∨ k = 2 ∨ k = 10 ∨ k = 11 ∨ k = 12 ∨ k = 13 := by omega
      rcases hk' with rfl | rfl | rfl | rfl | rfl | rfl | rfl <;> simp [x_u, x_fil, T00]
    · simp [x_u, x_fil, hc, T00]
  · intro g m i a b c
    rw [x_u_ne (by omega), x_u_ne (by omega), x_u_ne (by omega), x_u_ne (by omega), x_u_ne (by omega), x_fil_ne (by omega), x_fil_ne (by omega), x_u_ne (by omega), x_u_ne (by omega), x_u_ne (by omega), x_u_ne (by omega), x_u_ne (by omega), x_u_ne (by omega), x_u_ne (by omega), x_u_ne (by omega), e3 g m i a]
theorem m_plain {Y : XZ} {v d : Nat} (hv : v < 2) (hd : 1 ≤ d) (t : Nat) : ∃ Y' : XZ, x_CALL d 149 [.inr (.inr (some (56, 0))), .inl ((v : Int))] (x_S Y t) = some (0, x_S Y' t) ∧ (Y' 66 0 v = 0 ∧ Y' 69 0 v = 0 ∧ Y' 73 0 v = 0 ∧ Y' 74 0 v = 0 ∧ Y' 77 0 v = 0 ∧ Y' 78 0 v = 1 ∧ Y' 79 0 v = 0 ∧ Y' 80 0 v = 0) ∧ (∀ c, c < 7 → Y' 68 0 (7 * v + c) = -1) ∧ (∀ k, k < 4 → Y' 81 0 (4 * v + k) = 0 ∧ Y' 82 0 (4 * v + k) = 0) ∧ ∀ g m i, ¬ (66 ≤ g ∧ mal v g i) → Y' g m i = Y g m i := by
  have bv : 0 ≤ (v : Int) ∧ (v : Int) < 2 := by omega
  have l84 : ∀ (r k : Nat) (Y1 : XZ), k + r = 4 → ∃ Y' : XZ, x_EX (d - 1) 149 84 [some (.inr (.inr (some (56, 0)))), some (.inl ((v : Int))), some (.inl ((k : Int)))] [] (x_S Y1 t) = some (0, x_S Y' t) ∧ (∀ x, k ≤ x → x < 4 → Y' 81 0 (4 * v + x) = 0 ∧ Y' 82 0 (4 * v + x) = 0) ∧ ∀ g m i, ¬ ((g = 81 ∨ g = 82) ∧ 4 * v + k ≤ i ∧ i < 4 * v + 4) → Y' g m i = Y1 g m i := by
    intro r
    induction r with
    | zero =>
      intro k Y1 hk
      obtain rfl : k = 4 := by omega
      rw [B149_84, if_neg (by decide)]
      exact ⟨Y1, rfl, fun x a b => by omega, fun _ _ _ _ => rfl⟩
    | succ r ih =>
      intro k Y1 hk
      rw [B149_84, cn_nt (z := (k : Int)) rfl (by omega), if_pos (by omega), cn_nt (z := 4 * (v : Int) + (k : Int)) (n := 4 * v + k) (by omega) (by omega), if_pos (by omega), if_pos (by omega), Int.toNat_natCast, show (k : Int) + 1 = ((k + 1 : Nat) : Int) by omega]
      obtain ⟨Y', e1, e2, e3⟩ := ih (k + 1) (x_u (x_u Y1 81 0 (4 * v + k) 0) 82 0 (4 * v + k) 0) (by omega)
      refine ⟨Y', e1, fun x a b => ?_, fun g m i a => by rw [e3 g m i (by omega), x_u_ne (by omega), x_u_ne (by omega)]⟩
      by_cases hx : x = k
      · rw [hx, e3 _ _ _ (by omega), e3 _ _ _ (by omega), x_u_ne (by omega), x_u_eq, x_u_eq]; exact ⟨rfl, rfl⟩
      · exact e2 x (by omega) b
  have l58 : ∀ (r k : Nat) (Y1 : XZ), k + r = 7 → ∃ Y' : XZ, x_EX (d - 1) 149 58 [some (.inr (.inr (some (56, 0)))), some (.inl ((v : Int))), some (.inl ((k : Int)))] [] (x_S Y1 t) = x_EX (d - 1) 149 84 [some (.inr (.inr (some (56, 0)))), some (.inl ((v : Int))), some (.inl 0)] [] (x_S Y' t) ∧ (∀ x, k ≤ x → x < 7 → Y' 68 0 (7 * v + x) = -1) ∧ ∀ g m i, ¬ (g = 68 ∧ 7 * v + k ≤ i ∧ i < 7 * v + 7) → Y' g m i = Y1 g m i := by
    intro r
    induction r with
    | zero =>
      intro k Y1 hk
      obtain rfl : k = 7 := by omega
      rw [B149_58, if_neg (by decide)]
      exact ⟨Y1, rfl, fun x a b => by omega, fun _ _ _ _ => rfl⟩
    | succ r ih =>
      intro k Y1 hk
      rw [B149_58, cn_nt (z := (k : Int)) rfl (by omega), if_pos (by omega), cn_nt (z := 7 * (v : Int) + (k : Int)) (n := 7 * v + k) (by omega) (by omega), if_pos (by omega), Int.toNat_natCast, show (k : Int) + 1 = ((k + 1 : Nat) : Int) by omega]
      obtain ⟨Y', e1, e2, e3⟩ := ih (k + 1) (x_u Y1 68 0 (7 * v + k) (-1)) (by omega)
      refine ⟨Y', e1, fun x a b => ?_, fun g m i a => by rw [e3 g m i (by omega), x_u_ne (by omega)]⟩
      by_cases hx : x = k
      · rw [hx, e3 _ _ _ (by omega), x_u_eq]
      · exact e2 x (by omega) b
  rw [C149 _ _ _ _ (by omega), cn_nt (z := (v : Int)) rfl (by omega), if_pos bv, if_pos bv, if_pos bv, if_pos bv, if_pos bv, if_pos bv, if_pos bv, if_pos bv, Int.toNat_natCast]
  obtain ⟨Y2, e1, e2, e3⟩ := l58 7 0 (x_u (x_u (x_u (x_u (x_u (x_u (x_u (x_u Y 66 0 v 0) 69 0 v 0) 73 0 v 0) 74 0 v 0) 77 0 v 0) 78 0 v 1) 79 0 v 0) 80 0 v 0) (by omega)
  obtain ⟨Y3, f1, f2, f3⟩ := l84 4 0 Y2 (by omega)
  refine ⟨Y3, e1.trans f1, ⟨?_, ?_, ?_, ?_, ?_, ?_, ?_, ?_⟩, fun c hc => ?_, fun k hk => f2 k (by omega) hk, fun g m i a => ?_⟩
  · rw [f3 _ _ _ (by omega), e3 _ _ _ (by omega)]; simp [x_u]
  · rw [f3 _ _ _ (by omega), e3 _ _ _ (by omega)]; simp [x_u]
  · rw [f3 _ _ _ (by omega), e3 _ _ _ (by omega)]; simp [x_u]
  · rw [f3 _ _ _ (by omega), e3 _ _ _ (by omega)]; simp [x_u]
  · rw [f3 _ _ _ (by omega), e3 _ _ _ (by omega)]; simp [x_u]
  · rw [f3 _ _ _ (by omega), e3 _ _ _ (by omega)]; simp [x_u]
  · rw [f3 _ _ _ (by omega), e3 _ _ _ (by omega)]; simp [x_u]
  · rw [f3 _ _ _ (by omega), e3 _ _ _ (by omega)]; simp [x_u]
  · rw [f3 _ _ _ (by omega)]; exact e2 c (by omega) hc
  · unfold mal mlh at a
    rw [f3 _ _ _ (by omega), e3 _ _ _ (by omega), x_u_ne (by omega), x_u_ne (by omega), x_u_ne (by omega), x_u_ne (by omega), x_u_ne (by omega), x_u_ne (by omega), x_u_ne (by omega), x_u_ne (by omega)]
theorem m_rstart {Y : XZ} {W : Nat → Int} {n t d v : Nat} (hv : v < 2) (hn : n ≤ 2000) (hW : ∀ i, i < n → Y 57 0 i = W i ∧ -128 ≤ W i ∧ W i < 128) (h2 : Y 56 0 2 = (n : Int)) (hK : ∀ k, k < 24 → Y 63 0 k = x_Z0 63 0 k) (h18 : Y 56 0 18 = ((1 - v : Nat) : Int)) (hd : 6 ≤ d) : ∃ Y0 : XZ, x_CALL d 150 [.inr (.inr (some (56, 0)))] (x_S Y t) = x_EX (d - 1) 150 112 [some (.inr (.inr (some (56, 0)))), some (.inl ((n : Int)))] [] (x_S Y0 t) ∧ JM Y0 (kK W n) (kP W n) (kV W n) (kN W n) v 0 (130 * v) [] 0 (0, -1) T00 (fun _ => 0) (fun _ => 0) (fun _ => none) ∧ Y0 56 0 2 = 0 ∧ ∀ g m i, ¬ (58 ≤ g ∧ g ≤ 62) → ¬ (g = 56 ∧ (i = 2 ∨ i = 4 ∨ i = 10 ∨ i = 19)) → ¬ mal v g i → Y0 g m i = Y g m i := by
  have copy : ∀ (r k : Nat) (Y1 : XZ), k + r = n → Y1 56 0 4 = (n : Int) → (∀ i, i < n → Y1 57 0 i = W i) → ∃ Y' : XZ, x_EX (d - 1) 150 10 [some (.inr (.inr (some (56, 0)))), some (.inl ((k : Int)))] [] (x_S Y1 t) = ((x_CALL (d - 1) 142 [.inr (.inr (some (56, 0)))] (x_S (x_u Y' 56 0 2 0) t)).bind fun q => x_EX (d - 1) 150 45 [some (.inr (.inr (some (56, 0)))), some (.inl ((n : Int)))] [] q.2) ∧ (∀ i, k ≤ i → i < n → Y' 58 0 i = W i) ∧ ∀ g m i, ¬ (g = 58 ∧ k ≤ i) → Y' g m i = Y1 g m i := by
    intro r
    induction r with
    | zero =>
      intro k Y1 hk h4 h57
      obtain rfl : k = n := by omega
      rw [B150_10, h4, if_neg (Int.lt_irrefl _)]
      exact ⟨Y1, rfl, fun i a b => by omega, fun _ _ _ _ => rfl⟩
    | succ r ih =>
      intro k Y1 hk h4 h57
      have hw := hW k (by omega)
      rw [B150_10, h4, cn_nt (z := (k : Int)) rfl (by omega), cn_nt (z := (n : Int)) rfl (by omega), if_pos (by omega), if_pos (by omega), if_pos (by omega), Int.toNat_natCast, h57 k (by omega), show x_i2b (W k) = W k by unfold x_i2b; omega, show (k : Int) + 1 = ((k + 1 : Nat) : Int) by omega]
      obtain ⟨Y', e1, e2, e3⟩ := ih (k + 1) (x_u Y1 58 0 k (W k)) (by omega) (by rw [x_u_ne (by omega)]; exact h4) (fun i hi => by rw [x_u_ne (by omega)]; exact h57 i hi)
      refine ⟨Y', e1, fun i a b => ?_, fun g m i a => by rw [e3 g m i (by omega), x_u_ne (by omega)]⟩
      by_cases hi : i = k
      · rw [hi, e3 _ _ _ (by omega), x_u_eq]
      · exact e2 i (by omega) b
  obtain ⟨Ya, e1, e2, e3⟩ := copy n 0 (x_u Y 56 0 4 (Y 56 0 2)) (by omega) (by rw [x_u_eq]; exact h2) (fun i hi => by rw [x_u_ne (by omega)]; exact (hW i hi).1)
  have fa : ∀ g m i, g ≠ 58 → ¬ (g = 56 ∧ i = 4) → Ya g m i = Y g m i := fun g m i a b => by rw [e3 g m i (by omega), x_u_ne (by omega)]
  have hXb : TX (x_u Ya 56 0 2 0) 58 W n := ⟨hn, fun i hi => ⟨by rw [x_u_ne (by omega)]; exact e2 i (by omega) hi, (hW i hi).2⟩⟩
  have h4b : (x_u Ya 56 0 2 0) 56 0 4 = (n : Int) := by rw [x_u_ne (by omega), e3 _ _ _ (by omega), x_u_eq]; exact h2
  obtain ⟨Yc, f1, f2, f3⟩ := m_cut (d := d - 1) hXb h4b (fun k hk => by rw [x_u_ne (by omega), fa _ _ _ (by omega) (by omega)]; exact hK k hk) (by omega) t
  have c18 : Yc 56 0 18 = ((1 - v : Nat) : Int) := by rw [f3 _ _ _ (by omega) (by omega), x_u_ne (by omega), fa _ _ _ (by omega) (by omega)]; exact h18
  have hv1 : (1 : Int) - ((1 - v : Nat) : Int) = (v : Int) := by omega
  obtain ⟨Yd, g1, g2, g3, g4, g5⟩ := m_plain (Y := x_u (x_u (x_u (x_u (x_u (x_u Yc 56 0 11 0) 56 0 12 0) 56 0 13 0) 56 0 15 0) 56 0 19 (v : Int)) 56 0 20 0) (d := d - 1) hv (by omega) t
  have gk : ∀ g m i, g < 66 → Yd g m i = (x_u (x_u (x_u (x_u (x_u (x_u Yc 56 0 11 0) 56 0 12 0) 56 0 13 0) 56 0 15 0) 56 0 19 (v : Int)) 56 0 20 0) g m i := fun g m i h => g5 g m i (by omega)
  have d19 : Yd 56 0 19 = (v : Int) := by rw [gk _ _ _ (by omega), x_u_ne (by omega), x_u_eq]
  refine ⟨x_u (x_u Yd 56 0 40 (130 * (v : Int))) 56 0 46 (420 * (v : Int)), ?_, ?_, ?_, ?_⟩
  · rw [C150 _ _ _ (by omega), show x_EX (d - 1) 150 10 [some (.inr (.inr (some (56, 0)))), some (.inl 0)] [] (x_S (x_u Y 56 0 4 (Y 56 0 2)) t) = _ from e1, f1, Option.bind_some, B150_45, c18, hv1, g1, Option.bind_some, B150_88, d19]
  · have hT := k_TKm f2
    refine ⟨hT.congr (fun g i a b => ?_), ⟨?_, by omega, fun _ => ⟨?_, by omega, fun i a b => by omega⟩, fun h => absurd rfl h⟩, ?_, ⟨?_, fun i h => absurd h (by simp)⟩, by simp, ?_, Nat.le_refl _, by omega, ?_, ⟨?_, fun _ h => absurd rfl h, by show 0 ≤ 5; omega⟩, ⟨?_, ?_, ?_, ?_⟩, ⟨?_, fun k h => absurd h (by show ¬ k < 0; omega), fun k h => absurd h (by show ¬ k < 0; omega), fun k h => absurd h (by show ¬ k < 0; omega), fun k k' _ h => absurd h (by show ¬ k' < 0; omega)⟩, fun k hk => ⟨fun _ => ?_, fun bs fin e => absurd e (by simp)⟩, fun _ _ => ⟨⟨?_, ?_, ?_, ?_⟩, fun c h => absurd h (by show ¬ c < 0; omega), fun c h => absurd h (by show ¬ c < 0; omega), fun c h => absurd h (by show ¬ c < 0; omega), fun c hc => ?_⟩⟩
    · rw [x_u_ne (by omega), x_u_ne (by omega), gk _ _ _ (by omega), x_u_ne (by omega), x_u_ne (by omega), x_u_ne (by omega), x_u_ne (by omega), x_u_ne (by omega), x_u_ne (by omega)]
    · rw [x_u_ne (by omega), x_u_ne (by omega), gk _ _ _ (by omega)]; simp [x_u]
    · rw [x_u_ne (by omega), x_u_ne (by omega), gk _ _ _ (by omega)]; simp [x_u]
    · rw [x_u_ne (by omega), x_u_ne (by omega), gk _ _ _ (by omega)]; simp [x_u]
    · rw [x_u_eq, List.length_nil]; omega
    · rw [x_u_ne (by omega), x_u_eq]; omega
    · rw [x_u_ne (by omega), x_u_ne (by omega)]; exact d19
    · rw [x_u_ne (by omega), x_u_ne (by omega), gk _ _ _ (by omega)]; simp [x_u]
    · rw [x_u_ne (by omega), x_u_ne (by omega), g2.1]; rfl
    · rw [x_u_ne (by omega), x_u_ne (by omega), g2.2.1]; rfl
    · rw [x_u_ne (by omega), x_u_ne (by omega), g2.2.2.2.1]; rfl
    · rw [x_u_ne (by omega), x_u_ne (by omega), g2.2.2.1]; rfl
    · rw [x_u_ne (by omega), x_u_ne (by omega), gk _ _ _ (by omega), x_u_eq]; rfl
    · rw [x_u_ne (by omega), x_u_ne (by omega), x_u_ne (by omega), x_u_ne (by omega)]; exact g4 k hk
    · rw [x_u_ne (by omega), x_u_ne (by omega), g2.2.2.2.2.1]; rfl
    · rw [x_u_ne (by omega), x_u_ne (by omega), g2.2.2.2.2.2.1]; rfl
    · rw [x_u_ne (by omega), x_u_ne (by omega), g2.2.2.2.2.2.2.1]; rfl
    · rw [x_u_ne (by omega), x_u_ne (by omega), g2.2.2.2.2.2.2.2]; rfl
    · rw [x_u_ne (by omega), x_u_ne (by omega), g3 c hc]; rfl
  · rw [x_u_ne (by omega), x_u_ne (by omega), gk _ _ _ (by omega), x_u_ne (by omega), x_u_ne (by omega), x_u_ne (by omega), x_u_ne (by omega), x_u_ne (by omega), x_u_ne (by omega), f3 _ _ _ (by omega) (by omega), x_u_eq]
  · intro g m i a b c
    have c1 : ¬ (g = 56 ∧ ((11 ≤ i ∧ i ≤ 16) ∨ i = 20 ∨ i = 40 ∨ i = 46 ∨ i = 50)) := fun e => c (.inl e)
    rw [x_u_ne (by omega), x_u_ne (by omega), g5 _ _ _ (fun e => c e.2), x_u_ne (by omega), x_u_ne (by omega), x_u_ne (by omega), x_u_ne (by omega), x_u_ne (by omega), x_u_ne (by omega), f3 _ _ _ (by omega) (by omega), x_u_ne (by omega), fa _ _ _ (by omega) (by omega)]
