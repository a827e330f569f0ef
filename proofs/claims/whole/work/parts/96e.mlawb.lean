/-! laws: the model's last branch -/
theorem m_lawb {K P V Nm : Nat → Int} {t d v k first : Nat} (hB : KB K V) (hd : 6 ≤ d) (hv : v < 2) (hk4 : k < 4) : ∀ (Y : XZ) (j b h : Nat) (cl : CL) (a3 : Int), TKm Y K P V Nm → MQr Y K P h j → (h = 0 → Y 56 0 12 = 0 ∧ MC Y (420 * v) cl ∧ cl.length ≤ j ∧ 4 * (b - 130 * v) + 2 ≤ j) → Y 56 0 40 = (b : Int) → 130 * v ≤ b → b < 130 * v + 120 → Y 56 0 19 = (v : Int) → ∃ Y' : XZ, (if 0 ≤ cn (Y 56 0 40) ∧ cn (Y 56 0 40) < 260 then ((x_CALL d 162 [.inr (.inr (some (56, 0)))] (x_S (x_u Y 83 0 ((cn (Y 56 0 40)).toNat) 0) t)).bind fun q => x_EX d 161 143 [some (.inr (.inr (some (56, 0)))), some (.inl ((k : Int))), some (.inl ((first : Int))), some (.inl a3)] [] q.2) else none) = some (0, x_S Y' t) ∧ KLm v Y Y' ∧ MQr Y' K P (q_sk K 59 (q_xe K V (h, j))).1 (q_sk K 59 (q_xe K V (h, j))).2 ∧ ((q_sk K 59 (q_xe K V (h, j))).1 = 0 → ∃ (b' : Nat) (c : CL), Y' 56 0 12 = 0 ∧ MC Y' (420 * v) (cl ++ c) ∧ (cl ++ c).length ≤ (q_sk K 59 (q_xe K V (h, j))).2 ∧ Y' 56 0 40 = (b' : Int) ∧ b < b' ∧ 4 * (b' - 130 * v) ≤ (q_sk K 59 (q_xe K V (h, j))).2 ∧ (∀ g i, 83 ≤ g → g ≤ 87 → i < b → Y' g 0 i = Y g 0 i) ∧ MLw Y' v b b' [] (e_T K V j).2.2 ∧ Y' 81 0 (4 * v + k) = (first : Int) ∧ Y' 82 0 (4 * v + k) = (b' : Int) ∧ (∀ i, b ≤ i → i < b' → Y' 87 0 i ≤ ((420 * v + (cl ++ c).length : Nat) : Int)) ∧ ∀ g i, 81 ≤ g → g ≤ 82 → i ≠ 4 * v + k → Y' g 0 i = Y g 0 i) := by
  intro Y j b h cl a3 hT hQ hs hb hb1 hb2 h19
  have bb : 0 ≤ (b : Int) ∧ (b : Int) < 260 := by omega
  have k1 : KLm v Y (x_u Y 83 0 b 0) := fun g m i a c e => by
    by_cases hm : g = 83 ∧ m = 0 ∧ i = b
    · exact absurd (show mlh v g i by unfold mlh; omega) c
    · exact x_u_ne hm
  have hQ1 : MQr (x_u Y 83 0 b 0) K P (h, j).1 (h, j).2 := hQ.congr (fun i hi => x_u_ne (by omega))
  obtain ⟨Y1, e1, e2, e3, e4, e5, e6⟩ := m_trm (t := t) (d := d) (b := b) (cl := cl) hB hv (k1.tk hT) hQ1 (fun h0 => ⟨by rw [x_u_ne (by omega)]; exact (hs h0).1, (hs h0).2.1.kx (x_u_ne (by omega)) (fun i => ⟨x_u_ne (by omega), x_u_ne (by omega)⟩), (hs h0).2.2.1⟩) (by rw [x_u_ne (by omega)]; exact hb) hb1 (by omega) (by omega)
  have hT1 := e2.tk (k1.tk hT)
  obtain ⟨Y2, f1, f2, f3⟩ := m_must1 (d := d) hB hT1 e3 (by omega) t 59 4 kd59 tm59 (by omega)
  have k2 : KLm v Y Y2 := k1.trans (e2.trans f3.kl)
  have f2 : MQr Y2 K P (q_sk K 59 (q_xe K V (h, j))).1 (q_sk K 59 (q_xe K V (h, j))).2 := f2
  have h13 := f2.1
  have h13b := f2.2.1
  rw [hb, cn_nt (z := (b : Int)) rfl (by omega), if_pos bb, Int.toNat_natCast, e1, Option.bind_some, B161_143, f1, Option.bind_some, B161_148, h13, cn_nt (z := ((q_sk K 59 (q_xe K V (h, j))).1 : Int)) rfl (by omega)]
  by_cases h0 : (q_sk K 59 (q_xe K V (h, j))).1 = 0
  · obtain ⟨y1, y2, y3, y4⟩ := q_sk_y h0
    obtain ⟨z1, z2, z3⟩ := q_xe_y y1
    obtain ⟨s1, s2, s3, s4⟩ := hs z1
    have hj4 : j ≤ 400 := by have := hQ.2.2.1 z1; omega
    obtain ⟨w1, w2, w3, w4, w5⟩ := e_T_G hB hj4 z2
    obtain ⟨m1, m2, m3, m4⟩ := e6 y1
    have i19 : Y2 56 0 19 = (v : Int) := by rw [k2 _ _ _ (by omega) (by unfold mlh; omega) (by omega)]; exact h19
    have i40 : Y2 56 0 40 = ((b + 1 : Nat) : Int) := by rw [f3 _ _ _ (by omega)]; exact e4
    have z3' : (q_xe K V (h, j)).2 = (e_T K V j).2.1 := z3
    rw [if_neg (by omega), i19, cn_nt (z := 4 * (v : Int) + (k : Int)) (n := 4 * v + k) (by omega) (by omega), if_pos (by omega), if_pos (by omega), i40, Int.toNat_natCast]
    refine ⟨_, rfl, ?_, f2.congr (fun i hi => by rw [x_u_ne (by omega), x_u_ne (by omega)]), fun _ => ⟨b + 1, (e_T K V j).2.2, ?_, ?_, ?_, ?_, by omega, ?_, ?_, ?_, ?_, ?_, ?_, ?_⟩⟩
    · refine k2.trans (fun g m i a c e => ?_)
      by_cases hm : (g = 82 ∨ g = 81) ∧ m = 0 ∧ i = 4 * v + k
      · exact absurd (show mlh v g i by unfold mlh; omega) c
      · rw [x_u_ne (by omega), x_u_ne (by omega)]
    · rw [x_u_ne (by omega), x_u_ne (by omega), f3 _ _ _ (by omega)]; exact m1
    · exact m2.kx (by rw [x_u_ne (by omega), x_u_ne (by omega), f3 _ _ _ (by omega)]) (fun i => ⟨by rw [x_u_ne (by omega), x_u_ne (by omega), f3 _ _ _ (by omega)], by rw [x_u_ne (by omega), x_u_ne (by omega), f3 _ _ _ (by omega)]⟩)
    · rw [List.length_append, y4, z3']; omega
    · rw [x_u_ne (by omega), x_u_ne (by omega)]; exact i40
    · rw [y4, z3']; omega
    · intro g i a c e
      rw [x_u_ne (by omega), x_u_ne (by omega), f3 _ _ _ (by omega), e5 g i (by omega) c (by omega), x_u_ne (by omega)]
    · have mm : MC Y1 (420 * v) (cl ++ ((e_T K V j).2.2 ++ [])) := by rw [List.append_nil]; exact m2
      have ma := mm.ma
      refine ⟨rfl, hb1, by omega, ?_, 420 * v + cl.length, by omega, by omega, ?_, ?_, ?_⟩
      · rw [x_u_ne (by omega), x_u_ne (by omega), f3 _ _ _ (by omega), e5 83 b (by omega) (by omega) (by omega), x_u_eq]
      · rw [x_u_ne (by omega), x_u_ne (by omega), f3 _ _ _ (by omega)]; exact m3
      · rw [x_u_ne (by omega), x_u_ne (by omega), f3 _ _ _ (by omega), m4, List.length_append]
        show ((420 * v + (cl.length + (e_T K V j).2.2.length) : Nat) : Int) = _
        omega
      · exact ma.congr (fun x _ _ => ⟨by rw [x_u_ne (by omega), x_u_ne (by omega), f3 _ _ _ (by omega)], by rw [x_u_ne (by omega), x_u_ne (by omega), f3 _ _ _ (by omega)]⟩)
    · rw [x_u_ne (by omega), x_u_eq]
    · rw [x_u_eq]
    · intro i hi hi'
      obtain rfl : i = b := by omega
      rw [x_u_ne (by omega), x_u_ne (by omega), f3 _ _ _ (by omega), m4]; exact Int.le_refl _
    · intro g i a c e
      rw [x_u_ne (by omega), x_u_ne (by omega), f3 _ _ _ (by omega), e5 g i a (by omega) (by omega), x_u_ne (by omega)]
  · rw [if_pos (by omega)]
    exact ⟨Y2, rfl, k2, f2, fun h => absurd h h0⟩
