/-! laws: the model reads a term of one -/
theorem m_trm {Y : XZ} {K P V Nm : Nat → Int} {t v d b : Nat} {s : Nat × Nat} {cl : CL} (hB : KB K V) (hv : v < 2) (hT : TKm Y K P V Nm) (hQ : MQr Y K P s.1 s.2) (hs : s.1 = 0 → Y 56 0 12 = 0 ∧ MC Y (420 * v) cl ∧ cl.length ≤ s.2) (hb : Y 56 0 40 = (b : Int)) (hb1 : 130 * v ≤ b) (hb2 : b < 130 * v + 130) (hd : 5 ≤ d) : ∃ Y' : XZ, x_CALL d 162 [.inr (.inr (some (56, 0)))] (x_S Y t) = some (0, x_S Y' t) ∧ KLm v Y Y' ∧ MQr Y' K P (q_xe K V s).1 (q_xe K V s).2 ∧ Y' 56 0 40 = ((b + 1 : Nat) : Int) ∧ (∀ g i, 81 ≤ g → g ≤ 87 → (i ≠ b ∨ g < 86) → Y' g 0 i = Y g 0 i) ∧ ((q_xe K V s).1 = 0 → Y' 56 0 12 = 0 ∧ MC Y' (420 * v) (cl ++ (e_T K V s.2).2.2) ∧ Y' 86 0 b = ((420 * v + cl.length : Nat) : Int) ∧ Y' 87 0 b = ((420 * v + (cl ++ (e_T K V s.2).2.2).length : Nat) : Int)) := by
  have bb : 0 ≤ (b : Int) ∧ (b : Int) < 260 := by omega
  have k1 : KLm v Y (x_u Y 86 0 b (Y 56 0 46)) := fun g m i a c e => by
    by_cases hm : g = 86 ∧ m = 0 ∧ i = b
    · exact absurd (show mlh v g i by unfold mlh; omega) c
    · exact x_u_ne hm
  have hQ1 : MQr (x_u Y 86 0 b (Y 56 0 46)) K P s.1 s.2 := hQ.congr (fun i hi => x_u_ne (by omega))
  have hT1 := k1.tk hT
  have h13 := hQ.1
  have h2 := hQ.2.1
  have q40 : ∀ Y1 : XZ, KX (420 * v) (x_u Y 86 0 b (Y 56 0 46)) Y1 → Y1 56 0 40 = (b : Int) := fun Y1 h => by rw [h _ _ _ (by omega) (by omega) (by omega), x_u_ne (by omega)]; exact hb
  have fin : ∀ Y1 : XZ, KX (420 * v) (x_u Y 86 0 b (Y 56 0 46)) Y1 → MQr Y1 K P (q_xe K V s).1 (q_xe K V s).2 → ((q_xe K V s).1 = 0 → Y1 56 0 12 = 0 ∧ MC Y1 (420 * v) (cl ++ (e_T K V s.2).2.2)) → ∃ Y' : XZ, x_EX (d - 1) 162 24 [some (.inr (.inr (some (56, 0))))] [] (x_S Y1 t) = some (0, x_S Y' t) ∧ KLm v Y Y' ∧ MQr Y' K P (q_xe K V s).1 (q_xe K V s).2 ∧ Y' 56 0 40 = ((b + 1 : Nat) : Int) ∧ (∀ g i, 81 ≤ g → g ≤ 87 → (i ≠ b ∨ g < 86) → Y' g 0 i = Y g 0 i) ∧ ((q_xe K V s).1 = 0 → Y' 56 0 12 = 0 ∧ MC Y' (420 * v) (cl ++ (e_T K V s.2).2.2) ∧ Y' 86 0 b = ((420 * v + cl.length : Nat) : Int) ∧ Y' 87 0 b = ((420 * v + (cl ++ (e_T K V s.2).2.2).length : Nat) : Int)) := by
    intro Y1 hk hq hm
    rw [B162_24, q40 Y1 hk, cn_nt (z := (b : Int)) rfl (by omega), if_pos bb, Int.toNat_natCast]
    refine ⟨_, rfl, ?_, hq.congr (fun i hi => by rw [x_u_ne (by omega), x_u_ne (by omega)]), by rw [x_u_eq]; omega, fun g i a c e => ?_, fun h => ?_⟩
    · refine k1.trans (hk.kl.trans (fun g m i a c e => ?_))
      rw [x_u_ne (by omega)]
      by_cases hm' : g = 87 ∧ m = 0 ∧ i = b
      · exact absurd (show mlh v g i by unfold mlh; omega) c
      · exact x_u_ne hm'
    · rw [x_u_ne (by omega), x_u_ne (by omega), hk _ _ _ (by omega) (by omega) (by omega), x_u_ne (by omega)]
    · obtain ⟨m1, m2⟩ := hm h
      have hs0 := (q_xe_y h).1
      obtain ⟨n1, n2, n3⟩ := hs hs0
      refine ⟨by rw [x_u_ne (by omega), x_u_ne (by omega)]; exact m1, m2.kx (by rw [x_u_ne (by omega), x_u_ne (by omega)]) (fun i => ⟨by rw [x_u_ne (by omega), x_u_ne (by omega)], by rw [x_u_ne (by omega), x_u_ne (by omega)]⟩), ?_, ?_⟩
      · rw [x_u_ne (by omega), x_u_ne (by omega), hk _ _ _ (by omega) (by omega) (by omega), x_u_eq]; exact n2.1
      · rw [x_u_ne (by omega), x_u_eq]; exact m2.1
  rw [C162 _ _ _ (by omega), hb, cn_nt (z := (b : Int)) rfl (by omega), if_pos bb, h13, cn_nt (z := (s.1 : Int)) rfl (by omega), Int.toNat_natCast]
  by_cases h0 : s.1 = 0
  · obtain ⟨n1, n2, n3⟩ := hs h0
    obtain ⟨Y1, e1, e2, e3, e4⟩ := m_exprG (t := t) (c0 := 420 * v) (d := d - 1) (cl := cl) hB (by omega) hT1 hQ1 (fun _ => ⟨by rw [x_u_ne (by omega)]; exact n1, n2.kx (x_u_ne (by omega)) (fun i => ⟨x_u_ne (by omega), x_u_ne (by omega)⟩), n3⟩) (by omega)
    rw [if_pos (by omega), e1, Option.bind_some]
    exact fin Y1 e2 e3 e4
  · rw [if_neg (by omega)]
    exact fin _ KX.rfl' (by rw [q_xe_f h0]; exact hQ1) (fun h => by rw [q_xe_f h0] at h; exact absurd h h0)
