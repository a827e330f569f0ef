/-! terms: the model's expressions -/
def MX (Y : XZ) (K P : Nat → Int) (c0 j o : Nat) (ws : List Int) (cl : CL) : Prop := MQr Y K P 0 j ∧ Y 56 0 12 = (o : Int) ∧ WS Y ws ∧ MC Y c0 cl ∧ ws.length + cl.length ≤ j ∧ OW ws
theorem kd40 : KD 40 := by unfold KD; omega
theorem kd41 : KD 41 := by unfold KD; omega
theorem kd42 : KD 42 := by unfold KD; omega
theorem kd43 : KD 43 := by unfold KD; omega
theorem kd45 : KD 45 := by unfold KD; omega
theorem kd47 : KD 47 := by unfold KD; omega
theorem kd259 : KD 259 := by unfold KD; omega
theorem tm40 : t_m 40 = 6 := by simp [t_m]
theorem tm41 : t_m 41 = 7 := by simp [t_m]
theorem tm42 : t_m 42 = 10 := by simp [t_m]
theorem tm43 : t_m 43 = 8 := by simp [t_m]
theorem tm45 : t_m 45 = 9 := by simp [t_m]
theorem tm47 : t_m 47 = 15 := by simp [t_m]
theorem tm259 : t_m 259 = 2 := by simp [t_m]
theorem m_is0 {Y : XZ} {K P V Nm : Nat → Int} {h j d : Nat} (hB : KB K V) (hT : TKm Y K P V Nm) (hQ : MQr Y K P h j) (hd : 1 ≤ d) (t : Nat) (k mk : Int) (hk : KD k) (hmk : t_m k = mk) (hn : ¬ (h = 0 ∧ K j = k)) : x_CALL d 144 [.inr (.inr (some (56, 0))), .inl mk] (x_S Y t) = some (0, x_S Y t) := by
  rw [m_is hB hT hQ hd t k mk hk hmk, if_neg hn]
theorem m_is1 {Y : XZ} {K P V Nm : Nat → Int} {h j d : Nat} (hB : KB K V) (hT : TKm Y K P V Nm) (hQ : MQr Y K P h j) (hd : 1 ≤ d) (t : Nat) (k mk : Int) (hk : KD k) (hmk : t_m k = mk) (hn : h = 0 ∧ K j = k) : x_CALL d 144 [.inr (.inr (some (56, 0))), .inl mk] (x_S Y t) = some (1, x_S Y t) := by
  rw [m_is hB hT hQ hd t k mk hk hmk, if_pos hn]
theorem WS.kf {Y Y' : XZ} {ws : List Int} (h : WS Y ws) (hk : KF Y Y') : WS Y' ws := ⟨by rw [hk _ _ _ (by omega)]; exact h.1, WR.congr h.2 (fun i _ => hk _ _ _ (by omega))⟩
theorem MC.kf {Y Y' : XZ} {c0 : Nat} {cl : CL} (h : MC Y c0 cl) (hk : KF Y Y') : MC Y' c0 cl := ⟨by rw [hk _ _ _ (by omega)]; exact h.1, fun i hi => by rw [hk _ _ _ (by omega), hk _ _ _ (by omega)]; exact h.2 i hi⟩
/-- a unit is wanted, but there is a fault already -/
theorem m_uflt {Y : XZ} {K P V Nm : Nat → Int} {h j d c0 : Nat} (hB : KB K V) (hT : TKm Y K P V Nm) (hQ : MQr Y K P h j) (h0 : h ≠ 0) (hd : 3 ≤ d) (t : Nat) : ∃ Y' : XZ, x_EX d 165 23 [some (.inr (.inr (some (56, 0)))), some (.inl 0), some (.inl 1)] [] (x_S Y t) = some (0, x_S Y' t) ∧ MQr Y' K P h j ∧ KX c0 Y Y' := by
  obtain ⟨q1, q2, q3, q4⟩ := hQ
  have hQ : MQr Y K P h j := ⟨q1, q2, q3, q4⟩
  obtain ⟨Y1, e1, e2, e3⟩ := m_fail (d := d - 1) hT hQ (by omega) t 1 1 rfl (by omega)
  rw [if_neg h0] at e2
  have e21 := e2.1
  refine ⟨Y1, ?_, e2, e3.kx⟩
  rw [B165_23, m_is0 hB hT hQ (by omega) t 40 6 kd40 tm40 (fun e => h0 e.1), Option.bind_some, B165_29, if_pos cn_0, C166 _ _ _ (by omega), m_is0 hB hT hQ (by omega) t 259 2 kd259 tm259 (fun e => h0 e.1), Option.bind_some, B166_5, if_pos cn_0, q1, cn_nt (z := (h : Int)) rfl (by omega), if_neg (by omega), e1, Option.bind_some, B166_93, Option.bind_some, B165_88, e21, cn_nt (z := (h : Int)) rfl (by omega), if_pos (by omega)]
/-- a term's end is wanted, but there is a fault already -/
theorem m_bflt {Y : XZ} {K P V Nm : Nat → Int} {h j d c0 : Nat} {ws : List Int} {cl : CL} (hB : KB K V) (hT : TKm Y K P V Nm) (hQ : MQr Y K P h j) (h0 : h ≠ 0) (hW : WS Y ws) (hM : MC Y c0 cl) (hl : ws.length + cl.length ≤ 420) (h64 : ws.length < 64) (hO : OW ws) (hc : c0 ≤ 420) (hd : 3 ≤ d) (t : Nat) : ∃ Y' : XZ, x_EX d 165 96 [some (.inr (.inr (some (56, 0)))), some (.inl 0), some (.inl 1)] [] (x_S Y t) = some (0, x_S Y' t) ∧ MQr Y' K P h j ∧ KX c0 Y Y' := by
  have hh : ∀ k, ¬ (h = 0 ∧ K j = k) := fun k e => h0 e.1
  rw [B165_96, m_is0 hB hT hQ (by omega) t 41 7 kd41 tm41 (hh _), Option.bind_some, B165_102, if_pos cn_0, m_is0 hB hT hQ (by omega) t 43 8 kd43 tm43 (hh _), Option.bind_some, B165_151, if_pos cn_0, m_is0 hB hT hQ (by omega) t 45 9 kd45 tm45 (hh _), Option.bind_some, B165_160, if_pos cn_0, m_is0 hB hT hQ (by omega) t 42 10 kd42 tm42 (hh _), Option.bind_some, B165_169, if_pos cn_0, m_is0 hB hT hQ (by omega) t 47 15 kd47 tm47 (hh _), Option.bind_some, B165_178, if_pos cn_0, if_pos rfl]
  have tail : ∀ (Y1 : XZ), MQr Y1 K P h j → WS Y1 ws → MC Y1 c0 cl → KX c0 Y Y1 → ∃ Y' : XZ, x_EX d 165 204 [some (.inr (.inr (some (56, 0)))), some (.inl 0), some (.inl 0)] [] (x_S Y1 t) = some (0, x_S Y' t) ∧ MQr Y' K P h j ∧ KX c0 Y Y' := by
    intro Y1 hQ1 hW1 hM1 hk
    obtain ⟨Y2, f1, f2⟩ := m_popA (d := d - 1) hc (by omega) t ws Y1 cl none hW1 hM1 hl h64 hO
    rw [B165_204, C164' _ _ _ _ (by omega), f1, Option.bind_some, B165_209]
    exact ⟨Y2, rfl, hQ1.congr (fun i hi => f2 _ _ _ (by omega) (by omega)), hk.trans f2.kx⟩
  by_cases ho : cn 0 < cn (Y 56 0 12)
  · obtain ⟨Y1, e1, e2, e3⟩ := m_fail (d := d) hT hQ (by omega) t 1 1 rfl (by omega)
    rw [if_neg h0] at e2
    rw [if_pos ho, e1, Option.bind_some]
    exact tail Y1 e2 (hW.kf e3) (hM.kf e3) e3.kx
  · rw [if_neg ho]
    exact tail Y hQ hW hM KX.rfl'
/-- one operand -/
theorem m_leaf {Y : XZ} {K P V Nm : Nat → Int} {j o d c0 : Nat} {ws : List Int} {cl : CL} (hB : KB K V) (hT : TKm Y K P V Nm) (hX : MX Y K P c0 j o ws cl) (hk : ¬ K j = 40) (hc : c0 ≤ 420) (hd : 3 ≤ d) (t : Nat) : ((e_A K V j).1 = 0 → ∃ Y' : XZ, x_EX d 165 23 [some (.inr (.inr (some (56, 0)))), some (.inl 0), some (.inl 1)] [] (x_S Y t) = x_EX d 165 96 [some (.inr (.inr (some (56, 0)))), some (.inl 0), some (.inl 1)] [] (x_S Y' t) ∧ KX c0 Y Y' ∧ MX Y' K P c0 (e_A K V j).2.1 o ws (cl ++ (e_A K V j).2.2)) ∧ ((e_A K V j).1 ≠ 0 → ∃ Y' : XZ, x_EX d 165 23 [some (.inr (.inr (some (56, 0)))), some (.inl 0), some (.inl 1)] [] (x_S Y t) = some (0, x_S Y' t) ∧ KX c0 Y Y' ∧ MQr Y' K P (e_A K V j).1 (e_A K V j).2.1) := by
  obtain ⟨hQ, ho, hW, hM, hl, hO⟩ := hX
  obtain ⟨q1, q2, q3, q4⟩ := hQ
  have hQ : MQr Y K P 0 j := ⟨q1, q2, q3, q4⟩
  obtain ⟨r1, r2, r3⟩ := q3 rfl
  obtain ⟨k1, k2, k3, k4⟩ := hT j r2 r3
  have hb := hB j
  have hkd := hb.2.2.2
  have go : ∀ (k a b : Int), a = m_o k → K j ≠ 256 ∧ K j ≠ 257 → ∃ (Y1 Y2 : XZ), x_CALL (d - 1) 163 [.inr (.inr (some (56, 0))), .inl a, .inl b] (x_S Y t) = some (0, x_S Y1 t) ∧ x_CALL (d - 1) 147 [.inr (.inr (some (56, 0)))] (x_S Y1 t) = some (0, x_S Y2 t) ∧ KX c0 Y Y2 ∧ (j < 400 → MX Y2 K P c0 (j + 1) o ws (cl ++ [(k, b)])) ∧ (¬ j < 400 → MQr Y2 K P 2 j) := by
    intro k a b ha hne
    obtain ⟨Y1, e1, e2, e3, e4⟩ := m_emit (d := d - 1) hM (by omega) hc (by omega) t k a b ha
    have hQ1 : MQr Y1 K P 0 j := hQ.congr (fun i hi => e3 _ _ _ (by omega) (by omega))
    have hT1 := e3.kx.tk hT
    obtain ⟨Y2, f1, f2, f3⟩ := m_goes1 (d := d - 1) hT1 hQ1 (fun _ => hne) (by omega) t
    refine ⟨Y1, Y2, e1, f1, e3.kx.trans f3.kx, fun hj => ?_, fun hj => ?_⟩
    · rw [q_go, if_pos rfl, if_pos hj] at f2
      exact ⟨f2, by rw [f3 _ _ _ (by omega), e3 _ _ _ (by omega) (by omega)]; exact ho, WS.kf ⟨by rw [e4]; exact hW.1, WR.congr hW.2 (fun i _ => e3 _ _ _ (by omega) (by omega))⟩ f3, e2.kf f3, by rw [List.length_append, List.length_singleton]; omega, hO⟩
    · rw [q_go, if_pos rfl, if_neg hj] at f2
      exact f2
  have fin : ∀ Y2 : XZ, MQr Y2 K P 2 j → x_EX d 165 88 [some (.inr (.inr (some (56, 0)))), some (.inl 0), some (.inl 1)] [] (x_S Y2 t) = some (0, x_S Y2 t) := fun Y2 h => by
    rw [B165_88, h.1, if_pos (by decide)]
  have fin0 : ∀ (j' : Nat) (Y2 : XZ), MQr Y2 K P 0 j' → x_EX d 165 88 [some (.inr (.inr (some (56, 0)))), some (.inl 0), some (.inl 1)] [] (x_S Y2 t) = x_EX d 165 96 [some (.inr (.inr (some (56, 0)))), some (.inl 0), some (.inl 1)] [] (x_S Y2 t) := fun j' Y2 h => by
    rw [B165_88, h.1, if_neg (by decide)]
  rw [B165_23, m_is0 hB hT hQ (by omega) t 40 6 kd40 tm40 (fun e => hk e.2), Option.bind_some, B165_29, if_pos cn_0, C166 _ _ _ (by omega)]
  by_cases h1 : K j = 259
  · obtain ⟨Y1, Y2, e1, e2, e3, e4, e5⟩ := go 110 0 (V j) rfl (by omega)
    rw [m_is1 hB hT hQ (by omega) t 259 2 kd259 tm259 ⟨rfl, h1⟩, Option.bind_some, B166_5, if_neg cn_1n, r1, cn_nt (z := (j : Int)) rfl (by omega), if_pos (by omega), Int.toNat_natCast, k3 h1, e1, Option.bind_some, B166_22, e2, Option.bind_some, B166_26, B166_93, Option.bind_some]
    by_cases hj : j < 400
    · rw [e_A_i h1 (by omega)]
      exact ⟨fun _ => ⟨Y2, fin0 _ _ (e4 hj).1, e3, e4 hj⟩, fun h => absurd rfl h⟩
    · rw [e_A_ir h1 (by omega)]
      exact ⟨fun h => absurd h (by simp), fun _ => ⟨Y2, fin _ (e5 hj), e3, e5 hj⟩⟩
  · have htm : t_m (K j) = 2 ↔ K j = 259 := by rw [← tm259]; exact t_m_inj hkd kd259
    have hmc := t_mc hkd
    have hmb := t_m_b hkd
    rw [m_is0 hB hT hQ (by omega) t 259 2 kd259 tm259 (fun e => h1 e.2), Option.bind_some, B166_5, if_pos cn_0, q1, if_pos (by decide), r1, cn_nt (z := (j : Int)) rfl (by omega), if_pos (by omega), Int.toNat_natCast, k1, cn_id (z := t_m (K j)) (by omega) (by omega)]
    by_cases h2 : 275 ≤ K j
    · obtain ⟨Y1, Y2, e1, e2, e3, e4, e5⟩ := go 118 1 (K j - 275) rfl (by omega)
      have htk : t_m (K j) = K j - 240 := by omega
      rw [if_neg (by omega), if_pos (by omega), if_neg (by omega), if_pos (by omega), htk, show K j - 240 - 35 = K j - 275 by omega, e1, Option.bind_some, B166_81, e2, Option.bind_some, B166_85, B166_93, Option.bind_some]
      by_cases hj : j < 400
      · rw [e_A_v h1 h2 (by omega)]
        exact ⟨fun _ => ⟨Y2, fin0 _ _ (e4 hj).1, e3, e4 hj⟩, fun h => absurd rfl h⟩
      · rw [e_A_vr h1 h2 (by omega)]
        exact ⟨fun h => absurd h (by simp), fun _ => ⟨Y2, fin _ (e5 hj), e3, e5 hj⟩⟩
    · obtain ⟨Y1, e1, e2, e3⟩ := m_fail (d := d - 1) hT hQ (by omega) t 1 1 rfl (by omega)
      have htk : t_m (K j) < 35 := by omega
      rw [if_pos rfl] at e2
      rw [if_pos htk, e1, Option.bind_some, B166_93, Option.bind_some, e_A_n h1 h2, B165_88, e2.1, if_pos (by decide)]
      exact ⟨fun h => absurd h (by simp), fun _ => ⟨Y1, rfl, e3.kx, e2⟩⟩
/-- an operator follows -/
theorem m_more {Y : XZ} {K P V Nm : Nat → Int} {j d : Nat} (hB : KB K V) (hT : TKm Y K P V Nm) (hQ : MQr Y K P 0 j) (hk : K j = 43 ∨ K j = 45 ∨ K j = 42 ∨ K j = 47) (hd : 3 ≤ d) (t : Nat) : x_EX d 165 96 [some (.inr (.inr (some (56, 0)))), some (.inl 0), some (.inl 1)] [] (x_S Y t) = (x_CALL d 164 [.inr (.inr (some (56, 0))), .inl ((if K j = 42 ∨ K j = 47 then 1 else 0))] (x_S Y t)).bind fun q => x_EX d 165 237 [some (.inr (.inr (some (56, 0)))), some (.inl 0), some (.inl 1)] [] q.2 := by
  have t217 : ∀ r : Int, r = (if K j = 42 then 1 else 0) → x_EX d 165 217 [some (.inr (.inr (some (56, 0)))), some (.inl 0), some (.inl 1)] [.inl r, .inr (.inr (some (56, 0)))] (x_S Y t) = (x_CALL d 164 [.inr (.inr (some (56, 0))), .inl ((if K j = 42 ∨ K j = 47 then 1 else 0))] (x_S Y t)).bind fun q => x_EX d 165 237 [some (.inr (.inr (some (56, 0)))), some (.inl 0), some (.inl 1)] [] q.2 := by
    intro r hr
    rw [B165_217]
    by_cases h42 : K j = 42
    · rw [if_pos h42] at hr
      rw [hr, if_neg cn_1n, if_pos (show K j = 42 ∨ K j = 47 from .inl h42)]
    · rw [if_neg h42] at hr
      rw [hr, if_pos cn_0]
      by_cases h47 : K j = 47
      · rw [m_is1 hB hT hQ (by omega) t 47 15 kd47 tm47 ⟨rfl, h47⟩, Option.bind_some, B165_226, if_neg cn_1n, if_pos (show K j = 42 ∨ K j = 47 from .inr h47)]
      · rw [m_is0 hB hT hQ (by omega) t 47 15 kd47 tm47 (fun e => h47 e.2), Option.bind_some, B165_226, if_pos cn_0, if_neg (show ¬ (K j = 42 ∨ K j = 47) from fun e => e.elim h42 h47)]
  have t144 : (x_CALL d 144 [.inr (.inr (some (56, 0))), .inl 10] (x_S Y t)).bind (fun q => x_EX d 165 217 [some (.inr (.inr (some (56, 0)))), some (.inl 0), some (.inl 1)] [.inl q.1, .inr (.inr (some (56, 0)))] q.2) = (x_CALL d 164 [.inr (.inr (some (56, 0))), .inl ((if K j = 42 ∨ K j = 47 then 1 else 0))] (x_S Y t)).bind fun q => x_EX d 165 237 [some (.inr (.inr (some (56, 0)))), some (.inl 0), some (.inl 1)] [] q.2 := by
    by_cases h42 : K j = 42
    · rw [m_is1 hB hT hQ (by omega) t 42 10 kd42 tm42 ⟨rfl, h42⟩, Option.bind_some]
      exact t217 1 (by rw [if_pos h42])
    · rw [m_is0 hB hT hQ (by omega) t 42 10 kd42 tm42 (fun e => h42 e.2), Option.bind_some]
      exact t217 0 (by rw [if_neg h42])
  have n10 : ¬ (1 : Nat) = 0 := by decide
  rw [B165_96, m_is0 hB hT hQ (by omega) t 41 7 kd41 tm41 (by omega), Option.bind_some, B165_102, if_pos cn_0]
  by_cases h43 : K j = 43
  · rw [m_is1 hB hT hQ (by omega) t 43 8 kd43 tm43 ⟨rfl, h43⟩, Option.bind_some, B165_151, if_neg cn_1n, if_neg n10]
    exact t144
  · rw [m_is0 hB hT hQ (by omega) t 43 8 kd43 tm43 (fun e => h43 e.2), Option.bind_some, B165_151, if_pos cn_0]
    by_cases h45 : K j = 45
    · rw [m_is1 hB hT hQ (by omega) t 45 9 kd45 tm45 ⟨rfl, h45⟩, Option.bind_some, B165_160, if_neg cn_1n, if_neg n10]
      exact t144
    · rw [m_is0 hB hT hQ (by omega) t 45 9 kd45 tm45 (fun e => h45 e.2), Option.bind_some, B165_160, if_pos cn_0]
      by_cases h42 : K j = 42
      · have hh : x_CALL d 144 [.inr (.inr (some (56, 0))), .inl 10] (x_S Y t) = some (1, x_S Y t) := m_is1 hB hT hQ (by omega) t 42 10 kd42 tm42 ⟨rfl, h42⟩
        rw [hh, Option.bind_some, B165_169, if_neg cn_1n, if_neg n10]
        exact t144
      · rw [m_is0 hB hT hQ (by omega) t 42 10 kd42 tm42 (fun e => h42 e.2), Option.bind_some, B165_169, if_pos cn_0, m_is1 hB hT hQ (by omega) t 47 15 kd47 tm47 ⟨rfl, by omega⟩, Option.bind_some, B165_178, if_neg cn_1n, if_neg n10]
        exact t144
theorem tm_op {k : Int} (hk : k = 43 ∨ k = 45 ∨ k = 42 ∨ k = 47) : (t_m k = 8 ∨ t_m k = 9 ∨ t_m k = 10 ∨ t_m k = 15) ∧ o_w (t_m k) = k ∧ (t_m k = 10 ∨ t_m k = 15 ↔ k = 42 ∨ k = 47) := by
  rcases hk with rfl | rfl | rfl | rfl
  · rw [tm43]; decide
  · rw [tm45]; decide
  · rw [tm42]; decide
  · rw [tm47]; decide
theorem m_step {Y : XZ} {K P V Nm : Nat → Int} {j o d c0 : Nat} {pd ws : List Int} {cl : CL} (hB : KB K V) (hT : TKm Y K P V Nm) (hX : MX Y K P c0 j o (pd ++ ws) cl) (hk : K j = 43 ∨ K j = 45 ∨ K j = 42 ∨ K j = 47) (hp : ∀ x, x ∈ pd → (x = 8 ∨ x = 9 ∨ x = 10 ∨ x = 15) ∧ (K j = 42 ∨ K j = 47 → x ≠ 8 ∧ x ≠ 9)) (hq : q_tp (if K j = 42 ∨ K j = 47 then 1 else 0) ws) (h64 : (pd ++ ws).length ≤ 60) (hc : c0 ≤ 420) (hd : 3 ≤ d) (t : Nat) : (j < 400 → ∃ Y' : XZ, x_EX d 165 96 [some (.inr (.inr (some (56, 0)))), some (.inl 0), some (.inl 1)] [] (x_S Y t) = x_EX d 165 23 [some (.inr (.inr (some (56, 0)))), some (.inl 0), some (.inl 1)] [] (x_S Y' t) ∧ KX c0 Y Y' ∧ MX Y' K P c0 (j + 1) o (t_m (K j) :: ws) (cl ++ o_f pd)) ∧ (¬ j < 400 → ∃ Y' : XZ, x_EX d 165 96 [some (.inr (.inr (some (56, 0)))), some (.inl 0), some (.inl 1)] [] (x_S Y t) = some (0, x_S Y' t) ∧ KX c0 Y Y' ∧ MQr Y' K P 2 j) := by
  obtain ⟨hQ, ho, hW, hM, hl, hO⟩ := hX
  obtain ⟨q1, q2, q3, q4⟩ := hQ
  have hQ : MQr Y K P 0 j := ⟨q1, q2, q3, q4⟩
  obtain ⟨r1, r2, r3⟩ := q3 rfl
  have hlen : (pd ++ ws).length = pd.length + ws.length := List.length_append
  have hfl : (o_f pd).length = pd.length := by unfold o_f; rw [List.length_map]
  have hop := tm_op hk
  obtain ⟨Y1, e1, e2, e3, e4⟩ := m_pops (d := d - 1) (a := if K j = 42 ∨ K j = 47 then 1 else 0) hc (by omega) t pd Y cl ws none hW hM (by omega) (by omega) (by omega) (fun x hx => ⟨(hp x hx).1, by
    by_cases hs : K j = 42 ∨ K j = 47
    · rw [if_pos hs]; exact .inr ⟨rfl, (hp x hx).2 hs⟩
    · rw [if_neg hs]; exact .inl rfl⟩) hq
  have hT1 := e4.kx.tk hT
  have hQ1 : MQr Y1 K P 0 j := hQ.congr (fun i hi => e4 _ _ _ (by omega) (by omega))
  obtain ⟨k1, k2, k3, k4⟩ := hT1 j r2 r3
  have r1' : Y1 56 0 11 = (j : Int) := by rw [e4 _ _ _ (by omega) (by omega)]; exact r1
  have w1 := e2.1
  rw [m_more hB hT hQ hk (by omega) t, C164' _ _ _ _ (by omega), e1, Option.bind_some, B165_237, r1', cn_nt (z := (j : Int)) rfl (by omega), if_pos (by omega), w1, cn_nt (z := (ws.length : Int)) rfl (by omega), if_pos (by omega), Int.toNat_natCast, Int.toNat_natCast, k1]
  have hQ2 : MQr (x_u (x_u Y1 90 0 ws.length (t_m (K j))) 56 0 50 ((ws.length : Int) + 1)) K P 0 j := hQ1.congr (fun i hi => by rw [x_u_ne (by omega), x_u_ne (by omega)])
  have k2x : KX c0 Y1 (x_u (x_u Y1 90 0 ws.length (t_m (K j))) 56 0 50 ((ws.length : Int) + 1)) := fun g m i a b c => by rw [x_u_ne (by omega), x_u_ne (by omega)]
  obtain ⟨Y3, f1, f2, f3⟩ := m_goes1 (d := d) (k2x.tk hT1) hQ2 (fun _ => by omega) (by omega) t
  have kk : KX c0 Y Y3 := e4.kx.trans (k2x.trans f3.kx)
  rw [f1, Option.bind_some, B165_269, B165_12, if_neg cn_1n]
  refine ⟨fun hj => ?_, fun hj => ?_⟩
  · rw [q_go, if_pos rfl, if_pos hj] at f2
    have f2' : MQr Y3 K P 0 (j + 1) := f2
    rw [f2'.1, if_pos (by decide)]
    refine ⟨Y3, rfl, kk, f2, ?_, ?_, ?_, ?_, ?_⟩
    · rw [f3 _ _ _ (by omega), x_u_ne (by omega), x_u_ne (by omega), e4 _ _ _ (by omega) (by omega)]; exact ho
    · refine WS.kf ⟨by rw [x_u_eq, List.length_cons]; omega, ?_, ?_⟩ f3
      · rw [x_u_ne (by omega), x_u_eq]
      · exact WR.congr e2.2 (fun i hi => by rw [x_u_ne (by omega), x_u_ne (by omega)])
    · refine MC.kf ⟨by rw [x_u_ne (by omega), x_u_ne (by omega)]; exact e3.1, fun i hi => ?_⟩ f3
      rw [x_u_ne (by omega), x_u_ne (by omega), x_u_ne (by omega), x_u_ne (by omega)]; exact e3.2 i hi
    · rw [List.length_cons, List.length_append, hfl]; omega
    · intro x hx
      rcases List.mem_cons.1 hx with y | y
      · rw [y]; exact .inr hop.1
      · exact hO x (List.mem_append.2 (.inr y))
  · rw [q_go, if_pos rfl, if_neg hj] at f2
    have f2' : MQr Y3 K P 2 j := f2
    rw [f2'.1, if_neg (by decide)]
    exact ⟨Y3, rfl, kk, f2'⟩
def MSim (K P V Nm : Nat → Int) (t c0 o : Nat) (Q R : List Int → Prop) (g : Nat → ER) : Prop := ∀ (Y : XZ) (j : Nat) (ws : List Int) (cl : CL) (d : Nat), 3 ≤ d → TKm Y K P V Nm → MX Y K P c0 j o ws cl → Q ws → ((g j).1 = 0 → ∃ (Y' : XZ) (pd : List Int) (cc : CL), x_EX d 165 23 [some (.inr (.inr (some (56, 0)))), some (.inl 0), some (.inl 1)] [] (x_S Y t) = x_EX d 165 96 [some (.inr (.inr (some (56, 0)))), some (.inl 0), some (.inl 1)] [] (x_S Y' t) ∧ KX c0 Y Y' ∧ R pd ∧ (g j).2.2 = cc ++ o_f pd ∧ MX Y' K P c0 (g j).2.1 o (pd ++ ws) (cl ++ cc)) ∧ ((g j).1 ≠ 0 → ∃ Y' : XZ, x_EX d 165 23 [some (.inr (.inr (some (56, 0)))), some (.inl 0), some (.inl 1)] [] (x_S Y t) = some (0, x_S Y' t) ∧ KX c0 Y Y' ∧ MQr Y' K P (g j).1 (g j).2.1)
theorem m_G {K P V Nm : Nat → Int} {t c0 o : Nat} {Q Q' R R' : List Int → Prop} {g : Nat → ER} {s1 s2 : Int} {D : Nat} {N : Int → Prop} (hB : KB K V) (hs : SP K D N g) (hc : c0 ≤ 420) (hg : MSim K P V Nm t c0 o Q' R' g) (h1 : s1 = 43 ∨ s1 = 45 ∨ s1 = 42 ∨ s1 = 47) (h2 : s2 = 43 ∨ s2 = 45 ∨ s2 = 42 ∨ s2 = 47) (hQ0 : ∀ ws, Q ws → Q' ws) (hQ1 : ∀ ws k, k = s1 ∨ k = s2 → Q ws → Q' (t_m k :: ws)) (hQ2 : ∀ ws k, k = s1 ∨ k = s2 → Q ws → q_tp (if k = 42 ∨ k = 47 then 1 else 0) ws) (hQ3 : ∀ ws, Q ws → ws.length ≤ 50) (hR0 : ∀ pd, R' pd → R pd) (hR1 : ∀ pd k, k = s1 ∨ k = s2 → R' pd → R (pd ++ [t_m k])) (hR2 : ∀ pd, R pd → pd.length ≤ 5 ∧ ∀ k, k = s1 ∨ k = s2 → ∀ x, x ∈ pd → (x = 8 ∨ x = 9 ∨ x = 10 ∨ x = 15) ∧ (k = 42 ∨ k = 47 → x ≠ 8 ∧ x ≠ 9)) : MSim K P V Nm t c0 o Q R (e_G K g s1 s2) := by
  intro Y j ws cl d hd hT hX hQ
  have loop : ∀ (f : Nat) (Y : XZ) (j : Nat) (pd : List Int) (cl : CL), 400 < j + f → TKm Y K P V Nm → MX Y K P c0 j o (pd ++ ws) cl → R pd → ((e_L K g s1 s2 f j).1 = 0 → ∃ (Y' : XZ) (pd' : List Int) (cc : CL), x_EX d 165 96 [some (.inr (.inr (some (56, 0)))), some (.inl 0), some (.inl 1)] [] (x_S Y t) = x_EX d 165 96 [some (.inr (.inr (some (56, 0)))), some (.inl 0), some (.inl 1)] [] (x_S Y' t) ∧ KX c0 Y Y' ∧ R pd' ∧ o_f pd ++ (e_L K g s1 s2 f j).2.2 = cc ++ o_f pd' ∧ MX Y' K P c0 (e_L K g s1 s2 f j).2.1 o (pd' ++ ws) (cl ++ cc)) ∧ ((e_L K g s1 s2 f j).1 ≠ 0 → ∃ Y' : XZ, x_EX d 165 96 [some (.inr (.inr (some (56, 0)))), some (.inl 0), some (.inl 1)] [] (x_S Y t) = some (0, x_S Y' t) ∧ KX c0 Y Y' ∧ MQr Y' K P (e_L K g s1 s2 f j).1 (e_L K g s1 s2 f j).2.1) := by
    intro f
    induction f with
    | zero =>
      intro Y j pd cl hf hT hX hR
      have := (hX.1.2.2.1 rfl).2.1
      omega
    | succ f ih =>
      intro Y j pd cl hf hT hX hR
      have hj4 := (hX.1.2.2.1 rfl).2.1
      by_cases hk : K j = s1 ∨ K j = s2
      · have hk4 : K j = 43 ∨ K j = 45 ∨ K j = 42 ∨ K j = 47 := by omega
        have hr := hR2 pd hR
        have hlen : (pd ++ ws).length = pd.length + ws.length := List.length_append
        have h3 := hQ3 ws hQ
        obtain ⟨a1, a2⟩ := m_step hB hT hX hk4 (hr.2 (K j) hk) (hQ2 ws (K j) hk hQ) (by omega) hc hd t
        by_cases hj : j < 400
        · obtain ⟨Y1, e1, e2, e3⟩ := a1 hj
          obtain ⟨b1, b2⟩ := hg Y1 (j + 1) (t_m (K j) :: ws) (cl ++ o_f pd) d hd (e2.tk hT) e3 (hQ1 ws (K j) hk hQ)
          obtain ⟨p1, p2, p3, p4, p5⟩ := hs (j + 1) (by omega)
          by_cases h0 : (g (j + 1)).1 = 0
          · obtain ⟨Y2, pd2, c2, f1, f2, f3, f4, f5⟩ := b1 h0
            have f5' : MX Y2 K P c0 (g (j + 1)).2.1 o ((pd2 ++ [t_m (K j)]) ++ ws) (cl ++ o_f pd ++ c2) := by
              rw [List.append_assoc, List.singleton_append]; exact f5
            obtain ⟨c1, c3⟩ := ih Y2 (g (j + 1)).2.1 (pd2 ++ [t_m (K j)]) _ (by omega) (f2.tk (e2.tk hT)) f5' (hR1 pd2 (K j) hk f3)
            rw [e_L_y hk (by omega) h0]
            refine ⟨fun h => ?_, fun h => ?_⟩
            · obtain ⟨Y3, pd3, cc, g1, g2, g3, g4, g5⟩ := c1 h
              refine ⟨Y3, pd3, o_f pd ++ (c2 ++ cc), e1.trans (f1.trans g1), e2.trans (f2.trans g2), g3, ?_, ?_⟩
              · show o_f pd ++ ((g (j + 1)).2.2 ++ (K j, 0) :: (e_L K g s1 s2 f (g (j + 1)).2.1).2.2) = o_f pd ++ (c2 ++ cc) ++ o_f pd3
                have ho : o_f (pd2 ++ [t_m (K j)]) = o_f pd2 ++ [(K j, 0)] := by
                  unfold o_f; rw [List.map_append, List.map_singleton, (tm_op hk4).2.1]
                rw [ho] at g4
                rw [f4, List.append_assoc, List.append_assoc, List.append_assoc, ← g4, List.append_assoc, List.singleton_append]
              · have g5' := g5
                rw [List.append_assoc, List.append_assoc] at g5'
                exact g5'
            · obtain ⟨Y3, g1, g2, g3⟩ := c3 h
              exact ⟨Y3, e1.trans (f1.trans g1), e2.trans (f2.trans g2), g3⟩
          · obtain ⟨Y2, f1, f2, f3⟩ := b2 h0
            rw [e_L_b hk (by omega) h0]
            exact ⟨fun h => absurd h h0, fun _ => ⟨Y2, e1.trans f1, e2.trans f2, f3⟩⟩
        · obtain ⟨Y1, e1, e2, e3⟩ := a2 hj
          rw [e_L_r hk (by omega)]
          exact ⟨fun h => absurd h (by simp), fun _ => ⟨Y1, e1, e2, e3⟩⟩
      · rw [e_L_n hk]
        exact ⟨fun _ => ⟨Y, pd, [], rfl, KX.rfl', hR, by rw [List.append_nil, List.nil_append], by rw [List.append_nil]; exact hX⟩, fun h => absurd rfl h⟩
  obtain ⟨b1, b2⟩ := hg Y j ws cl d hd hT hX (hQ0 ws hQ)
  obtain ⟨p1, p2, p3, p4, p5⟩ := hs j (hX.1.2.2.1 rfl).2.1
  by_cases h0 : (g j).1 = 0
  · obtain ⟨Y2, pd2, c2, f1, f2, f3, f4, f5⟩ := b1 h0
    obtain ⟨c1, c3⟩ := loop 401 Y2 (g j).2.1 pd2 _ (by omega) (f2.tk hT) f5 (hR0 _ f3)
    rw [e_G_y h0]
    refine ⟨fun h => ?_, fun h => ?_⟩
    · obtain ⟨Y3, pd3, cc, g1, g2, g3, g4, g5⟩ := c1 h
      refine ⟨Y3, pd3, c2 ++ cc, f1.trans g1, f2.trans g2, g3, ?_, ?_⟩
      · show (g j).2.2 ++ (e_L K g s1 s2 401 (g j).2.1).2.2 = c2 ++ cc ++ o_f pd3
        rw [f4, List.append_assoc, g4, List.append_assoc]
      · rw [List.append_assoc] at g5; exact g5
    · obtain ⟨Y3, g1, g2, g3⟩ := c3 h
      exact ⟨Y3, f1.trans g1, f2.trans g2, g3⟩
  · obtain ⟨Y2, f1, f2, f3⟩ := b2 h0
    rw [e_G_b h0]
    exact ⟨fun h => absurd h h0, fun _ => ⟨Y2, f1, f2, f3⟩⟩
