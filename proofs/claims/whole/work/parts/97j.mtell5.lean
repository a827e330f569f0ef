/-! tells: the model reads lanes -/
theorem tm261 : t_m 261 = 21 := by simp [t_m]
theorem tm264 : t_m 264 = 24 := by simp [t_m]
theorem m_tlane {Y : XZ} {K P V Nm : Nat → Int} {v t j b np d : Nat} {cl : CL} {s : Nat × Int} {T : PT} {ct st : Nat → Nat} {G : Nat → Option (BL × CL)} (hB : KB K V) (hP : PMo K P) (hNV : NV K V Nm) (hv : v < 2) (hJ : JM Y K P V Nm v j b cl np s T ct st G) (hp : JPu K P j np s T ct st) (hK : K j = 261) (hd : 7 ≤ d) : ∃ Y' : XZ, x_CALL d 154 [.inr (.inr (some (56, 0)))] (x_S Y t) = some (0, x_S Y' t) ∧ KPm v Y Y' ∧ MQr Y' K P (q_rm K (T 1 0) 10 k_lan j).1 (q_rm K (T 1 0) 10 k_lan j).2 ∧ ∀ _ : Nat, (q_rm K (T 1 0) 10 k_lan j).1 = 0 → JM Y' K P V Nm v (j + 5) b cl np (s_lan P V T ct j s) (T_lan V T ct j) ct st G := by
  obtain ⟨a1, a2, a3, a4, a5, a6, a7, a8, a9, a10, a11, a12, a13, a14⟩ := hJ
  have hJ : JM Y K P V Nm v j b cl np s T ct st G := ⟨a1, a2, a3, a4, a5, a6, a7, a8, a9, a10, a11, a12, a13, a14⟩
  have hsq := hp.sq
  obtain ⟨p1, p2, p3, p4, p5, p6, p7, p8⟩ := hp
  obtain ⟨r1, r2, r3⟩ := a2.2.2.1 rfl
  have k1 := (a1 j r2 r3).1
  rw [hK, tm261] at k1
  have c69 := a11.2.1
  have bv : 0 ≤ (v : Int) ∧ (v : Int) < 2 := by omega
  have open_ : x_CALL d 154 [.inr (.inr (some (56, 0)))] (x_S Y t) = ((x_CALL (d - 1) 152 [.inr (.inr (some (56, 0))), .inl ((T 1 0 : Int)), .inl 10] (x_S Y t)).bind fun q => x_EX (d - 1) 154 181 [some (.inr (.inr (some (56, 0)))), none] [] q.2) := by
    rw [C154 _ _ _ (by omega), r1, cn_nt (z := (j : Int)) rfl (by omega), if_pos (by omega), Int.toNat_natCast, k1, if_neg (by decide), if_pos (by decide), a9, cn_nt (z := (v : Int)) rfl (by omega), if_pos bv, Int.toNat_natCast, c69]
  obtain ⟨Y1, e1, e2, e3⟩ := m_room (has := T 1 0) (most := 10) (d := d - 1) a1 a2 p2 (by omega) (by omega) (by omega) t 10 rfl
  rw [open_, e1, Option.bind_some]
  by_cases hr : 10 ≤ T 1 0 ∨ ¬ j < 400
  · have hs0 : (if 10 ≤ T 1 0 then (2, j) else q_go (0, j)) = (2, j) := by
      by_cases h' : 10 ≤ T 1 0
      · rw [if_pos h']
      · rw [if_neg h']; unfold q_go; rw [if_pos rfl, if_neg (by omega)]
    rw [hs0] at e3
    have i13 : Y1 56 0 13 = 2 := e3.1
    have hq : q_rm K (T 1 0) 10 k_lan j = (2, j) := q_ro_r hK hr
    rw [B154_181, i13, if_neg (by decide), B154_467, hq]
    exact ⟨Y1, rfl, e2.pm, e3, fun _ h => absurd h (by simp)⟩
  · have hj : j < 400 := by omega
    have hs0 : (if 10 ≤ T 1 0 then (2, j) else q_go (0, j)) = (0, j + 1) := by
      rw [if_neg (by omega)]; unfold q_go; rw [if_pos rfl, if_pos hj]
    rw [hs0] at e3
    have e3' : MQr Y1 K P 0 (j + 1) := e3
    have i13 : Y1 56 0 13 = 0 := e3'.1
    have hq : q_rm K (T 1 0) 10 k_lan j = q_sk K 59 (q_sk K 259 (q_sk K 258 (q_sk K 258 (0, j + 1)))) := q_ro_y (k := 261) (ks := [258, 258, 259, 59]) hK (by omega) hj
    have R1 : KR Y Y1 := KR.f e2
    have bk : 0 ≤ ((10 * v + T 1 0 : Nat) : Int) ∧ ((10 * v + T 1 0 : Nat) : Int) < 20 := by omega
    have s1y : ∀ _ : Nat, (q_sk K 258 (0, j + 1)).1 = 0 → (q_sk K 258 (0, j + 1)).2 = j + 2 ∧ j + 1 < 400 ∧ K (j + 1) = 258 := fun _ h => ⟨(q_sk_y h).2.2.2, (q_sk_y h).2.2.1, (q_sk_y h).2.1⟩
    obtain ⟨ra, Y2, f1, f2, f3, f4⟩ := m_known (s := s) (T := T) (ct := ct) (st := st) (j0 := j) (d := d - 1 - 1) hB hP hNV (R1.tk a1) e3' (fun _ h => ⟨a10.kf e2, hsq.mono (by omega)⟩) (a12.k (e2 _ _ _ (by omega)) (fun i => e2 _ _ _ (by omega)) (fun i => e2 _ _ _ (by omega))) p1 p3 p5 p6 (by omega) t
    have R2 : KR Y Y2 := R1.trans (KR.s f3)
    have R2' : KR Y (x_u Y2 70 0 (10 * v + T 1 0) ra) := R2.trans (KR.u (by omega))
    obtain ⟨rb, Y3, g1, g2, g3, g4⟩ := m_known (s := q_nt (decide (¬ q_ax V T ct (j + 1) < T 0 0)) 4 (P (j + 1)) s) (T := T) (ct := ct) (st := st) (j0 := j) (d := d - 1 - 1) hB hP hNV (R2'.tk a1) (f2.congr (Y' := x_u Y2 70 0 (10 * v + T 1 0) ra) (fun i hi => x_u_ne (by omega))) (fun _ h => ⟨(f4 0 h).2.k (x_u_ne (by omega)) (x_u_ne (by omega)), by rw [(s1y 0 h).1]; exact SQ.nt (hsq.mono (show j ≤ j + 1 by omega)) (Nat.le_refl _)⟩) (a12.k (by rw [x_u_ne (by omega), f3 _ _ _ (by omega), e2 _ _ _ (by omega)]) (fun i => by rw [x_u_ne (by omega), f3 _ _ _ (by omega), e2 _ _ _ (by omega)]) (fun i => by rw [x_u_ne (by omega), f3 _ _ _ (by omega), e2 _ _ _ (by omega)])) p1 p3 p5 p6 (by omega) t
    have g2' : MQr Y3 K P (q_sk K 258 (q_sk K 258 (0, j + 1))).1 (q_sk K 258 (q_sk K 258 (0, j + 1))).2 := g2
    have R3 : KR Y Y3 := R2'.trans (KR.s g3)
    have R4 : KR Y (x_u Y3 71 0 (10 * v + T 1 0) rb) := R3.trans (KR.u (by omega))
    have hQ4 : MQr (x_u Y3 71 0 (10 * v + T 1 0) rb) K P (q_sk K 258 (q_sk K 258 (0, j + 1))).1 (q_sk K 258 (q_sk K 258 (0, j + 1))).2 := g2'.congr (fun i hi => x_u_ne (by omega))
    have s2y : ∀ _ : Nat, (q_sk K 258 (q_sk K 258 (0, j + 1))).1 = 0 → (q_sk K 258 (0, j + 1)).1 = 0 ∧ (q_sk K 258 (q_sk K 258 (0, j + 1))).2 = j + 3 ∧ j + 2 < 400 ∧ K (j + 2) = 258 := fun _ h => by
      have z := q_sk_y h
      have z1 := s1y 0 z.1
      refine ⟨z.1, by rw [z.2.2.2, z1.1], by have := z.2.2.1; rw [z1.1] at this; exact this, by have := z.2.1; rw [z1.1] at this; exact this⟩
    have z70 : Y3 70 0 (10 * v + T 1 0) = ra := by rw [g3 _ _ _ (by omega), x_u_eq]
    have ha := q_ax_le (V := V) (T := T) (ct := ct) (tok := j + 1)
    have hb := q_ax_le (V := V) (T := T) (ct := ct) (tok := j + 2)
    have hra : ∀ _ : Nat, (q_sk K 258 (q_sk K 258 (0, j + 1))).1 = 0 → ra = (if q_ax V T ct (j + 1) < T 0 0 then (q_ax V T ct (j + 1) : Int) else -1) ∧ rb = (if q_ax V T ct (j + 2) < T 0 0 then (q_ax V T ct (j + 2) : Int) else -1) := fun _ h => by
      refine ⟨(f4 0 (s2y 0 h).1).1, ?_⟩
      have := (g4 0 h).1
      rw [(s1y 0 (s2y 0 h).1).1] at this; exact this
    have hS4 : ∀ _ : Nat, (q_sk K 258 (q_sk K 258 (0, j + 1))).1 = 0 → MSo (x_u Y3 71 0 (10 * v + T 1 0) rb) (q_nt (decide (¬ q_ax V T ct (j + 2) < T 0 0)) 4 (P (j + 2)) (q_nt (decide (¬ q_ax V T ct (j + 1) < T 0 0)) 4 (P (j + 1)) s)) := fun _ h => by
      have := (g4 0 h).2
      rw [(s1y 0 (s2y 0 h).1).1] at this
      exact this.k (x_u_ne (by omega)) (x_u_ne (by omega))
    have fin : ∀ (Y5 : XZ) (a2' : Int), KW (x_u Y3 71 0 (10 * v + T 1 0) rb) Y5 → (∀ _ : Nat, (q_sk K 258 (q_sk K 258 (0, j + 1))).1 = 0 → MSo Y5 (q_nt (decide (q_ax V T ct (j + 1) = q_ax V T ct (j + 2))) 3 (P (j + 2)) (q_nt (decide (¬ q_ax V T ct (j + 2) < T 0 0)) 4 (P (j + 2)) (q_nt (decide (¬ q_ax V T ct (j + 1) < T 0 0)) 4 (P (j + 1)) s)))) → ∃ Y' : XZ, x_EX (d - 1 - 1) 159 80 [some (.inr (.inr (some (56, 0)))), some (.inl (((10 * v + T 1 0 : Nat) : Int))), some (.inl a2')] [] (x_S Y5 t) = some (0, x_S Y' t) ∧ KPm v Y Y' ∧ MQr Y' K P (q_sk K 59 (q_sk K 259 (q_sk K 258 (q_sk K 258 (0, j + 1))))).1 (q_sk K 59 (q_sk K 259 (q_sk K 258 (q_sk K 258 (0, j + 1))))).2 ∧ ∀ _ : Nat, (q_sk K 59 (q_sk K 259 (q_sk K 258 (q_sk K 258 (0, j + 1))))).1 = 0 → JM Y' K P V Nm v (j + 5) b cl np (s_lan P V T ct j s) (T_lan V T ct j) ct st G := by
      intro Y5 a2' hw hm
      have hQ5 : MQr Y5 K P (q_sk K 258 (q_sk K 258 (0, j + 1))).1 (q_sk K 258 (q_sk K 258 (0, j + 1))).2 := hQ4.congr (fun i hi => hw _ _ _ (by omega))
      have R5 : KR Y Y5 := R4.trans (KR.s hw.ks)
      obtain ⟨rc, Y6, h1, h2, h3, h4⟩ := m_bnd (s := q_nt (decide (q_ax V T ct (j + 1) = q_ax V T ct (j + 2))) 3 (P (j + 2)) (q_nt (decide (¬ q_ax V T ct (j + 2) < T 0 0)) 4 (P (j + 2)) (q_nt (decide (¬ q_ax V T ct (j + 1) < T 0 0)) 4 (P (j + 1)) s))) (d := d - 1 - 1) hB hP (R5.tk a1) hQ5 (fun _ h => ⟨hm 0 h, by
        rw [(s2y 0 h).2.1]
        have q1 : SQ P (j + 2) (q_nt (decide (¬ q_ax V T ct (j + 1) < T 0 0)) 4 (P (j + 1)) s) := SQ.nt (hsq.mono (show j ≤ j + 1 by omega)) (Nat.le_refl _)
        have q2 : SQ P (j + 3) (q_nt (decide (¬ q_ax V T ct (j + 2) < T 0 0)) 4 (P (j + 2)) (q_nt (decide (¬ q_ax V T ct (j + 1) < T 0 0)) 4 (P (j + 1)) s)) := SQ.nt q1 (Nat.le_refl _)
        intro _ hs
        unfold q_nt at hs ⊢
        by_cases hcc : (if (if s.1 = 0 ∧ decide (¬ q_ax V T ct (j + 1) < T 0 0) = true then (4, P (j + 1)) else s).1 = 0 ∧ decide (¬ q_ax V T ct (j + 2) < T 0 0) = true then (4, P (j + 2)) else if s.1 = 0 ∧ decide (¬ q_ax V T ct (j + 1) < T 0 0) = true then (4, P (j + 1)) else s).1 = 0 ∧ decide (q_ax V T ct (j + 1) = q_ax V T ct (j + 2)) = true
        · rw [if_pos hcc]; exact ⟨j + 2, by omega, rfl⟩
        · rw [if_neg hcc] at hs ⊢; exact q2 0 hs⟩) (by omega) t 1 9 (by omega) (by omega)
      have h2' : MQr Y6 K P (q_sk K 259 (q_sk K 258 (q_sk K 258 (0, j + 1)))).1 (q_sk K 259 (q_sk K 258 (q_sk K 258 (0, j + 1)))).2 := h2
      have R6 : KR Y (x_u Y6 72 0 (10 * v + T 1 0) rc) := (R5.trans (KR.s h3)).trans (KR.u (by omega))
      obtain ⟨Y7, i1, i2, i3⟩ := m_must1 (d := d - 1 - 1) hB (R6.tk a1) (h2'.congr (Y' := x_u Y6 72 0 (10 * v + T 1 0) rc) (fun i hi => x_u_ne (by omega))) (by omega) t 59 4 kd59 tm59 (by omega)
      have i2' : MQr Y7 K P (q_sk K 59 (q_sk K 259 (q_sk K 258 (q_sk K 258 (0, j + 1))))).1 (q_sk K 59 (q_sk K 259 (q_sk K 258 (q_sk K 258 (0, j + 1))))).2 := i2
      have R7 : KR Y Y7 := R6.trans (KR.f i3)
      have m70 : mal v 70 (10 * v + T 1 0) := by unfold mal; omega
      have m71 : mal v 71 (10 * v + T 1 0) := by unfold mal; omega
      have m72 : mal v 72 (10 * v + T 1 0) := by unfold mal; omega
      have P7 : KPm v Y Y7 := (((((((e2.pm.trans f3.pm).trans (KPm.u m70)).trans g3.pm).trans (KPm.u m71)).trans hw.ks.pm).trans h3.pm).trans (KPm.u m72)).trans i3.pm
      have y7_19 : Y7 56 0 19 = (v : Int) := by rw [R7 _ _ _ (by omega) (by omega)]; exact a9
      have f0 : ∀ g m i, ¬ (g = 56 ∧ (i = 11 ∨ (13 ≤ i ∧ i ≤ 16))) → ¬ (70 ≤ g ∧ g ≤ 72 ∧ i = 10 * v + T 1 0) → Y7 g m i = Y g m i := fun g m i q1 q2 => by
        rw [i3 _ _ _ (by omega), x_u_ne (by omega), h3 _ _ _ (by omega), hw _ _ _ (by omega), x_u_ne (by omega), g3 _ _ _ (by omega), x_u_ne (by omega), f3 _ _ _ (by omega), e2 _ _ _ (by omega)]
      have y7_69 : Y7 69 0 v = (T 1 0 : Int) := by rw [f0 _ _ _ (by omega) (by omega)]; exact c69
      have h713 := i2'.1
      have h713b := i2'.2.1
      rw [B159_80, h1, Option.bind_some, B159_92, cn_nt (z := ((10 * v + T 1 0 : Nat) : Int)) rfl (by omega), if_pos bk, Int.toNat_natCast, i1, Option.bind_some, B159_98, h713, cn_nt (z := ((q_sk K 59 (q_sk K 259 (q_sk K 258 (q_sk K 258 (0, j + 1))))).1 : Int)) rfl (by omega)]
      by_cases h0 : (q_sk K 59 (q_sk K 259 (q_sk K 258 (q_sk K 258 (0, j + 1))))).1 = 0
      · rw [if_pos (by omega), y7_19, cn_nt (z := (v : Int)) rfl (by omega), if_pos bv, if_pos bv, Int.toNat_natCast, y7_69]
        have z4 := q_sk_y h0
        have z3 := q_sk_y z4.1
        have z2 := s2y 0 z3.1
        obtain ⟨o1, o2⟩ := h4 0 z4.1
        obtain ⟨x1a, x1b⟩ := hra 0 z3.1
        have e3i : (q_sk K 259 (q_sk K 258 (q_sk K 258 (0, j + 1)))).2 = j + 4 := by rw [z3.2.2.2, z2.2.1]
        have e4i : (q_sk K 59 (q_sk K 259 (q_sk K 258 (q_sk K 258 (0, j + 1))))).2 = j + 5 := by rw [z4.2.2.2, e3i]
        have o1' : rc = V (j + 3) := by rw [o1, z2.2.1]
        have o2' : MSo Y6 (s_lan P V T ct j s) := by rw [z2.2.1] at o2; exact o2
        refine ⟨_, rfl, P7.trans (KPm.u (by unfold mal; omega)), i2'.congr (fun i hi => x_u_ne (by omega)), fun _ _ => ?_⟩
        rw [h0, e4i] at i2'
        have t0 : T_lan V T ct j 1 0 = T 1 0 + 1 := tU_eq
        have t1 : ∀ a b, ¬ (a = 1 ∧ b = 0) → ¬ (4 ≤ a ∧ a ≤ 6 ∧ b = T 1 0) → T_lan V T ct j a b = T a b := fun a b h h' => by unfold T_lan; rw [tU_ne h, tU_ne (by omega), tU_ne (by omega), tU_ne (by omega)]
        have cutf : ∀ g m i, ¬ (g = 56 ∧ (i = 11 ∨ (13 ≤ i ∧ i ≤ 16))) → ¬ (70 ≤ g ∧ g ≤ 72 ∧ i = 10 * v + T 1 0) → ¬ (g = 69 ∧ i = v) → (x_u Y7 69 0 v ((T 1 0 : Int) + 1)) g m i = Y g m i := fun g m i q1 q2 q3 => by rw [x_u_ne (by omega), f0 _ _ _ q1 q2]
        refine hJ.step (R7.trans (KR.u (by omega))) (by omega) (i2'.congr (fun i hi => x_u_ne (by omega))) (o2'.k (by rw [x_u_ne (by omega), i3 _ _ _ (by omega), x_u_ne (by omega)]) (by rw [x_u_ne (by omega), i3 _ _ _ (by omega), x_u_ne (by omega)])) ?_ ?_ (fun _ hs => ?_)
        · refine ⟨?_, by rw [x_u_eq, t0]; omega, ?_, ?_⟩
          · rw [cutf _ _ _ (by omega) (by omega) (by omega), t1 _ _ (by omega) (by omega)]; exact a11.1
          · rw [cutf _ _ _ (by omega) (by omega) (by omega), t1 _ _ (by omega) (by omega)]; exact a11.2.2.1
          · rw [cutf _ _ _ (by omega) (by omega) (by omega)]; exact a11.2.2.2
        · rw [t1 _ _ (by omega) (by omega), t1 _ _ (by omega) (by omega)]
          exact a12.k (cutf _ _ _ (by omega) (by omega) (by omega)) (fun i => cutf _ _ _ (by omega) (by omega) (by omega)) (fun i => cutf _ _ _ (by omega) (by omega) (by omega))
        · obtain ⟨w1, w2, w3⟩ := q_nt_0 (by decide) hs
          obtain ⟨w4, w5, w6⟩ := q_nt_0 (by decide) w1
          obtain ⟨w7, w8, w9⟩ := q_nt_0 (by decide) w4
          obtain ⟨w10, w11, w12⟩ := q_nt_0 (by decide) w7
          have w2' := of_decide_eq_false w2
          have w8' := of_decide_eq_false w8
          have w11' := of_decide_eq_false w11
          obtain ⟨x1, x2, x3, x4, x5⟩ := a14 0 w10
          refine ⟨⟨?_, ?_, ?_, ?_⟩, fun c hc => ?_, fun l hl => ?_, fun m hm => ?_, fun c hc => ?_⟩
          · rw [cutf _ _ _ (by omega) (by omega) (by omega), t1 _ _ (by omega) (by omega)]; exact x1.1
          · rw [cutf _ _ _ (by omega) (by omega) (by omega), t1 _ _ (by omega) (by omega)]; exact x1.2.1
          · rw [cutf _ _ _ (by omega) (by omega) (by omega), t1 _ _ (by omega) (by omega)]; exact x1.2.2.1
          · rw [cutf _ _ _ (by omega) (by omega) (by omega), t1 _ _ (by omega) (by omega)]; exact x1.2.2.2
          · rw [t1 _ _ (by omega) (by omega)] at hc
            rw [cutf _ _ _ (by omega) (by omega) (by omega), t1 _ _ (by omega) (by omega)]; exact x2 c hc
          · rw [t0] at hl
            by_cases hl0 : l = T 1 0
            · have u4 : T_lan V T ct j 4 (T 1 0) = q_ax V T ct (j + 1) := by unfold T_lan; rw [tU_ne (by omega), tU_ne (by omega), tU_ne (by omega), tU_eq]
              have u5 : T_lan V T ct j 5 (T 1 0) = q_ax V T ct (j + 2) := by unfold T_lan; rw [tU_ne (by omega), tU_ne (by omega), tU_eq]
              have u6 : T_lan V T ct j 6 (T 1 0) = (V (j + 3)).toNat := by unfold T_lan; rw [tU_ne (by omega), tU_eq]
              rw [hl0, u4, u5, u6]
              refine ⟨?_, ?_, ?_⟩
              · rw [x_u_ne (by omega), i3 _ _ _ (by omega), x_u_ne (by omega), h3 _ _ _ (by omega), hw _ _ _ (by omega), x_u_ne (by omega), z70, x1a, if_pos (by omega)]
              · rw [x_u_ne (by omega), i3 _ _ _ (by omega), x_u_ne (by omega), h3 _ _ _ (by omega), hw _ _ _ (by omega), x_u_eq, x1b, if_pos (by omega)]
              · rw [x_u_ne (by omega), i3 _ _ _ (by omega), x_u_eq, o1']; omega
            · rw [cutf _ _ _ (by omega) (by omega) (by omega), cutf _ _ _ (by omega) (by omega) (by omega), cutf _ _ _ (by omega) (by omega) (by omega), t1 _ _ (by omega) (by omega), t1 _ _ (by omega) (by omega), t1 _ _ (by omega) (by omega)]; exact x3 l (by omega)
          · rw [t1 _ _ (by omega) (by omega)] at hm
            rw [cutf _ _ _ (by omega) (by omega) (by omega), cutf _ _ _ (by omega) (by omega) (by omega), t1 _ _ (by omega) (by omega), t1 _ _ (by omega) (by omega)]; exact x4 m hm
          · rw [cutf _ _ _ (by omega) (by omega) (by omega), t1 _ _ (by omega) (by omega)]; exact x5 c hc
      · rw [if_neg (by omega)]
        exact ⟨Y7, rfl, P7, i2', fun _ h => absurd h h0⟩
    have y1_19 : Y1 56 0 19 = (v : Int) := by rw [R1 _ _ _ (by omega) (by omega)]; exact a9
    have y1_69 : Y1 69 0 v = (T 1 0 : Int) := by rw [e2 _ _ _ (by omega)]; exact c69
    have idx : (10 : Int) * (v : Int) + (T 1 0 : Int) = ((10 * v + T 1 0 : Nat) : Int) := by omega
    have h313 := g2'.1
    have h313b := g2'.2.1
    have lane : ∃ Y' : XZ, x_CALL (d - 1) 159 [.inr (.inr (some (56, 0)))] (x_S Y1 t) = some (0, x_S Y' t) ∧ KPm v Y Y' ∧ MQr Y' K P (q_sk K 59 (q_sk K 259 (q_sk K 258 (q_sk K 258 (0, j + 1))))).1 (q_sk K 59 (q_sk K 259 (q_sk K 258 (q_sk K 258 (0, j + 1))))).2 ∧ ∀ _ : Nat, (q_sk K 59 (q_sk K 259 (q_sk K 258 (q_sk K 258 (0, j + 1))))).1 = 0 → JM Y' K P V Nm v (j + 5) b cl np (s_lan P V T ct j s) (T_lan V T ct j) ct st G := by
      rw [C159 _ _ _ (by omega), y1_19, cn_nt (z := (v : Int)) rfl (by omega), if_pos bv, Int.toNat_natCast, y1_69, idx, f1, Option.bind_some, B159_27, cn_nt (z := ((10 * v + T 1 0 : Nat) : Int)) rfl (by omega), if_pos bk, Int.toNat_natCast, g1, Option.bind_some, B159_42, cn_nt (z := ((10 * v + T 1 0 : Nat) : Int)) rfl (by omega), if_pos bk, if_pos bk, if_pos bk, if_pos bk, Int.toNat_natCast, h313, cn_nt (z := ((q_sk K 258 (q_sk K 258 (0, j + 1))).1 : Int)) rfl (by omega), z70, x_u_eq]
      by_cases h0 : (q_sk K 258 (q_sk K 258 (0, j + 1))).1 = 0
      · obtain ⟨x1a, x1b⟩ := hra 0 h0
        have z1 := s1y 0 (s2y 0 h0).1
        have z2 := s2y 0 h0
        have tok2 : Y2 56 0 11 = ((j + 2 : Nat) : Int) := by
          have := f2.2.2.1 (s2y 0 h0).1
          rw [this.1, z1.1]
        have hQ4' : MQr (x_u Y3 71 0 (10 * v + T 1 0) rb) K P 0 (q_sk K 258 (q_sk K 258 (0, j + 1))).2 := by rw [h0] at hQ4; exact hQ4
        rw [if_pos (by omega), tok2]
        dsimp only
        rw [x1a, x1b]
        rw [x1b] at fin hQ4' hS4 R4
        by_cases hxa : q_ax V T ct (j + 1) < T 0 0
        · rw [if_pos hxa, cn_nt (z := (q_ax V T ct (j + 1) : Int)) rfl (by omega), if_neg (by omega)]
          have cb : cn (if q_ax V T ct (j + 2) < T 0 0 then (q_ax V T ct (j + 2) : Int) else -1) = (if q_ax V T ct (j + 2) < T 0 0 then (q_ax V T ct (j + 2) : Int) else -1) := cn_id (by split <;> omega) (by split <;> omega)
          rw [cb]
          clear cb
          by_cases heq : q_ax V T ct (j + 1) = q_ax V T ct (j + 2)
          · have hz : (q_ax V T ct (j + 1) : Int) = (if q_ax V T ct (j + 2) < T 0 0 then (q_ax V T ct (j + 2) : Int) else -1) := by rw [if_pos (by omega)]; omega
            have ns1 : q_nt (decide (¬ q_ax V T ct (j + 1) < T 0 0)) 4 (P (j + 1)) s = s := by rw [decide_eq_false (fun e => e hxa), q_nt_f]
            have ns2 : q_nt (decide (¬ q_ax V T ct (j + 2) < T 0 0)) 4 (P (j + 2)) s = s := by rw [decide_eq_false (fun e => e (by omega)), q_nt_f]
            have hS4' := hS4 0 h0
            rw [ns1, ns2] at hS4'
            obtain ⟨Y5, u1, u2, u3⟩ := m_wr (tok := j + 2) (d := d - 1 - 1) hP (R4.tk a1) hQ4' hS4' (by omega) (r3.trans ((LK.one (by omega)).trans (LK.one (by omega)))) (by omega) t 3 3 ((j + 2 : Nat) : Int) rfl rfl (by omega) (fun _ hs => .inl (by
              obtain ⟨q, qa, qb⟩ := hsq 0 hs
              exact ⟨q, by omega, qb⟩))
            rw [if_pos hz, u1, Option.bind_some]
            exact fin Y5 _ u3 (fun _ _ => by rw [ns1, ns2, decide_eq_true heq]; exact u2)
          · have hz : ¬ (q_ax V T ct (j + 1) : Int) = (if q_ax V T ct (j + 2) < T 0 0 then (q_ax V T ct (j + 2) : Int) else -1) := by split <;> omega
            rw [if_neg hz]
            exact fin _ _ KW.rfl' (fun _ h => by rw [decide_eq_false heq, q_nt_f]; exact hS4 0 h)
        · rw [if_neg hxa, if_pos (show cn (-1) < 0 by decide)]
          refine fin _ _ KW.rfl' (fun _ h => ?_)
          have hne : ∀ (c c' : Bool) (f f' : Nat) (p p' : Int) (x : Nat × Int), x.1 ≠ 0 → q_nt c f p (q_nt c' f' p' x) = q_nt c' f' p' x := fun c c' f f' p p' x hx => by
            unfold q_nt; rw [if_neg (fun e : x.1 = 0 ∧ c' = true => hx e.1), if_neg (fun e : x.1 = 0 ∧ c = true => hx e.1)]
          have h1 : (q_nt (decide (¬ q_ax V T ct (j + 1) < T 0 0)) 4 (P (j + 1)) s).1 ≠ 0 := by
            unfold q_nt
            by_cases hs : s.1 = 0
            · rw [if_pos ⟨hs, decide_eq_true hxa⟩]; exact (by decide : (4 : Nat) ≠ 0)
            · rw [if_neg (fun e => hs e.1)]; exact hs
          rw [hne _ _ _ _ _ _ _ h1]; exact hS4 0 h
      · rw [if_neg (by omega)]
        exact fin _ _ KW.rfl' (fun _ h => absurd h h0)
    obtain ⟨Y9, l1, l2, l3, l4⟩ := lane
    rw [B154_181, i13, if_pos cn_0, l1, Option.bind_some, B154_192, B154_467, hq]
    exact ⟨Y9, rfl, l2, l3, l4⟩
