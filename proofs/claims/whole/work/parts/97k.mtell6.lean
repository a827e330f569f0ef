/-! tells: the model reads seekers, laws -/
theorem m_tseeker {Y : XZ} {K P V Nm : Nat → Int} {v t j b np d : Nat} {cl : CL} {s : Nat × Int} {T : PT} {ct st : Nat → Nat} {G : Nat → Option (BL × CL)} (hB : KB K V) (hP : PMo K P) (hNV : NV K V Nm) (hv : v < 2) (hJ : JM Y K P V Nm v j b cl np s T ct st G) (hp : JPu K P j np s T ct st) (hK : K j = 264) (hd : 6 ≤ d) : ∃ Y' : XZ, x_CALL d 154 [.inr (.inr (some (56, 0)))] (x_S Y t) = some (0, x_S Y' t) ∧ KPm v Y Y' ∧ MQr Y' K P (q_rm K (T 2 0) 5 k_see j).1 (q_rm K (T 2 0) 5 k_see j).2 ∧ ∀ _ : Nat, (q_rm K (T 2 0) 5 k_see j).1 = 0 → JM Y' K P V Nm v (j + 5) b cl np (s_see P V T ct st j s) (T_see V T ct j) ct (q_ext st (T 2 0) (j + 1)) G := by
  obtain ⟨a1, a2, a3, a4, a5, a6, a7, a8, a9, a10, a11, a12, a13, a14⟩ := hJ
  have hJ : JM Y K P V Nm v j b cl np s T ct st G := ⟨a1, a2, a3, a4, a5, a6, a7, a8, a9, a10, a11, a12, a13, a14⟩
  have hsq := hp.sq
  obtain ⟨p1, p2, p3, p4, p5, p6, p7, p8⟩ := hp
  obtain ⟨r1, r2, r3⟩ := a2.2.2.1 rfl
  have k1 := (a1 j r2 r3).1
  rw [hK, tm264] at k1
  have c74 := a11.2.2.1
  have bv : 0 ≤ (v : Int) ∧ (v : Int) < 2 := by omega
  have open_ : x_CALL d 154 [.inr (.inr (some (56, 0)))] (x_S Y t) = ((x_CALL (d - 1) 152 [.inr (.inr (some (56, 0))), .inl ((T 2 0 : Int)), .inl 5] (x_S Y t)).bind fun q => x_EX (d - 1) 154 263 [some (.inr (.inr (some (56, 0)))), none] [] q.2) := by
    rw [C154 _ _ _ (by omega), r1, cn_nt (z := (j : Int)) rfl (by omega), if_pos (by omega), Int.toNat_natCast, k1, if_neg (by decide), if_neg (by decide), if_neg (by decide), if_neg (by decide), if_pos (by decide), a9, cn_nt (z := (v : Int)) rfl (by omega), if_pos bv, Int.toNat_natCast, c74]
  obtain ⟨Y1, e1, e2, e3⟩ := m_room (has := T 2 0) (most := 5) (d := d - 1) a1 a2 p3 (by omega) (by omega) (by omega) t 5 rfl
  rw [open_, e1, Option.bind_some]
  by_cases hr : 5 ≤ T 2 0 ∨ ¬ j < 400
  · have hs0 : (if 5 ≤ T 2 0 then (2, j) else q_go (0, j)) = (2, j) := by
      by_cases h' : 5 ≤ T 2 0
      · rw [if_pos h']
      · rw [if_neg h']; unfold q_go; rw [if_pos rfl, if_neg (by omega)]
    rw [hs0] at e3
    have i13 : Y1 56 0 13 = 2 := e3.1
    have hq : q_rm K (T 2 0) 5 k_see j = (2, j) := q_ro_r hK hr
    rw [B154_263, i13, if_pos (by decide), hq]
    exact ⟨Y1, rfl, e2.pm, e3, fun _ h => absurd h (by simp)⟩
  · have hj : j < 400 := by omega
    have hs0 : (if 5 ≤ T 2 0 then (2, j) else q_go (0, j)) = (0, j + 1) := by
      rw [if_neg (by omega)]; unfold q_go; rw [if_pos rfl, if_pos hj]
    rw [hs0] at e3
    have e3' : MQr Y1 K P 0 (j + 1) := e3
    have i13 : Y1 56 0 13 = 0 := e3'.1
    have hq : q_rm K (T 2 0) 5 k_see j = q_sk K 59 (q_sk K 258 (q_sk K 259 (q_sk K 258 (0, j + 1)))) := q_ro_y (k := 264) (ks := [258, 259, 258, 59]) hK (by omega) hj
    have R1 : KR Y Y1 := KR.f e2
    have hT1 := R1.tk a1
    obtain ⟨Y2, f1, f2, f3, f4⟩ := m_named (T := T) (ct := ct) (st := st) (d := d - 1) hB hP hNV hT1 e3' (a10.kf e2) (hsq.mono (by omega)) (a12.k (e2 _ _ _ (by omega)) (fun i => e2 _ _ _ (by omega)) (fun i => e2 _ _ _ (by omega))) p1 p3 (fun i hi => ⟨by have := (p5 i hi).1; omega, (p5 i hi).2⟩) (fun i hi => ⟨by have := (p6 i hi).1; omega, (p6 i hi).2⟩) (by omega) t
    have R2 : KR Y Y2 := R1.trans (KR.s f3)
    have P2 : KPm v Y Y2 := e2.pm.trans f3.pm
    have hT2 := R2.tk a1
    have s1y : ∀ _ : Nat, (q_sk K 258 (0, j + 1)).1 = 0 → (q_sk K 258 (0, j + 1)).2 = j + 2 ∧ K (j + 1) = 258 ∧ j + 1 < 400 := fun _ h => ⟨(q_sk_y h).2.2.2, (q_sk_y h).2.1, (q_sk_y h).2.2.1⟩
    have q1 : SQ P (j + 2) (q_nt (q_dup V T ct st (j + 1)) 3 (P (j + 1)) s) := SQ.nt (hsq.mono (show j ≤ j + 1 by omega)) (Nat.le_refl _)
    obtain ⟨r, Y3, g1, g2, g3, g4⟩ := m_bnd (s := q_nt (q_dup V T ct st (j + 1)) 3 (P (j + 1)) s) (d := d - 1) hB hP hT2 f2 (fun _ h => ⟨f4 0 h, by rw [(s1y 0 h).1]; exact q1⟩) (by omega) t 0 9 (by omega) (by omega)
    have g2' : MQr Y3 K P (q_sk K 259 (q_sk K 258 (0, j + 1))).1 (q_sk K 259 (q_sk K 258 (0, j + 1))).2 := g2
    have s2y : ∀ _ : Nat, (q_sk K 259 (q_sk K 258 (0, j + 1))).1 = 0 → (q_sk K 258 (0, j + 1)).1 = 0 ∧ (q_sk K 259 (q_sk K 258 (0, j + 1))).2 = j + 3 := fun _ h => by
      have z := q_sk_y h
      have z1 := s1y 0 z.1
      exact ⟨z.1, by rw [z.2.2.2, z1.1]⟩
    have R3 : KR Y Y3 := R2.trans (KR.s g3)
    have P3 : KPm v Y Y3 := P2.trans g3.pm
    have y2_19 : Y2 56 0 19 = (v : Int) := by rw [R2 _ _ _ (by omega) (by omega)]; exact a9
    have y2_74 : Y2 74 0 v = (T 2 0 : Int) := by rw [f3 _ _ _ (by omega), e2 _ _ _ (by omega)]; exact c74
    have y3_19 : Y3 56 0 19 = (v : Int) := by rw [R3 _ _ _ (by omega) (by omega)]; exact a9
    have y3_74 : Y3 74 0 v = (T 2 0 : Int) := by rw [g3 _ _ _ (by omega)]; exact y2_74
    have P4 : KPm v Y (x_u Y3 75 0 (5 * v + T 2 0) r) := P3.trans (KPm.u (by unfold mal; omega))
    have R4 : KR Y (x_u Y3 75 0 (5 * v + T 2 0) r) := R3.trans (KR.u (by omega))
    have hQ4 : MQr (x_u Y3 75 0 (5 * v + T 2 0) r) K P (q_sk K 259 (q_sk K 258 (0, j + 1))).1 (q_sk K 259 (q_sk K 258 (0, j + 1))).2 := g2'.congr (fun i hi => x_u_ne (by omega))
    have q2 : SQ P (j + 3) (q_nt (decide (V (j + 2) < 0 ∨ 9 < V (j + 2))) 5 (P (j + 2)) (q_nt (q_dup V T ct st (j + 1)) 3 (P (j + 1)) s)) := SQ.nt q1 (Nat.le_refl _)
    obtain ⟨r', Y5, h1, h2, h3, h4⟩ := m_known (s := q_nt (decide (V (j + 2) < 0 ∨ 9 < V (j + 2))) 5 (P (j + 2)) (q_nt (q_dup V T ct st (j + 1)) 3 (P (j + 1)) s)) (T := T) (ct := ct) (st := st) (j0 := j) (d := d - 1) hB hP hNV (R4.tk a1) hQ4 (fun _ h => ⟨by
      have := (g4 0 h).2
      rw [(s1y 0 (s2y 0 h).1).1] at this
      exact this.k (x_u_ne (by omega)) (x_u_ne (by omega)), by rw [(s2y 0 h).2]; exact q2⟩) (a12.k (by rw [x_u_ne (by omega), g3 _ _ _ (by omega), f3 _ _ _ (by omega), e2 _ _ _ (by omega)]) (fun i => by rw [x_u_ne (by omega), g3 _ _ _ (by omega), f3 _ _ _ (by omega), e2 _ _ _ (by omega)]) (fun i => by rw [x_u_ne (by omega), g3 _ _ _ (by omega), f3 _ _ _ (by omega), e2 _ _ _ (by omega)])) p1 p3 p5 p6 (by omega) t
    have h2' : MQr Y5 K P (q_sk K 258 (q_sk K 259 (q_sk K 258 (0, j + 1)))).1 (q_sk K 258 (q_sk K 259 (q_sk K 258 (0, j + 1)))).2 := h2
    have R5 : KR Y (x_u Y5 76 0 (5 * v + T 2 0) r') := (R4.trans (KR.s h3)).trans (KR.u (by omega))
    have P5 : KPm v Y (x_u Y5 76 0 (5 * v + T 2 0) r') := (P4.trans h3.pm).trans (KPm.u (by unfold mal; omega))
    have y5_20 : (x_u Y5 76 0 (5 * v + T 2 0) r') 56 0 20 = ((T 0 0 + T 2 0 : Nat) : Int) := by rw [x_u_ne (by omega), h3 _ _ _ (by omega), x_u_ne (by omega), g3 _ _ _ (by omega), f3 _ _ _ (by omega), e2 _ _ _ (by omega)]; exact a12.1
    obtain ⟨Y6, i1, i2, i3, i4⟩ := m_ends (s := q_sk K 258 (q_sk K 259 (q_sk K 258 (0, j + 1)))) (tok := j + 1) (nn := T 0 0 + T 2 0) (d := d - 1) hB (R5.tk a1) (h2'.congr (fun i hi => x_u_ne (by omega))) y5_20 (by omega) (by omega) (fun _ h => ⟨r3.trans (LK.one (by omega)), (s1y 0 (s2y 0 (q_sk_y h).1).1).2.1⟩) (by omega) t 10
    have R6 : KR Y Y6 := R5.trans (KR.e i3)
    have P6 : KPm v Y Y6 := P5.trans i3.pm
    have y6_19 : Y6 56 0 19 = (v : Int) := by rw [R6 _ _ _ (by omega) (by omega)]; exact a9
    have cutf : ∀ g m i, ¬ (g = 56 ∧ (i = 11 ∨ (13 ≤ i ∧ i ≤ 16) ∨ i = 20)) → g ≠ 64 → g ≠ 65 → ¬ (75 ≤ g ∧ g ≤ 76 ∧ i = 5 * v + T 2 0) → Y6 g m i = Y g m i := fun g m i q1 q2 q3 q4 => by
      rw [i3 _ _ _ (by omega) q2 q3, x_u_ne (by omega), h3 _ _ _ (by omega), x_u_ne (by omega), g3 _ _ _ (by omega), f3 _ _ _ (by omega), e2 _ _ _ (by omega)]
    have y6_74 : Y6 74 0 v = (T 2 0 : Int) := by rw [cutf _ _ _ (by omega) (by omega) (by omega) (by omega)]; exact c74
    have h613 := i2.1
    have h613b := i2.2.1
    rw [B154_263, i13, if_neg (by decide), f1, Option.bind_some, B154_275, y2_19, cn_nt (z := (v : Int)) rfl (by omega), if_pos bv, Int.toNat_natCast, y2_74, g1, Option.bind_some, B154_303, cn_nt (z := 5 * (v : Int) + (T 2 0 : Int)) (n := 5 * v + T 2 0) (by omega) (by omega), if_pos (by omega), y3_19, cn_nt (z := (v : Int)) rfl (by omega), if_pos bv, Int.toNat_natCast, Int.toNat_natCast, y3_74, h1, Option.bind_some, B154_328, cn_nt (z := 5 * (v : Int) + (T 2 0 : Int)) (n := 5 * v + T 2 0) (by omega) (by omega), if_pos (by omega), Int.toNat_natCast, i1, Option.bind_some, B154_336, h613, cn_nt (z := ((q_sk K 59 (q_sk K 258 (q_sk K 259 (q_sk K 258 (0, j + 1))))).1 : Int)) rfl (by omega), hq]
    by_cases h0 : (q_sk K 59 (q_sk K 258 (q_sk K 259 (q_sk K 258 (0, j + 1))))).1 = 0
    · rw [if_pos (by omega), y6_19, cn_nt (z := (v : Int)) rfl (by omega), if_pos bv, if_pos bv, Int.toNat_natCast, y6_74, B154_467]
      have z4 := q_sk_y h0
      have z3 := q_sk_y z4.1
      have z2 := s2y 0 z3.1
      have z1 := s1y 0 z2.1
      obtain ⟨m1, m2, m3, m4⟩ := i4 0 h0
      obtain ⟨o1, o2⟩ := g4 0 z3.1
      obtain ⟨o3, o4⟩ := h4 0 z4.1
      have e3i : (q_sk K 258 (q_sk K 259 (q_sk K 258 (0, j + 1)))).2 = j + 4 := by rw [z3.2.2.2, z2.2]
      have e4i : (q_sk K 59 (q_sk K 258 (q_sk K 259 (q_sk K 258 (0, j + 1))))).2 = j + 5 := by rw [z4.2.2.2, e3i]
      have o1' : r = V (j + 2) := by rw [o1, z1.1]
      have o3' : r' = (if q_ax V T ct (j + 3) < T 0 0 then (q_ax V T ct (j + 3) : Int) else -1) := by rw [o3, z2.2]
      have o4' : MSo Y5 (s_see P V T ct st j s) := by rw [z2.2] at o4; exact o4
      have i2o := i2
      rw [h0, e4i] at i2
      refine ⟨_, rfl, P6.trans (KPm.u (by unfold mal; omega)), i2o.congr (fun i hi => x_u_ne (by omega)), fun _ _ => ?_⟩
      have t0 : T_see V T ct j 2 0 = T 2 0 + 1 := tU_eq
      have t1 : ∀ a b, ¬ (a = 2 ∧ b = 0) → ¬ (7 ≤ a ∧ a ≤ 8 ∧ b = T 2 0) → T_see V T ct j a b = T a b := fun a b h h' => by unfold T_see; rw [tU_ne h, tU_ne (by omega), tU_ne (by omega)]
      refine hJ.step (R6.trans (KR.u (by omega))) (by omega) (i2.congr (fun i hi => x_u_ne (by omega))) (o4'.k (by rw [x_u_ne (by omega), i3 _ _ _ (by omega) (by omega) (by omega), x_u_ne (by omega)]) (by rw [x_u_ne (by omega), i3 _ _ _ (by omega) (by omega) (by omega), x_u_ne (by omega)])) ?_ ?_ (fun _ hs => ?_)
      · refine ⟨?_, ?_, by rw [x_u_eq, t0]; omega, ?_⟩
        · rw [x_u_ne (by omega), cutf _ _ _ (by omega) (by omega) (by omega) (by omega), t1 _ _ (by omega) (by omega)]; exact a11.1
        · rw [x_u_ne (by omega), cutf _ _ _ (by omega) (by omega) (by omega) (by omega), t1 _ _ (by omega) (by omega)]; exact a11.2.1
        · rw [x_u_ne (by omega), cutf _ _ _ (by omega) (by omega) (by omega) (by omega)]; exact a11.2.2.2
      · rw [t0, t1 0 0 (by omega) (by omega)]
        refine a12.seeker (by rw [x_u_ne (by omega)]; exact m1) (by rw [x_u_ne (by omega)]; exact m2) (by rw [x_u_ne (by omega)]; exact m3) (fun i hi => ?_)
        rw [x_u_ne (by omega), x_u_ne (by omega), (m4 i hi).1, (m4 i hi).2, x_u_ne (by omega), x_u_ne (by omega), h3 _ _ _ (by omega), h3 _ _ _ (by omega), x_u_ne (by omega), x_u_ne (by omega), g3 _ _ _ (by omega), g3 _ _ _ (by omega), f3 _ _ _ (by omega), f3 _ _ _ (by omega), e2 _ _ _ (by omega), e2 _ _ _ (by omega)]; exact ⟨rfl, rfl⟩
      · obtain ⟨w1, w2, w3⟩ := q_nt_0 (by decide) hs
        obtain ⟨w4, w5, w6⟩ := q_nt_0 (by decide) w1
        obtain ⟨w7, w8, w9⟩ := q_nt_0 (by decide) w4
        have w2' := of_decide_eq_false w2
        have w5' := of_decide_eq_false w5
        obtain ⟨x1, x2, x3, x4, x5⟩ := a14 0 w7
        have fr : ∀ g i, 66 ≤ g → g ≤ 80 → ¬ (75 ≤ g ∧ g ≤ 76 ∧ i = 5 * v + T 2 0) → ¬ (g = 74) → (x_u Y6 74 0 v ((T 2 0 : Int) + 1)) g 0 i = Y g 0 i := fun g i q1 q2 q3 q4 => by rw [x_u_ne (by omega), cutf _ _ _ (by omega) (by omega) (by omega) q3]
        refine ⟨⟨?_, ?_, ?_, ?_⟩, fun c hc => ?_, fun l hl => ?_, fun m hm => ?_, fun c hc => ?_⟩
        · rw [fr _ _ (by omega) (by omega) (by omega) (by omega), t1 _ _ (by omega) (by omega)]; exact x1.1
        · rw [fr _ _ (by omega) (by omega) (by omega) (by omega), t1 _ _ (by omega) (by omega)]; exact x1.2.1
        · rw [fr _ _ (by omega) (by omega) (by omega) (by omega), t1 _ _ (by omega) (by omega)]; exact x1.2.2.1
        · rw [fr _ _ (by omega) (by omega) (by omega) (by omega), t1 _ _ (by omega) (by omega)]; exact x1.2.2.2
        · rw [t1 _ _ (by omega) (by omega)] at hc
          rw [fr _ _ (by omega) (by omega) (by omega) (by omega), t1 _ _ (by omega) (by omega)]; exact x2 c hc
        · rw [t1 _ _ (by omega) (by omega)] at hl
          rw [fr _ _ (by omega) (by omega) (by omega) (by omega), fr _ _ (by omega) (by omega) (by omega) (by omega), fr _ _ (by omega) (by omega) (by omega) (by omega), t1 _ _ (by omega) (by omega), t1 _ _ (by omega) (by omega), t1 _ _ (by omega) (by omega)]; exact x3 l hl
        · rw [t0] at hm
          by_cases hm0 : m = T 2 0
          · have u7 : T_see V T ct j 7 (T 2 0) = (V (j + 2)).toNat := by unfold T_see; rw [tU_ne (by omega), tU_ne (by omega), tU_eq]
            have u8 : T_see V T ct j 8 (T 2 0) = q_ax V T ct (j + 3) := by unfold T_see; rw [tU_ne (by omega), tU_eq]
            rw [hm0, u7, u8]
            refine ⟨?_, ?_⟩
            · rw [x_u_ne (by omega), i3 _ _ _ (by omega) (by omega) (by omega), x_u_ne (by omega), h3 _ _ _ (by omega), x_u_eq, o1']; omega
            · rw [x_u_ne (by omega), i3 _ _ _ (by omega) (by omega) (by omega), x_u_eq, o3', if_pos (by omega)]
          · rw [fr _ _ (by omega) (by omega) (by omega) (by omega), fr _ _ (by omega) (by omega) (by omega) (by omega), t1 _ _ (by omega) (by omega), t1 _ _ (by omega) (by omega)]; exact x4 m (by omega)
        · rw [fr _ _ (by omega) (by omega) (by omega) (by omega), t1 _ _ (by omega) (by omega)]; exact x5 c hc
    · rw [if_neg (by omega), B154_467]
      exact ⟨Y6, rfl, P6, i2, fun _ h => absurd h h0⟩
theorem m_tlaw {Y : XZ} {K P V Nm : Nat → Int} {v t j b np d k : Nat} {cl : CL} {s : Nat × Int} {T : PT} {ct st : Nat → Nat} {G : Nat → Option (BL × CL)} (hB : KB K V) (hv : v < 2) (hk4 : k < 4) (hJ : JM Y K P V Nm v j b cl np s T ct st G) (hK : K j = 265 + (k : Int)) (hd : 8 ≤ d) : ∃ Y' : XZ, x_CALL d 154 [.inr (.inr (some (56, 0)))] (x_S Y t) = some (0, x_S Y' t) ∧ KPm v Y Y' ∧ MQr Y' K P (q_law K V k j).1 (q_law K V k j).2.1 ∧ ∀ _ : Nat, (q_law K V k j).1 = 0 → ∃ b' cl', JM Y' K P V Nm v (q_law K V k j).2.1 b' cl' np s T ct st (G_law K V G k j) := by
  obtain ⟨a1, a2, a3, a4, a5, a6, a7, a8, a9, a10, a11, a12, a13, a14⟩ := hJ
  obtain ⟨r1, r2, r3⟩ := a2.2.2.1 rfl
  have k1 := (a1 j r2 r3).1
  have h13 : Y 56 0 13 = 0 := a2.1
  have open_ : x_CALL d 154 [.inr (.inr (some (56, 0)))] (x_S Y t) = x_EX (d - 1) 154 450 [some (.inr (.inr (some (56, 0)))), some (.inl ((k : Int)))] [] (x_S Y t) := by
    have tk : Y 59 0 j = 25 + (k : Int) := by
      rw [k1, hK]; unfold t_m
      rw [if_neg (by omega), if_neg (by omega), if_neg (by omega), if_neg (by omega), if_pos (by omega)]; omega
    have hk3 : k = 0 ∨ k = 1 ∨ k = 2 ∨ k = 3 := by omega
    have bj : 0 ≤ (j : Int) ∧ (j : Int) < 403 := by omega
    rcases hk3 with h | h | h | h
    · subst h
      have tk' : Y 59 0 j = 25 := tk
      rw [C154 _ _ _ (by omega), r1, cn_nt (z := (j : Int)) rfl (by omega), if_pos bj, Int.toNat_natCast, tk', if_neg (by decide), if_neg (by decide), if_neg (by decide), if_neg (by decide), if_neg (by decide), if_pos (by decide), if_pos bj, if_neg (by decide), if_pos bj, if_neg (by decide)]
      rfl
    · subst h
      have tk' : Y 59 0 j = 26 := tk
      rw [C154 _ _ _ (by omega), r1, cn_nt (z := (j : Int)) rfl (by omega), if_pos bj, Int.toNat_natCast, tk', if_neg (by decide), if_neg (by decide), if_neg (by decide), if_neg (by decide), if_neg (by decide), if_neg (by decide), if_pos (by decide), if_pos bj, if_neg (by decide), if_pos bj, if_neg (by decide)]
      rfl
    · subst h
      have tk' : Y 59 0 j = 27 := tk
      rw [C154 _ _ _ (by omega), r1, cn_nt (z := (j : Int)) rfl (by omega), if_pos bj, Int.toNat_natCast, tk', if_neg (by decide), if_neg (by decide), if_neg (by decide), if_neg (by decide), if_neg (by decide), if_neg (by decide), if_neg (by decide), if_pos (by decide), if_pos bj, if_neg (by decide), if_pos bj, if_neg (by decide)]
      rfl
    · subst h
      have tk' : Y 59 0 j = 28 := tk
      rw [C154 _ _ _ (by omega), r1, cn_nt (z := (j : Int)) rfl (by omega), if_pos bj, Int.toNat_natCast, tk', if_neg (by decide), if_neg (by decide), if_neg (by decide), if_neg (by decide), if_neg (by decide), if_neg (by decide), if_neg (by decide), if_neg (by decide), if_pos (by decide), if_pos bj, if_neg (by decide), if_pos bj, if_neg (by decide)]
      rfl
  obtain ⟨Y1, e1, e3, e2⟩ := m_goes1 (d := d - 1) a1 a2 (fun _ => by omega) (by omega) t
  rw [← q_sk0 hK] at e3
  have hT1 := e2.tk a1
  obtain ⟨Y2, f1, f2, f3⟩ := m_must1 (d := d - 1 - 1) hB hT1 e3 (by omega) t 61 5 kd61 tm61 (by omega)
  have f2' : MQr Y2 K P (q_sk K 61 (q_sk K (265 + (k : Int)) (0, j))).1 (q_sk K 61 (q_sk K (265 + (k : Int)) (0, j))).2 := f2
  have kk : KF Y Y2 := e2.trans f3
  have hT2 := f3.tk hT1
  have hq : q_tk K (k_law k) j = q_sk K 61 (q_sk K (265 + (k : Int)) (0, j)) := (q_th_tk [265 + (k : Int), 61] j).symm
  have b40 : Y2 56 0 40 = (b : Int) := by rw [kk _ _ _ (by omega)]; exact a6
  have y19 : Y2 56 0 19 = (v : Int) := by rw [kk _ _ _ (by omega)]; exact a9
  have h213 := f2'.1
  have h213b := f2'.2.1
  rw [open_, B154_450, h13, if_neg (by decide), e1, Option.bind_some, B154_462, C161 _ _ _ _ (by omega), f1, Option.bind_some, B161_5, b40]
  unfold G_law
  by_cases h0 : (q_sk K 61 (q_sk K (265 + (k : Int)) (0, j))).1 = 0
  · have z2 := q_sk_y h0
    have z1 := q_sk_y z2.1
    have z1' : (q_sk K (265 + (k : Int)) (0, j)).2 = j + 1 := z1.2.2.2
    have e2i : (q_sk K 61 (q_sk K (265 + (k : Int)) (0, j))).2 = j + 2 := by rw [z2.2.2.2, z1']
    have hql : q_law K V k j = l_T K V 4 (j + 2) := if_pos (by rw [hq]; exact h0)
    rw [h0, e2i] at f2'
    obtain ⟨Y3, g1, g2, g3, g4⟩ := m_lawp (Nm := Nm) (t := t) (d := d - 1 - 1) (v := v) (k := k) (first := b) hB (by omega) hv hk4 4 (by omega) Y2 (j + 2) b cl hT2 f2' (by rw [kk _ _ _ (by omega)]; exact a3) (a4.kf kk) (by omega) b40 a7 (by omega) y19
    rw [hql]
    have g1' : x_EX (d - 1 - 1) 161 12 [some (.inr (.inr (some (56, 0)))), some (.inl ((k : Int))), some (.inl ((b : Int))), some (.inl 0)] [] (x_S Y2 t) = some (0, x_S Y3 t) := g1
    rw [g1', Option.bind_some, B154_467]
    refine ⟨Y3, rfl, kk.pm.trans g2.pm, g3, fun _ h => ?_⟩
    obtain ⟨b', c, B1, B2, B3, B4, B5, B6, B7, B8, B9, B10, B12, B11⟩ := g4 h
    rw [h] at g3
    obtain ⟨i1, i2, i3, i4⟩ := l_T_G hB 4 (j + 2) (by have := f2'.2.2.1 rfl; omega) h
    have KK : KLm v Y Y3 := kk.kl.trans g2
    refine ⟨b', cl ++ c, KK.tk a1, g3, B1, B2, B3, B4, by omega, B6, by rw [KK _ _ _ (by omega) (by unfold mlh; omega) (by omega)]; exact a9, a10.k (KK _ _ _ (by omega) (by unfold mlh; omega) (by omega)) (KK _ _ _ (by omega) (by unfold mlh; omega) (by omega)), ?_, a12.k (KK _ _ _ (by omega) (by unfold mlh; omega) (by omega)) (fun i => KK _ _ _ (by omega) (by unfold mlh; omega) (by omega)) (fun i => KK _ _ _ (by omega) (by unfold mlh; omega) (by omega)), fun m hm => ?_, fun _ hs => ?_⟩
    · unfold MCt
      rw [KK _ _ _ (by omega) (by unfold mlh; omega) (by omega), KK _ _ _ (by omega) (by unfold mlh; omega) (by omega), KK _ _ _ (by omega) (by unfold mlh; omega) (by omega), KK _ _ _ (by omega) (by unfold mlh; omega) (by omega)]; exact a11
    · dsimp only
      by_cases hmk : m = k
      · rw [if_pos hmk]
        refine ⟨fun e => absurd e (by simp), fun bs fin e => ?_⟩
        rw [Option.some.injEq, Prod.mk.injEq] at e
        rw [← e.1, ← e.2, hmk]
        exact ⟨i1, b, b', B9, B10, Nat.le_refl _, B12, B8⟩
      · rw [if_neg hmk, B11 81 _ (by omega) (by omega) (by omega), B11 82 _ (by omega) (by omega) (by omega), kk _ _ _ (by omega), kk _ _ _ (by omega)]
        obtain ⟨c1, c2⟩ := a13 m hm
        refine ⟨c1, fun bs fin e => ?_⟩
        obtain ⟨d1, x0, x1, d2, d3, d4, d6, d5⟩ := c2 bs fin e
        have hle := MLw.le d5
        have B2p := (a4.kf kk).pre B2
        have hlen : (cl ++ c).length = cl.length + c.length := List.length_append
        have l87 : ∀ g i, 83 ≤ g → g ≤ 87 → i < x1 → Y3 g 0 i = Y g 0 i := fun g i p q r => by rw [B7 g i p q (by omega), kk _ _ _ (by omega)]
        refine ⟨d1, x0, x1, d2, d3, by omega, fun i p q => ?_, d5.low d6 l87 (fun i p q => ?_)⟩
        · have := d6 i p q
          rw [l87 87 i (by omega) (by omega) q]; omega
        · have := B2p (i - 420 * v) (by omega)
          rw [show 420 * v + (i - 420 * v) = i by omega] at this
          rw [this.1, this.2, kk _ _ _ (by omega), kk _ _ _ (by omega)]; exact ⟨rfl, rfl⟩
    · obtain ⟨x1, x2, x3, x4, x5⟩ := a14 0 hs
      have fr : ∀ g i, 66 ≤ g → g ≤ 80 → Y3 g 0 i = Y g 0 i := fun g i q1 q2 => KK _ _ _ (by omega) (by unfold mlh; omega) (by omega)
      refine ⟨?_, fun c hc => ?_, fun l hl => ?_, fun m hm => ?_, fun c hc => ?_⟩
      · rw [fr _ _ (by omega) (by omega), fr _ _ (by omega) (by omega), fr _ _ (by omega) (by omega), fr _ _ (by omega) (by omega)]; exact x1
      · rw [fr _ _ (by omega) (by omega)]; exact x2 c hc
      · rw [fr _ _ (by omega) (by omega), fr _ _ (by omega) (by omega), fr _ _ (by omega) (by omega)]; exact x3 l hl
      · rw [fr _ _ (by omega) (by omega), fr _ _ (by omega) (by omega)]; exact x4 m hm
      · rw [fr _ _ (by omega) (by omega)]; exact x5 c hc
  · have hql : q_law K V k j = ((q_sk K 61 (q_sk K (265 + (k : Int)) (0, j))).1, (q_sk K 61 (q_sk K (265 + (k : Int)) (0, j))).2, [], []) := by
      unfold q_law; rw [hq, if_neg h0]
    obtain ⟨Y3, g1, g2, g3, g4⟩ := m_lawb (Nm := Nm) (P := P) (t := t) (d := d - 1 - 1) (v := v) (k := k) (first := b) hB (by omega) hv hk4 Y2 (q_sk K 61 (q_sk K (265 + (k : Int)) (0, j))).2 b (q_sk K 61 (q_sk K (265 + (k : Int)) (0, j))).1 cl 0 hT2 f2' (fun h => absurd h h0) b40 a7 (by omega) y19
    have zz : q_sk K 59 (q_xe K V ((q_sk K 61 (q_sk K (265 + (k : Int)) (0, j))).1, (q_sk K 61 (q_sk K (265 + (k : Int)) (0, j))).2)) = ((q_sk K 61 (q_sk K (265 + (k : Int)) (0, j))).1, (q_sk K 61 (q_sk K (265 + (k : Int)) (0, j))).2) := by
      have x1 : q_xe K V ((q_sk K 61 (q_sk K (265 + (k : Int)) (0, j))).1, (q_sk K 61 (q_sk K (265 + (k : Int)) (0, j))).2) = ((q_sk K 61 (q_sk K (265 + (k : Int)) (0, j))).1, (q_sk K 61 (q_sk K (265 + (k : Int)) (0, j))).2) := q_xe_f h0
      rw [x1]; exact q_sk_f h0
    rw [zz] at g3
    have go : x_EX (d - 1 - 1) 161 12 [some (.inr (.inr (some (56, 0)))), some (.inl ((k : Int))), some (.inl ((b : Int))), some (.inl 0)] [] (x_S Y2 t) = some (0, x_S Y3 t) := by
      rw [B161_12, h213, cn_nt (z := ((q_sk K 61 (q_sk K (265 + (k : Int)) (0, j))).1 : Int)) rfl (by omega), if_neg (by omega)]
      exact g1
    rw [go, Option.bind_some, B154_467, hql]
    exact ⟨Y3, rfl, kk.pm.trans g2.pm, g3, fun _ h => absurd h h0⟩
theorem m_tother {Y : XZ} {K P V Nm : Nat → Int} {v t j b np d : Nat} {cl : CL} {s : Nat × Int} {T : PT} {ct st : Nat → Nat} {G : Nat → Option (BL × CL)} (hB : KB K V) (hJ : JM Y K P V Nm v j b cl np s T ct st G) (hK : ¬ (260 ≤ K j ∧ K j < 272)) (hd : 3 ≤ d) : ∃ Y' : XZ, x_CALL d 154 [.inr (.inr (some (56, 0)))] (x_S Y t) = some (0, x_S Y' t) ∧ KPm v Y Y' ∧ MQr Y' K P 1 j := by
  obtain ⟨a1, a2, a3, a4, a5, a6, a7, a8, a9, a10, a11, a12, a13, a14⟩ := hJ
  obtain ⟨r1, r2, r3⟩ := a2.2.2.1 rfl
  have k1 := (a1 j r2 r3).1
  have hmc := t_mc (hB j).2.2.2
  have hmb := t_m_b (hB j).2.2.2
  have hout : t_m (K j) < 20 ∨ 32 ≤ t_m (K j) := by omega
  clear hmc
  obtain ⟨Y1, e1, e2, e3⟩ := m_fail (d := d - 1) a1 a2 (by omega) t 1 1 rfl (by omega)
  rw [if_pos rfl] at e2
  have i13 : Y1 56 0 13 = 1 := e2.1
  have bj : 0 ≤ (j : Int) ∧ (j : Int) < 403 := by omega
  have fin : x_EX (d - 1) 154 445 [some (.inr (.inr (some (56, 0)))), some (.inl ((t_m (K j) - 25)))] [] (x_S Y t) = some (0, x_S Y1 t) := by
    rw [B154_445, e1, Option.bind_some, B154_450, i13, if_pos (by decide)]
  refine ⟨Y1, ?_, e3.pm, e2⟩
  rw [C154 _ _ _ (by omega), r1, cn_nt (z := (j : Int)) rfl (by omega), if_pos bj, Int.toNat_natCast, k1, cn_id (z := t_m (K j)) (by omega) (by omega), if_neg (by omega), if_neg (by omega), if_neg (by omega), if_neg (by omega), if_neg (by omega), if_neg (by omega), if_neg (by omega), if_neg (by omega), if_neg (by omega), if_neg (by omega), if_neg (by omega), if_neg (by omega), if_pos bj, cn_id (z := t_m (K j) - 25) (by omega) (by omega)]
  by_cases hx : t_m (K j) - 25 < 0
  · rw [if_pos hx]; exact fin
  · rw [if_neg hx, if_pos bj, if_pos (by omega)]; exact fin
