/-! tells: the model reads corners -/
theorem JPu.sq {K P : Nat → Int} {j np : Nat} {s : Nat × Int} {T : PT} {ct st : Nat → Nat} (h : JPu K P j np s T ct st) : SQ P j s := h.2.2.2.2.2.2.1
theorem KR.s {Y Y' : XZ} (h : KS Y Y') : KR Y Y' := fun g m i a _ => h g m i (by omega)
theorem KR.f {Y Y' : XZ} (h : KF Y Y') : KR Y Y' := fun g m i a _ => h g m i (by omega)
theorem KR.e {Y Y' : XZ} (h : KE Y Y') : KR Y Y' := fun g m i a b => h g m i (by omega) (by omega) (by omega)
theorem KR.u {g0 i0 : Nat} {Y : XZ} {x : Int} (h : 64 ≤ g0 ∧ g0 ≤ 80) : KR Y (x_u Y g0 0 i0 x) := fun g m i _ b => x_u_ne (by omega)
theorem KR.trans {Y Y' Y'' : XZ} (h : KR Y Y') (h' : KR Y' Y'') : KR Y Y'' := fun g m i a b => (h' g m i a b).trans (h g m i a b)
theorem KR.tk {Y Y' : XZ} {K P V Nm : Nat → Int} (h : KR Y Y') (hT : TKm Y K P V Nm) : TKm Y' K P V Nm := hT.congr (fun g i a b => h g 0 i (by omega) (by omega))
theorem KE.pm {v : Nat} {Y Y' : XZ} (h : KE Y Y') : KPm v Y Y' := fun g m i a => h g m i (fun e => a (.inl ⟨e.1, by omega⟩)) (fun e => a (.inr (.inl e))) (fun e => a (.inr (.inr (.inl e))))
theorem tm260 : t_m 260 = 20 := by simp [t_m]
theorem q_ro_y {K : Nat → Int} {has most j : Nat} {k : Int} {ks : List Int} (hK : K j = k) (h : ¬ most ≤ has) (hj : j < 400) : q_rm K has most (k :: ks) j = q_th K ks (0, j + 1) := by
  unfold q_rm; rw [if_neg h, q_tk_y hK hj, q_th_tk]
theorem q_ro_r {K : Nat → Int} {has most j : Nat} {k : Int} {ks : List Int} (hK : K j = k) (h : most ≤ has ∨ ¬ j < 400) : q_rm K has most (k :: ks) j = (2, j) := by
  unfold q_rm
  by_cases h' : most ≤ has
  · rw [if_pos h']
  · rw [if_neg h', q_tk_r hK (by omega)]
theorem m_tcorner {Y : XZ} {K P V Nm : Nat → Int} {v t j b np d : Nat} {cl : CL} {s : Nat × Int} {T : PT} {ct st : Nat → Nat} {G : Nat → Option (BL × CL)} (hB : KB K V) (hP : PMo K P) (hNV : NV K V Nm) (hv : v < 2) (hJ : JM Y K P V Nm v j b cl np s T ct st G) (hp : JPu K P j np s T ct st) (hK : K j = 260) (hd : 6 ≤ d) : ∃ Y' : XZ, x_CALL d 154 [.inr (.inr (some (56, 0)))] (x_S Y t) = some (0, x_S Y' t) ∧ KPm v Y Y' ∧ MQr Y' K P (q_rm K (T 0 0) 7 k_cor j).1 (q_rm K (T 0 0) 7 k_cor j).2 ∧ ∀ _ : Nat, (q_rm K (T 0 0) 7 k_cor j).1 = 0 → JM Y' K P V Nm v (j + 4) b cl np (s_cor P V T ct st j s) (T_cor V T j) (q_ext ct (T 0 0) (j + 1)) st G := by
  obtain ⟨a1, a2, a3, a4, a5, a6, a7, a8, a9, a10, a11, a12, a13, a14⟩ := hJ
  have hJ : JM Y K P V Nm v j b cl np s T ct st G := ⟨a1, a2, a3, a4, a5, a6, a7, a8, a9, a10, a11, a12, a13, a14⟩
  have hsq := hp.sq
  obtain ⟨p1, p2, p3, p4, p5, p6, p7, p8⟩ := hp
  obtain ⟨r1, r2, r3⟩ := a2.2.2.1 rfl
  have k1 := (a1 j r2 r3).1
  rw [hK, tm260] at k1
  have c66 := a11.1
  have bv : 0 ≤ (v : Int) ∧ (v : Int) < 2 := by omega
  have open_ : x_CALL d 154 [.inr (.inr (some (56, 0)))] (x_S Y t) = ((x_CALL (d - 1) 152 [.inr (.inr (some (56, 0))), .inl ((T 0 0 : Int)), .inl 7] (x_S Y t)).bind fun q => x_EX (d - 1) 154 87 [some (.inr (.inr (some (56, 0)))), none] [] q.2) := by
    rw [C154 _ _ _ (by omega), r1, cn_nt (z := (j : Int)) rfl (by omega), if_pos (by omega), Int.toNat_natCast, k1, if_pos (by decide), a9, cn_nt (z := (v : Int)) rfl (by omega), if_pos bv, Int.toNat_natCast, c66]
  obtain ⟨Y1, e1, e2, e3⟩ := m_room (has := T 0 0) (most := 7) (d := d - 1) a1 a2 p1 (by omega) (by omega) (by omega) t 7 rfl
  rw [open_, e1, Option.bind_some]
  by_cases hr : 7 ≤ T 0 0 ∨ ¬ j < 400
  · have hs0 : (if 7 ≤ T 0 0 then (2, j) else q_go (0, j)) = (2, j) := by
      by_cases h' : 7 ≤ T 0 0
      · rw [if_pos h']
      · rw [if_neg h']; unfold q_go; rw [if_pos rfl, if_neg (by omega)]
    rw [hs0] at e3
    have i13 : Y1 56 0 13 = 2 := e3.1
    have hq : q_rm K (T 0 0) 7 k_cor j = (2, j) := q_ro_r hK hr
    rw [B154_87, i13, if_pos (by decide), hq]
    exact ⟨Y1, rfl, e2.pm, e3, fun _ h => absurd h (by simp)⟩
  · have hj : j < 400 := by omega
    have hs0 : (if 7 ≤ T 0 0 then (2, j) else q_go (0, j)) = (0, j + 1) := by
      rw [if_neg (by omega)]; unfold q_go; rw [if_pos rfl, if_pos hj]
    rw [hs0] at e3
    have e3' : MQr Y1 K P 0 (j + 1) := e3
    have i13 : Y1 56 0 13 = 0 := e3'.1
    have hq : q_rm K (T 0 0) 7 k_cor j = q_sk K 59 (q_sk K 259 (q_sk K 258 (0, j + 1))) := q_ro_y (k := 260) (ks := [258, 259, 59]) hK (by omega) hj
    have R1 : KR Y Y1 := KR.f e2
    have hT1 := R1.tk a1
    obtain ⟨Y2, f1, f2, f3, f4⟩ := m_named (T := T) (ct := ct) (st := st) (d := d - 1) hB hP hNV hT1 e3' (a10.kf e2) (hsq.mono (by omega)) (a12.k (e2 _ _ _ (by omega)) (fun i => e2 _ _ _ (by omega)) (fun i => e2 _ _ _ (by omega))) p1 p3 (fun i hi => ⟨by have := (p5 i hi).1; omega, (p5 i hi).2⟩) (fun i hi => ⟨by have := (p6 i hi).1; omega, (p6 i hi).2⟩) (by omega) t
    have R2 : KR Y Y2 := R1.trans (KR.s f3)
    have P2 : KPm v Y Y2 := e2.pm.trans f3.pm
    have hT2 := R2.tk a1
    have s1y : ∀ _ : Nat, (q_sk K 258 (0, j + 1)).1 = 0 → (q_sk K 258 (0, j + 1)).2 = j + 2 ∧ K (j + 1) = 258 ∧ j + 1 < 400 := fun _ h => ⟨(q_sk_y h).2.2.2, (q_sk_y h).2.1, (q_sk_y h).2.2.1⟩
    obtain ⟨r, Y3, g1, g2, g3, g4⟩ := m_bnd (s := q_nt (q_dup V T ct st (j + 1)) 3 (P (j + 1)) s) (d := d - 1) hB hP hT2 f2 (fun _ h => ⟨f4 0 h, by rw [(s1y 0 h).1]; exact SQ.nt (hsq.mono (show j ≤ j + 1 by omega)) (Nat.le_refl _)⟩) (by omega) t 0 9 (by omega) (by omega)
    have g2' : MQr Y3 K P (q_sk K 259 (q_sk K 258 (0, j + 1))).1 (q_sk K 259 (q_sk K 258 (0, j + 1))).2 := g2
    have R3 : KR Y Y3 := R2.trans (KR.s g3)
    have P3 : KPm v Y Y3 := P2.trans g3.pm
    have y2_19 : Y2 56 0 19 = (v : Int) := by rw [R2 _ _ _ (by omega) (by omega)]; exact a9
    have y2_66 : Y2 66 0 v = (T 0 0 : Int) := by rw [f3 _ _ _ (by omega), e2 _ _ _ (by omega)]; exact c66
    have y3_19 : Y3 56 0 19 = (v : Int) := by rw [R3 _ _ _ (by omega) (by omega)]; exact a9
    have y3_66 : Y3 66 0 v = (T 0 0 : Int) := by rw [g3 _ _ _ (by omega)]; exact y2_66
    have P4 : KPm v Y (x_u Y3 67 0 (7 * v + T 0 0) r) := P3.trans (KPm.u (by unfold mal; omega))
    have R4 : KR Y (x_u Y3 67 0 (7 * v + T 0 0) r) := R3.trans (KR.u (by omega))
    have hQ4 : MQr (x_u Y3 67 0 (7 * v + T 0 0) r) K P (q_sk K 259 (q_sk K 258 (0, j + 1))).1 (q_sk K 259 (q_sk K 258 (0, j + 1))).2 := g2'.congr (fun i hi => x_u_ne (by omega))
    have y4_20 : (x_u Y3 67 0 (7 * v + T 0 0) r) 56 0 20 = ((T 0 0 + T 2 0 : Nat) : Int) := by rw [x_u_ne (by omega), g3 _ _ _ (by omega), f3 _ _ _ (by omega), e2 _ _ _ (by omega)]; exact a12.1
    obtain ⟨Y5, i1, i2, i3, i4⟩ := m_ends (tok := j + 1) (nn := T 0 0 + T 2 0) (d := d - 1) hB (R4.tk a1) hQ4 y4_20 (by omega) (by omega) (fun _ h => ⟨r3.trans (LK.one (by omega)), (s1y 0 (q_sk_y h).1).2.1⟩) (by omega) t (T 0 0 : Int)
    have R5 : KR Y Y5 := R4.trans (KR.e i3)
    have P5 : KPm v Y Y5 := P4.trans i3.pm
    have y5_19 : Y5 56 0 19 = (v : Int) := by rw [R5 _ _ _ (by omega) (by omega)]; exact a9
    have y5_66 : Y5 66 0 v = (T 0 0 : Int) := by rw [i3 _ _ _ (by omega) (by omega) (by omega), x_u_ne (by omega)]; exact y3_66
    have h513 := i2.1
    have h513b := i2.2.1
    rw [B154_87, i13, if_neg (by decide), f1, Option.bind_some, B154_99, y2_19, cn_nt (z := (v : Int)) rfl (by omega), if_pos bv, Int.toNat_natCast, y2_66, g1, Option.bind_some, B154_128, cn_nt (z := 7 * (v : Int) + (T 0 0 : Int)) (n := 7 * v + T 0 0) (by omega) (by omega), if_pos (by omega), y3_19, cn_nt (z := (v : Int)) rfl (by omega), if_pos bv, Int.toNat_natCast, Int.toNat_natCast, y3_66, i1, Option.bind_some, B154_143, h513, cn_nt (z := ((q_sk K 59 (q_sk K 259 (q_sk K 258 (0, j + 1)))).1 : Int)) rfl (by omega), hq]
    by_cases h0 : (q_sk K 59 (q_sk K 259 (q_sk K 258 (0, j + 1)))).1 = 0
    · rw [if_pos (by omega), y5_19, cn_nt (z := (v : Int)) rfl (by omega), if_pos bv, if_pos bv, Int.toNat_natCast, y5_66, B154_467]
      have z3 := q_sk_y h0
      have z2 := q_sk_y z3.1
      have z1 := s1y 0 z2.1
      obtain ⟨m1, m2, m3, m4⟩ := i4 0 h0
      obtain ⟨o1, o2⟩ := g4 0 z3.1
      have e2i : (q_sk K 258 (0, j + 1)).2 = j + 2 := z1.1
      have e3i : (q_sk K 259 (q_sk K 258 (0, j + 1))).2 = j + 3 := by rw [z2.2.2.2, e2i]
      have e4i : (q_sk K 59 (q_sk K 259 (q_sk K 258 (0, j + 1)))).2 = j + 4 := by rw [z3.2.2.2, e3i]
      have o1' : r = V (j + 2) := by rw [o1, e2i]
      rw [e2i] at o2
      have i2o := i2
      rw [h0, e4i] at i2
      have cutf : ∀ g m i, ¬ (g = 56 ∧ (i = 11 ∨ (13 ≤ i ∧ i ≤ 16) ∨ i = 20)) → g ≠ 64 → g ≠ 65 → ¬ (g = 67 ∧ i = 7 * v + T 0 0) → Y5 g m i = Y g m i := fun g m i q1 q2 q3 q4 => by
        rw [i3 _ _ _ (by omega) q2 q3, x_u_ne (by omega), g3 _ _ _ (by omega), f3 _ _ _ (by omega), e2 _ _ _ (by omega)]
      refine ⟨_, rfl, P5.trans (KPm.u (by unfold mal; omega)), i2o.congr (fun i hi => x_u_ne (by omega)), fun _ _ => ?_⟩
      have t0 : T_cor V T j 0 0 = T 0 0 + 1 := tU_eq
      have t1 : ∀ a b, ¬ (a = 0 ∧ b = 0) → ¬ (a = 3 ∧ b = T 0 0) → T_cor V T j a b = T a b := fun a b h h' => by unfold T_cor; rw [tU_ne h, tU_ne h']
      refine hJ.step (R5.trans (KR.u (by omega))) (by omega) (i2.congr (fun i hi => x_u_ne (by omega))) ?_ ?_ ?_ (fun _ hs => ?_)
      · refine ⟨?_, fun _ hs => ?_, o2.2.2⟩
        · rw [x_u_ne (by omega), i3 _ _ _ (by omega) (by omega) (by omega), x_u_ne (by omega)]; exact o2.1
        · rw [x_u_ne (by omega), i3 _ _ _ (by omega) (by omega) (by omega), x_u_ne (by omega)]; exact o2.2.1 0 hs
      · refine ⟨by rw [x_u_eq, t0]; omega, ?_, ?_, ?_⟩
        · rw [x_u_ne (by omega), cutf _ _ _ (by omega) (by omega) (by omega) (by omega), t1 _ _ (by omega) (by omega)]; exact a11.2.1
        · rw [x_u_ne (by omega), cutf _ _ _ (by omega) (by omega) (by omega) (by omega), t1 _ _ (by omega) (by omega)]; exact a11.2.2.1
        · rw [x_u_ne (by omega), cutf _ _ _ (by omega) (by omega) (by omega) (by omega)]; exact a11.2.2.2
      · rw [t0, t1 2 0 (by omega) (by omega)]
        refine a12.corner (by omega) (by rw [x_u_ne (by omega)]; exact m1) (by rw [x_u_ne (by omega)]; exact m2) (by rw [x_u_ne (by omega)]; exact m3) (fun i hi => ?_)
        rw [x_u_ne (by omega), x_u_ne (by omega), (m4 i hi).1, (m4 i hi).2, x_u_ne (by omega), x_u_ne (by omega), g3 _ _ _ (by omega), g3 _ _ _ (by omega), f3 _ _ _ (by omega), f3 _ _ _ (by omega), e2 _ _ _ (by omega), e2 _ _ _ (by omega)]; exact ⟨rfl, rfl⟩
      · obtain ⟨w1, w2, w3⟩ := q_nt_0 (by decide) hs
        obtain ⟨w4, w5, w6⟩ := q_nt_0 (by decide) w1
        have w2' := of_decide_eq_false w2
        obtain ⟨x1, x2, x3, x4, x5⟩ := a14 0 w4
        have fr : ∀ g i, 67 ≤ g → g ≤ 80 → ¬ (g = 67 ∧ i = 7 * v + T 0 0) → (x_u Y5 66 0 v ((T 0 0 : Int) + 1)) g 0 i = Y g 0 i := fun g i q1 q2 q3 => by rw [x_u_ne (by omega), cutf _ _ _ (by omega) (by omega) (by omega) q3]
        refine ⟨⟨?_, ?_, ?_, ?_⟩, fun c hc => ?_, fun l hl => ?_, fun m hm => ?_, fun c hc => ?_⟩
        · rw [fr _ _ (by omega) (by omega) (by omega), t1 _ _ (by omega) (by omega)]; exact x1.1
        · rw [fr _ _ (by omega) (by omega) (by omega), t1 _ _ (by omega) (by omega)]; exact x1.2.1
        · rw [fr _ _ (by omega) (by omega) (by omega), t1 _ _ (by omega) (by omega)]; exact x1.2.2.1
        · rw [fr _ _ (by omega) (by omega) (by omega), t1 _ _ (by omega) (by omega)]; exact x1.2.2.2
        · rw [t0] at hc
          by_cases hc0 : c = T 0 0
          · have u3 : T_cor V T j 3 (T 0 0) = (V (j + 2)).toNat := by unfold T_cor; rw [tU_ne (by omega), tU_eq]
            rw [hc0, u3, x_u_ne (by omega), i3 _ _ _ (by omega) (by omega) (by omega), x_u_eq, o1']; omega
          · rw [fr _ _ (by omega) (by omega) (by omega), t1 _ _ (by omega) (by omega)]; exact x2 c (by omega)
        · rw [t1 _ _ (by omega) (by omega)] at hl
          rw [fr _ _ (by omega) (by omega) (by omega), fr _ _ (by omega) (by omega) (by omega), fr _ _ (by omega) (by omega) (by omega), t1 _ _ (by omega) (by omega), t1 _ _ (by omega) (by omega), t1 _ _ (by omega) (by omega)]; exact x3 l hl
        · rw [t1 _ _ (by omega) (by omega)] at hm
          rw [fr _ _ (by omega) (by omega) (by omega), fr _ _ (by omega) (by omega) (by omega), t1 _ _ (by omega) (by omega), t1 _ _ (by omega) (by omega)]; exact x4 m hm
        · rw [fr _ _ (by omega) (by omega) (by omega), t1 _ _ (by omega) (by omega)]; exact x5 c hc
    · rw [if_neg (by omega), B154_467]
      exact ⟨Y5, rfl, P5, i2, fun _ h => absurd h h0⟩
