/-! tells: the model reads houses, numbers, posts -/
theorem tm262 : t_m 262 = 22 := by simp [t_m]
theorem tm263 : t_m 263 = 23 := by simp [t_m]
theorem MSo.k {Y Y' : XZ} {s : Nat × Int} (h : MSo Y s) (h5 : Y' 56 0 15 = Y 56 0 15) (h6 : Y' 56 0 16 = Y 56 0 16) : MSo Y' s := ⟨h5.trans h.1, fun _ hs => h6.trans (h.2.1 0 hs), h.2.2⟩
theorem q_sk0 {K : Nat → Int} {k : Int} {j : Nat} (h : K j = k) : q_sk K k (0, j) = q_go (0, j) := by unfold q_sk; rw [if_pos rfl, if_pos h]
theorem m_thouse {Y : XZ} {K P V Nm : Nat → Int} {v t j b np d : Nat} {cl : CL} {s : Nat × Int} {T : PT} {ct st : Nat → Nat} {G : Nat → Option (BL × CL)} (hB : KB K V) (hP : PMo K P) (hNV : NV K V Nm) (hv : v < 2) (hJ : JM Y K P V Nm v j b cl np s T ct st G) (hp : JPu K P j np s T ct st) (hK : K j = 262) (hd : 6 ≤ d) : ∃ Y' : XZ, x_CALL d 154 [.inr (.inr (some (56, 0)))] (x_S Y t) = some (0, x_S Y' t) ∧ KPm v Y Y' ∧ MQr Y' K P (q_tk K k_hou j).1 (q_tk K k_hou j).2 ∧ ∀ _ : Nat, (q_tk K k_hou j).1 = 0 → JM Y' K P V Nm v (j + 3) b cl np (s_hou P V T ct j s) (T_hou V T ct j) ct st G := by
  obtain ⟨a1, a2, a3, a4, a5, a6, a7, a8, a9, a10, a11, a12, a13, a14⟩ := hJ
  have hJ : JM Y K P V Nm v j b cl np s T ct st G := ⟨a1, a2, a3, a4, a5, a6, a7, a8, a9, a10, a11, a12, a13, a14⟩
  have hsq := hp.sq
  obtain ⟨p1, p2, p3, p4, p5, p6, p7, p8⟩ := hp
  obtain ⟨r1, r2, r3⟩ := a2.2.2.1 rfl
  have k1 := (a1 j r2 r3).1
  rw [hK, tm262] at k1
  have bv : 0 ≤ (v : Int) ∧ (v : Int) < 2 := by omega
  have open_ : x_CALL d 154 [.inr (.inr (some (56, 0)))] (x_S Y t) = ((x_CALL (d - 1) 147 [.inr (.inr (some (56, 0)))] (x_S Y t)).bind fun q => x_EX (d - 1) 154 199 [some (.inr (.inr (some (56, 0)))), none] [] q.2) := by
    rw [C154 _ _ _ (by omega), r1, cn_nt (z := (j : Int)) rfl (by omega), if_pos (by omega), Int.toNat_natCast, k1, if_neg (by decide), if_neg (by decide), if_pos (by decide)]
  obtain ⟨Y1, e1, e3, e2⟩ := m_goes1 (d := d - 1) a1 a2 (fun _ => by omega) (by omega) t
  rw [← q_sk0 hK] at e3
  have hq : q_tk K k_hou j = q_sk K 59 (q_sk K 258 (q_sk K 262 (0, j))) := (q_th_tk [262, 258, 59] j).symm
  have s0y : ∀ _ : Nat, (q_sk K 262 (0, j)).1 = 0 → (q_sk K 262 (0, j)).2 = j + 1 ∧ j < 400 := fun _ h => ⟨(q_sk_y h).2.2.2, (q_sk_y h).2.2.1⟩
  have R1 : KR Y Y1 := KR.f e2
  obtain ⟨r, Y2, f1, f2, f3, f4⟩ := m_known (s := s) (T := T) (ct := ct) (st := st) (j0 := j) (d := d - 1) hB hP hNV (R1.tk a1) e3 (fun _ h => ⟨a10.kf e2, by rw [(s0y 0 h).1]; exact hsq.mono (by omega)⟩) (a12.k (e2 _ _ _ (by omega)) (fun i => e2 _ _ _ (by omega)) (fun i => e2 _ _ _ (by omega))) p1 p3 p5 p6 (by omega) t
  have f2' : MQr Y2 K P (q_sk K 258 (q_sk K 262 (0, j))).1 (q_sk K 258 (q_sk K 262 (0, j))).2 := f2
  have R2 : KR Y Y2 := R1.trans (KR.s f3)
  have y1_19 : Y1 56 0 19 = (v : Int) := by rw [R1 _ _ _ (by omega) (by omega)]; exact a9
  have R3 : KR Y (x_u Y2 77 0 v r) := R2.trans (KR.u (by omega))
  obtain ⟨Y4, g1, g2, g3⟩ := m_must1 (d := d - 1) hB (R3.tk a1) (f2'.congr (Y' := x_u Y2 77 0 v r) (fun i hi => x_u_ne (by omega))) (by omega) t 59 4 kd59 tm59 (by omega)
  have g2' : MQr Y4 K P (q_sk K 59 (q_sk K 258 (q_sk K 262 (0, j)))).1 (q_sk K 59 (q_sk K 258 (q_sk K 262 (0, j)))).2 := g2
  have P4 : KPm v Y Y4 := (e2.pm.trans f3.pm).trans ((KPm.u (by unfold mal; omega)).trans g3.pm)
  rw [open_, e1, Option.bind_some, B154_199, f1, Option.bind_some, y1_19, B154_211, cn_nt (z := (v : Int)) rfl (by omega), if_pos bv, Int.toNat_natCast, g1, Option.bind_some, B154_217, B154_467, hq]
  refine ⟨Y4, rfl, P4, g2', fun _ h0 => ?_⟩
  have z3 := q_sk_y h0
  have z2 := q_sk_y z3.1
  have z1 := s0y 0 z2.1
  obtain ⟨o1, o2⟩ := f4 0 z3.1
  have e2i : (q_sk K 258 (q_sk K 262 (0, j))).2 = j + 2 := by rw [z2.2.2.2, z1.1]
  have e3i : (q_sk K 59 (q_sk K 258 (q_sk K 262 (0, j)))).2 = j + 3 := by rw [z3.2.2.2, e2i]
  have o1' : r = (if q_ax V T ct (j + 1) < T 0 0 then (q_ax V T ct (j + 1) : Int) else -1) := by rw [o1, z1.1]
  have o2' : MSo Y2 (s_hou P V T ct j s) := by rw [z1.1] at o2; exact o2
  rw [h0, e3i] at g2'
  have t1 : ∀ a b, ¬ (a = 10 ∧ b = 0) → T_hou V T ct j a b = T a b := fun a b h => by unfold T_hou; rw [tU_ne h]
  have cutf : ∀ g m i, ¬ (g = 56 ∧ (i = 11 ∨ (13 ≤ i ∧ i ≤ 16))) → ¬ (g = 77 ∧ i = v) → Y4 g m i = Y g m i := fun g m i q1 q2 => by
    rw [g3 _ _ _ (by omega), x_u_ne (by omega), f3 _ _ _ (by omega), e2 _ _ _ (by omega)]
  refine hJ.step (R3.trans (KR.f g3)) (by omega) g2' (o2'.k (by rw [g3 _ _ _ (by omega), x_u_ne (by omega)]) (by rw [g3 _ _ _ (by omega), x_u_ne (by omega)])) ?_ ?_ (fun _ hs => ?_)
  · unfold MCt
    rw [cutf _ _ _ (by omega) (by omega), cutf _ _ _ (by omega) (by omega), cutf _ _ _ (by omega) (by omega), cutf _ _ _ (by omega) (by omega), t1 _ _ (by omega), t1 _ _ (by omega), t1 _ _ (by omega)]; exact a11
  · rw [t1 _ _ (by omega), t1 _ _ (by omega)]
    exact a12.k (cutf _ _ _ (by omega) (by omega)) (fun i => cutf _ _ _ (by omega) (by omega)) (fun i => cutf _ _ _ (by omega) (by omega))
  · obtain ⟨w4, w5, w6⟩ := q_nt_0 (by decide) hs
    have w5' := of_decide_eq_false w5
    obtain ⟨x1, x2, x3, x4, x5⟩ := a14 0 w4
    refine ⟨⟨?_, ?_, ?_, ?_⟩, fun c hc => ?_, fun l hl => ?_, fun m hm => ?_, fun c hc => ?_⟩
    · have u : T_hou V T ct j 10 0 = q_ax V T ct (j + 1) := tU_eq
      rw [u, g3 _ _ _ (by omega), x_u_eq, o1', if_pos (by omega)]
    · rw [cutf _ _ _ (by omega) (by omega), t1 _ _ (by omega)]; exact x1.2.1
    · rw [cutf _ _ _ (by omega) (by omega), t1 _ _ (by omega)]; exact x1.2.2.1
    · rw [cutf _ _ _ (by omega) (by omega), t1 _ _ (by omega)]; exact x1.2.2.2
    · rw [t1 _ _ (by omega)] at hc
      rw [cutf _ _ _ (by omega) (by omega), t1 _ _ (by omega)]; exact x2 c hc
    · rw [t1 _ _ (by omega)] at hl
      rw [cutf _ _ _ (by omega) (by omega), cutf _ _ _ (by omega) (by omega), cutf _ _ _ (by omega) (by omega), t1 _ _ (by omega), t1 _ _ (by omega), t1 _ _ (by omega)]; exact x3 l hl
    · rw [t1 _ _ (by omega)] at hm
      rw [cutf _ _ _ (by omega) (by omega), cutf _ _ _ (by omega) (by omega), t1 _ _ (by omega), t1 _ _ (by omega)]; exact x4 m hm
    · rw [cutf _ _ _ (by omega) (by omega), t1 _ _ (by omega)]; exact x5 c hc
theorem m_tnumber {Y : XZ} {K P V Nm : Nat → Int} {v t j b np d m : Nat} {cl : CL} {s : Nat × Int} {T : PT} {ct st : Nat → Nat} {G : Nat → Option (BL × CL)} (hB : KB K V) (hP : PMo K P) (hv : v < 2) (hm : m < 3) (hJ : JM Y K P V Nm v j b cl np s T ct st G) (hp : JPu K P j np s T ct st) (hK : K j = 269 + (m : Int)) (hd : 7 ≤ d) : ∃ Y' : XZ, x_CALL d 154 [.inr (.inr (some (56, 0)))] (x_S Y t) = some (0, x_S Y' t) ∧ KPm v Y Y' ∧ MQr Y' K P (q_tk K (k_nbr m) j).1 (q_tk K (k_nbr m) j).2 ∧ ∀ _ : Nat, (q_tk K (k_nbr m) j).1 = 0 → JM Y' K P V Nm v (j + 3) b cl np (s_nbr P V m j s) (T_nbr V T m j) ct st G := by
  obtain ⟨a1, a2, a3, a4, a5, a6, a7, a8, a9, a10, a11, a12, a13, a14⟩ := hJ
  have hJ : JM Y K P V Nm v j b cl np s T ct st G := ⟨a1, a2, a3, a4, a5, a6, a7, a8, a9, a10, a11, a12, a13, a14⟩
  have hsq := hp.sq
  obtain ⟨r1, r2, r3⟩ := a2.2.2.1 rfl
  have k1 := (a1 j r2 r3).1
  have bv : 0 ≤ (v : Int) ∧ (v : Int) < 2 := by omega
  have hhi : 0 ≤ q_hi m ∧ q_hi m ≤ 9999 := by unfold q_hi; split <;> (try split) <;> omega
  obtain ⟨Y1, e1, e3, e2⟩ := m_goes1 (d := d - 1 - 1) a1 a2 (fun _ => by omega) (by omega) t
  rw [← q_sk0 hK] at e3
  have hq : q_tk K (k_nbr m) j = q_sk K 59 (q_sk K 259 (q_sk K (269 + (m : Int)) (0, j))) := (q_th_tk [269 + (m : Int), 259, 59] j).symm
  have s0y : ∀ _ : Nat, (q_sk K (269 + (m : Int)) (0, j)).1 = 0 → (q_sk K (269 + (m : Int)) (0, j)).2 = j + 1 ∧ j < 400 := fun _ h => ⟨(q_sk_y h).2.2.2, (q_sk_y h).2.2.1⟩
  have R1 : KR Y Y1 := KR.f e2
  obtain ⟨r, Y2, f1, f2, f3, f4⟩ := m_bnd (s := s) (d := d - 1 - 1) hB hP (R1.tk a1) e3 (fun _ h => ⟨a10.kf e2, by rw [(s0y 0 h).1]; exact hsq.mono (by omega)⟩) (by omega) t 0 (q_hi m) (by omega) hhi
  have f2' : MQr Y2 K P (q_sk K 259 (q_sk K (269 + (m : Int)) (0, j))).1 (q_sk K 259 (q_sk K (269 + (m : Int)) (0, j))).2 := f2
  have R2 : KR Y Y2 := R1.trans (KR.s f3)
  obtain ⟨Y4, g1, g2, g3⟩ := m_must1 (d := d - 1 - 1) hB (R2.tk a1) f2' (by omega) t 59 4 kd59 tm59 (by omega)
  have g2' : MQr Y4 K P (q_sk K 59 (q_sk K 259 (q_sk K (269 + (m : Int)) (0, j)))).1 (q_sk K 59 (q_sk K 259 (q_sk K (269 + (m : Int)) (0, j)))).2 := g2
  have told : x_CALL (d - 1) 153 [.inr (.inr (some (56, 0))), .inl (q_hi m)] (x_S Y t) = some (r, x_S Y4 t) := by
    rw [C153 _ _ _ _ (by omega), e1, Option.bind_some, B153_4, f1, Option.bind_some, B153_10, g1, Option.bind_some, B153_16]
  have all : x_CALL d 154 [.inr (.inr (some (56, 0)))] (x_S Y t) = some (0, x_S (x_u Y4 (78 + m) 0 v r) t) := by
    have hm3 : m = 0 ∨ m = 1 ∨ m = 2 := by omega
    rcases hm3 with h | h | h
    · subst h
      have tk : Y 59 0 j = 29 := by rw [k1, hK]; simp [t_m]
      have told' : x_CALL (d - 1) 153 [.inr (.inr (some (56, 0))), .inl 99] (x_S Y t) = some (r, x_S Y4 t) := told
      rw [C154 _ _ _ (by omega), r1, cn_nt (z := (j : Int)) rfl (by omega), if_pos (by omega), Int.toNat_natCast, tk, if_neg (by decide), if_neg (by decide), if_neg (by decide), if_neg (by decide), if_neg (by decide), if_neg (by decide), if_neg (by decide), if_neg (by decide), if_neg (by decide), if_pos (by decide), told', Option.bind_some, a9, B154_373, cn_nt (z := (v : Int)) rfl (by omega), if_pos bv, Int.toNat_natCast, B154_467]
    · subst h
      have tk : Y 59 0 j = 30 := by rw [k1, hK]; simp [t_m]
      have told' : x_CALL (d - 1) 153 [.inr (.inr (some (56, 0))), .inl 9] (x_S Y t) = some (r, x_S Y4 t) := told
      rw [C154 _ _ _ (by omega), r1, cn_nt (z := (j : Int)) rfl (by omega), if_pos (by omega), Int.toNat_natCast, tk, if_neg (by decide), if_neg (by decide), if_neg (by decide), if_neg (by decide), if_neg (by decide), if_neg (by decide), if_neg (by decide), if_neg (by decide), if_neg (by decide), if_neg (by decide), if_pos (by decide), told', Option.bind_some, a9, B154_391, cn_nt (z := (v : Int)) rfl (by omega), if_pos bv, Int.toNat_natCast, B154_467]
    · subst h
      have tk : Y 59 0 j = 31 := by rw [k1, hK]; simp [t_m]
      have told' : x_CALL (d - 1) 153 [.inr (.inr (some (56, 0))), .inl 9999] (x_S Y t) = some (r, x_S Y4 t) := told
      rw [C154 _ _ _ (by omega), r1, cn_nt (z := (j : Int)) rfl (by omega), if_pos (by omega), Int.toNat_natCast, tk, if_neg (by decide), if_neg (by decide), if_neg (by decide), if_neg (by decide), if_neg (by decide), if_neg (by decide), if_neg (by decide), if_neg (by decide), if_neg (by decide), if_neg (by decide), if_neg (by decide), if_pos (by decide), told', Option.bind_some, a9, B154_410, cn_nt (z := (v : Int)) rfl (by omega), if_pos bv, Int.toNat_natCast, B154_467]
  have P4 : KPm v Y (x_u Y4 (78 + m) 0 v r) := ((e2.pm.trans f3.pm).trans g3.pm).trans (KPm.u (by unfold mal; omega))
  have R4 : KR Y (x_u Y4 (78 + m) 0 v r) := (R2.trans (KR.f g3)).trans (KR.u (by omega))
  rw [all, hq]
  refine ⟨_, rfl, P4, g2'.congr (fun i hi => x_u_ne (by omega)), fun _ h0 => ?_⟩
  have z3 := q_sk_y h0
  have z2 := q_sk_y z3.1
  have z1 := s0y 0 z2.1
  obtain ⟨o1, o2⟩ := f4 0 z3.1
  have e2i : (q_sk K 259 (q_sk K (269 + (m : Int)) (0, j))).2 = j + 2 := by rw [z2.2.2.2, z1.1]
  have e3i : (q_sk K 59 (q_sk K 259 (q_sk K (269 + (m : Int)) (0, j)))).2 = j + 3 := by rw [z3.2.2.2, e2i]
  have o1' : r = V (j + 1) := by rw [o1, z1.1]
  have o2' : MSo Y2 (s_nbr P V m j s) := by rw [z1.1] at o2; exact o2
  rw [h0, e3i] at g2'
  have t1 : ∀ a b, ¬ (a = 11 + m ∧ b = 0) → T_nbr V T m j a b = T a b := fun a b h => by unfold T_nbr; rw [tU_ne h]
  have tn : T_nbr V T m j (11 + m) 0 = (V (j + 1)).toNat := tU_eq
  have cutf : ∀ g m' i, ¬ (g = 56 ∧ (i = 11 ∨ (13 ≤ i ∧ i ≤ 16))) → ¬ (g = 78 + m ∧ i = v) → (x_u Y4 (78 + m) 0 v r) g m' i = Y g m' i := fun g m' i q1 q2 => by
    rw [x_u_ne (by omega), g3 _ _ _ (by omega), f3 _ _ _ (by omega), e2 _ _ _ (by omega)]
  refine hJ.step R4 (by omega) (g2'.congr (fun i hi => x_u_ne (by omega))) (o2'.k (by rw [x_u_ne (by omega), g3 _ _ _ (by omega)]) (by rw [x_u_ne (by omega), g3 _ _ _ (by omega)])) ?_ ?_ (fun _ hs => ?_)
  · unfold MCt
    rw [cutf _ _ _ (by omega) (by omega), cutf _ _ _ (by omega) (by omega), cutf _ _ _ (by omega) (by omega), cutf _ _ _ (by omega) (by omega), t1 _ _ (by omega), t1 _ _ (by omega), t1 _ _ (by omega)]; exact a11
  · rw [t1 _ _ (by omega), t1 _ _ (by omega)]
    exact a12.k (cutf _ _ _ (by omega) (by omega)) (fun i => cutf _ _ _ (by omega) (by omega)) (fun i => cutf _ _ _ (by omega) (by omega))
  · obtain ⟨w4, w5, w6⟩ := q_nt_0 (by decide) hs
    have w5' := of_decide_eq_false w5
    obtain ⟨x1, x2, x3, x4, x5⟩ := a14 0 w4
    have num : ∀ i, i < 3 → Y (78 + i) 0 v = (T (11 + i) 0 : Int) → (x_u Y4 (78 + m) 0 v r) (78 + i) 0 v = (T_nbr V T m j (11 + i) 0 : Int) := fun i hi he => by
      by_cases him : i = m
      · rw [him, x_u_eq, tn, o1']; omega
      · rw [cutf _ _ _ (by omega) (by omega), t1 _ _ (by omega)]; exact he
    refine ⟨⟨?_, num 0 (by omega) x1.2.1, num 1 (by omega) x1.2.2.1, num 2 (by omega) x1.2.2.2⟩, fun c hc => ?_, fun l hl => ?_, fun m' hm => ?_, fun c hc => ?_⟩
    · rw [cutf _ _ _ (by omega) (by omega), t1 _ _ (by omega)]; exact x1.1
    · rw [t1 _ _ (by omega)] at hc
      rw [cutf _ _ _ (by omega) (by omega), t1 _ _ (by omega)]; exact x2 c hc
    · rw [t1 _ _ (by omega)] at hl
      rw [cutf _ _ _ (by omega) (by omega), cutf _ _ _ (by omega) (by omega), cutf _ _ _ (by omega) (by omega), t1 _ _ (by omega), t1 _ _ (by omega), t1 _ _ (by omega)]; exact x3 l hl
    · rw [t1 _ _ (by omega)] at hm
      rw [cutf _ _ _ (by omega) (by omega), cutf _ _ _ (by omega) (by omega), t1 _ _ (by omega), t1 _ _ (by omega)]; exact x4 m' hm
    · rw [cutf _ _ _ (by omega) (by omega), t1 _ _ (by omega)]; exact x5 c hc
theorem m_tpost {Y : XZ} {K P V Nm : Nat → Int} {v t j b np d : Nat} {cl : CL} {s : Nat × Int} {T : PT} {ct st : Nat → Nat} {G : Nat → Option (BL × CL)} (hB : KB K V) (hP : PMo K P) (hNV : NV K V Nm) (hv : v < 2) (hJ : JM Y K P V Nm v j b cl np s T ct st G) (hp : JPu K P j np s T ct st) (hK : K j = 263) (hd : 7 ≤ d) : ∃ Y' : XZ, x_CALL d 154 [.inr (.inr (some (56, 0)))] (x_S Y t) = some (0, x_S Y' t) ∧ KPm v Y Y' ∧ MQr Y' K P (q_rm K np 7 k_pos j).1 (q_rm K np 7 k_pos j).2 ∧ ∀ _ : Nat, (q_rm K np 7 k_pos j).1 = 0 → JM Y' K P V Nm v (j + 4) b cl (np + 1) (s_pos P V T ct j s) (T_pos V T ct j) ct st G := by
  obtain ⟨a1, a2, a3, a4, a5, a6, a7, a8, a9, a10, a11, a12, a13, a14⟩ := hJ
  have hJ : JM Y K P V Nm v j b cl np s T ct st G := ⟨a1, a2, a3, a4, a5, a6, a7, a8, a9, a10, a11, a12, a13, a14⟩
  have hsq := hp.sq
  obtain ⟨p1, p2, p3, p4, p5, p6, p7, p8⟩ := hp
  obtain ⟨r1, r2, r3⟩ := a2.2.2.1 rfl
  have k1 := (a1 j r2 r3).1
  rw [hK, tm263] at k1
  have c73 := a11.2.2.2
  have bv : 0 ≤ (v : Int) ∧ (v : Int) < 2 := by omega
  have open_ : x_CALL d 154 [.inr (.inr (some (56, 0)))] (x_S Y t) = ((x_CALL (d - 1) 152 [.inr (.inr (some (56, 0))), .inl ((np : Int)), .inl 7] (x_S Y t)).bind fun q => x_EX (d - 1) 154 235 [some (.inr (.inr (some (56, 0)))), none] [] q.2) := by
    rw [C154 _ _ _ (by omega), r1, cn_nt (z := (j : Int)) rfl (by omega), if_pos (by omega), Int.toNat_natCast, k1, if_neg (by decide), if_neg (by decide), if_neg (by decide), if_pos (by decide), a9, cn_nt (z := (v : Int)) rfl (by omega), if_pos bv, Int.toNat_natCast, c73]
  obtain ⟨Y1, e1, e2, e3⟩ := m_room (has := np) (most := 7) (d := d - 1) a1 a2 p4 (by omega) (by omega) (by omega) t 7 rfl
  rw [open_, e1, Option.bind_some]
  by_cases hr : 7 ≤ np ∨ ¬ j < 400
  · have hs0 : (if 7 ≤ np then (2, j) else q_go (0, j)) = (2, j) := by
      by_cases h' : 7 ≤ np
      · rw [if_pos h']
      · rw [if_neg h']; unfold q_go; rw [if_pos rfl, if_neg (by omega)]
    rw [hs0] at e3
    have i13 : Y1 56 0 13 = 2 := e3.1
    have hq : q_rm K np 7 k_pos j = (2, j) := q_ro_r hK hr
    rw [B154_235, i13, if_neg (by decide), B154_467, hq]
    exact ⟨Y1, rfl, e2.pm, e3, fun _ h => absurd h (by simp)⟩
  · have hj : j < 400 := by omega
    have hs0 : (if 7 ≤ np then (2, j) else q_go (0, j)) = (0, j + 1) := by
      rw [if_neg (by omega)]; unfold q_go; rw [if_pos rfl, if_pos hj]
    rw [hs0] at e3
    have e3' : MQr Y1 K P 0 (j + 1) := e3
    have i13 : Y1 56 0 13 = 0 := e3'.1
    have hq : q_rm K np 7 k_pos j = q_sk K 59 (q_sk K 259 (q_sk K 258 (0, j + 1))) := q_ro_y (k := 263) (ks := [258, 259, 59]) hK (by omega) hj
    have R1 : KR Y Y1 := KR.f e2
    have s1y : ∀ _ : Nat, (q_sk K 258 (0, j + 1)).1 = 0 → (q_sk K 258 (0, j + 1)).2 = j + 2 ∧ j + 1 < 400 := fun _ h => ⟨(q_sk_y h).2.2.2, (q_sk_y h).2.2.1⟩
    obtain ⟨r, Y2, f1, f2, f3, f4⟩ := m_known (s := s) (T := T) (ct := ct) (st := st) (j0 := j) (d := d - 1 - 1) hB hP hNV (R1.tk a1) e3' (fun _ h => ⟨a10.kf e2, hsq.mono (by omega)⟩) (a12.k (e2 _ _ _ (by omega)) (fun i => e2 _ _ _ (by omega)) (fun i => e2 _ _ _ (by omega))) p1 p3 p5 p6 (by omega) t
    have R2 : KR Y Y2 := R1.trans (KR.s f3)
    obtain ⟨r', Y3, g1, g2, g3, g4⟩ := m_bnd (s := q_nt (decide (¬ q_ax V T ct (j + 1) < T 0 0)) 4 (P (j + 1)) s) (d := d - 1 - 1) hB hP (R2.tk a1) f2 (fun _ h => ⟨(f4 0 h).2, by rw [(s1y 0 h).1]; exact SQ.nt (hsq.mono (show j ≤ j + 1 by omega)) (Nat.le_refl _)⟩) (by omega) t 0 9 (by omega) (by omega)
    have g2' : MQr Y3 K P (q_sk K 259 (q_sk K 258 (0, j + 1))).1 (q_sk K 259 (q_sk K 258 (0, j + 1))).2 := g2
    have R3 : KR Y Y3 := R2.trans (KR.s g3)
    obtain ⟨Y4, h1, h2, h3⟩ := m_must1 (d := d - 1 - 1) hB (R3.tk a1) g2' (by omega) t 59 4 kd59 tm59 (by omega)
    have h2' : MQr Y4 K P (q_sk K 59 (q_sk K 259 (q_sk K 258 (0, j + 1)))).1 (q_sk K 59 (q_sk K 259 (q_sk K 258 (0, j + 1)))).2 := h2
    have R4 : KR Y Y4 := R3.trans (KR.f h3)
    have P4 : KPm v Y Y4 := ((e2.pm.trans f3.pm).trans g3.pm).trans h3.pm
    have h413 := h2'.1
    have h413b := h2'.2.1
    have y4_19 : Y4 56 0 19 = (v : Int) := by rw [R4 _ _ _ (by omega) (by omega)]; exact a9
    have f73 : Y4 73 0 v = (np : Int) := by rw [h3 _ _ _ (by omega), g3 _ _ _ (by omega), f3 _ _ _ (by omega), e2 _ _ _ (by omega)]; exact c73
    have f0 : ∀ g m i, ¬ (g = 56 ∧ (i = 11 ∨ (13 ≤ i ∧ i ≤ 16))) → Y4 g m i = Y g m i := fun g m i q1 => by rw [h3 _ _ _ (by omega), g3 _ _ _ (by omega), f3 _ _ _ (by omega), e2 _ _ _ (by omega)]
    rw [B154_235, i13, if_pos cn_0, C160 _ _ _ (by omega), f1, Option.bind_some, B160_4, g1, Option.bind_some, B160_12, h1, Option.bind_some, B160_18, h413, cn_nt (z := ((q_sk K 59 (q_sk K 259 (q_sk K 258 (0, j + 1)))).1 : Int)) rfl (by omega), hq]
    by_cases h0 : (q_sk K 59 (q_sk K 259 (q_sk K 258 (0, j + 1)))).1 = 0
    · have z3 := q_sk_y h0
      have z2 := q_sk_y z3.1
      have z1 := s1y 0 z2.1
      obtain ⟨o1, o2⟩ := f4 0 z2.1
      obtain ⟨o3, o4⟩ := g4 0 z3.1
      have e3i : (q_sk K 259 (q_sk K 258 (0, j + 1))).2 = j + 3 := by rw [z2.2.2.2, z1.1]
      have e4i : (q_sk K 59 (q_sk K 259 (q_sk K 258 (0, j + 1)))).2 = j + 4 := by rw [z3.2.2.2, e3i]
      have o3' : r' = V (j + 2) := by rw [o3, z1.1]
      have o4' : MSo Y3 (s_pos P V T ct j s) := by rw [z1.1] at o4; exact o4
      have fin : ∃ Y5 : XZ, (if cn r < 0 then some ((0 : Int), x_S (x_u Y4 73 0 v ((np : Int) + 1)) t) else if 0 ≤ cn (7 * (v : Int) + r) ∧ cn (7 * (v : Int) + r) < 14 then some (0, x_S (x_u (x_u Y4 73 0 v ((np : Int) + 1)) 68 0 (cn (7 * (v : Int) + r)).toNat r') t) else none) = some (0, x_S Y5 t) ∧ Y5 73 0 v = ((np + 1 : Nat) : Int) ∧ (∀ _ : Nat, q_ax V T ct (j + 1) < T 0 0 → Y5 68 0 (7 * v + q_ax V T ct (j + 1)) = V (j + 2)) ∧ (∀ g m i, ¬ (g = 73 ∧ i = v) → ¬ (g = 68 ∧ i = 7 * v + q_ax V T ct (j + 1) ∧ q_ax V T ct (j + 1) < T 0 0) → Y5 g m i = Y4 g m i) := by
        rw [o1]
        by_cases hx : q_ax V T ct (j + 1) < T 0 0
        · rw [if_pos hx, cn_nt (z := (q_ax V T ct (j + 1) : Int)) rfl (by omega), if_neg (by omega), cn_nt (z := 7 * (v : Int) + (q_ax V T ct (j + 1) : Int)) (n := 7 * v + q_ax V T ct (j + 1)) (by omega) (by omega), if_pos (by omega), Int.toNat_natCast]
          exact ⟨_, rfl, by rw [x_u_ne (by omega), x_u_eq]; omega, fun _ _ => by rw [x_u_eq, o3'], fun g m i q1 q2 => by rw [x_u_ne (by omega), x_u_ne (by omega)]⟩
        · rw [if_neg hx, if_pos (show cn (-1) < 0 by decide)]
          exact ⟨_, rfl, by rw [x_u_eq]; omega, fun _ h => absurd h hx, fun g m i q1 q2 => x_u_ne (by omega)⟩
      obtain ⟨Y5, u1, u2, u3, u4⟩ := fin
      rw [if_neg (by omega), y4_19, cn_nt (z := (v : Int)) rfl (by omega), if_pos bv, if_pos bv, Int.toNat_natCast, f73]
      dsimp only
      rw [u1, Option.bind_some, B154_246, B154_467]
      have P5 : KPm v Y Y5 := P4.trans (fun g m i a => u4 g m i (fun e => a (by unfold mal; omega)) (fun e => a (by unfold mal; omega)))
      have R5 : KR Y Y5 := R4.trans (fun g m i _ a => u4 g m i (by omega) (by omega))
      refine ⟨Y5, rfl, P5, h2'.congr (fun i hi => u4 _ _ _ (by omega) (by omega)), fun _ _ => ?_⟩
      have t1 : ∀ a b, ¬ (a = 9 ∧ b = q_ax V T ct (j + 1)) → T_pos V T ct j a b = T a b := fun a b h => by unfold T_pos; rw [tU_ne h]
      have hQ5 : MQr Y5 K P 0 (j + 4) := by
        have := h2'.congr (Y' := Y5) (fun i hi => u4 _ _ _ (by omega) (by omega))
        rw [h0, e4i] at this; exact this
      have cutf : ∀ g m i, ¬ (g = 56 ∧ (i = 11 ∨ (13 ≤ i ∧ i ≤ 16))) → ¬ (g = 73 ∧ i = v) → ¬ (g = 68 ∧ i = 7 * v + q_ax V T ct (j + 1)) → Y5 g m i = Y g m i := fun g m i q1 q2 q3 => by rw [u4 _ _ _ q2 (by omega), f0 _ _ _ q1]
      refine hJ.step R5 (by omega) hQ5 (o4'.k (by rw [u4 _ _ _ (by omega) (by omega), h3 _ _ _ (by omega)]) (by rw [u4 _ _ _ (by omega) (by omega), h3 _ _ _ (by omega)])) ?_ ?_ (fun _ hs => ?_)
      · refine ⟨?_, ?_, ?_, u2⟩
        · rw [cutf _ _ _ (by omega) (by omega) (by omega), t1 _ _ (by omega)]; exact a11.1
        · rw [cutf _ _ _ (by omega) (by omega) (by omega), t1 _ _ (by omega)]; exact a11.2.1
        · rw [cutf _ _ _ (by omega) (by omega) (by omega), t1 _ _ (by omega)]; exact a11.2.2.1
      · rw [t1 _ _ (by omega), t1 _ _ (by omega)]
        exact a12.k (cutf _ _ _ (by omega) (by omega) (by omega)) (fun i => cutf _ _ _ (by omega) (by omega) (by omega)) (fun i => cutf _ _ _ (by omega) (by omega) (by omega))
      · obtain ⟨w1, w2, w3⟩ := q_nt_0 (by decide) hs
        obtain ⟨w4, w5, w6⟩ := q_nt_0 (by decide) w1
        have w2' := of_decide_eq_false w2
        have w5' := of_decide_eq_false w5
        obtain ⟨x1, x2, x3, x4, x5⟩ := a14 0 w4
        refine ⟨⟨?_, ?_, ?_, ?_⟩, fun c hc => ?_, fun l hl => ?_, fun m hm => ?_, fun c hc => ?_⟩
        · rw [cutf _ _ _ (by omega) (by omega) (by omega), t1 _ _ (by omega)]; exact x1.1
        · rw [cutf _ _ _ (by omega) (by omega) (by omega), t1 _ _ (by omega)]; exact x1.2.1
        · rw [cutf _ _ _ (by omega) (by omega) (by omega), t1 _ _ (by omega)]; exact x1.2.2.1
        · rw [cutf _ _ _ (by omega) (by omega) (by omega), t1 _ _ (by omega)]; exact x1.2.2.2
        · rw [t1 _ _ (by omega)] at hc
          rw [cutf _ _ _ (by omega) (by omega) (by omega), t1 _ _ (by omega)]; exact x2 c hc
        · rw [t1 _ _ (by omega)] at hl
          rw [cutf _ _ _ (by omega) (by omega) (by omega), cutf _ _ _ (by omega) (by omega) (by omega), cutf _ _ _ (by omega) (by omega) (by omega), t1 _ _ (by omega), t1 _ _ (by omega), t1 _ _ (by omega)]; exact x3 l hl
        · rw [t1 _ _ (by omega)] at hm
          rw [cutf _ _ _ (by omega) (by omega) (by omega), cutf _ _ _ (by omega) (by omega) (by omega), t1 _ _ (by omega), t1 _ _ (by omega)]; exact x4 m hm
        · by_cases hc0 : c = q_ax V T ct (j + 1)
          · have u : T_pos V T ct j 9 (q_ax V T ct (j + 1)) = (V (j + 2)).toNat + 1 := tU_eq
            rw [hc0, u3 0 (by omega), u]; omega
          · rw [cutf _ _ _ (by omega) (by omega) (by omega), t1 _ _ (by omega)]; exact x5 c hc
    · rw [if_pos (by omega), Option.bind_some, B154_246, B154_467]
      exact ⟨Y4, rfl, P4, h2', fun _ h => absurd h h0⟩
