/-! laws: the class reads one -/
def KLr (u : Nat) (Z Z' : XZ) : Prop := ∀ g m i, ¬ (g = 2 ∧ (i = 3 ∨ i = 4)) → ¬ (m = u ∧ ((g = 15 ∧ i = 1) ∨ g = 16 ∨ g = 17 ∨ g = 18)) → Z' g m i = Z g m i
theorem KLr.trans {u : Nat} {Z Z' Z'' : XZ} (h : KLr u Z Z') (h' : KLr u Z' Z'') : KLr u Z Z'' := fun g m i a b => (h' g m i a b).trans (h g m i a b)
theorem KCr.kl {u : Nat} {Z Z' : XZ} (h : KCr u Z Z') : KLr u Z Z' := fun g m i a b => h g m i a (by omega)
theorem KB4.kc {u : Nat} {Z Z' : XZ} (h : KB4 Z Z') : KCr u Z Z' := fun g m i a _ => h g m i a
theorem c_lawp {K P V : Nat → Int} {t d : Nat} (hB : KB K V) (hd : 22 ≤ d) (a1 a3 : Int) (ha1 : 265 ≤ a1 ∧ a1 < 269) : ∀ (f : Nat), f ≤ 4 → ∀ (Z : XZ) (j n : Nat) (o5 : Option XV), TKc Z K P V → CXn Z K (1 - t) j n → n + 2 ≤ j → Z 2 0 4 = 1 → ∃ Z' : XZ, x_EX d 30 35 [some (.inr (.inr (some (2, 0)))), some (.inl a1), some (.inr (.inr (some (15, (1 - t))))), some (.inl a3), some (.inl (((4 - f : Nat) : Int))), o5] [] (x_S Z t) = some ((if (l_T K V f j).1 = 0 then 1 else 0), x_S Z' t) ∧ KLr (1 - t) Z Z' ∧ ((l_T K V f j).1 = 0 → ∃ n', CXn Z' K (1 - t) (l_T K V f j).2.1 n' ∧ n' + 2 ≤ (l_T K V f j).2.1 ∧ n ≤ n' ∧ (∀ i, i < n → Z' 17 (1 - t) i = Z 17 (1 - t) i ∧ Z' 18 (1 - t) i = Z 18 (1 - t) i) ∧ CLw Z' (1 - t) n' n (l_T K V f j).2.2.1 (l_T K V f j).2.2.2 ∧ Z' 2 0 4 = 1 ∧ Z' 16 (1 - t) (a1 - 265).toNat = a3 ∧ ∀ i, i ≠ (a1 - 265).toNat → Z' 16 (1 - t) i = Z 16 (1 - t) i) ∧ (¬ (l_T K V f j).1 = 0 → Z' 2 0 3 = ((l_T K V f j).2.1 : Int) ∧ Z' 2 0 4 = ((l_T K V f j).1 : Int)) := by
  have base : ∀ (Z : XZ) (j n : Nat) (a4 : Int) (o5 : Option XV), TKc Z K P V → CXn Z K (1 - t) j n → n + 2 ≤ j → Z 2 0 4 = 1 → ∃ Z' : XZ, ((x_CALL d 31 [.inr (.inr (some (2, 0))), .inl 0] (x_S Z t)).bind fun q => x_EX d 30 174 [some (.inr (.inr (some (2, 0)))), some (.inl a1), some (.inr (.inr (some (15, (1 - t))))), some (.inl a3), some (.inl a4), o5] [.inl q.1] q.2) = some ((if (q_sk K 59 (q_xe K V (0, j))).1 = 0 then 1 else 0), x_S Z' t) ∧ KLr (1 - t) Z Z' ∧ ((q_sk K 59 (q_xe K V (0, j))).1 = 0 → ∃ n', CXn Z' K (1 - t) (q_sk K 59 (q_xe K V (0, j))).2 n' ∧ n' + 2 ≤ (q_sk K 59 (q_xe K V (0, j))).2 ∧ n ≤ n' ∧ (∀ i, i < n → Z' 17 (1 - t) i = Z 17 (1 - t) i ∧ Z' 18 (1 - t) i = Z 18 (1 - t) i) ∧ CLw Z' (1 - t) n' n [] (e_T K V j).2.2 ∧ Z' 2 0 4 = 1 ∧ Z' 16 (1 - t) (a1 - 265).toNat = a3 ∧ ∀ i, i ≠ (a1 - 265).toNat → Z' 16 (1 - t) i = Z 16 (1 - t) i) ∧ (¬ (q_sk K 59 (q_xe K V (0, j))).1 = 0 → Z' 2 0 3 = ((q_sk K 59 (q_xe K V (0, j))).2 : Int) ∧ Z' 2 0 4 = ((q_sk K 59 (q_xe K V (0, j))).1 : Int)) := by
    intro Z j n a4 o5 hT hX hl h4
    obtain ⟨Z1, e1, e2, e3, e4⟩ := c_termN (d := d) hB hT hX hl h4 hd
    have hq : q_xe K V (0, j) = ((e_T K V j).1, (e_T K V j).2.1) := if_pos rfl
    rw [e1, Option.bind_some, B30_174, hq]
    by_cases h0 : (e_T K V j).1 = 0
    · obtain ⟨f1, f2, f3, f4⟩ := e3 h0
      obtain ⟨g1, g2, g3, g4, g5⟩ := e_T_G hB hX.1 h0
      obtain ⟨Z2, i1, i2, i3, i4⟩ := c_takeN (d := d) hB (e2.tk hT) f1 f4 (by omega) t 59 (by omega) (by omega)
      rw [if_pos h0, if_neg cn_1n, i1, Option.bind_some, B30_183, h0]
      by_cases h5 : (q_sk K 59 (0, (e_T K V j).2.1)).1 = 0
      · obtain ⟨s1, s2, s3, s4⟩ := q_sk_y h5
        have s4' : (q_sk K 59 (0, (e_T K V j).2.1)).2 = (e_T K V j).2.1 + 1 := s4
        have s3' : (e_T K V j).2.1 < 400 := s3
        obtain ⟨w1, w2⟩ := i3 h5
        obtain ⟨Z3, k1, k2, k3, k4, k5⟩ := c_emitN (d := d) w1 (by omega) (by omega) t 59 0
        rw [if_pos h5, if_neg cn_1n, k1, Option.bind_some, B30_195, cn_nt (z := a1 - 265) (n := (a1 - 265).toNat) (by omega) (by omega), if_pos (by omega), Int.toNat_natCast]
        refine ⟨_, rfl, ?_, fun _ => ⟨n + (e_T K V j).2.2.length + 1, ?_, ?_, ?_, ?_, ?_, ?_, ?_, ?_⟩, fun h => absurd h5 h⟩
        · exact (e2.kl.trans (i2.kc.kl.trans (fun g m i a b => k5 g m i (by omega)))).trans (fun g m i a b => x_u_ne (by omega))
        · obtain ⟨y1, y2, y3, y4, y5⟩ := k2
          exact ⟨y1, y2, by rw [x_u_ne (by omega)]; exact y3, by rw [x_u_ne (by omega)]; exact y4, y5⟩
        · omega
        · omega
        · intro i hi
          rw [x_u_ne (by omega), x_u_ne (by omega), (k4 i (by omega)).1, (k4 i (by omega)).2, i2 _ _ _ (by omega), i2 _ _ _ (by omega)]; exact f3 i hi
        · refine ⟨f2.congr (fun x a b => ?_), ?_, by omega⟩
          · rw [x_u_ne (by omega), x_u_ne (by omega), (k4 x (by omega)).1, (k4 x (by omega)).2, i2 _ _ _ (by omega), i2 _ _ _ (by omega)]; exact ⟨rfl, rfl⟩
          · rw [x_u_ne (by omega)]; exact k3.1
        · rw [x_u_ne (by omega), k5 _ _ _ (by omega)]; exact w2
        · exact x_u_eq
        · intro i hi
          rw [x_u_ne (by omega), k5 _ _ _ (by omega), i2 _ _ _ (by omega), e2 _ _ _ (by omega) (by omega)]
      · rw [if_neg h5, if_pos cn_0]
        exact ⟨Z2, rfl, e2.kl.trans i2.kc.kl, fun h => absurd h h5, i4⟩
    · rw [if_neg h0, if_pos cn_0]
      have hf : q_sk K 59 ((e_T K V j).1, (e_T K V j).2.1) = ((e_T K V j).1, (e_T K V j).2.1) := q_sk_f h0
      rw [hf]
      exact ⟨Z1, by rw [if_neg h0], e2.kl, fun h => absurd h h0, e4⟩
  intro f
  induction f with
  | zero =>
    intro hf Z j n o5 hT hX hl h4
    obtain ⟨x1, x2, x3, x4, x5⟩ := hX
    have hX : CXn Z K (1 - t) j n := ⟨x1, x2, x3, x4, x5⟩
    obtain ⟨k1, k2, k3⟩ := hT j x1 x2
    have hb := hB j
    rw [B30_35, if_neg (by decide), x3, cn_nt (z := (j : Int)) rfl (by omega), if_pos (by omega), Int.toNat_natCast, k1, cn_id (z := K j) (by omega) (by omega)]
    by_cases hk : K j = 272
    · rw [if_pos hk, if_neg (by decide), C23 _ _ _ (by omega), Option.bind_some, B30_69, if_pos (.inl rfl), l_T_0 hk]
      exact ⟨_, rfl, fun g m i a b => x_u_ne (by omega), fun h => absurd h (by simp), fun _ => ⟨by rw [x_u_ne (by omega)]; exact x3, x_u_eq⟩⟩
    · rw [if_neg hk, l_T_n hk]
      exact base Z j n _ o5 hT hX hl h4
  | succ f ih =>
    intro hf Z j n o5 hT hX hl h4
    obtain ⟨x1, x2, x3, x4, x5⟩ := hX
    have hX : CXn Z K (1 - t) j n := ⟨x1, x2, x3, x4, x5⟩
    obtain ⟨k1, k2, k3⟩ := hT j x1 x2
    have hb := hB j
    rw [B30_35, cn_nt (z := ((4 - (f + 1) : Nat) : Int)) rfl (by omega), if_neg (by omega), x3, cn_nt (z := (j : Int)) rfl (by omega), if_pos (by omega), Int.toNat_natCast, k1, cn_id (z := K j) (by omega) (by omega)]
    by_cases hk : K j = 272
    · obtain ⟨Z1, e1, e2, e3, e4⟩ := c_takeN (d := d) hB hT hX h4 (by omega) t 272 (by omega) (by omega)
      have hT1 := (e2.kc (u := 1 - t)).tk hT
      have K1 : KLr (1 - t) Z Z1 := e2.kc.kl
      rw [if_pos hk, if_pos (by omega), e1, Option.bind_some, B30_77]
      by_cases q0 : (b_0 K j).1 = 0
      · have f1 : CXn Z1 K (1 - t) (b_0 K j).2 n := (e3 q0).1
        have f2 := (e3 q0).2
        obtain ⟨r1, r2, r3, r4⟩ := q_sk_y (s := (0, j)) q0
        have r4' : (b_0 K j).2 = j + 1 := r4
        have r3' : j < 400 := r3
        obtain ⟨Z2, g1, g2, g3, g4⟩ := c_termN (d := d) hB hT1 f1 (by show n + 2 ≤ (b_0 K j).2; omega) f2 hd
        have hT2 := g2.tk hT1
        have K2 := K1.trans g2.kl
        have m0 : (q_sk K 272 (0, j)).1 = 0 := q0
        rw [if_pos m0, if_neg cn_1n, g1, Option.bind_some, B30_85]
        have v1 : b_1 K V j = ((e_T K V (b_0 K j).2).1, (e_T K V (b_0 K j).2).2.1) := if_pos q0
        by_cases q1 : (b_1 K V j).1 = 0
        · have q1' : (e_T K V (b_0 K j).2).1 = 0 := by rw [v1] at q1; exact q1
          obtain ⟨h1, h2, h3, h5⟩ := g3 q1'
          obtain ⟨z1, z2, z3, z4, z5⟩ := e_T_G hB f1.1 q1'
          have v1' : (b_1 K V j).2 = (e_T K V (b_0 K j).2).2.1 := by rw [v1]
          have w1 : b_1 K V j = (0, (e_T K V (b_0 K j).2).2.1) := by rw [v1, q1']
          obtain ⟨Z3, i1, i2, i3, i4⟩ := c_takeN (d := d) hB hT2 h1 h5 (by omega) t 60 (by omega) (by omega)
          have hb2 : b_2 K V j = q_sk K 60 (0, (e_T K V (b_0 K j).2).2.1) := by unfold b_2; rw [w1]
          have hT3 := (i2.kc (u := 1 - t)).tk hT2
          have K3 := K2.trans (i2.kc (u := 1 - t)).kl
          rw [← hb2] at i1 i3 i4
          rw [if_pos q1', if_neg cn_1n, i1, Option.bind_some, B30_94]
          by_cases q2 : (b_2 K V j).1 = 0
          · obtain ⟨j1, j2⟩ := i3 q2
            have s2 := q_sk_y (s := b_1 K V j) q2
            have s2' : (b_2 K V j).2 = (b_1 K V j).2 + 1 := s2.2.2.2
            have s2'' : (b_1 K V j).2 < 400 := s2.2.2.1
            have lb : n + (e_T K V (b_0 K j).2).2.2.length + 2 ≤ (b_2 K V j).2 := by omega
            obtain ⟨Z4, l1, l2, l3, l4⟩ := c_termN (d := d) hB hT3 j1 lb j2 hd
            have hT4 := l2.tk hT3
            have K4 := K3.trans l2.kl
            rw [if_pos q2, if_neg cn_1n, l1, Option.bind_some, B30_102]
            have v3 : b_3 K V j = ((e_T K V (b_2 K V j).2).1, (e_T K V (b_2 K V j).2).2.1) := if_pos q2
            by_cases q3 : (b_3 K V j).1 = 0
            · have q3' : (e_T K V (b_2 K V j).2).1 = 0 := by rw [v3] at q3; exact q3
              obtain ⟨m1, m2, m3, m4⟩ := l3 q3'
              obtain ⟨y1, y2, y3, y4, y5⟩ := e_T_G hB j1.1 q3'
              have v3' : (b_3 K V j).2 = (e_T K V (b_2 K V j).2).2.1 := by rw [v3]
              have w3 : b_3 K V j = (0, (e_T K V (b_2 K V j).2).2.1) := by rw [v3, q3']
              obtain ⟨Z5, n1, n2, n3, n4⟩ := c_takeN (d := d) hB hT4 m1 m4 (by omega) t 273 (by omega) (by omega)
              have hb4 : b_4 K V j = q_sk K 273 (0, (e_T K V (b_2 K V j).2).2.1) := by unfold b_4; rw [w3]
              have hT5 := (n2.kc (u := 1 - t)).tk hT4
              have K5 := K4.trans (n2.kc (u := 1 - t)).kl
              rw [← hb4] at n1 n3 n4
              rw [if_pos q3', if_neg cn_1n, n1, Option.bind_some, B30_112]
              by_cases q4 : (b_4 K V j).1 = 0
              · obtain ⟨o1, o2⟩ := n3 q4
                have s4 := q_sk_y (s := b_3 K V j) q4
                have s4' : (b_4 K V j).2 = (b_3 K V j).2 + 1 := s4.2.2.2
                have s4'' : (b_3 K V j).2 < 400 := s4.2.2.1
                obtain ⟨Z6, p1, p2, p3, p4, p5⟩ := c_emitN (d := d) o1 (by omega) (by omega) t 60 0
                have kz6 : KCr (1 - t) Z5 Z6 := fun g m i _ b => p5 g m i b
                have hT6 := kz6.tk hT5
                have K6 := K5.trans kz6.kl
                have z6h : Z6 2 0 4 = 1 := by rw [p5 _ _ _ (by omega)]; exact o2
                have lb2 : n + (e_T K V (b_0 K j).2).2.2.length + (e_T K V (b_2 K V j).2).2.2.length + 1 + 2 ≤ (b_4 K V j).2 := by omega
                obtain ⟨Z7, t1, t2, t3, t4⟩ := c_termN (d := d) hB hT6 p2 lb2 z6h hd
                have hT7 := t2.tk hT6
                have K7 := K6.trans t2.kl
                rw [if_pos q4, if_neg cn_1n, p1, Option.bind_some, B30_130, t1, Option.bind_some, B30_135]
                have v5 : b_5 K V j = ((e_T K V (b_4 K V j).2).1, (e_T K V (b_4 K V j).2).2.1) := if_pos q4
                by_cases q5 : (b_5 K V j).1 = 0
                · have q5' : (e_T K V (b_4 K V j).2).1 = 0 := by rw [v5] at q5; exact q5
                  obtain ⟨u1, u2, u3, u4⟩ := t3 q5'
                  obtain ⟨c1, c2, c3, c4, c5⟩ := e_T_G hB o1.1 q5'
                  have v5' : (b_5 K V j).2 = (e_T K V (b_4 K V j).2).2.1 := by rw [v5]
                  have w5 : b_5 K V j = (0, (e_T K V (b_4 K V j).2).2.1) := by rw [v5, q5']
                  obtain ⟨Z8, a8, b8, c8, d8⟩ := c_takeN (d := d) hB hT7 u1 u4 (by omega) t 274 (by omega) (by omega)
                  have hb6 : b_6 K V j = q_sk K 274 (0, (e_T K V (b_4 K V j).2).2.1) := by unfold b_6; rw [w5]
                  have hT8 := (b8.kc (u := 1 - t)).tk hT7
                  have K8 := K7.trans (b8.kc (u := 1 - t)).kl
                  rw [← hb6] at a8 c8 d8
                  rw [if_pos q5', if_neg cn_1n, a8, Option.bind_some, B30_145]
                  by_cases q6 : (b_6 K V j).1 = 0
                  · obtain ⟨a9, b9⟩ := c8 q6
                    have s6 := q_sk_y (s := b_5 K V j) q6
                    have s6' : (b_6 K V j).2 = (b_5 K V j).2 + 1 := s6.2.2.2
                    have s6'' : (b_5 K V j).2 < 400 := s6.2.2.1
                    obtain ⟨Z9, a10, b10, c10, d10, e10⟩ := c_emitN (d := d) a9 (by omega) (by omega) t 59 0
                    have kz9 : KCr (1 - t) Z8 Z9 := fun g m i _ b => e10 g m i b
                    have o14 := o1.2.2.2.1
                    have b104 := b10.2.2.2.1
                    rw [if_pos q6, if_neg cn_1n, a10, Option.bind_some, B30_157, o14, C8 _ _ _ _ _ (by omega), cn_nt (z := ((n + (e_T K V (b_0 K j).2).2.2.length + (e_T K V (b_2 K V j).2).2.2.length : Nat) : Int)) rfl (by omega), if_neg (by omega), b104, cn_nt (z := ((n + (e_T K V (b_0 K j).2).2.2.length + (e_T K V (b_2 K V j).2).2.2.length + 1 + (e_T K V (b_4 K V j).2).2.2.length + 1 : Nat) : Int)) rfl (by omega), if_pos (by omega), if_pos (by omega), Int.toNat_natCast, Option.bind_some, B30_163, show ((4 - (f + 1) : Nat) : Int) + 1 = ((4 - f : Nat) : Int) by omega]
                    have kz10 : KCr (1 - t) Z9 (x_u Z9 18 (1 - t) (n + (e_T K V (b_0 K j).2).2.2.length + (e_T K V (b_2 K V j).2).2.2.length) ((n + (e_T K V (b_0 K j).2).2.2.length + (e_T K V (b_2 K V j).2).2.2.length + 1 + (e_T K V (b_4 K V j).2).2.2.length + 1 : Nat) : Int)) := fun g m i a b => x_u_ne (by omega)
                    have K10 := K8.trans (kz9.trans kz10).kl
                    obtain ⟨y101, y102, y103, y104, y105⟩ := b10
                    obtain ⟨Z11, A1, A2, A3, A4⟩ := ih (by omega) (x_u Z9 18 (1 - t) (n + (e_T K V (b_0 K j).2).2.2.length + (e_T K V (b_2 K V j).2).2.2.length) ((n + (e_T K V (b_0 K j).2).2.2.length + (e_T K V (b_2 K V j).2).2.2.length + 1 + (e_T K V (b_4 K V j).2).2.2.length + 1 : Nat) : Int)) (b_6 K V j).2 (n + (e_T K V (b_0 K j).2).2.2.length + (e_T K V (b_2 K V j).2).2.2.length + 1 + (e_T K V (b_4 K V j).2).2.2.length + 1) (some (.inl ((n + (e_T K V (b_0 K j).2).2.2.length + (e_T K V (b_2 K V j).2).2.2.length : Nat) : Int))) ((kz9.trans kz10).tk hT8) ⟨y101, y102, by rw [x_u_ne (by omega)]; exact y103, by rw [x_u_ne (by omega)]; exact y104, y105⟩ (by omega) (by rw [x_u_ne (by omega), e10 _ _ _ (by omega)]; exact b9)
                    rw [l_T_y hk q6]
                    refine ⟨Z11, A1, K10.trans A2, fun hz => ?_, A4⟩
                    obtain ⟨n', B1, B2, B3, B4, B5, B6, B7, B8⟩ := A3 hz
                    /- the cells below -/
                    have low : ∀ i, i < n + (e_T K V (b_0 K j).2).2.2.length + (e_T K V (b_2 K V j).2).2.2.length → Z11 17 (1 - t) i = Z4 17 (1 - t) i ∧ Z11 18 (1 - t) i = Z4 18 (1 - t) i := fun i hi => by
                      rw [(B4 i (by omega)).1, (B4 i (by omega)).2, x_u_ne (by omega), x_u_ne (by omega), (d10 i (by omega)).1, (d10 i (by omega)).2, b8 _ _ _ (by omega), b8 _ _ _ (by omega), (u3 i (by omega)).1, (u3 i (by omega)).2, (p4 i (by omega)).1, (p4 i (by omega)).2, n2 _ _ _ (by omega), n2 _ _ _ (by omega)]; exact ⟨rfl, rfl⟩
                    have low2 : ∀ i, i < n + (e_T K V (b_0 K j).2).2.2.length → Z11 17 (1 - t) i = Z2 17 (1 - t) i ∧ Z11 18 (1 - t) i = Z2 18 (1 - t) i := fun i hi => by
                      rw [(low i (by omega)).1, (low i (by omega)).2, (m3 i (by omega)).1, (m3 i (by omega)).2, i2 _ _ _ (by omega), i2 _ _ _ (by omega)]; exact ⟨rfl, rfl⟩
                    refine ⟨n', B1, B2, by omega, fun i hi => ?_, ?_, B6, B7, fun i hi => ?_⟩
                    · rw [(low2 i (by omega)).1, (low2 i (by omega)).2, (h3 i hi).1, (h3 i hi).2, e2 _ _ _ (by omega), e2 _ _ _ (by omega)]; exact ⟨rfl, rfl⟩
                    · refine ⟨h2.congr (fun x a b => low2 x b), m2.congr (fun x a b => low x b), ?_, ?_, ?_, ?_, B5⟩
                      · rw [(B4 _ (by omega)).1, x_u_ne (by omega), (d10 _ (by omega)).1, b8 _ _ _ (by omega), (u3 _ (by omega)).1]; exact p3.1
                      · rw [(B4 _ (by omega)).2, x_u_eq]
                      · refine u2.congr (fun x a b => ?_)
                        have b' : x < n + (e_T K V (b_0 K j).2).2.2.length + (e_T K V (b_2 K V j).2).2.2.length + 1 + (e_T K V (b_4 K V j).2).2.2.length := b
                        rw [(B4 x (by omega)).1, (B4 x (by omega)).2, x_u_ne (by omega), x_u_ne (by omega), (d10 x (by omega)).1, (d10 x (by omega)).2, b8 _ _ _ (by omega), b8 _ _ _ (by omega)]; exact ⟨rfl, rfl⟩
                      · show Z11 17 (1 - t) (n + (e_T K V (b_0 K j).2).2.2.length + (e_T K V (b_2 K V j).2).2.2.length + 1 + (e_T K V (b_4 K V j).2).2.2.length) = 59
                        rw [(B4 _ (by omega)).1, x_u_ne (by omega)]; exact c10.1
                    · rw [B8 i hi, x_u_ne (by omega), e10 _ _ _ (by omega), b8 _ _ _ (by omega), t2 _ _ _ (by omega) (by omega), p5 _ _ _ (by omega), n2 _ _ _ (by omega), l2 _ _ _ (by omega) (by omega), i2 _ _ _ (by omega), g2 _ _ _ (by omega) (by omega), e2 _ _ _ (by omega)]
                  · rw [if_neg q6, if_pos cn_0, l_T_b hk q6]
                    exact ⟨Z8, by rw [if_neg q6], K8, fun h => absurd h q6, d8⟩
                · have q5' : ¬ (e_T K V (b_4 K V j).2).1 = 0 := by rw [v5] at q5; exact q5
                  rw [if_neg q5', if_pos cn_0, l_T_b hk (by rw [b_6_5 q5]; exact q5), b_6_5 q5, v5]
                  exact ⟨Z7, by rw [if_neg q5'], K7, fun h => absurd h q5', t4⟩
              · rw [if_neg q4, if_pos cn_0, l_T_b hk (by rw [b_6_4 q4]; exact q4), b_6_4 q4]
                exact ⟨Z5, by rw [if_neg q4], K5, fun h => absurd h q4, n4⟩
            · have q3' : ¬ (e_T K V (b_2 K V j).2).1 = 0 := by rw [v3] at q3; exact q3
              rw [if_neg q3', if_pos cn_0, l_T_b hk (by rw [b_6_3 q3]; exact q3), b_6_3 q3, v3]
              exact ⟨Z4, by rw [if_neg q3'], K4, fun h => absurd h q3', l4⟩
          · rw [if_neg q2, if_pos cn_0, l_T_b hk (by rw [b_6_2 q2]; exact q2), b_6_2 q2]
            exact ⟨Z3, by rw [if_neg q2], K3, fun h => absurd h q2, i4⟩
        · have q1' : ¬ (e_T K V (b_0 K j).2).1 = 0 := by rw [v1] at q1; exact q1
          rw [if_neg q1', if_pos cn_0, l_T_b hk (by rw [b_6_1 q1]; exact q1), b_6_1 q1, v1]
          exact ⟨Z2, by rw [if_neg q1'], K2, fun h => absurd h q1', g4⟩
      · have q0' : ¬ (q_sk K 272 (0, j)).1 = 0 := q0
        rw [if_neg q0', if_pos cn_0, l_T_b hk (by rw [b_6_0 q0]; exact q0), b_6_0 q0]
        exact ⟨Z1, by rw [if_neg q0], K1, fun h => absurd h q0, e4⟩
    · rw [if_neg hk, l_T_n hk]
      exact base Z j n _ o5 hT hX hl h4
