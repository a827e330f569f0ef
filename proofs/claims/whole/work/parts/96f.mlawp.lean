/-! laws: the model reads one -/
theorem m_lawp {K P V Nm : Nat → Int} {t d v k first : Nat} (hB : KB K V) (hd : 6 ≤ d) (hv : v < 2) (hk4 : k < 4) : ∀ (f : Nat), f ≤ 4 → ∀ (Y : XZ) (j b : Nat) (cl : CL), TKm Y K P V Nm → MQr Y K P 0 j → Y 56 0 12 = 0 → MC Y (420 * v) cl → cl.length ≤ j → Y 56 0 40 = (b : Int) → 130 * v ≤ b → 4 * (b - 130 * v) + 2 ≤ j → Y 56 0 19 = (v : Int) → ∃ Y' : XZ, x_EX d 161 12 [some (.inr (.inr (some (56, 0)))), some (.inl ((k : Int))), some (.inl ((first : Int))), some (.inl (((4 - f : Nat) : Int)))] [] (x_S Y t) = some (0, x_S Y' t) ∧ KLm v Y Y' ∧ MQr Y' K P (l_T K V f j).1 (l_T K V f j).2.1 ∧ ((l_T K V f j).1 = 0 → ∃ (b' : Nat) (c : CL), Y' 56 0 12 = 0 ∧ MC Y' (420 * v) (cl ++ c) ∧ (cl ++ c).length ≤ (l_T K V f j).2.1 ∧ Y' 56 0 40 = (b' : Int) ∧ b < b' ∧ 4 * (b' - 130 * v) ≤ (l_T K V f j).2.1 ∧ (∀ g i, 83 ≤ g → g ≤ 87 → i < b → Y' g 0 i = Y g 0 i) ∧ MLw Y' v b b' (l_T K V f j).2.2.1 (l_T K V f j).2.2.2 ∧ Y' 81 0 (4 * v + k) = (first : Int) ∧ Y' 82 0 (4 * v + k) = (b' : Int) ∧ (∀ i, b ≤ i → i < b' → Y' 87 0 i ≤ ((420 * v + (cl ++ c).length : Nat) : Int)) ∧ ∀ g i, 81 ≤ g → g ≤ 82 → i ≠ 4 * v + k → Y' g 0 i = Y g 0 i) := by
  have base := @m_lawb K P V Nm t d v k first hB hd hv hk4
  intro f
  induction f with
  | zero =>
    intro hf Y j b cl hT hQ h12 hM hl hb hb1 hb2 h19
    have hj4 := (hQ.2.2.1 rfl).2.1
    have h13 : Y 56 0 13 = 0 := hQ.1
    rw [B161_12, h13, if_pos cn_0]
    by_cases hk : K j = 272
    · obtain ⟨Y1, e1, e2, e3⟩ := m_fail (d := d) hT hQ (by omega) t 2 2 rfl (by omega)
      rw [if_pos rfl] at e2
      have i13 : Y1 56 0 13 = 2 := e2.1
      rw [m_is1 hB hT hQ (by omega) t 272 32 kd272 tm272 ⟨rfl, hk⟩, Option.bind_some, B161_25, if_neg cn_1n, if_pos (by decide), e1, Option.bind_some, B161_38, i13, if_pos (by decide), l_T_0 hk]
      exact ⟨Y1, rfl, e3.kl, e2, fun h => absurd h (by simp)⟩
    · rw [m_is0 hB hT hQ (by omega) t 272 32 kd272 tm272 (fun e => hk e.2), Option.bind_some, B161_25, if_pos cn_0, l_T_n hk]
      exact base Y j b 0 cl _ hT hQ (fun _ => ⟨h12, hM, hl, hb2⟩) hb hb1 (by omega) h19
  | succ f ih =>
    intro hf Y j b cl hT hQ h12 hM hl hb hb1 hb2 h19
    have hj4 := (hQ.2.2.1 rfl).2.1
    have h13 : Y 56 0 13 = 0 := hQ.1
    have bb : 0 ≤ (b : Int) ∧ (b : Int) < 260 := by omega
    rw [B161_12, h13, if_pos cn_0]
    by_cases hk : K j = 272
    · have hg0 : q_go (0, j) = b_0 K j := by unfold b_0 q_sk; rw [if_pos rfl, if_pos hk]
      obtain ⟨Y1, e1, e2, e3⟩ := m_goes1 (d := d) hT hQ (fun _ => by omega) (by omega) t
      rw [hg0] at e2
      have K1 : KLm v Y Y1 := e3.kl
      have b40 : Y1 56 0 40 = (b : Int) := by rw [e3 _ _ _ (by omega)]; exact hb
      rw [m_is1 hB hT hQ (by omega) t 272 32 kd272 tm272 ⟨rfl, hk⟩, Option.bind_some, B161_25, if_neg cn_1n, cn_nt (z := ((4 - (f + 1) : Nat) : Int)) rfl (by omega), if_neg (by omega), B161_38, h13, if_neg (by decide), e1, Option.bind_some, B161_53, b40, cn_nt (z := (b : Int)) rfl (by omega), if_pos bb, if_pos bb, Int.toNat_natCast]
      have k2 : KLm v Y1 (x_u (x_u Y1 83 0 b 1) 84 0 b (Y1 56 0 46)) := fun g m i a c e => by
        by_cases hm : (g = 83 ∨ g = 84) ∧ m = 0 ∧ i = b
        · exact absurd (show mlh v g i by unfold mlh; omega) c
        · rw [x_u_ne (by omega), x_u_ne (by omega)]
      have K2 := K1.trans k2
      have c0 : (b_0 K j).1 = 0 → (x_u (x_u Y1 83 0 b 1) 84 0 b (Y1 56 0 46)) 56 0 12 = 0 ∧ MC (x_u (x_u Y1 83 0 b 1) 84 0 b (Y1 56 0 46)) (420 * v) cl ∧ cl.length ≤ (b_0 K j).2 := fun h => ⟨by rw [x_u_ne (by omega), x_u_ne (by omega), e3 _ _ _ (by omega)]; exact h12, (hM.kf e3).kx (by rw [x_u_ne (by omega), x_u_ne (by omega)]) (fun i => ⟨by rw [x_u_ne (by omega), x_u_ne (by omega)], by rw [x_u_ne (by omega), x_u_ne (by omega)]⟩), by
        have := (q_sk_y (s := (0, j)) h).2.2.2
        have t0 : (b_0 K j).2 = j + 1 := this
        omega⟩
      obtain ⟨Y3, f1, f2, f3, f4⟩ := m_exprG (t := t) (d := d) hB (by omega) (K2.tk hT) (e2.congr (fun i hi => by rw [x_u_ne (by omega), x_u_ne (by omega)])) c0 (by omega)
      have K3 := K2.trans f2.kl
      have f3' : MQr Y3 K P (b_1 K V j).1 (b_1 K V j).2 := f3
      have f4' : ∀ _ : Nat, (b_1 K V j).1 = 0 → Y3 56 0 12 = 0 ∧ MC Y3 (420 * v) (cl ++ (e_T K V (b_0 K j).2).2.2) := fun _ => f4
      clear f4 c0
      obtain ⟨Y4, g1, g2, g3⟩ := m_must1 (d := d) hB (K3.tk hT) f3' (by omega) t 60 13 kd60 tm60 (by omega)
      have g2' : MQr Y4 K P (b_2 K V j).1 (b_2 K V j).2 := g2
      have K4 := K3.trans g3.kl
      have b404 : Y4 56 0 40 = (b : Int) := by rw [g3 _ _ _ (by omega), f2 _ _ _ (by omega) (by omega) (by omega), x_u_ne (by omega), x_u_ne (by omega)]; exact b40
      rw [f1, Option.bind_some, B161_80, g1, Option.bind_some, B161_86, b404, cn_nt (z := (b : Int)) rfl (by omega), if_pos bb, Int.toNat_natCast]
      have k5 : KLm v Y4 (x_u Y4 85 0 b (Y4 56 0 46)) := fun g m i a c e => by
        by_cases hm : g = 85 ∧ m = 0 ∧ i = b
        · exact absurd (show mlh v g i by unfold mlh; omega) c
        · exact x_u_ne hm
      have K5 := K4.trans k5
      have g25 : MQr (x_u Y4 85 0 b (Y4 56 0 46)) K P (b_2 K V j).1 (b_2 K V j).2 := g2'.congr (fun i hi => x_u_ne (by omega))
      /- what holds while there is no fault -/
      have s1 : ∀ _ : Nat, (b_1 K V j).1 = 0 → (b_1 K V j).2 = (e_T K V (b_0 K j).2).2.1 ∧ (e_T K V (b_0 K j).2).1 = 0 ∧ (b_0 K j).2 = j + 1 ∧ j < 400 := fun _ h => by
        obtain ⟨x1, x2, x3⟩ := q_xe_y (s := b_0 K j) h
        have x4 := q_sk_y (s := (0, j)) x1
        exact ⟨x3, x2, x4.2.2.2, x4.2.2.1⟩
      have s2 : ∀ _ : Nat, (b_2 K V j).1 = 0 → (b_1 K V j).1 = 0 ∧ (b_2 K V j).2 = (b_1 K V j).2 + 1 ∧ (b_1 K V j).2 < 400 := fun _ h => by
        have x4 := q_sk_y (s := b_1 K V j) h
        exact ⟨x4.1, x4.2.2.2, x4.2.2.1⟩
      have c2 : ∀ _ : Nat, (b_2 K V j).1 = 0 → (x_u Y4 85 0 b (Y4 56 0 46)) 56 0 12 = 0 ∧ MC (x_u Y4 85 0 b (Y4 56 0 46)) (420 * v) (cl ++ (e_T K V (b_0 K j).2).2.2) ∧ (cl ++ (e_T K V (b_0 K j).2).2.2).length ≤ (b_2 K V j).2 := fun _ h => by
        obtain ⟨x1, x2, x3⟩ := s2 0 h
        obtain ⟨y1, y2, y3, y4⟩ := s1 0 x1
        obtain ⟨w1, w2, w3, w4, w5⟩ := e_T_G hB (j := (b_0 K j).2) (by omega) y2
        obtain ⟨z1, z2⟩ := f4' 0 x1
        refine ⟨by rw [x_u_ne (by omega), g3 _ _ _ (by omega)]; exact z1, (z2.kf g3).kx (x_u_ne (by omega)) (fun i => ⟨x_u_ne (by omega), x_u_ne (by omega)⟩), ?_⟩
        rw [List.length_append]; omega
      have mid : ∃ Y6 : XZ, (if cn (Y4 56 0 13) = 0 then ((x_CALL d 165 [.inr (.inr (some (56, 0)))] (x_S (x_u Y4 85 0 b (Y4 56 0 46)) t)).bind fun q => x_EX d 161 110 [some (.inr (.inr (some (56, 0)))), some (.inl ((k : Int))), some (.inl ((first : Int))), some (.inl (((4 - (f + 1) : Nat) : Int) + 1))] [] q.2) else (x_EX d 161 110 [some (.inr (.inr (some (56, 0)))), some (.inl ((k : Int))), some (.inl ((first : Int))), some (.inl (((4 - (f + 1) : Nat) : Int) + 1))] [] (x_S (x_u Y4 85 0 b (Y4 56 0 46)) t))) = x_EX d 161 110 [some (.inr (.inr (some (56, 0)))), some (.inl ((k : Int))), some (.inl ((first : Int))), some (.inl (((4 - (f + 1) : Nat) : Int) + 1))] [] (x_S Y6 t) ∧ KX (420 * v) (x_u Y4 85 0 b (Y4 56 0 46)) Y6 ∧ MQr Y6 K P (b_3 K V j).1 (b_3 K V j).2 ∧ ((b_3 K V j).1 = 0 → Y6 56 0 12 = 0 ∧ MC Y6 (420 * v) ((cl ++ (e_T K V (b_0 K j).2).2.2) ++ (e_T K V (b_2 K V j).2).2.2)) := by
        have h413 := g2'.1
        have h413b := g2'.2.1
        rw [h413, cn_nt (z := ((b_2 K V j).1 : Int)) rfl (by omega)]
        by_cases h0 : (b_2 K V j).1 = 0
        · obtain ⟨Y6, i1, i2, i3, i4⟩ := m_exprG (t := t) (d := d) hB (by omega) (K5.tk hT) g25 (c2 0) (by omega)
          rw [if_pos (by omega), i1, Option.bind_some]
          exact ⟨Y6, rfl, i2, i3, i4⟩
        · rw [if_neg (by omega)]
          have e3 : b_3 K V j = b_2 K V j := q_xe_f h0
          exact ⟨_, rfl, KX.rfl', by rw [e3]; exact g25, fun h => by rw [e3] at h; exact absurd h h0⟩
      obtain ⟨Y6, i1, i2, i3, i4'⟩ := mid
      have i4 : ∀ _ : Nat, (b_3 K V j).1 = 0 → Y6 56 0 12 = 0 ∧ MC Y6 (420 * v) ((cl ++ (e_T K V (b_0 K j).2).2.2) ++ (e_T K V (b_2 K V j).2).2.2) := fun _ => i4'
      clear i4'
      have K6 := K5.trans i2.kl
      obtain ⟨Y7, l1, l2, l3⟩ := m_must1 (d := d) hB (K6.tk hT) i3 (by omega) t 273 33 kd273 tm273 (by omega)
      have l2' : MQr Y7 K P (b_4 K V j).1 (b_4 K V j).2 := l2
      have K7 := K6.trans l3.kl
      have s3 : ∀ _ : Nat, (b_3 K V j).1 = 0 → (b_2 K V j).1 = 0 ∧ (b_3 K V j).2 = (e_T K V (b_2 K V j).2).2.1 ∧ (e_T K V (b_2 K V j).2).1 = 0 := fun _ h => by
        obtain ⟨x1, x2, x3⟩ := q_xe_y (s := b_2 K V j) h
        exact ⟨x1, x3, x2⟩
      have s4 : ∀ _ : Nat, (b_4 K V j).1 = 0 → (b_3 K V j).1 = 0 ∧ (b_4 K V j).2 = (b_3 K V j).2 + 1 ∧ (b_3 K V j).2 < 400 := fun _ h => by
        have x4 := q_sk_y (s := b_3 K V j) h
        exact ⟨x4.1, x4.2.2.2, x4.2.2.1⟩
      have c4 : ∀ _ : Nat, (b_4 K V j).1 = 0 → Y7 56 0 12 = 0 ∧ MC Y7 (420 * v) ((cl ++ (e_T K V (b_0 K j).2).2.2) ++ (e_T K V (b_2 K V j).2).2.2) ∧ ((cl ++ (e_T K V (b_0 K j).2).2.2) ++ (e_T K V (b_2 K V j).2).2.2).length ≤ (b_4 K V j).2 := fun _ h => by
        obtain ⟨x1, x2, x3⟩ := s4 0 h
        obtain ⟨y1, y2, y3⟩ := s3 0 x1
        obtain ⟨n1, n2, n3⟩ := c2 0 y1
        obtain ⟨o1, o2, o3⟩ := s2 0 y1
        obtain ⟨w1, w2, w3, w4, w5⟩ := e_T_G hB (j := (b_2 K V j).2) (by omega) y3
        obtain ⟨z1, z2⟩ := i4 0 x1
        refine ⟨by rw [l3 _ _ _ (by omega)]; exact z1, z2.kf l3, ?_⟩
        rw [List.length_append]; omega
      have b407 : Y7 56 0 40 = (b : Int) := by rw [l3 _ _ _ (by omega), i2 _ _ _ (by omega) (by omega) (by omega), x_u_ne (by omega)]; exact b404
      obtain ⟨Y8, m1, m2, m3, m4, m5, m6⟩ := m_trm (t := t) (d := d) hB hv (K7.tk hT) l2' (c4 0) b407 hb1 (by omega) (by omega)
      have m6' : ∀ _ : Nat, (q_xe K V (b_4 K V j)).1 = 0 → _ := fun _ => m6
      clear m6
      have m3' : MQr Y8 K P (b_5 K V j).1 (b_5 K V j).2 := m3
      have K8 := K7.trans m2
      obtain ⟨Y9, n1, n2, n3⟩ := m_must1 (d := d) hB (K8.tk hT) m3' (by omega) t 274 34 kd274 tm274 (by omega)
      have n2' : MQr Y9 K P (b_6 K V j).1 (b_6 K V j).2 := n2
      have K9 := K8.trans n3.kl
      have b409 : Y9 56 0 40 = ((b + 1 : Nat) : Int) := by rw [n3 _ _ _ (by omega)]; exact m4
      have h199 : Y9 56 0 19 = (v : Int) := by rw [K9 _ _ _ (by omega) (by unfold mlh; omega) (by omega)]; exact h19
      rw [i1, B161_110, l1, Option.bind_some, B161_116, m1, Option.bind_some, B161_120, n1, Option.bind_some, B161_126, show ((4 - (f + 1) : Nat) : Int) + 1 = ((4 - f : Nat) : Int) by omega]
      by_cases h6 : (b_6 K V j).1 = 0
      · rw [l_T_y hk h6]
        have x6 := q_sk_y (s := b_5 K V j) h6
        have x6' : (b_6 K V j).2 = (b_5 K V j).2 + 1 := x6.2.2.2
        have x6'' : (b_5 K V j).2 < 400 := x6.2.2.1
        obtain ⟨y51, y52, y53⟩ := q_xe_y (s := b_4 K V j) x6.1
        have y53' : (b_5 K V j).2 = (e_T K V (b_4 K V j).2).2.1 := y53
        obtain ⟨o1, o2, o3⟩ := c4 0 y51
        obtain ⟨x41, x42, x43⟩ := s4 0 y51
        obtain ⟨x31, x32, x33⟩ := s3 0 x41
        obtain ⟨x21, x22, x23⟩ := s2 0 x31
        obtain ⟨x11, x12, x13, x14⟩ := s1 0 x21
        obtain ⟨w1, w2, w3, w4, w5⟩ := e_T_G hB (j := (b_4 K V j).2) (by omega) y52
        obtain ⟨u1, u2, u3, u4, u5⟩ := e_T_G hB (j := (b_2 K V j).2) (by omega) x33
        obtain ⟨r1, r2, r3, r4, r5⟩ := e_T_G hB (j := (b_0 K j).2) (by omega) x12
        obtain ⟨p1, p2, p3, p4⟩ := m6' 0 x6.1
        rw [h6] at n2'
        obtain ⟨Y10, A1, A2, A3, A4⟩ := ih (by omega) Y9 (b_6 K V j).2 (b + 1) (((cl ++ (e_T K V (b_0 K j).2).2.2) ++ (e_T K V (b_2 K V j).2).2.2) ++ (e_T K V (b_4 K V j).2).2.2) (K9.tk hT) n2' (by rw [n3 _ _ _ (by omega)]; exact p1) (p2.kf n3) (by rw [List.length_append]; omega) b409 (by omega) (by omega) h199
        refine ⟨Y10, A1, K9.trans A2, A3, fun hz => ?_⟩
        obtain ⟨b', c, B1, B2, B3, B4, B5, B6, B7, B8, B9, B10, B12, B11⟩ := A4 hz
        have asc : (((cl ++ (e_T K V (b_0 K j).2).2.2) ++ (e_T K V (b_2 K V j).2).2.2) ++ (e_T K V (b_4 K V j).2).2.2) ++ c = cl ++ ((e_T K V (b_0 K j).2).2.2 ++ ((e_T K V (b_2 K V j).2).2.2 ++ ((e_T K V (b_4 K V j).2).2.2 ++ c))) := by
          rw [List.append_assoc, List.append_assoc, List.append_assoc]
        have B2' := B2
        rw [asc] at B2 B3 B12
        have hlen := congrArg List.length asc
        rw [List.length_append] at hlen
        refine ⟨b', _, B1, B2, B3, B4, by omega, B6, fun g i a c e => ?_, ⟨⟨hb1, by omega, ?_, 420 * v + cl.length, by omega, ?_, ?_, ?_, ?_, ?_, B2.ma, ?_, ?_⟩, B8⟩, B9, B10, fun i hi hi' => ?_, fun g i a c e => ?_⟩
        · rw [B7 g i a c (by omega), n3 _ _ _ (by omega), m5 g i (by omega) c (by omega), l3 _ _ _ (by omega), i2 _ _ _ (by omega) (by omega) (by omega), x_u_ne (by omega), g3 _ _ _ (by omega), f2 _ _ _ (by omega) (by omega) (by omega), x_u_ne (by omega), x_u_ne (by omega), e3 _ _ _ (by omega)]
        · rw [B7 83 b (by omega) (by omega) (by omega), n3 _ _ _ (by omega), m5 83 b (by omega) (by omega) (by omega), l3 _ _ _ (by omega), i2 _ _ _ (by omega) (by omega) (by omega), x_u_ne (by omega), g3 _ _ _ (by omega), f2 _ _ _ (by omega) (by omega) (by omega), x_u_ne (by omega), x_u_eq]
        · rw [List.length_append, List.length_append] at o3
          show 420 * v + cl.length + (e_T K V (b_0 K j).2).2.2.length + (e_T K V (b_2 K V j).2).2.2.length + (e_T K V (b_4 K V j).2).2.2.length ≤ 420 * v + 420
          omega
        · rw [B7 84 b (by omega) (by omega) (by omega), n3 _ _ _ (by omega), m5 84 b (by omega) (by omega) (by omega), l3 _ _ _ (by omega), i2 _ _ _ (by omega) (by omega) (by omega), x_u_ne (by omega), g3 _ _ _ (by omega), f2 _ _ _ (by omega) (by omega) (by omega), x_u_eq, e3 _ _ _ (by omega)]; exact hM.1
        · show Y10 85 0 b = ((420 * v + cl.length + (e_T K V (b_0 K j).2).2.2.length : Nat) : Int)
          have q := (f4' 0 x21).2.1
          rw [List.length_append] at q
          rw [B7 85 b (by omega) (by omega) (by omega), n3 _ _ _ (by omega), m5 85 b (by omega) (by omega) (by omega), l3 _ _ _ (by omega), i2 _ _ _ (by omega) (by omega) (by omega), x_u_eq, g3 _ _ _ (by omega), q]; omega
        · show Y10 86 0 b = ((420 * v + cl.length + (e_T K V (b_0 K j).2).2.2.length + (e_T K V (b_2 K V j).2).2.2.length : Nat) : Int)
          rw [B7 86 b (by omega) (by omega) (by omega), n3 _ _ _ (by omega), p3, List.length_append, List.length_append]; omega
        · show Y10 87 0 b = ((420 * v + cl.length + (e_T K V (b_0 K j).2).2.2.length + (e_T K V (b_2 K V j).2).2.2.length + (e_T K V (b_4 K V j).2).2.2.length : Nat) : Int)
          rw [B7 87 b (by omega) (by omega) (by omega), n3 _ _ _ (by omega), p4, List.length_append, List.length_append, List.length_append]; omega
        · show MA Y10 (420 * v + cl.length + (e_T K V (b_0 K j).2).2.2.length) (e_T K V (b_2 K V j).2).2.2
          have q : MC Y10 (420 * v) ((cl ++ (e_T K V (b_0 K j).2).2.2) ++ ((e_T K V (b_2 K V j).2).2.2 ++ ((e_T K V (b_4 K V j).2).2.2 ++ c))) := by rw [List.append_assoc]; exact B2
          have q' := q.ma
          rw [List.length_append, ← Nat.add_assoc] at q'
          exact q'
        · show MA Y10 (420 * v + cl.length + (e_T K V (b_0 K j).2).2.2.length + (e_T K V (b_2 K V j).2).2.2.length) (e_T K V (b_4 K V j).2).2.2
          have q : MC Y10 (420 * v) (((cl ++ (e_T K V (b_0 K j).2).2.2) ++ (e_T K V (b_2 K V j).2).2.2) ++ ((e_T K V (b_4 K V j).2).2.2 ++ c)) := by rw [← List.append_assoc]; exact B2'
          have q' := q.ma
          rw [List.length_append, List.length_append, ← Nat.add_assoc, ← Nat.add_assoc] at q'
          exact q'
        · by_cases hib : i = b
          · rw [hib, B7 87 b (by omega) (by omega) (by omega), n3 _ _ _ (by omega), p4]; omega
          · exact B12 i (by omega) hi'
        · rw [B11 g i a c e, n3 _ _ _ (by omega), m5 g i a (by omega) (by omega), l3 _ _ _ (by omega), i2 _ _ _ (by omega) (by omega) (by omega), x_u_ne (by omega), g3 _ _ _ (by omega), f2 _ _ _ (by omega) (by omega) (by omega), x_u_ne (by omega), x_u_ne (by omega), e3 _ _ _ (by omega)]
      · rw [l_T_b hk h6]
        have h913 := n2'.1
        have h913b := n2'.2.1
        obtain ⟨Y10, A1, A2, A3, A4⟩ := base Y9 (b_6 K V j).2 (b + 1) (b_6 K V j).1 cl (((4 - f : Nat) : Int)) (K9.tk hT) n2' (fun h => absurd h h6) b409 (by omega) (by omega) h199
        have z : q_sk K 59 (q_xe K V ((b_6 K V j).1, (b_6 K V j).2)) = ((b_6 K V j).1, (b_6 K V j).2) := by
          have a1 : q_xe K V ((b_6 K V j).1, (b_6 K V j).2) = ((b_6 K V j).1, (b_6 K V j).2) := q_xe_f h6
          rw [a1]; exact q_sk_f h6
        rw [z] at A3
        refine ⟨Y10, ?_, K9.trans A2, A3, fun h => absurd h h6⟩
        rw [B161_12, h913, cn_nt (z := ((b_6 K V j).1 : Int)) rfl (by omega), if_neg (by omega)]
        exact A1
    · rw [m_is0 hB hT hQ (by omega) t 272 32 kd272 tm272 (fun e => hk e.2), Option.bind_some, B161_25, if_pos cn_0, l_T_n hk]
      exact base Y j b 0 cl _ hT hQ (fun _ => ⟨h12, hM, hl, hb2⟩) hb hb1 (by omega) h19
