/-! read: step 2 -/
theorem x_S_inj {a b : Int} {Z Z' : XZ} {t : Nat} (h : some (a, x_S Z t) = some (b, x_S Z' t)) : a = b ∧ Z = Z' := by
  have h1 := Option.some.inj h
  exact ⟨congrArg Prod.fst h1, congrArg (fun x => x.2.2.1) h1⟩
noncomputable def N00 (T : PT) : PN := fun k => if k = 15 then -2 else if k = 12 then (T 12 0 : Int) else if 5 ≤ k ∧ k < 12 then (T 9 (k - 5) : Int) - 1 else 0
theorem N00_s {T : PT} {m : Nat} (h : m < 5) : N00 T m = 0 := by unfold N00; rw [if_neg (by omega), if_neg (by omega), if_neg (by omega)]
theorem N00_c {T : PT} {c : Nat} (h : c < 7) : N00 T (5 + c) = (T 9 c : Int) - 1 := by unfold N00; rw [if_neg (by omega), if_neg (by omega), if_pos (by omega), show 5 + c - 5 = c by omega]
theorem s2_ok : p_s2 PI := by
  intro Z t hPI
  obtain ⟨T, F, N, H, K, v, u, nx, hPP⟩ := hPI
  obtain ⟨h1, h2, h3, h4, h5, h6, h7, h8, h9, h10, h11, h12, h13⟩ := hPP
  have hPP : PP T F N H K v u nx Z t := ⟨h1, h2, h3, h4, h5, h6, h7, h8, h9, h10, h11, h12, h13⟩
  have hv : v < 2 := h4.1
  have h18 := h4.2.1
  obtain ⟨n, n1, n2, n3, n4, n5, n6⟩ := h13
  have hX : TX Z 1 (fun i => Z 1 0 i) n := ⟨n1, fun i hi => ⟨rfl, (n5 i hi).2⟩⟩
  obtain ⟨Z0, a1, a2, a3⟩ := c_start (d := 59) (t := t) hX (by omega)
  have hB := k_B (fun i => Z 1 0 i) n
  have hV := k_VN (fun i => Z 1 0 i) n
  have hNV := k_NV (fun i => Z 1 0 i) n
  have hP : PMo (kK (fun i => Z 1 0 i) n) (kP (fun i => Z 1 0 i) n) := k_PM n1
  /- the model, begun on any heap that has the tape -/
  have start : ∀ (Y : XZ) (tm : Nat), (∀ i, i < n → Y 57 0 i = Z 57 0 i) → Y 56 0 2 = Z 56 0 2 → (∀ k, k < 24 → Y 63 0 k = Z 63 0 k) → Y 56 0 18 = Z 56 0 18 → ∃ Y0 : XZ, x_CALL 60 150 [.inr (.inr (some (56, 0)))] (x_S Y tm) = x_EX 59 150 112 [some (.inr (.inr (some (56, 0)))), some (.inl ((n : Int)))] [] (x_S Y0 tm) ∧ JE Z0 Y0 (kK (fun i => Z 1 0 i) n) (kP (fun i => Z 1 0 i) n) (kV (fun i => Z 1 0 i) n) (kN (fun i => Z 1 0 i) n) t (1 - v) tm 58 59 (n : Int) (n : Int) 0 ∧ Y0 56 0 2 = 0 ∧ ∀ g m i, ¬ (58 ≤ g ∧ g ≤ 62) → ¬ (g = 56 ∧ (i = 2 ∨ i = 4 ∨ i = 10 ∨ i = 19)) → ¬ mal (1 - v) g i → Y0 g m i = Y g m i := by
    intro Y tm y57 y2 y63 y18
    obtain ⟨Y0, b1, b2, b3, b4⟩ := m_rstart (Y := Y) (W := fun i => Z 1 0 i) (n := n) (t := tm) (d := 60) (v := 1 - v) (by omega) n1 (fun i hi => ⟨by rw [y57 i hi]; exact (n5 i hi).1.symm, (n5 i hi).2⟩) (by rw [y2]; exact n3) (fun k hk => by rw [y63 k hk]; exact n6 k hk) (by rw [y18, h18, show 1 - (1 - v) = v by omega]) (by omega)
    obtain ⟨s1, s2, s3⟩ := j_start (K := kK (fun i => Z 1 0 i) n) (P := kP (fun i => Z 1 0 i) n)
    exact ⟨Y0, b1, j_loop (tm := tm) (dc := 58) (dm := 59) (a2 := (n : Int)) (a1 := (n : Int)) hB hV hP hNV (by omega) (by omega) (by omega) 401 Z0 Y0 0 0 (0, -1) T00 (fun _ => none) (by omega) (by omega) ⟨0, 0, 130 * (1 - v), [], fun _ => 0, fun _ => 0, a2, b2, s1, s2, s3⟩, b3, b4⟩
  obtain ⟨_, _, ⟨h, Z', _, c1, c2, c3, c4⟩, _, _⟩ := start Z t (fun _ _ => rfl) rfl (fun _ _ => rfl) rfl
  have cls : x_CALL 59 20 [.inr (.inr (some (2, 0))), .inr (.inr (some (1, 0))), .inl (Z 0 0 1)] (x_S Z t) = some ((h : Int), x_S Z' t) := by rw [n2, a1]; exact c1
  have fz : ∀ g m i, g ≠ 2 → ¬ (4 ≤ g ∧ g ≤ 6) → g ≠ 26 → g ≠ 27 → ¬ (m = 1 - t ∧ 7 ≤ g ∧ g ≤ 18) → Z' g m i = Z g m i := fun g m i a b c d e => by rw [c3 g m i (by omega), a3 g m i b a e]
  have big : ∀ g, 900 ≤ g → Z' g = Z g := fun g hg => funext fun m => funext fun i => fz g m i (by omega) (by omega) (by omega) (by omega) (by omega)
  have nmh : ∀ g i, 900 ≤ g → ¬ mal (1 - v) g i := fun g i hg => by unfold mal mlh; omega
  by_cases h0 : h = 0
  · subst h0
    rcases c4 with ⟨x, _⟩ | ⟨_, _, _, cpl, T1, G1, nn, bb, cl, k1, k2, k3, k4, k5, k6, k7, k8, k9⟩
    · exact absurd rfl x
    · obtain ⟨Z1, e1, e2, e3, e4, e5, e6, e7⟩ := c_end (d := 59) h1 k1 k2 k9 (by omega)
      have f1 : ∀ g m i, ¬ (g = 0 ∧ (i = 1 ∨ i = 2)) → g ≠ 2 → ¬ (4 ≤ g ∧ g ≤ 6) → g ≠ 26 → g ≠ 27 → ¬ (m = 1 - t ∧ 7 ≤ g ∧ g ≤ 24) → ¬ (28 ≤ g ∧ g ≤ 30 ∧ m = 0) → ¬ (g = 31 ∧ i = 0) → ¬ (g = 35 ∧ i = 0) → g ≠ 34 → Z1 g m i = Z g m i := fun g m i q1 q2 q3 q4 q5 q6 q7 q8 q9 q10 => by rw [e7 g m i q1 (by omega) q7 q8 q9 q10, fz g m i q2 q3 q4 q5 (by omega)]
      obtain ⟨Y0, b1, ⟨h', Z'', Y', d1, d2, d3, d4⟩, b3, b4⟩ := start Z1 (1 - t) (fun i _ => f1 _ _ _ (by omega) (by omega) (by omega) (by omega) (by omega) (by omega) (by omega) (by omega) (by omega) (by omega)) (f1 _ _ _ (by omega) (by omega) (by omega) (by omega) (by omega) (by omega) (by omega) (by omega) (by omega) (by omega)) (fun k _ => f1 _ _ _ (by omega) (by omega) (by omega) (by omega) (by omega) (by omega) (by omega) (by omega) (by omega) (by omega)) (f1 _ _ _ (by omega) (by omega) (by omega) (by omega) (by omega) (by omega) (by omega) (by omega) (by omega) (by omega))
      obtain ⟨u1, u2⟩ := x_S_inj (c1.symm.trans d1)
      have u1' : h' = 0 := by omega
      subst u1'
      subst u2
      rcases d4 with ⟨x, _⟩ | ⟨_, g1, g2, gpl, T2, G2, nn2, bb2, cl2, l1, l2, l3, l4, l5, l6, l7, l8, l9⟩
      · exact absurd rfl x
      · obtain ⟨Z1', m1, m2, m3, m4, m5, m6, m7⟩ := c_end (d := 59) h1 l1 l2 l9 (by omega)
        obtain ⟨_, w2⟩ := x_S_inj (e1.symm.trans m1)
        subst w2
        have vv : 1 - v < 2 := by omega
        /- the model goes on to its end -/
        obtain ⟨Ya, p1, p2, p3⟩ := m_beg (Y := x_u (x_u Y' 56 0 17 (-1)) 56 0 18 ((1 - v : Nat) : Int)) (v := 1 - v) (d := 59) vv x_u_eq (by omega) (1 - t)
        obtain ⟨Yb, q1, q2, q3⟩ := m_rest (Y := x_u (x_u (x_cp Ya 94 0 0 93 0 0 16) 56 0 67 0) 56 0 70 0) (d := 59) (1 - t)
        have mdl : x_CALL 60 150 [.inr (.inr (some (56, 0)))] (x_S Z1 (1 - t)) = some (0, x_S Yb (1 - t)) := by
          rw [b1, g1, p1, Option.bind_some, B150_203, m_keeps (by omega), Option.bind_some, B150_207, q1]
        have clsr : x_CALL 60 85 [.inr (.inr (some (0, 0)))] (x_S Z t) = some (0, x_S Z1 (1 - t)) := by
          rw [C85 _ _ _ (by omega), cls, Option.bind_some]; exact e1
        have fb : ∀ g m i, g ≠ 107 → ¬ (g = 56 ∧ (i = 67 ∨ i = 70 ∨ i = 56 ∨ i = 17 ∨ i = 18)) → g ≠ 93 → g ≠ 94 → Yb g m i = Y' g m i := fun g m i z1 z2 z3 z4 => by
          rw [q3 _ _ _ z1, x_u_ne (by omega), x_u_ne (by omega), x_cp_ne (by omega), p3 _ _ _ z4 (by omega), x_u_ne (by omega), x_u_ne (by omega)]
        have fy : ∀ g m i, ¬ (58 ≤ g ∧ g ≤ 62) → ¬ (g = 56 ∧ (i = 2 ∨ i = 4 ∨ i = 10 ∨ i = 19)) → ¬ mal (1 - v) g i → Y' g m i = Z1 g m i := fun g m i z1 z2 z3 => by rw [g2 g m i z3, b4 g m i z1 z2 z3]
        have nlo : ∀ g i, g < 56 ∨ 90 < g → ¬ mal (1 - v) g i := fun g i hh => by unfold mal mlh; omega
        have fc : ∀ g m i, g < 56 → Yb g m i = Z1 g m i := fun g m i hh => by rw [fb g m i (by omega) (by omega) (by omega) (by omega), fy g m i (by omega) (by omega) (nlo g i (.inl hh))]
        have fh : ∀ g m i, 94 < g → g ≠ 107 → Yb g m i = Z1 g m i := fun g m i hh hn => by rw [fb g m i hn (by omega) (by omega) (by omega), fy g m i (by omega) (by omega) (nlo g i (.inr (by omega)))]
        have y93 : ∀ k, k < 16 → Yb 93 0 k = N00 T2 k := fun k hk => by
          have hin := x_cp_in (Z := Ya) (gs := 94) (is := 0) (sp := 0) (gd := 93) (id := 0) (dp := 0) (n := 16) hk
          rw [Nat.zero_add] at hin
          rw [q3 _ _ _ (by omega), x_u_ne (by omega), x_u_ne (by omega), hin, p2 k hk]
          unfold N00
          by_cases k15 : k = 15
          · rw [if_pos k15, if_pos k15]
          · rw [if_neg k15, if_neg k15]
            by_cases k12 : k = 12
            · rw [if_pos k12, if_pos k12, x_u_ne (by omega), x_u_ne (by omega)]; exact l6.1.2.2.1
            · rw [if_neg k12, if_neg k12]
              by_cases k5 : 5 ≤ k ∧ k < 12
              · rw [if_pos k5, if_pos k5, x_u_ne (by omega), x_u_ne (by omega)]; exact l6.2.2.2.2 (k - 5) (by omega)
              · rw [if_neg k5, if_neg k5]
        obtain ⟨tk0, tk1, tk2, tk3, tk4, tk5, tk6, tk7, tk8, tk9, tk10⟩ := l1
        have hTOK : TOK T2 := ⟨tk0, tk1, tk2, tk3, tk4, tk5, tk6, tk7, tk8, tk9, tk10⟩
        have y18 : Yb 56 0 18 = ((1 - v : Nat) : Int) := by rw [q3 _ _ _ (by omega), x_u_ne (by omega), x_u_ne (by omega), x_cp_ne (by omega), p3 _ _ _ (by omega) (by omega), x_u_eq]
        have yt : ∀ g i, 66 ≤ g → g ≤ 89 → Yb g 0 i = Y' g 0 i := fun g i z1 z2 => fb g 0 i (by omega) (by omega) (by omega) (by omega)
        have cz : ∀ g i, 15 ≤ g → g ≤ 18 → Yb g (1 - t) i = Z' g (1 - t) i := fun g i z1 z2 => by rw [fc _ _ _ (by omega), m7 g (1 - t) i (by omega) (by omega) (by omega) (by omega) (by omega) (by omega)]
        have nm2 : ¬ mal (1 - v) 56 2 := by unfold mal mlh; omega
        have nm63 : ∀ i, ¬ mal (1 - v) 63 i := fun i => by unfold mal mlh; omega
        obtain ⟨mm1, mm2, mm3, mm4, mm5, mm6, mm7, mm8⟩ := m3
        refine ⟨0, 0, Z1, Yb, 1 - t, clsr, fun g hg => ?_, mdl, fun g hg => ?_, rfl, T2, FG G2, N00 T2, H, K, 1 - v, 0, nx, by omega, hTOK, m2.congr (fun g i z1 z2 z3 z4 => fc _ _ _ (by omega)), ?_, ?_, ?_, ?_, ?_, ?_, ?_, ?_, ?_, ?_⟩
        · exact funext fun m => funext fun i => f1 _ _ _ (by omega) (by omega) (by omega) (by omega) (by omega) (by omega) (by omega) (by omega) (by omega) (by omega)
        · exact funext fun m => funext fun i => by rw [fh _ _ _ (by omega) (by omega)]; exact f1 _ _ _ (by omega) (by omega) (by omega) (by omega) (by omega) (by omega) (by omega) (by omega) (by omega) (by omega)
        · refine ⟨vv, y18, ⟨?_, ?_, ?_, ?_, ?_, ?_, ?_⟩, fun c hc => ?_, fun l hl => ?_, fun m hm => ?_, fun c hc => ?_⟩
          · rw [yt _ _ (by omega) (by omega)]; exact l7.1
          · rw [yt _ _ (by omega) (by omega)]; exact l7.2.1
          · rw [yt _ _ (by omega) (by omega)]; exact l7.2.2
          · rw [yt _ _ (by omega) (by omega)]; exact l6.1.1
          · rw [yt _ _ (by omega) (by omega)]; exact l6.1.2.1
          · rw [yt _ _ (by omega) (by omega)]; exact l6.1.2.2.1
          · rw [yt _ _ (by omega) (by omega)]; exact l6.1.2.2.2
          · rw [yt _ _ (by omega) (by omega)]; exact l6.2.1 c hc
          · rw [yt _ _ (by omega) (by omega), yt _ _ (by omega) (by omega), yt _ _ (by omega) (by omega)]; exact l6.2.2.1 l hl
          · rw [yt _ _ (by omega) (by omega), yt _ _ (by omega) (by omega)]; exact l6.2.2.2.1 m hm
          · rw [yt _ _ (by omega) (by omega)]; exact l6.2.2.2.2 c hc
        · exact (g_CLaw l3 l4 l5).congr (fun g i z1 z2 => cz g i z1 z2)
        · exact (g_MLaw vv l8).half (fun g i hm => yt g i (by unfold mlh at hm; omega) (by unfold mlh at hm; omega))
        · refine ⟨fun c hc => ?_, fun m hm => ?_, ?_, ?_, ?_, ?_⟩
          · rw [fc _ _ _ (by omega), m4 c hc]
            unfold q_sg
            rw [N00_c hc]; omega
          · rw [fc _ _ _ (by omega), m5 m hm, N00_s hm]
          · rw [fc _ _ _ (by omega), mm3]; rfl
          · rw [fc _ _ _ (by omega), mm4]; rfl
          · rw [fc _ _ _ (by omega), mm5]; rfl
          · rw [fc _ _ _ (by omega), mm6]; rfl
        · intro k hk
          rw [Nat.zero_add]; exact y93 k hk
        · refine ⟨fun m hm => by rw [N00_s hm]; omega, fun c hc => by rw [N00_c hc]; have := tk10 c hc; omega, ?_, .inl rfl⟩
          rw [show N00 T2 12 = (T2 12 0 : Int) from rfl, cn_nt (z := (T2 12 0 : Int)) rfl (by omega)]; omega
        · refine ⟨by rw [fc _ _ _ (by omega), mm7]; rfl, ?_, by omega, ?_, h10.2.2.2.2.1, fun j hj => by omega⟩
          · rw [q3 _ _ _ (by omega), x_u_ne (by omega), x_u_eq]; rfl
          · rw [fc _ _ _ (by omega), f1 _ _ _ (by omega) (by omega) (by omega) (by omega) (by omega) (by omega) (by omega) (by omega) (by omega) (by omega)]; exact h10.2.2.2.1
        · intro m hm
          rw [fc _ _ _ (by omega), m6 m hm, q2 m hm]
          exact ⟨rfl, .inl rfl⟩
        · refine ⟨0, by omega, by rw [fc _ _ _ (by omega), mm8]; rfl, ?_, fun j hj => by omega⟩
          rw [q3 _ _ _ (by omega), x_u_eq]; rfl
        · refine ⟨0, by omega, by rw [fc _ _ _ (by omega), mm1]; rfl, ?_, ?_, fun i hi => by omega, fun k hk => ?_⟩
          · rw [fb _ _ _ (by omega) (by omega) (by omega) (by omega), g2 _ _ _ nm2, b3]; rfl
          · rw [fc _ _ _ (by omega), mm2, gpl, q3 _ _ _ (by omega), x_u_ne (by omega), x_u_ne (by omega), x_cp_ne (by omega), p3 _ _ _ (by omega) (by omega), x_u_ne (by omega), x_u_eq]
          · rw [fb _ _ _ (by omega) (by omega) (by omega) (by omega), fy _ _ _ (by omega) (by omega) (nm63 k), f1 _ _ _ (by omega) (by omega) (by omega) (by omega) (by omega) (by omega) (by omega) (by omega) (by omega) (by omega)]; exact n6 k hk
  · have clsr : x_CALL 60 85 [.inr (.inr (some (0, 0)))] (x_S Z t) = some ((h : Int), x_S (x_u (x_u Z' 0 0 1 0) 0 0 2 (Z' 2 0 0)) t) := by
      rw [C85 _ _ _ (by omega), cls, Option.bind_some, B85_15, cn_nt (z := (h : Int)) rfl (by omega), if_neg (by omega), B85_97]
    have f1 : ∀ g m i, ¬ (g = 0 ∧ (i = 1 ∨ i = 2)) → g ≠ 2 → ¬ (4 ≤ g ∧ g ≤ 6) → g ≠ 26 → g ≠ 27 → ¬ (m = 1 - t ∧ 7 ≤ g ∧ g ≤ 18) → (x_u (x_u Z' 0 0 1 0) 0 0 2 (Z' 2 0 0)) g m i = Z g m i := fun g m i q1 q2 q3 q4 q5 q6 => by rw [x_u_ne (by omega), x_u_ne (by omega), fz g m i q2 q3 q4 q5 q6]
    obtain ⟨Y0, b1, ⟨h', Z'', Y', d1, d2, d3, d4⟩, b3, b4⟩ := start (x_u (x_u Z' 0 0 1 0) 0 0 2 (Z' 2 0 0)) t (fun i _ => f1 _ _ _ (by omega) (by omega) (by omega) (by omega) (by omega) (by omega)) (f1 _ _ _ (by omega) (by omega) (by omega) (by omega) (by omega) (by omega)) (fun k _ => f1 _ _ _ (by omega) (by omega) (by omega) (by omega) (by omega) (by omega)) (f1 _ _ _ (by omega) (by omega) (by omega) (by omega) (by omega) (by omega))
    obtain ⟨u1, u2⟩ := x_S_inj (c1.symm.trans d1)
    have u1' : h' = h := by omega
    subst u1'
    subst u2
    rcases d4 with ⟨_, g1, g2, g3⟩ | ⟨x, _⟩
    · have nlo : ∀ g i, g < 56 ∨ 90 < g → ¬ mal (1 - v) g i := fun g i hh => by unfold mal mlh; omega
      have nm2 : ¬ mal (1 - v) 56 2 := by unfold mal mlh; omega
      have fall : ∀ g m i, ¬ (58 ≤ g ∧ g ≤ 62) → ¬ (g = 56 ∧ (i = 2 ∨ i = 4 ∨ i = 10 ∨ i = 17 ∨ i = 19)) → ¬ mal (1 - v) g i → Y' g m i = (x_u (x_u Z' 0 0 1 0) 0 0 2 (Z' 2 0 0)) g m i := fun g m i z1 z2 z3 => by
        rw [g2 g m i (fun e => e.elim z3 (fun e => z2 ⟨e.1, by omega⟩)), b4 g m i z1 (by omega) z3]
      refine ⟨_, _, _, Y', t, clsr, fun g hg => ?_, b1.trans g1, fun g hg => ?_, rfl, T, F, N, H, K, v, u, nx, ?_⟩
      · exact funext fun m => funext fun i => f1 _ _ _ (by omega) (by omega) (by omega) (by omega) (by omega) (by omega)
      · exact funext fun m => funext fun i => by rw [fall g m i (by omega) (by omega) (nlo g i (.inr (by omega)))]; exact f1 _ _ _ (by omega) (by omega) (by omega) (by omega) (by omega) (by omega)
      · refine pp_ill hPP (fun g m i z1 z2 z3 z4 z5 z6 z7 z8 z9 => by rw [fall g m i z7 z8 z9, f1 g m i z1 z2 z3 z4 z5 z6]) ?_ ?_ ?_
        · rw [fall _ _ _ (by omega) (by omega) (nlo _ _ (.inl (by omega))), x_u_ne (by omega), x_u_eq]
        · rw [g2 _ _ _ (fun e => e.elim nm2 (fun e => absurd e.2 (by decide))), b3]
        · rw [fall _ _ _ (by omega) (by omega) (nlo _ _ (.inl (by omega))), x_u_eq, g3]
    · exact absurd x h0
