/-! terms: brackets, and a whole expression -/
def Q_u (o : Nat) (ws : List Int) : Prop := ws.length ≤ 3 * o + 2
def Q_p (o : Nat) (ws : List Int) : Prop := ws.length ≤ 3 * o + 1 ∧ q_tp 1 ws
def Q_t (o : Nat) (ws : List Int) : Prop := ws.length ≤ 3 * o ∧ q_tp 0 ws
def R_u (pd : List Int) : Prop := pd = []
def R_p (pd : List Int) : Prop := pd.length ≤ 1 ∧ ∀ x, x ∈ pd → x = 10 ∨ x = 15
def R_t (pd : List Int) : Prop := pd.length ≤ 2 ∧ ∀ x, x ∈ pd → x = 8 ∨ x = 9 ∨ x = 10 ∨ x = 15
theorem q_tp01 {ws : List Int} (h : q_tp 0 ws) : q_tp 1 ws := by
  cases ws with
  | nil => trivial
  | cons x ws =>
    have h' : x = 6 ∨ ((0 : Int) = 1 ∧ (x = 8 ∨ x = 9)) := h
    show x = 6 ∨ ((1 : Int) = 1 ∧ (x = 8 ∨ x = 9))
    omega
theorem m_sumsim {K P V Nm : Nat → Int} {t c0 o D : Nat} {g : Nat → ER} (hB : KB K V) (hs : SP K D (fun _ => True) g) (hc : c0 ≤ 420) (ho : o ≤ 6) (hg : MSim K P V Nm t c0 o (Q_u o) R_u g) : MSim K P V Nm t c0 o (Q_t o) R_t (e_S K g) := by
  have hp : MSim K P V Nm t c0 o (Q_p o) R_p (e_G K g 42 47) := by
    refine m_G hB hs hc hg (by omega) (by omega) (fun ws h => ?_) (fun ws k _ h => ?_) (fun ws k hk h => ?_) (fun ws h => ?_) (fun pd h => ?_) (fun pd k hk h => ?_) (fun pd h => ?_)
    · have := h.1; show ws.length ≤ 3 * o + 2; omega
    · have := h.1; show (t_m k :: ws).length ≤ 3 * o + 2; rw [List.length_cons]; omega
    · rw [if_pos hk]; exact h.2
    · have := h.1; omega
    · have h' : pd = [] := h
      rw [h']; exact ⟨by simp, fun x hx => absurd hx (List.not_mem_nil)⟩
    · have h' : pd = [] := h
      rw [h', List.nil_append]
      refine ⟨by simp, fun x hx => ?_⟩
      rw [List.mem_singleton] at hx
      rw [hx]; exact (tm_op (by omega)).2.2.2 (by omega)
    · refine ⟨by have := h.1; omega, fun k hk x hx => ?_⟩
      have := h.2 x hx
      omega
  refine m_G hB (e_G_sp hs (by omega) (by omega)) hc hp (by omega) (by omega) (fun ws h => ?_) (fun ws k hk h => ?_) (fun ws k hk h => ?_) (fun ws h => ?_) (fun pd h => ?_) (fun pd k hk h => ?_) (fun pd h => ?_)
  · exact ⟨by have := h.1; omega, q_tp01 h.2⟩
  · refine ⟨by have := h.1; rw [List.length_cons]; omega, ?_⟩
    show t_m k = 6 ∨ ((1 : Int) = 1 ∧ (t_m k = 8 ∨ t_m k = 9))
    rcases hk with rfl | rfl
    · rw [tm43]; omega
    · rw [tm45]; omega
  · rw [if_neg (by omega)]; exact h.2
  · have := h.1; omega
  · exact ⟨by have := h.1; omega, fun x hx => by have := h.2 x hx; omega⟩
  · refine ⟨by have := h.1; rw [List.length_append, List.length_singleton]; omega, fun x hx => ?_⟩
    rcases List.mem_append.1 hx with y | y
    · have := h.2 x y; omega
    · rw [List.mem_singleton] at y
      rw [y]; exact (tm_op (by omega)).1
  · refine ⟨by have := h.1; omega, fun k hk x hx => ⟨h.2 x hx, fun h' => by omega⟩⟩
/-- the term ends: no operator -/
theorem m_last {Y : XZ} {K P V Nm : Nat → Int} {j d : Nat} {ho : Int} (hB : KB K V) (hT : TKm Y K P V Nm) (hQ : MQr Y K P 0 j) (hn : N_s (K j)) (h12 : Y 56 0 12 = ho) (hc : K j = 41 → ¬ cn 0 < cn ho) (hd : 1 ≤ d) (t : Nat) : x_EX d 165 96 [some (.inr (.inr (some (56, 0)))), some (.inl 0), some (.inl 1)] [] (x_S Y t) = if cn 0 < cn ho then ((x_CALL d 145 [.inr (.inr (some (56, 0))), .inl 1] (x_S Y t)).bind fun q => x_EX d 165 204 [some (.inr (.inr (some (56, 0)))), some (.inl 0), some (.inl 0)] [] q.2) else (x_EX d 165 204 [some (.inr (.inr (some (56, 0)))), some (.inl 0), some (.inl 0)] [] (x_S Y t)) := by
  obtain ⟨⟨_, n1, n2⟩, n3, n4⟩ := hn
  have rest : (x_CALL d 144 [.inr (.inr (some (56, 0))), .inl 8] (x_S Y t)).bind (fun q => x_EX d 165 151 [some (.inr (.inr (some (56, 0)))), some (.inl 0), some (.inl 1)] [.inl q.1] q.2) = if cn 0 < cn ho then ((x_CALL d 145 [.inr (.inr (some (56, 0))), .inl 1] (x_S Y t)).bind fun q => x_EX d 165 204 [some (.inr (.inr (some (56, 0)))), some (.inl 0), some (.inl 0)] [] q.2) else (x_EX d 165 204 [some (.inr (.inr (some (56, 0)))), some (.inl 0), some (.inl 0)] [] (x_S Y t)) := by
    rw [m_is0 hB hT hQ (by omega) t 43 8 kd43 tm43 (fun e => n3 e.2), Option.bind_some, B165_151, if_pos cn_0, m_is0 hB hT hQ (by omega) t 45 9 kd45 tm45 (fun e => n4 e.2), Option.bind_some, B165_160, if_pos cn_0, m_is0 hB hT hQ (by omega) t 42 10 kd42 tm42 (fun e => n1 e.2), Option.bind_some, B165_169, if_pos cn_0, m_is0 hB hT hQ (by omega) t 47 15 kd47 tm47 (fun e => n2 e.2), Option.bind_some, B165_178, if_pos cn_0, if_pos rfl, h12]
  rw [B165_96]
  by_cases h41 : K j = 41
  · rw [m_is1 hB hT hQ (by omega) t 41 7 kd41 tm41 ⟨rfl, h41⟩, Option.bind_some, B165_102, if_neg cn_1n, h12, if_neg (hc h41)]
    exact rest
  · rw [m_is0 hB hT hQ (by omega) t 41 7 kd41 tm41 (fun e => h41 e.2), Option.bind_some, B165_102, if_pos cn_0]
    exact rest
theorem m_unit {K P V Nm : Nat → Int} {t c0 : Nat} (hB : KB K V) (hc : c0 ≤ 420) : ∀ b, b ≤ 6 → MSim K P V Nm t c0 (6 - b) (Q_u (6 - b)) R_u (e_U K V b) := by
  intro b
  have leaf : ∀ (o : Nat) (Y : XZ) (j : Nat) (ws : List Int) (cl : CL) (d : Nat), 3 ≤ d → TKm Y K P V Nm → MX Y K P c0 j o ws cl → ¬ K j = 40 → ((e_A K V j).1 = 0 → ∃ (Y' : XZ) (pd : List Int) (cc : CL), x_EX d 165 23 [some (.inr (.inr (some (56, 0)))), some (.inl 0), some (.inl 1)] [] (x_S Y t) = x_EX d 165 96 [some (.inr (.inr (some (56, 0)))), some (.inl 0), some (.inl 1)] [] (x_S Y' t) ∧ KX c0 Y Y' ∧ R_u pd ∧ (e_A K V j).2.2 = cc ++ o_f pd ∧ MX Y' K P c0 (e_A K V j).2.1 o (pd ++ ws) (cl ++ cc)) ∧ ((e_A K V j).1 ≠ 0 → ∃ Y' : XZ, x_EX d 165 23 [some (.inr (.inr (some (56, 0)))), some (.inl 0), some (.inl 1)] [] (x_S Y t) = some (0, x_S Y' t) ∧ KX c0 Y Y' ∧ MQr Y' K P (e_A K V j).1 (e_A K V j).2.1) := by
    intro o Y j ws cl d hd hT hX hk
    obtain ⟨a1, a2⟩ := m_leaf hB hT hX hk hc hd t
    refine ⟨fun h => ?_, a2⟩
    obtain ⟨Y', e1, e2, e3⟩ := a1 h
    exact ⟨Y', [], _, e1, e2, rfl, by rw [show o_f [] = [] from rfl, List.append_nil], e3⟩
  /- the start of a bracket -/
  have push : ∀ (o : Nat) (Y : XZ) (j h : Nat) (ws : List Int) (cl : CL) (d : Nat), 3 ≤ d → o ≤ 6 → TKm Y K P V Nm → MQr Y K P h j → Y 56 0 12 = (o : Int) → WS Y ws → MC Y c0 cl → ws.length ≤ 40 → (h = 0 → K j = 40) → ∃ Y' : XZ, x_EX d 165 46 [some (.inr (.inr (some (56, 0)))), some (.inl 0), some (.inl 1)] [] (x_S Y t) = x_EX d 165 23 [some (.inr (.inr (some (56, 0)))), some (.inl 0), some (.inl 1)] [] (x_S Y' t) ∧ KX c0 Y Y' ∧ MQr Y' K P (q_go (h, j)).1 (q_go (h, j)).2 ∧ Y' 56 0 12 = ((o + 1 : Nat) : Int) ∧ WS Y' (6 :: ws) ∧ MC Y' c0 cl := by
    intro o Y j h ws cl d hd ho hT hQ h12 hW hM hl hk
    have k1 : KX c0 Y (x_u Y 56 0 12 ((o : Int) + 1)) := fun g m i a _ _ => x_u_ne (by omega)
    have hQ1 : MQr (x_u Y 56 0 12 ((o : Int) + 1)) K P h j := hQ.congr (fun i hi => x_u_ne (by omega))
    obtain ⟨Y2, e1, e2, e3⟩ := m_goes1 (d := d) (k1.tk hT) hQ1 (fun h0 => by have := hk h0; omega) (by omega) t
    have w1 : Y2 56 0 50 = (ws.length : Int) := by rw [e3 _ _ _ (by omega), x_u_ne (by omega)]; exact hW.1
    rw [B165_46, h12, e1, Option.bind_some, B165_60, w1, cn_nt (z := (ws.length : Int)) rfl (by omega), if_pos (by omega), Int.toNat_natCast]
    refine ⟨_, rfl, k1.trans (e3.kx.trans (fun g m i a b c => by rw [x_u_ne (by omega), x_u_ne (by omega)])), e2.congr (fun i hi => by rw [x_u_ne (by omega), x_u_ne (by omega)]), ?_, ⟨?_, ?_, ?_⟩, ⟨?_, fun i hi => ?_⟩⟩
    · rw [x_u_ne (by omega), x_u_ne (by omega), e3 _ _ _ (by omega), x_u_eq]; omega
    · rw [x_u_eq, List.length_cons]; omega
    · rw [x_u_ne (by omega), x_u_eq]
    · exact WR.congr hW.2 (fun i hi => by rw [x_u_ne (by omega), x_u_ne (by omega), e3 _ _ _ (by omega), x_u_ne (by omega)])
    · rw [x_u_ne (by omega), x_u_ne (by omega), e3 _ _ _ (by omega), x_u_ne (by omega)]; exact hM.1
    · rw [x_u_ne (by omega), x_u_ne (by omega), e3 _ _ _ (by omega), x_u_ne (by omega), x_u_ne (by omega), x_u_ne (by omega), e3 _ _ _ (by omega), x_u_ne (by omega)]; exact hM.2 i hi
  induction b with
  | zero =>
    intro _ Y j ws cl d hd hT hX hQu
    by_cases hk : K j = 40
    · rw [e_U_0a hk]
      refine ⟨fun h => absurd h (by simp), fun _ => ?_⟩
      obtain ⟨hQ, ho, hW, hM, hl, hO⟩ := hX
      have ho6 : Y 56 0 12 = 6 := ho
      have hlen : ws.length ≤ 20 := hQu
      obtain ⟨Y1, e1, e2, e3⟩ := m_fail (d := d) hT hQ (by omega) t 2 2 rfl (by omega)
      rw [if_pos rfl] at e2
      obtain ⟨Y2, f1, f2, f3, f4, f5, f6⟩ := push 6 Y1 j 2 ws cl d hd (by omega) (e3.tk hT) e2 (by rw [e3 _ _ _ (by omega)]; exact ho) (hW.kf e3) (hM.kf e3) (by omega) (fun h => absurd h (by decide))
      have f3' : MQr Y2 K P 2 j := f3
      obtain ⟨Y3, g1, g2, g3⟩ := m_uflt (c0 := c0) hB (f2.tk (e3.tk hT)) f3' (by decide) hd t
      refine ⟨Y3, ?_, e3.kx.trans (f2.trans g3), g2⟩
      rw [B165_23, m_is1 hB hT hQ (by omega) t 40 6 kd40 tm40 ⟨rfl, hk⟩, Option.bind_some, B165_29, if_neg cn_1n, ho6, if_pos (by decide), e1, Option.bind_some, f1, g1]
    · rw [e_U_n hk]
      exact leaf _ Y j ws cl d hd hT hX hk
  | succ b ih =>
    intro hb6 Y j ws cl d hd hT hX hQu
    by_cases hk : K j = 40
    · have hsum : MSim K P V Nm t c0 (6 - b) (Q_t (6 - b)) R_t (e_S K (e_U K V b)) := m_sumsim hB (e_U_sp hB b) hc (by omega) (ih (by omega))
      rw [e_U_sa hk]
      obtain ⟨hQ, ho, hW, hM, hl, hO⟩ := hX
      have hlen : ws.length ≤ 3 * (6 - (b + 1)) + 2 := hQu
      have hj4 := (hQ.2.2.1 rfl).2.1
      obtain ⟨Y1, f1, f2, f3, f4, f5, f6⟩ := push (6 - (b + 1)) Y j 0 ws cl d hd (by omega) hT hQ ho hW hM (by omega) (fun _ => hk)
      have start : x_EX d 165 23 [some (.inr (.inr (some (56, 0)))), some (.inl 0), some (.inl 1)] [] (x_S Y t) = x_EX d 165 23 [some (.inr (.inr (some (56, 0)))), some (.inl 0), some (.inl 1)] [] (x_S Y1 t) := by
        rw [B165_23, m_is1 hB hT hQ (by omega) t 40 6 kd40 tm40 ⟨rfl, hk⟩, Option.bind_some, B165_29, if_neg cn_1n, ho, cn_nt (z := ((6 - (b + 1) : Nat) : Int)) rfl (by omega), if_neg (by omega), f1]
      by_cases hj : j < 400
      · rw [q_go, if_pos rfl, if_pos hj] at f3
        have hX1 : MX Y1 K P c0 (j + 1) (6 - b) (6 :: ws) cl := ⟨f3, by rw [f4, show 6 - (b + 1) + 1 = 6 - b by omega], f5, f6, by rw [List.length_cons]; omega, fun x hx => by
          rcases List.mem_cons.1 hx with y | y
          · exact .inl y
          · exact hO x y⟩
        have hT1 := f2.tk hT
        obtain ⟨a1, a2⟩ := hsum Y1 (j + 1) (6 :: ws) cl d hd hT1 hX1 ⟨by rw [List.length_cons]; omega, .inl rfl⟩
        obtain ⟨p1, p2, p3, p4, p5⟩ := e_S_sp (e_U_sp hB b) (j + 1) (by omega)
        by_cases h0 : (e_S K (e_U K V b) (j + 1)).1 = 0
        · obtain ⟨Y2, pd, cc, g1, g2, ⟨g3, g3'⟩, g4, g5, g6, g7, g8, g9, g10⟩ := a1 h0
          obtain ⟨z1, z2, z3, z4, z5, z6⟩ := p5 h0
          have hT2 := g2.tk hT1
          have hpl : (pd ++ 6 :: ws).length = pd.length + (ws.length + 1) := by rw [List.length_append, List.length_cons]
          have g6i : Y2 56 0 12 = ((6 - b : Nat) : Int) := g6
          by_cases h41 : K (e_S K (e_U K V b) (j + 1)).2.1 = 41
          · obtain ⟨Y3, u1, u2, u3, u4⟩ := m_pops (d := d - 1) (a := 0) hc (by omega) t pd Y2 (cl ++ cc) (6 :: ws) none g7 g8 (by omega) (by omega) (by rw [List.length_cons]; omega) (fun x hx => ⟨g3' x hx, .inl rfl⟩) (.inl rfl)
            have hT3 := u4.kx.tk hT2
            have k4 : KX c0 Y3 (x_u (x_u Y3 56 0 50 (Y3 56 0 50 - 1)) 56 0 12 (Y3 56 0 12 - 1)) := fun g m i a _ _ => by rw [x_u_ne (by omega), x_u_ne (by omega)]
            have hQ4 : MQr (x_u (x_u Y3 56 0 50 (Y3 56 0 50 - 1)) 56 0 12 (Y3 56 0 12 - 1)) K P 0 (e_S K (e_U K V b) (j + 1)).2.1 := (g5.congr (fun i hi => u4 _ _ _ (by omega) (by omega))).congr (fun i hi => by rw [x_u_ne (by omega), x_u_ne (by omega)])
            obtain ⟨Y5, v1, v2, v3⟩ := m_goes1 (d := d) (k4.tk hT3) hQ4 (fun _ => by omega) (by omega) t
            have k5 : KX c0 Y Y5 := f2.trans (g2.trans (u4.kx.trans (k4.trans v3.kx)))
            have hW5 : WS Y5 ws := by
              refine WS.kf ⟨?_, ?_⟩ v3
              · have := u2.1; rw [List.length_cons] at this
                rw [x_u_ne (by omega), x_u_eq, this]; omega
              · exact WR.congr u2.2.2 (fun i hi => by rw [x_u_ne (by omega), x_u_ne (by omega)])
            have hM5 : MC Y5 c0 (cl ++ (e_S K (e_U K V b) (j + 1)).2.2) := by
              rw [g4, ← List.append_assoc]
              refine MC.kf ⟨by rw [x_u_ne (by omega), x_u_ne (by omega)]; exact u3.1, fun i hi => ?_⟩ v3
              rw [x_u_ne (by omega), x_u_ne (by omega), x_u_ne (by omega), x_u_ne (by omega)]; exact u3.2 i hi
            have clen : (cl ++ (e_S K (e_U K V b) (j + 1)).2.2).length = cl.length + (e_S K (e_U K V b) (j + 1)).2.2.length := List.length_append
            have road : x_EX d 165 23 [some (.inr (.inr (some (56, 0)))), some (.inl 0), some (.inl 1)] [] (x_S Y t) = x_EX d 165 96 [some (.inr (.inr (some (56, 0)))), some (.inl 0), some (.inl 1)] [] (x_S Y5 t) := by
              rw [start, g1, B165_96, m_is1 hB hT2 g5 (by omega) t 41 7 kd41 tm41 ⟨rfl, h41⟩, Option.bind_some, B165_102, if_neg cn_1n, g6i, cn_nt (z := ((6 - b : Nat) : Int)) rfl (by omega), cn_0, if_pos (by omega), C164' _ _ _ _ (by omega), u1, Option.bind_some, B165_118, v1, Option.bind_some, B165_142]
            by_cases h4 : (e_S K (e_U K V b) (j + 1)).2.1 < 400
            · rw [q_go, if_pos rfl, if_pos h4] at v2
              rw [e_O_y (by omega) h0 h41 (by omega)]
              refine ⟨fun _ => ⟨Y5, [], _, road, k5, rfl, by rw [show o_f [] = [] from rfl, List.append_nil], v2, ?_, hW5, hM5, ?_, hO⟩, fun h => absurd rfl h⟩
              · rw [v3 _ _ _ (by omega), x_u_eq, u4 _ _ _ (by omega) (by omega), g6i]; omega
              · show ([] ++ ws).length + _ ≤ (e_S K (e_U K V b) (j + 1)).2.1 + 1
                rw [clen, List.nil_append]; omega
            · rw [q_go, if_pos rfl, if_neg h4] at v2
              have v2' : MQr Y5 K P 2 (e_S K (e_U K V b) (j + 1)).2.1 := v2
              rw [e_O_q (by omega) h0 h41 (by omega)]
              obtain ⟨Y6, w1, w2, w3⟩ := m_bflt hB (k5.tk hT) v2' (by decide) hW5 hM5 (by omega) (by omega) hO hc hd t
              exact ⟨fun h => absurd h (by simp), fun _ => ⟨Y6, road.trans w1, k5.trans w3, w2⟩⟩
          · rw [e_O_s (by omega) h0 h41]
            refine ⟨fun h => absurd h (by simp), fun _ => ?_⟩
            obtain ⟨Y3, u1, u2, u3⟩ := m_fail (d := d) hT2 g5 (by omega) t 1 1 rfl (by omega)
            rw [if_pos rfl] at u2
            have cclen : (cl ++ cc).length + (pd ++ 6 :: ws).length ≤ (e_S K (e_U K V b) (j + 1)).2.1 := by omega
            obtain ⟨Y4, v1, v2⟩ := m_popA (d := d - 1) hc (by omega) t (pd ++ 6 :: ws) Y3 (cl ++ cc) none (WS.kf g7 u3) (MC.kf g8 u3) (by omega) (by omega) g10
            refine ⟨Y4, ?_, f2.trans (g2.trans (u3.kx.trans v2.kx)), u2.congr (fun i hi => v2 _ _ _ (by omega) (by omega))⟩
            rw [start, g1, m_last hB hT2 g5 z6 g6i (fun h => absurd h h41) (by omega) t, cn_nt (z := ((6 - b : Nat) : Int)) rfl (by omega), cn_0, if_pos (by omega), u1, Option.bind_some, B165_204, C164' _ _ _ _ (by omega), v1, Option.bind_some, B165_209]
        · obtain ⟨Y2, g1, g2, g3⟩ := a2 h0
          rw [e_O_b (by omega) h0]
          exact ⟨fun h => absurd h h0, fun _ => ⟨Y2, start.trans g1, f2.trans g2, g3⟩⟩
      · rw [q_go, if_pos rfl, if_neg hj] at f3
        have f3' : MQr Y1 K P 2 j := f3
        rw [e_O_r (by omega)]
        obtain ⟨Y3, g1, g2, g3⟩ := m_uflt (c0 := c0) hB (f2.tk hT) f3' (by decide) hd t
        exact ⟨fun h => absurd h (by simp), fun _ => ⟨Y3, start.trans g1, f2.trans g3, g2⟩⟩
    · rw [e_U_n hk]
      exact leaf _ Y j ws cl d hd hT hX hk
/-- a whole expression -/
theorem m_expr {Y : XZ} {K P V Nm : Nat → Int} {t c0 j d : Nat} {cl : CL} (hB : KB K V) (hc : c0 ≤ 420) (hT : TKm Y K P V Nm) (hQ : MQr Y K P 0 j) (h12 : Y 56 0 12 = 0) (hM : MC Y c0 cl) (hl : cl.length ≤ j) (hd : 4 ≤ d) : ∃ Y' : XZ, x_CALL d 165 [.inr (.inr (some (56, 0)))] (x_S Y t) = some (0, x_S Y' t) ∧ KX c0 Y Y' ∧ MQr Y' K P (e_T K V j).1 (e_T K V j).2.1 ∧ ((e_T K V j).1 = 0 → Y' 56 0 12 = 0 ∧ MC Y' c0 (cl ++ (e_T K V j).2.2)) := by
  have hsum : MSim K P V Nm t c0 0 (Q_t 0) R_t (e_T K V) := m_sumsim hB (e_U_sp hB 6) hc (by omega) (m_unit hB hc 6 (by omega))
  have hj4 := (hQ.2.2.1 rfl).2.1
  have k1 : KX c0 Y (x_u Y 56 0 50 0) := fun g m i a _ _ => x_u_ne (by omega)
  have hQ1 : MQr (x_u Y 56 0 50 0) K P 0 j := hQ.congr (fun i hi => x_u_ne (by omega))
  have hX : MX (x_u Y 56 0 50 0) K P c0 j 0 [] cl := ⟨hQ1, by rw [x_u_ne (by omega)]; exact h12, ⟨x_u_eq, trivial⟩, ⟨by rw [x_u_ne (by omega)]; exact hM.1, fun i hi => by rw [x_u_ne (by omega), x_u_ne (by omega)]; exact hM.2 i hi⟩, by simpa using hl, fun x hx => absurd hx (List.not_mem_nil)⟩
  obtain ⟨a1, a2⟩ := hsum _ j [] cl (d - 1) (by omega) (k1.tk hT) hX ⟨by simp, trivial⟩
  obtain ⟨p1, p2, p3, p4, p5⟩ := e_T_sp hB j hj4
  have q13 : (x_u Y 56 0 50 0) 56 0 13 = 0 := hQ1.1
  rw [C165 _ _ _ (by omega), h12, B165_12, if_neg cn_1n, q13, if_pos cn_0]
  by_cases h0 : (e_T K V j).1 = 0
  · obtain ⟨Y2, pd, cc, g1, g2, ⟨g3, g3'⟩, g4, g5, g6, g7, g8, g9, g10⟩ := a1 h0
    obtain ⟨z1, z2, z3, z4, z5, z6⟩ := p5 h0
    have hpl : (pd ++ []).length = pd.length := by rw [List.append_nil]
    obtain ⟨Y3, u1, u2, u3, u4⟩ := m_pops (d := d - 1 - 1) (a := 0) hc (by omega) t pd Y2 (cl ++ cc) [] none g7 g8 (by omega) (by omega) (by simp) (fun x hx => ⟨g3' x hx, .inl rfl⟩) trivial
    refine ⟨Y3, ?_, k1.trans (g2.trans u4.kx), ?_, fun _ => ⟨?_, ?_⟩⟩
    · rw [g1, m_last hB (g2.tk (k1.tk hT)) g5 z6 g6 (fun _ => Int.lt_irrefl _) (by omega) t, if_neg (show ¬ cn 0 < cn ((0 : Nat) : Int) from Int.lt_irrefl _), B165_204, C164' _ _ _ _ (by omega), u1, Option.bind_some, B165_209]
    · rw [h0]; exact g5.congr (fun i hi => u4 _ _ _ (by omega) (by omega))
    · rw [u4 _ _ _ (by omega) (by omega)]; exact g6
    · rw [g4, ← List.append_assoc]; exact u3
  · obtain ⟨Y2, g1, g2, g3⟩ := a2 h0
    exact ⟨Y2, g1, k1.trans g2, g3, fun h => absurd h h0⟩
theorem m_exprF {Y : XZ} {K P : Nat → Int} {t c0 h j d : Nat} (hQ : MQr Y K P h j) (h0 : h ≠ 0) (hd : 1 ≤ d) : ∃ Y' : XZ, x_CALL d 165 [.inr (.inr (some (56, 0)))] (x_S Y t) = some (0, x_S Y' t) ∧ KX c0 Y Y' ∧ MQr Y' K P h j := by
  have q13 : (x_u Y 56 0 50 0) 56 0 13 = (h : Int) := by rw [x_u_ne (by omega)]; exact hQ.1
  have h2 := hQ.2.1
  rw [C165 _ _ _ (by omega), B165_12, if_neg cn_1n, q13, cn_nt (z := (h : Int)) rfl (by omega), if_neg (by omega)]
  exact ⟨_, rfl, fun g m i a _ _ => x_u_ne (by omega), hQ.congr (fun i hi => x_u_ne (by omega))⟩
