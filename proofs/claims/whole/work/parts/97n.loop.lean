/-! class and model read a text alike -/
theorem kd256 : KD 256 := by unfold KD; omega
theorem tm256 : t_m 256 = 0 := by simp [t_m]
def KPc' (u : Nat) (Z Z' : XZ) : Prop := ∀ g m i, ¬ (g = 2 ∨ g = 26 ∨ g = 27 ∨ (m = u ∧ 7 ≤ g ∧ g ≤ 18)) → Z' g m i = Z g m i
theorem KPc.p {u : Nat} {Z Z' : XZ} (h : KPc u Z Z') : KPc' u Z Z' := fun g m i a => h g m i (by unfold cal; omega)
theorem KPc'.trans {u : Nat} {Z Z' Z'' : XZ} (h : KPc' u Z Z') (h' : KPc' u Z' Z'') : KPc' u Z Z'' := fun g m i a => (h' g m i a).trans (h g m i a)
def KPm' (v : Nat) (Y Y' : XZ) : Prop := ∀ g m i, ¬ (mal v g i ∨ (g = 56 ∧ i = 17)) → Y' g m i = Y g m i
theorem KPm.p {v : Nat} {Y Y' : XZ} (h : KPm v Y Y') : KPm' v Y Y' := fun g m i a => h g m i (fun e => a (.inl e))
theorem KPm'.trans {v : Nat} {Y Y' Y'' : XZ} (h : KPm' v Y Y') (h' : KPm' v Y' Y'') : KPm' v Y Y'' := fun g m i a => (h' g m i a).trans (h g m i a)
/-- how reading ends -/
def JE (Z Y : XZ) (K P V Nm : Nat → Int) (t v tm dc dm : Nat) (a2 a1 : Int) (n0 : Nat) : Prop := ∃ (h : Nat) (Z' Y' : XZ), x_EX dc 20 43 [some (.inr (.inr (some (2, 0)))), some (.inr (.inr (some (1, 0)))), some (.inl a2), some (.inl ((n0 : Int)))] [] (x_S Z t) = some ((h : Int), x_S Z' t) ∧ h ≤ 5 ∧ KPc' (1 - t) Z Z' ∧ ((h ≠ 0 ∧ x_EX dm 150 112 [some (.inr (.inr (some (56, 0)))), some (.inl a1)] [] (x_S Y tm) = some ((h : Int), x_S Y' tm) ∧ KPm' v Y Y' ∧ Y' 56 0 17 = Z' 2 0 0) ∨ (h = 0 ∧ x_EX dm 150 112 [some (.inr (.inr (some (56, 0)))), some (.inl a1)] [] (x_S Y tm) = ((x_CALL dm 175 [.inr (.inr (some (56, 0)))] (x_S (x_u (x_u Y' 56 0 17 (-1)) 56 0 18 (v : Int)) tm)).bind fun q => x_EX dm 150 203 [some (.inr (.inr (some (56, 0)))), some (.inl a1)] [] q.2) ∧ KPm v Y Y' ∧ Z' 2 0 0 = -1 ∧ ∃ (T : PT) (G : Nat → Option (BL × CL)) (n b : Nat) (cl : CL), TOK T ∧ RT Z' (1 - t) T ∧ JCl Z' (1 - t) n G ∧ Z' 15 (1 - t) 1 = (n : Int) ∧ n ≤ 400 ∧ MTd Y' v T ∧ (Y' 66 0 v = (T 0 0 : Int) ∧ Y' 69 0 v = (T 1 0 : Int) ∧ Y' 74 0 v = (T 2 0 : Int)) ∧ JMl Y' v b cl.length G ∧ T 10 0 < 1000))
theorem j_loop {K P V Nm : Nat → Int} {t v tm dc dm : Nat} {a2 a1 : Int} (hB : KB K V) (hV : VN K V) (hP : PMo K P) (hNV : NV K V Nm) (hv : v < 2) (hdc : 30 ≤ dc) (hdm : 30 ≤ dm) : ∀ (r : Nat) (Z Y : XZ) (j n0 : Nat) (s : Nat × Int) (T : PT) (G : Nat → Option (BL × CL)), 401 - j ≤ r → n0 ≤ j → JJ Z Y K P V Nm t v j s T G → JE Z Y K P V Nm t v tm dc dm a2 a1 n0 := by
  intro r
  induction r with
  | zero =>
    intro Z Y j n0 s T G hr hn hJ
    obtain ⟨n, np, b, cl, ct, st, hC, hM, hp, hh, hs⟩ := hJ
    have := hC.2.1.1
    omega
  | succ r ih =>
    intro Z Y j n0 s T G hr hn hJ
    have hJ' := hJ
    obtain ⟨n, np, b, cl, ct, st, hC, hM, hp, hh, hs⟩ := hJ'
    obtain ⟨x1, x2, x3, x4, x5⟩ := hC.2.1
    have k1 := (hC.1 j x1 x2).1
    have hb := hB j
    have h13 : Y 56 0 13 = 0 := hM.2.1.1
    have cl20 : x_EX dc 20 43 [some (.inr (.inr (some (2, 0)))), some (.inr (.inr (some (1, 0)))), some (.inl a2), some (.inl ((n0 : Int)))] [] (x_S Z t) = (if K j = 256 then some (Z 2 0 5, x_S (x_u Z 2 0 0 (Z 2 0 6)) t) else ((x_CALL dc 21 [.inr (.inr (some (2, 0)))] (x_S Z t)).bind fun q => x_EX dc 20 72 [some (.inr (.inr (some (2, 0)))), some (.inr (.inr (some (1, 0)))), some (.inl a2), some (.inl ((n0 : Int)))] [.inl q.1] q.2)) := by
      rw [B20_43, cn_nt (z := (n0 : Int)) rfl (by omega), if_neg (by omega), x3, cn_nt (z := (j : Int)) rfl (by omega), if_pos (by omega), Int.toNat_natCast, k1, cn_id (z := K j) (by omega) (by omega)]
    by_cases hK : K j = 256
    · obtain ⟨c1, c2, c3⟩ := hC.2.2.2.2.1
      obtain ⟨m1, m2, m3⟩ := hM.2.2.2.2.2.2.2.2.2.1
      have m19 := hM.2.2.2.2.2.2.2.2.1
      have mdl : x_EX dm 150 112 [some (.inr (.inr (some (56, 0)))), some (.inl a1)] [] (x_S Y tm) = (if 0 < (s.1 : Int) then some ((s.1 : Int), x_S (x_u Y 56 0 17 (Y 56 0 16)) tm) else ((x_CALL dm 175 [.inr (.inr (some (56, 0)))] (x_S (x_u (x_u Y 56 0 17 (-1)) 56 0 18 (v : Int)) tm)).bind fun q => x_EX dm 150 203 [some (.inr (.inr (some (56, 0)))), some (.inl a1)] [] q.2)) := by
        rw [B150_112, h13, if_pos cn_0, m_is1 hB hM.1 hM.2.1 (by omega) tm 256 0 kd256 tm256 ⟨rfl, hK⟩, Option.bind_some, B150_124, if_neg cn_1n, h13, if_neg (show ¬ 0 < cn 0 by decide), if_neg (show ¬ 0 < cn 0 by decide), if_neg (show ¬ 0 < cn 0 by decide), m1, cn_nt (z := (s.1 : Int)) rfl (by omega), m19]
        by_cases h0 : 0 < (s.1 : Int)
        · rw [if_pos h0, if_pos h0, if_pos h0]
        · rw [if_neg h0, if_neg h0, if_neg h0]
      refine ⟨s.1, x_u Z 2 0 0 (Z 2 0 6), if s.1 = 0 then Y else x_u Y 56 0 17 (Y 56 0 16), ?_, c3, fun g m i a => x_u_ne (by omega), ?_⟩
      · rw [cl20, if_pos hK, c1]
      · by_cases h0 : s.1 = 0
        · right
          have hsp := hs 0 h0
          have tok := hp.2.2.2.2.2.2.2 0 h0
          have rt := hC.2.2.2.2.2.2.2.2.2 0 h0
          have mtd := hM.2.2.2.2.2.2.2.2.2.2.2.2.2 0 h0
          have mct := hM.2.2.2.2.2.2.2.2.2.2.1
          rw [if_pos h0]
          refine ⟨h0, ?_, KPm.rfl', by rw [x_u_eq, c2]; exact hsp, T, G, n, b, cl, tok, rt.congr (fun g i a b => x_u_ne (by omega)), hC.2.2.2.2.2.2.2.2.1.congr (fun i => x_u_ne (by omega)) (fun i => ⟨x_u_ne (by omega), x_u_ne (by omega)⟩), by rw [x_u_ne (by omega)]; exact x4, x5, mtd, ⟨mct.1, mct.2.1, mct.2.2.1⟩, hM.2.2.2.2.2.2.2.2.2.2.2.2.1, ?_⟩
          · rw [mdl, if_neg (by omega)]
          · have t7 := tok.2.2.2.2.2.2.1
            have t0 := tok.1
            by_cases hz : T 0 0 = 0
            · have := hh 0 h0 hz; omega
            · have := t7 (by omega); omega
        · left
          rw [if_neg h0]
          refine ⟨h0, ?_, fun g m i a => x_u_ne (fun e => a (.inr ⟨e.1, e.2.2⟩)), ?_⟩
          · rw [mdl, if_pos (by omega)]
          · rw [x_u_eq, x_u_eq, m2 0 h0, c2]
    · obtain ⟨a, Z1, Y1, e1, e2, e3, e4, e5, e6, e7, e8⟩ := j_tell (tm := tm) (d := dc) (dm := dm) hB hV hP hNV hv hJ hdc hdm
      have mdl : x_EX dm 150 112 [some (.inr (.inr (some (56, 0)))), some (.inl a1)] [] (x_S Y tm) = x_EX dm 150 112 [some (.inr (.inr (some (56, 0)))), some (.inl a1)] [] (x_S Y1 tm) := by
        rw [B150_112, h13, if_pos cn_0, m_is0 hB hM.1 hM.2.1 (by omega) tm 256 0 kd256 tm256 (fun e => hK e.2), Option.bind_some, B150_124, if_pos cn_0, e3, Option.bind_some, B150_131]
      by_cases h0 : a.1 = 0
      · obtain ⟨f1, s', T', G', f2⟩ := e8 h0
        obtain ⟨h, Z2, Y2, g1, g2, g3, g4⟩ := ih Z1 Y1 a.2 (n0 + 1) s' T' G' (by omega) (by omega) f2
        refine ⟨h, Z2, Y2, ?_, g2, e2.p.trans g3, ?_⟩
        · rw [cl20, if_neg hK, e1, Option.bind_some, if_pos h0, B20_72, if_neg cn_1n, show (n0 : Int) + 1 = ((n0 + 1 : Nat) : Int) by omega]; exact g1
        · rcases g4 with ⟨i1, i2, i3, i4⟩ | ⟨i1, i2, i3, i4⟩
          · exact .inl ⟨i1, mdl.trans i2, e4.p.trans i3, i4⟩
          · exact .inr ⟨i1, mdl.trans i2, e4.trans i3, i4⟩
      · obtain ⟨f1, f2⟩ := e7 h0
        have h113 := e5.1
        have h14 := e5.2.2.2 h0
        have hle := e6.1
        have hT1 : TKc Z1 K P V := hC.1.congr (fun g i a b => e2 _ _ _ (by unfold cal; omega))
        have p5 := (hT1 a.2 e6.2.1 e6.2.2).2.1
        have hj4 := e6.2.1
        refine ⟨a.1, x_u Z1 2 0 0 (P a.2), x_u Y1 56 0 17 (P a.2), ?_, by omega, e2.p.trans (fun g m i q => x_u_ne (by omega)), .inl ⟨h0, ?_, e4.p.trans (fun g m i q => x_u_ne (fun e => q (.inr ⟨e.1, e.2.2⟩))), by rw [x_u_eq, x_u_eq]⟩⟩
        · rw [cl20, if_neg hK, e1, Option.bind_some, if_neg h0, B20_72, if_pos cn_0, f1, cn_nt (z := (a.2 : Int)) rfl (by omega), if_pos (by omega), Int.toNat_natCast, p5, f2]
        · rw [mdl, B150_112, h113, cn_nt (z := (a.1 : Int)) rfl (by omega), if_neg (by omega), if_pos (by omega), if_pos (by omega), h14]
