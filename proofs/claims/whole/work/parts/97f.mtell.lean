/-! tells: the model, small things -/
def PMo (K P : Nat → Int) : Prop := (∀ j, 0 ≤ P j ∧ P j ≤ 2000) ∧ ∀ q j, q < j → LK K 0 j → P q < P j
def MSo (Y : XZ) (s : Nat × Int) : Prop := Y 56 0 15 = (s.1 : Int) ∧ (∀ _ : Nat, s.1 ≠ 0 → Y 56 0 16 = s.2) ∧ s.1 ≤ 5
def SQ (P : Nat → Int) (j : Nat) (s : Nat × Int) : Prop := ∀ _ : Nat, s.1 ≠ 0 → ∃ q, q < j ∧ s.2 = P q
theorem SQ.nt {P : Nat → Int} {j tok f : Nat} {c : Bool} {s : Nat × Int} (h : SQ P j s) (hj : j ≤ tok) : SQ P (tok + 1) (q_nt c f (P tok) s) := fun _ hs => by
  unfold q_nt at *
  by_cases hc : s.1 = 0 ∧ c = true
  · rw [if_pos hc]; exact ⟨tok, by omega, rfl⟩
  · rw [if_neg hc] at hs ⊢
    obtain ⟨q, a, b⟩ := h 0 hs
    exact ⟨q, by omega, b⟩
theorem SQ.mono {P : Nat → Int} {j k : Nat} {s : Nat × Int} (h : SQ P j s) (hj : j ≤ k) : SQ P k s := fun _ hs => by
  obtain ⟨q, a, b⟩ := h 0 hs
  exact ⟨q, by omega, b⟩
def KW (Y Y' : XZ) : Prop := ∀ g m i, ¬ (g = 56 ∧ (i = 15 ∨ i = 16)) → Y' g m i = Y g m i
theorem KW.rfl' {Y : XZ} : KW Y Y := fun _ _ _ _ => rfl
theorem KW.trans {Y Y' Y'' : XZ} (h : KW Y Y') (h' : KW Y' Y'') : KW Y Y'' := fun g m i a => (h' g m i a).trans (h g m i a)
theorem KW.tk {Y Y' : XZ} {K P V Nm : Nat → Int} (h : KW Y Y') (hT : TKm Y K P V Nm) : TKm Y' K P V Nm := hT.congr (fun g i a b => h g 0 i (by omega))
def KS (Y Y' : XZ) : Prop := ∀ g m i, ¬ (g = 56 ∧ (i = 11 ∨ (13 ≤ i ∧ i ≤ 16))) → Y' g m i = Y g m i
theorem KS.trans {Y Y' Y'' : XZ} (h : KS Y Y') (h' : KS Y' Y'') : KS Y Y'' := fun g m i a => (h' g m i a).trans (h g m i a)
theorem KS.tk {Y Y' : XZ} {K P V Nm : Nat → Int} (h : KS Y Y') (hT : TKm Y K P V Nm) : TKm Y' K P V Nm := hT.congr (fun g i a b => h g 0 i (by omega))
theorem KF.ks {Y Y' : XZ} (h : KF Y Y') : KS Y Y' := fun g m i a => h g m i (by omega)
theorem KW.ks {Y Y' : XZ} (h : KW Y Y') : KS Y Y' := fun g m i a => h g m i (by omega)
theorem MSo.kf {Y Y' : XZ} {s : Nat × Int} (h : MSo Y s) (hk : KF Y Y') : MSo Y' s := ⟨by rw [hk _ _ _ (by omega)]; exact h.1, fun _ hs => by rw [hk _ _ _ (by omega)]; exact h.2.1 0 hs, h.2.2⟩
theorem m_wr {Y : XZ} {K P V Nm : Nat → Int} {j tok d : Nat} {s : Nat × Int} (hP : PMo K P) (hT : TKm Y K P V Nm) (hQ : MQr Y K P 0 j) (hS : MSo Y s) (hk : tok ≤ 400) (hl : LK K 0 tok) (hd : 1 ≤ d) (t f : Nat) (fi ti : Int) (hfi : fi = (f : Int)) (hti : ti = (tok : Int)) (hf : 1 ≤ f ∧ f ≤ 5) (hs : ∀ _ : Nat, s.1 ≠ 0 → (∃ q, q < tok ∧ s.2 = P q) ∨ (s.2 = P tok ∧ s.1 ≤ f)) : ∃ Y' : XZ, x_CALL d 146 [.inr (.inr (some (56, 0))), .inl fi, .inl ti] (x_S Y t) = some (0, x_S Y' t) ∧ MSo Y' (q_nt true f (P tok) s) ∧ KW Y Y' := by
  obtain ⟨s1, s2, s3⟩ := hS
  obtain ⟨k1, k2, k3, k4⟩ := hT tok hk hl
  have h13 : Y 56 0 13 = 0 := hQ.1
  have pb := hP.1 tok
  subst hti
  rw [C146 _ _ _ _ _ (by omega), cn_nt (z := (tok : Int)) rfl (by omega), if_pos (by omega), h13, if_neg (by decide), s1, cn_nt (z := (s.1 : Int)) rfl (by omega), Int.toNat_natCast, k2]
  by_cases h0 : s.1 = 0
  · rw [if_pos (by omega), show q_nt true f (P tok) s = (f, P tok) from if_pos ⟨h0, rfl⟩]
    exact ⟨_, rfl, ⟨by rw [x_u_ne (by omega), x_u_eq, hfi], fun _ _ => x_u_eq, hf.2⟩, fun g m i a => by rw [x_u_ne (by omega), x_u_ne (by omega)]⟩
  · have h16 := s2 0 h0
    rw [if_neg (by omega), h16, show q_nt true f (P tok) s = s from if_neg (fun e => h0 e.1), cn_id (z := P tok) (by omega) (by omega)]
    rcases hs 0 h0 with ⟨q, q1, q2⟩ | ⟨q1, q2⟩
    · have qb := hP.1 q
      have qm := hP.2 q tok q1 hl
      rw [q2, cn_id (z := P q) (by omega) (by omega), if_pos qm]
      exact ⟨Y, rfl, ⟨s1, s2, s3⟩, KW.rfl'⟩
    · rw [q1, cn_id (z := P tok) (by omega) (by omega), if_neg (Int.lt_irrefl _), if_pos rfl, hfi, cn_nt (z := (f : Int)) rfl (by omega), if_neg (by omega)]
      exact ⟨Y, rfl, ⟨s1, s2, s3⟩, KW.rfl'⟩
theorem q_nt_f {f : Nat} {p : Int} {s : Nat × Int} : q_nt false f p s = s := if_neg (fun e => absurd e.2 (by decide))
theorem m_bnd {Y : XZ} {K P V Nm : Nat → Int} {h j d : Nat} {s : Nat × Int} (hB : KB K V) (hP : PMo K P) (hT : TKm Y K P V Nm) (hQ : MQr Y K P h j) (hS : ∀ _ : Nat, h = 0 → MSo Y s ∧ SQ P j s) (hd : 4 ≤ d) (t : Nat) (lo hi : Int) (hlo : 0 ≤ lo ∧ lo ≤ 9999) (hhi : 0 ≤ hi ∧ hi ≤ 9999) : ∃ (r : Int) (Y' : XZ), x_CALL d 158 [.inr (.inr (some (56, 0))), .inl lo, .inl hi] (x_S Y t) = some (r, x_S Y' t) ∧ MQr Y' K P (q_sk K 259 (h, j)).1 (q_sk K 259 (h, j)).2 ∧ KS Y Y' ∧ ∀ _ : Nat, (q_sk K 259 (h, j)).1 = 0 → r = V j ∧ MSo Y' (q_nt (decide (V j < lo ∨ hi < V j)) 5 (P j) s) := by
  have h13 := hQ.1
  have h2 := hQ.2.1
  obtain ⟨Yf, g1, g2, g3⟩ := m_fail (d := d - 1) hT hQ (by omega) t 1 1 rfl (by omega)
  rw [C158 _ _ _ _ _ (by omega), h13, cn_nt (z := (h : Int)) rfl (by omega)]
  by_cases h0 : h = 0
  · subst h0
    obtain ⟨S1, S2⟩ := hS 0 rfl
    obtain ⟨r1, r2, r3⟩ := hQ.2.2.1 rfl
    obtain ⟨k1, k2, k3, k4⟩ := hT j r2 r3
    rw [if_neg (by decide)]
    by_cases hk : K j = 259
    · have hv := (hB j).2.2.1 hk
      have fin : ∀ Y1 : XZ, KW Y Y1 → MSo Y1 (q_nt (decide (V j < lo ∨ hi < V j)) 5 (P j) s) → ∃ (r : Int) (Y' : XZ), x_EX (d - 1) 158 51 [some (.inr (.inr (some (56, 0)))), some (.inl lo), some (.inl hi), some (.inl (V j))] [] (x_S Y1 t) = some (r, x_S Y' t) ∧ MQr Y' K P (q_sk K 259 (0, j)).1 (q_sk K 259 (0, j)).2 ∧ KS Y Y' ∧ ∀ _ : Nat, (q_sk K 259 (0, j)).1 = 0 → r = V j ∧ MSo Y' (q_nt (decide (V j < lo ∨ hi < V j)) 5 (P j) s) := by
        intro Y1 hk1 hm
        have hQ1 : MQr Y1 K P 0 j := hQ.congr (fun i hi => hk1 _ _ _ (by omega))
        obtain ⟨Y2, e1, e2, e3⟩ := m_goes1 (d := d - 1) (hk1.tk hT) hQ1 (fun _ => by omega) (by omega) t
        have hq : q_sk K 259 (0, j) = q_go (0, j) := by unfold q_sk; rw [if_pos rfl, if_pos hk]
        rw [B158_51, e1, Option.bind_some, B158_55, hq]
        exact ⟨V j, Y2, rfl, e2, hk1.ks.trans e3.ks, fun _ _ => ⟨rfl, hm.kf e3⟩⟩
      rw [m_is1 hB hT hQ (by omega) t 259 2 kd259 tm259 ⟨rfl, hk⟩, Option.bind_some, B158_12, if_neg cn_1n, r1, cn_nt (z := (j : Int)) rfl (by omega), if_pos (by omega), Int.toNat_natCast, k3 hk, cn_id (z := V j) (by omega) (by omega), cn_id (z := lo) (by omega) (by omega), cn_id (z := hi) (by omega) (by omega)]
      by_cases b1 : V j < lo
      · obtain ⟨Y1, e1, e2, e3⟩ := m_wr (tok := j) (d := d - 1) hP hT hQ S1 r2 r3 (by omega) t 5 5 (j : Int) rfl rfl (by omega) (fun _ hs => .inl (S2 0 hs))
        rw [if_pos b1, e1, Option.bind_some]
        exact fin Y1 e3 (by rw [decide_eq_true (show V j < lo ∨ hi < V j from .inl b1)]; exact e2)
      · rw [if_neg b1]
        by_cases b2 : hi < V j
        · obtain ⟨Y1, e1, e2, e3⟩ := m_wr (tok := j) (d := d - 1) hP hT hQ S1 r2 r3 (by omega) t 5 5 (j : Int) rfl rfl (by omega) (fun _ hs => .inl (S2 0 hs))
          rw [if_pos b2, e1, Option.bind_some]
          exact fin Y1 e3 (by rw [decide_eq_true (show V j < lo ∨ hi < V j from .inr b2)]; exact e2)
        · rw [if_neg b2]
          exact fin Y KW.rfl' (by rw [decide_eq_false (show ¬ (V j < lo ∨ hi < V j) from fun e => e.elim b1 b2), q_nt_f]; exact S1)
    · have hq : q_sk K 259 (0, j) = (1, j) := by unfold q_sk; rw [if_pos rfl, if_neg hk]
      rw [if_pos rfl] at g2
      rw [m_is0 hB hT hQ (by omega) t 259 2 kd259 tm259 (fun e => hk e.2), Option.bind_some, B158_12, if_pos cn_0, g1, Option.bind_some, B158_20, hq]
      exact ⟨lo, Yf, rfl, g2, g3.ks, fun _ h => absurd h (by simp)⟩
  · have hq : q_sk K 259 (h, j) = (h, j) := q_sk_f h0
    rw [if_neg h0] at g2
    rw [if_pos (by omega), g1, Option.bind_some, B158_20, hq]
    exact ⟨lo, Yf, rfl, g2, g3.ks, fun _ h' => absurd h' h0⟩
/-! names -/
def NMs (Y : XZ) (Nm : Nat → Int) (nc ns : Nat) (ct st : Nat → Nat) : Prop := Y 56 0 20 = ((nc + ns : Nat) : Int) ∧ (∀ k, k < nc + ns → (Y 65 0 k = 10 ∧ ∃ s, s < ns ∧ Y 64 0 k = Nm (st s)) ∨ ∃ i, i < nc ∧ Y 65 0 k = (i : Int) ∧ Y 64 0 k = Nm (ct i)) ∧ (∀ i, i < nc → ∃ k, k < nc + ns ∧ Y 65 0 k = (i : Int) ∧ Y 64 0 k = Nm (ct i)) ∧ (∀ s, s < ns → ∃ k, k < nc + ns ∧ Y 65 0 k = 10 ∧ Y 64 0 k = Nm (st s)) ∧ ∀ k k', k < k' → k' < nc + ns → Y 65 0 k < 10 → Y 65 0 k' < 10 → Y 65 0 k < Y 65 0 k'
def NV (K V Nm : Nat → Int) : Prop := (∀ a b, K a = 258 → K b = 258 → (V a = V b ↔ Nm a = Nm b)) ∧ ∀ a, K a = 258 → 0 ≤ Nm a ∧ Nm a < 9223372036854775808
theorem NMs.k {Y Y' : XZ} {Nm : Nat → Int} {nc ns : Nat} {ct st : Nat → Nat} (h : NMs Y Nm nc ns ct st) (h20 : Y' 56 0 20 = Y 56 0 20) (h4 : ∀ i, Y' 64 0 i = Y 64 0 i) (h5 : ∀ i, Y' 65 0 i = Y 65 0 i) : NMs Y' Nm nc ns ct st := by
  unfold NMs; simp only [h20, h4, h5]; exact h
theorem kd258 : KD 258 := by unfold KD; omega
theorem tm258 : t_m 258 = 1 := by simp [t_m]
theorem m_named {Y : XZ} {K P V Nm : Nat → Int} {j d : Nat} {s : Nat × Int} {T : PT} {ct st : Nat → Nat} (hB : KB K V) (hP : PMo K P) (hNV : NV K V Nm) (hT : TKm Y K P V Nm) (hQ : MQr Y K P 0 j) (hS : MSo Y s) (hSq : SQ P j s) (hN : NMs Y Nm (T 0 0) (T 2 0) ct st) (h7 : T 0 0 ≤ 7) (h5 : T 2 0 ≤ 5) (hct : ∀ i, i < T 0 0 → ct i < j ∧ K (ct i) = 258) (hst : ∀ i, i < T 2 0 → st i < j ∧ K (st i) = 258) (hd : 4 ≤ d) (t : Nat) : ∃ Y' : XZ, x_CALL d 155 [.inr (.inr (some (56, 0)))] (x_S Y t) = some ((j : Int), x_S Y' t) ∧ MQr Y' K P (q_sk K 258 (0, j)).1 (q_sk K 258 (0, j)).2 ∧ KS Y Y' ∧ ∀ _ : Nat, (q_sk K 258 (0, j)).1 = 0 → MSo Y' (q_nt (q_dup V T ct st j) 3 (P j) s) := by
  obtain ⟨r1, r2, r3⟩ := hQ.2.2.1 rfl
  obtain ⟨Y1, e1, e2, e3⟩ := m_must1 (d := d - 1) hB hT hQ (by omega) t 258 1 kd258 tm258 (by omega)
  have h13 := e2.1
  have h132 := e2.2.1
  obtain ⟨n1, n2, n3, n4, n5⟩ := hN
  have y20 : Y1 56 0 20 = ((T 0 0 + T 2 0 : Nat) : Int) := by rw [e3 _ _ _ (by omega)]; exact n1
  rw [C155 _ _ _ (by omega), e1, Option.bind_some, B155_10, r1]
  by_cases h0 : (q_sk K 258 (0, j)).1 = 0
  · have hK : K j = 258 := (q_sk_y h0).2.1
    have hj4 : j < 400 := (q_sk_y h0).2.2.1
    have hT1 := e3.tk hT
    have e2' : MQr Y1 K P 0 (q_sk K 258 (0, j)).2 := by rw [h0] at e2; exact e2
    have xn := hNV.2 j hK
    have nb : ∀ k, k < T 0 0 + T 2 0 → 0 ≤ Y 64 0 k ∧ Y 64 0 k < 9223372036854775808 := fun k hk => by
      rcases n2 k hk with ⟨_, s', a, b⟩ | ⟨i, a, _, b⟩
      · rw [b]; exact hNV.2 _ (hst s' a).2
      · rw [b]; exact hNV.2 _ (hct i a).2
    have loop : ∀ (r k : Nat) (Y2 : XZ) (c : Bool), k + r = T 0 0 + T 2 0 → KW Y1 Y2 → MSo Y2 (q_nt c 3 (P j) s) → ∃ (Y' : XZ) (c' : Bool), x_EX (d - 1) 155 12 [some (.inr (.inr (some (56, 0)))), some (.inl ((j : Int))), some (.inl ((k : Int)))] [] (x_S Y2 t) = some ((j : Int), x_S Y' t) ∧ KW Y1 Y' ∧ MSo Y' (q_nt c' 3 (P j) s) ∧ (c' = true ↔ c = true ∨ ∃ m, k ≤ m ∧ m < T 0 0 + T 2 0 ∧ Y 64 0 m = Nm j) := by
      intro r
      induction r with
      | zero =>
        intro k Y2 c hk hw hm
        rw [B155_12, hw _ _ _ (by omega), y20, cn_nt (z := ((T 0 0 + T 2 0 : Nat) : Int)) rfl (by omega), cn_nt (z := (k : Int)) rfl (by omega), if_neg (by omega)]
        exact ⟨Y2, c, rfl, hw, hm, ⟨.inl, fun e => e.elim id (fun ⟨m, a, b, _⟩ => by omega)⟩⟩
      | succ r ih =>
        intro k Y2 c hk hw hm
        have hQ2 : MQr Y2 K P 0 (q_sk K 258 (0, j)).2 := e2'.congr (fun i hi => hw _ _ _ (by omega))
        have h213 : Y2 56 0 13 = 0 := hQ2.1
        have hT2 := hw.tk hT1
        have y64 : Y2 64 0 k = Y 64 0 k := by rw [hw _ _ _ (by omega), e3 _ _ _ (by omega)]
        have y62 : Y2 62 0 j = Nm j := (hT2 j r2 r3).2.2.2 hK
        have hnb := nb k (by omega)
        rw [B155_12, hw _ _ _ (by omega), y20, cn_nt (z := ((T 0 0 + T 2 0 : Nat) : Int)) rfl (by omega), cn_nt (z := (k : Int)) rfl (by omega), if_pos (by omega), h213, if_pos cn_0, if_pos (by omega), cn_nt (z := (j : Int)) rfl (by omega), if_pos (by omega), Int.toNat_natCast, Int.toNat_natCast, y64, y62]
        by_cases hx : Y 64 0 k = Nm j
        · obtain ⟨Y3, f1, f2, f3⟩ := m_wr (tok := j) (d := d - 1) hP hT2 hQ2 hm r2 r3 (by omega) t 3 3 (j : Int) rfl rfl (by omega) (fun _ hs => by
            unfold q_nt at hs ⊢
            by_cases hc : s.1 = 0 ∧ c = true
            · rw [if_pos hc]; exact .inr ⟨rfl, Nat.le_refl _⟩
            · rw [if_neg hc] at hs ⊢; exact .inl (hSq 0 hs))
          rw [if_pos ((x_lcmp_0 hnb xn).2 hx), f1, Option.bind_some, B155_49, show (k : Int) + 1 = ((k + 1 : Nat) : Int) by omega]
          have hnn : q_nt true 3 (P j) (q_nt c 3 (P j) s) = q_nt true 3 (P j) s := by
            unfold q_nt
            by_cases hs0 : s.1 = 0
            · cases c with
              | false => rw [if_neg (fun e : s.1 = 0 ∧ false = true => absurd e.2 (by decide))]
              | true => rw [if_pos (show s.1 = 0 ∧ true = true from ⟨hs0, rfl⟩), if_neg (by simp)]
            · rw [if_neg (fun e : s.1 = 0 ∧ c = true => hs0 e.1)]
          rw [hnn] at f2
          obtain ⟨Y4, c', g1, g2, g3, g4⟩ := ih (k + 1) Y3 true (by omega) (hw.trans f3) f2
          refine ⟨Y4, c', g1, g2, g3, g4.trans ⟨fun _ => .inr ⟨k, Nat.le_refl _, by omega, hx⟩, fun _ => .inl rfl⟩⟩
        · rw [if_neg (fun e => hx ((x_lcmp_0 hnb xn).1 e)), B155_49, show (k : Int) + 1 = ((k + 1 : Nat) : Int) by omega]
          obtain ⟨Y4, c', g1, g2, g3, g4⟩ := ih (k + 1) Y2 c (by omega) hw hm
          refine ⟨Y4, c', g1, g2, g3, g4.trans ⟨fun e => e.imp id (fun ⟨m, a, b, cc⟩ => ⟨m, by omega, b, cc⟩), fun e => e.imp id (fun ⟨m, a, b, cc⟩ => ⟨m, ?_, b, cc⟩)⟩⟩
          by_cases hm' : m = k
          · rw [hm'] at cc; exact absurd cc hx
          · omega
    obtain ⟨Y2, c', f1, f2, f3, f4⟩ := loop (T 0 0 + T 2 0) 0 Y1 false (by omega) KW.rfl' (by rw [q_nt_f]; exact hS.kf e3)
    have hdup : c' = q_dup V T ct st j := by
      have ax := q_fi_b (f := fun i => V (ct i)) (x := V j) (T 0 0) 0
      have bx := q_fi_b (f := fun i => V (st i)) (x := V j) (T 2 0) 0
      have key : (∃ m, 0 ≤ m ∧ m < T 0 0 + T 2 0 ∧ Y 64 0 m = Nm j) ↔ (q_ax V T ct j < T 0 0 ∨ q_bx V T st j < T 2 0) := by
        constructor
        · rintro ⟨m, _, b, c⟩
          rcases n2 m b with ⟨_, s', p, q⟩ | ⟨i, p, _, q⟩
          · right
            have hv : V (st s') = V j := (hNV.1 _ _ (hst s' p).2 hK).2 (by rw [← q]; exact c)
            by_cases hh : q_bx V T st j < T 2 0
            · exact hh
            · exact absurd hv (bx.2.2.2 s' (by omega) (by unfold q_bx at hh; omega))
          · left
            have hv : V (ct i) = V j := (hNV.1 _ _ (hct i p).2 hK).2 (by rw [← q]; exact c)
            by_cases hh : q_ax V T ct j < T 0 0
            · exact hh
            · exact absurd hv (ax.2.2.2 i (by omega) (by unfold q_ax at hh; omega))
        · rintro (hh | hh)
          · have hv : V (ct (q_ax V T ct j)) = V j := ax.2.2.1 (by unfold q_ax at hh; omega)
            obtain ⟨m, p, q, rr⟩ := n3 _ hh
            exact ⟨m, by omega, p, by rw [rr]; exact (hNV.1 _ _ (hct _ hh).2 hK).1 hv⟩
          · have hv : V (st (q_bx V T st j)) = V j := bx.2.2.1 (by unfold q_bx at hh; omega)
            obtain ⟨m, p, q, rr⟩ := n4 _ hh
            exact ⟨m, by omega, p, by rw [rr]; exact (hNV.1 _ _ (hst _ hh).2 hK).1 hv⟩
      have f4' : c' = true ↔ q_dup V T ct st j = true := by
        rw [f4, key]; unfold q_dup; rw [decide_eq_true_iff]
        exact ⟨fun e => e.elim (fun x => absurd x (by decide)) id, .inr⟩
      cases hc : c' with
      | false =>
        cases hd' : q_dup V T ct st j with
        | false => rfl
        | true => rw [hc, hd'] at f4'; exact absurd (f4'.2 rfl) (by decide)
      | true =>
        cases hd' : q_dup V T ct st j with
        | true => rfl
        | false => rw [hc, hd'] at f4'; exact absurd (f4'.1 rfl) (by decide)
    refine ⟨Y2, f1, e2.congr (fun i hi => f2 _ _ _ (by omega)), e3.ks.trans f2.ks, fun _ _ => by rw [← hdup]; exact f3⟩
  · refine ⟨Y1, ?_, e2, e3.ks, fun _ h => absurd h h0⟩
    rw [B155_12, y20, cn_nt (z := ((T 0 0 + T 2 0 : Nat) : Int)) rfl (by omega), cn_id (z := 0) (by decide) (by decide)]
    by_cases hz : (0 : Int) < ((T 0 0 + T 2 0 : Nat) : Int)
    · rw [if_pos hz, h13, cn_nt (z := ((q_sk K 258 (0, j)).1 : Int)) rfl (by omega), if_neg (by omega)]
    · rw [if_neg hz]
theorem m_known {Y : XZ} {K P V Nm : Nat → Int} {h j d : Nat} {s : Nat × Int} {T : PT} {ct st : Nat → Nat} (hB : KB K V) (hP : PMo K P) (hNV : NV K V Nm) (hT : TKm Y K P V Nm) (hQ : MQr Y K P h j) (hS : ∀ _ : Nat, h = 0 → MSo Y s ∧ SQ P j s) (hN : NMs Y Nm (T 0 0) (T 2 0) ct st) (h7 : T 0 0 ≤ 7) (h5 : T 2 0 ≤ 5) {j0 : Nat} (hct : ∀ i, i < T 0 0 → ct i < j0 ∧ K (ct i) = 258) (hst : ∀ i, i < T 2 0 → st i < j0 ∧ K (st i) = 258) (hd : 4 ≤ d) (t : Nat) : ∃ (r : Int) (Y' : XZ), x_CALL d 157 [.inr (.inr (some (56, 0)))] (x_S Y t) = some (r, x_S Y' t) ∧ MQr Y' K P (q_sk K 258 (h, j)).1 (q_sk K 258 (h, j)).2 ∧ KS Y Y' ∧ ∀ _ : Nat, (q_sk K 258 (h, j)).1 = 0 → r = (if q_ax V T ct j < T 0 0 then (q_ax V T ct j : Int) else -1) ∧ MSo Y' (q_nt (decide (¬ q_ax V T ct j < T 0 0)) 4 (P j) s) := by
  obtain ⟨Y1, e1, e2, e3⟩ := m_must1 (d := d - 1) hB hT hQ (by omega) t 258 1 kd258 tm258 (by omega)
  have h13 := e2.1
  have h132 := e2.2.1
  obtain ⟨n1, n2, n3, n4, n5⟩ := hN
  have y20 : Y1 56 0 20 = ((T 0 0 + T 2 0 : Nat) : Int) := by rw [e3 _ _ _ (by omega)]; exact n1
  rw [C157 _ _ _ (by omega), e1, Option.bind_some, B157_10, h13, cn_nt (z := ((q_sk K 258 (h, j)).1 : Int)) rfl (by omega)]
  by_cases h0 : (q_sk K 258 (h, j)).1 = 0
  · have hh : h = 0 := (q_sk_y h0).1
    subst hh
    have hK : K j = 258 := (q_sk_y h0).2.1
    have hj4 : j < 400 := (q_sk_y h0).2.2.1
    obtain ⟨r1, r2, r3⟩ := hQ.2.2.1 rfl
    obtain ⟨S1, S2⟩ := hS 0 rfl
    have hT1 := e3.tk hT
    have e2' : MQr Y1 K P 0 (q_sk K 258 (0, j)).2 := by rw [h0] at e2; exact e2
    have xn := hNV.2 j hK
    have y62 : Y1 62 0 j = Nm j := (hT1 j r2 r3).2.2.2 hK
    have ax := q_fi_b (f := fun i => V (ct i)) (x := V j) (T 0 0) 0
    have nb : ∀ k, k < T 0 0 + T 2 0 → 0 ≤ Y 64 0 k ∧ Y 64 0 k < 9223372036854775808 := fun k hk => by
      rcases n2 k hk with ⟨_, s', a, b⟩ | ⟨i, a, _, b⟩
      · rw [b]; exact hNV.2 _ (hst s' a).2
      · rw [b]; exact hNV.2 _ (hct i a).2
    have loop : ∀ (r k : Nat), k + r = T 0 0 + T 2 0 → (∀ m, m < k → ¬ (Y 64 0 m = Nm j ∧ Y 65 0 m < 10)) → ∃ (rr : Int) (Y' : XZ), x_EX (d - 1) 157 21 [some (.inr (.inr (some (56, 0)))), some (.inl ((j : Int))), some (.inl ((k : Int)))] [] (x_S Y1 t) = some (rr, x_S Y' t) ∧ KW Y1 Y' ∧ rr = (if q_ax V T ct j < T 0 0 then (q_ax V T ct j : Int) else -1) ∧ MSo Y' (q_nt (decide (¬ q_ax V T ct j < T 0 0)) 4 (P j) s) := by
      intro r
      induction r with
      | zero =>
        intro k hk hno
        have hnf : ¬ q_ax V T ct j < T 0 0 := fun hh => by
          have hv : V (ct (q_ax V T ct j)) = V j := ax.2.2.1 (by unfold q_ax at hh; omega)
          obtain ⟨m, p, q, rr⟩ := n3 _ hh
          exact hno m (by omega) ⟨by rw [rr]; exact (hNV.1 _ _ (hct _ hh).2 hK).1 hv, by rw [q]; omega⟩
        obtain ⟨Y2, f1, f2, f3⟩ := m_wr (tok := j) (d := d - 1) hP hT1 e2' (S1.kf e3) r2 r3 (by omega) t 4 4 (j : Int) rfl rfl (by omega) (fun _ hs => .inl (S2 0 hs))
        rw [B157_21, y20, cn_nt (z := ((T 0 0 + T 2 0 : Nat) : Int)) rfl (by omega), cn_nt (z := (k : Int)) rfl (by omega), if_neg (by omega), f1, Option.bind_some, B157_75]
        exact ⟨-1, Y2, rfl, f3, by rw [if_neg hnf], by rw [decide_eq_true hnf]; exact f2⟩
      | succ r ih =>
        intro k hk hno
        have y64 : Y1 64 0 k = Y 64 0 k := by rw [e3 _ _ _ (by omega)]
        have y65 : Y1 65 0 k = Y 65 0 k := by rw [e3 _ _ _ (by omega)]
        have hnb := nb k (by omega)
        have bk : 0 ≤ (k : Int) ∧ (k : Int) < 12 := by omega
        rw [B157_21, y20, cn_nt (z := ((T 0 0 + T 2 0 : Nat) : Int)) rfl (by omega), cn_nt (z := (k : Int)) rfl (by omega), if_pos (by omega), if_pos bk, cn_nt (z := (j : Int)) rfl (by omega), if_pos (by omega), Int.toNat_natCast, Int.toNat_natCast, y64, y62, y65]
        by_cases hx : Y 64 0 k = Nm j
        · rw [if_pos ((x_lcmp_0 hnb xn).2 hx), if_pos bk]
          rcases n2 k (by omega) with ⟨q1, _⟩ | ⟨i, q1, q2, q3⟩
          · rw [q1, if_neg (by decide), show (k : Int) + 1 = ((k + 1 : Nat) : Int) by omega]
            refine ih (k + 1) (by omega) (fun m hm => ?_)
            by_cases hmk : m = k
            · rw [hmk, q1]; exact fun e => absurd e.2 (by decide)
            · exact hno m (by omega)
          · rw [q2, cn_nt (z := (i : Int)) rfl (by omega), if_pos (by omega), if_pos bk]
            have hv : V (ct i) = V j := (hNV.1 _ _ (hct i q1).2 hK).2 (by rw [← q3]; exact hx)
            have hle : q_ax V T ct j ≤ i := by
              by_cases hh : q_ax V T ct j ≤ i
              · exact hh
              · exact absurd hv (ax.2.2.2 i (by omega) (by unfold q_ax at hh; omega))
            have hlt : q_ax V T ct j < T 0 0 := by omega
            have heq : q_ax V T ct j = i := by
              have hv' : V (ct (q_ax V T ct j)) = V j := ax.2.2.1 (by unfold q_ax at hlt; omega)
              obtain ⟨m, p, q, rr⟩ := n3 _ hlt
              have hmx : Y 64 0 m = Nm j := by rw [rr]; exact (hNV.1 _ _ (hct _ hlt).2 hK).1 hv'
              by_cases hmk : m < k
              · exact absurd ⟨hmx, by rw [q]; omega⟩ (hno m hmk)
              · by_cases hmk' : m = k
                · rw [hmk', q2] at q; omega
                · have := n5 k m (by omega) p (by rw [q2]; omega) (by rw [q]; omega)
                  rw [q2, q] at this; omega
            exact ⟨(i : Int), Y1, rfl, KW.rfl', by rw [if_pos hlt, heq], by rw [decide_eq_false (fun e => e hlt), q_nt_f]; exact S1.kf e3⟩
        · rw [if_neg (fun e => hx ((x_lcmp_0 hnb xn).1 e)), show (k : Int) + 1 = ((k + 1 : Nat) : Int) by omega]
          refine ih (k + 1) (by omega) (fun m hm => ?_)
          by_cases hmk : m = k
          · rw [hmk]; exact fun e => hx e.1
          · exact hno m (by omega)
    obtain ⟨rr, Y2, f1, f2, f3, f4⟩ := loop (T 0 0 + T 2 0) 0 (by omega) (fun m hm => by omega)
    rw [if_neg (by omega), r1]
    exact ⟨rr, Y2, f1, e2.congr (fun i hi => f2 _ _ _ (by omega)), e3.ks.trans f2.ks, fun _ _ => ⟨f3, f4⟩⟩
  · rw [if_pos (by omega)]
    exact ⟨-1, Y1, rfl, e2, e3.ks, fun _ h' => absurd h' h0⟩
