/-! terms: what the model reads -/
set_option maxRecDepth 20000 in
theorem B164_0g (d : Nat) (Z : XZ) (t : Nat) (a1 : Int) (o2 : Option XV) : x_EX d 164 0 [some (.inr (.inr (some (56, 0)))), some (.inl a1), o2] [] (x_S Z t) = if 0 < cn (Z 56 0 50) then (if 0 ≤ cn ((Z 56 0 50) - 1) ∧ cn ((Z 56 0 50) - 1) < 64 then (if cn (Z 90 0 ((cn ((Z 56 0 50) - 1)).toNat)) = 6 then (some (0, (x_S Z t))) else (if cn a1 = 0 then (if cn (Z 90 0 ((cn ((Z 56 0 50) - 1)).toNat)) = 8 then (x_EX d 164 84 [some (.inr (.inr (some (56, 0)))), some (.inl a1), some (.inl (Z 90 0 ((cn ((Z 56 0 50) - 1)).toNat)))] [.inl 2, .inr (.inr (some (56, 0)))] (x_S (x_u Z 56 0 50 ((Z 56 0 50) - 1)) t)) else (if cn (Z 90 0 ((cn ((Z 56 0 50) - 1)).toNat)) = 9 then (x_EX d 164 84 [some (.inr (.inr (some (56, 0)))), some (.inl a1), some (.inl (Z 90 0 ((cn ((Z 56 0 50) - 1)).toNat)))] [.inl 3, .inr (.inr (some (56, 0)))] (x_S (x_u Z 56 0 50 ((Z 56 0 50) - 1)) t)) else (if cn (Z 90 0 ((cn ((Z 56 0 50) - 1)).toNat)) = 10 then (x_EX d 164 84 [some (.inr (.inr (some (56, 0)))), some (.inl a1), some (.inl (Z 90 0 ((cn ((Z 56 0 50) - 1)).toNat)))] [.inl 4, .inr (.inr (some (56, 0)))] (x_S (x_u Z 56 0 50 ((Z 56 0 50) - 1)) t)) else (x_EX d 164 84 [some (.inr (.inr (some (56, 0)))), some (.inl a1), some (.inl (Z 90 0 ((cn ((Z 56 0 50) - 1)).toNat)))] [.inl 5, .inr (.inr (some (56, 0)))] (x_S (x_u Z 56 0 50 ((Z 56 0 50) - 1)) t))))) else (if cn (Z 90 0 ((cn ((Z 56 0 50) - 1)).toNat)) = 8 then (some (0, (x_S Z t))) else (if cn (Z 90 0 ((cn ((Z 56 0 50) - 1)).toNat)) = 9 then (some (0, (x_S Z t))) else (if cn (Z 90 0 ((cn ((Z 56 0 50) - 1)).toNat)) = 8 then (x_EX d 164 84 [some (.inr (.inr (some (56, 0)))), some (.inl a1), some (.inl (Z 90 0 ((cn ((Z 56 0 50) - 1)).toNat)))] [.inl 2, .inr (.inr (some (56, 0)))] (x_S (x_u Z 56 0 50 ((Z 56 0 50) - 1)) t)) else (if cn (Z 90 0 ((cn ((Z 56 0 50) - 1)).toNat)) = 9 then (x_EX d 164 84 [some (.inr (.inr (some (56, 0)))), some (.inl a1), some (.inl (Z 90 0 ((cn ((Z 56 0 50) - 1)).toNat)))] [.inl 3, .inr (.inr (some (56, 0)))] (x_S (x_u Z 56 0 50 ((Z 56 0 50) - 1)) t)) else (if cn (Z 90 0 ((cn ((Z 56 0 50) - 1)).toNat)) = 10 then (x_EX d 164 84 [some (.inr (.inr (some (56, 0)))), some (.inl a1), some (.inl (Z 90 0 ((cn ((Z 56 0 50) - 1)).toNat)))] [.inl 4, .inr (.inr (some (56, 0)))] (x_S (x_u Z 56 0 50 ((Z 56 0 50) - 1)) t)) else (x_EX d 164 84 [some (.inr (.inr (some (56, 0)))), some (.inl a1), some (.inl (Z 90 0 ((cn ((Z 56 0 50) - 1)).toNat)))] [.inl 5, .inr (.inr (some (56, 0)))] (x_S (x_u Z 56 0 50 ((Z 56 0 50) - 1)) t))))))))) else none) else (some (0, (x_S Z t))) := x_EX_st d (fun k => x_mem [84] k) 40 164 0 _ _ _
theorem t_mc {k : Int} (h : KD k) : (k = 40 ∧ t_m k = 6) ∨ (k = 41 ∧ t_m k = 7) ∨ (k = 42 ∧ t_m k = 10) ∨ (k = 43 ∧ t_m k = 8) ∨ (k = 45 ∧ t_m k = 9) ∨ (k = 47 ∧ t_m k = 15) ∨ (k = 59 ∧ t_m k = 4) ∨ (k = 60 ∧ t_m k = 13) ∨ (k = 61 ∧ t_m k = 5) ∨ (k = 256 ∧ t_m k = 0) ∨ (k = 257 ∧ t_m k = 3) ∨ (k = 258 ∧ t_m k = 1) ∨ (k = 259 ∧ t_m k = 2) ∨ (260 ≤ k ∧ k < 284 ∧ t_m k = k - 240) := by
  rcases h with rfl | rfl | rfl | rfl | rfl | rfl | rfl | rfl | rfl | ⟨h1, h2⟩
  · simp [t_m]
  · simp [t_m]
  · simp [t_m]
  · simp [t_m]
  · simp [t_m]
  · simp [t_m]
  · simp [t_m]
  · simp [t_m]
  · simp [t_m]
  · by_cases a : k = 256
    · subst a; simp [t_m]
    · by_cases b : k = 257
      · subst b; simp [t_m]
      · by_cases c : k = 258
        · subst c; simp [t_m]
        · by_cases e : k = 259
          · subst e; simp [t_m]
          · have : t_m k = k - 240 := by unfold t_m; rw [if_neg a, if_neg b, if_neg c, if_neg e, if_pos (by omega)]
            exact .inr (.inr (.inr (.inr (.inr (.inr (.inr (.inr (.inr (.inr (.inr (.inr (.inr ⟨by omega, h2, this⟩))))))))))))
def t_i (m : Int) : Int := if m = 6 then 40 else if m = 7 then 41 else if m = 10 then 42 else if m = 8 then 43 else if m = 9 then 45 else if m = 15 then 47 else if m = 4 then 59 else if m = 13 then 60 else if m = 5 then 61 else if m = 0 then 256 else if m = 3 then 257 else if m = 1 then 258 else if m = 2 then 259 else m + 240
theorem t_i_m {k : Int} (h : KD k) : t_i (t_m k) = k := by
  rcases t_mc h with ⟨rfl, e⟩ | ⟨rfl, e⟩ | ⟨rfl, e⟩ | ⟨rfl, e⟩ | ⟨rfl, e⟩ | ⟨rfl, e⟩ | ⟨rfl, e⟩ | ⟨rfl, e⟩ | ⟨rfl, e⟩ | ⟨rfl, e⟩ | ⟨rfl, e⟩ | ⟨rfl, e⟩ | ⟨rfl, e⟩ | ⟨h1, h2, e⟩
  · rw [e]; decide
  · rw [e]; decide
  · rw [e]; decide
  · rw [e]; decide
  · rw [e]; decide
  · rw [e]; decide
  · rw [e]; decide
  · rw [e]; decide
  · rw [e]; decide
  · rw [e]; decide
  · rw [e]; decide
  · rw [e]; decide
  · rw [e]; decide
  · rw [e]; unfold t_i
    rw [if_neg (by omega), if_neg (by omega), if_neg (by omega), if_neg (by omega), if_neg (by omega), if_neg (by omega), if_neg (by omega), if_neg (by omega), if_neg (by omega), if_neg (by omega), if_neg (by omega), if_neg (by omega), if_neg (by omega)]; omega
theorem t_m_inj {a b : Int} (ha : KD a) (hb : KD b) : t_m a = t_m b ↔ a = b := by
  constructor
  · intro h; rw [← t_i_m ha, h, t_i_m hb]
  · rintro rfl; rfl
theorem t_m_b {a : Int} (ha : KD a) : 0 ≤ t_m a ∧ t_m a < 44 := by
  have h1 := t_mc ha; omega
def TKm (Y : XZ) (K P V Nm : Nat → Int) : Prop := ∀ j, j ≤ 400 → LK K 0 j → Y 59 0 j = t_m (K j) ∧ Y 60 0 j = P j ∧ (K j = 259 → Y 61 0 j = V j) ∧ (K j = 258 → Y 62 0 j = Nm j)
theorem TKm.congr {Y Y' : XZ} {K P V Nm : Nat → Int} (h : TKm Y K P V Nm) (hk : ∀ g i, 59 ≤ g → g ≤ 62 → Y' g 0 i = Y g 0 i) : TKm Y' K P V Nm := fun j hj hl => by
  rw [hk 59 j (by omega) (by omega), hk 60 j (by omega) (by omega), hk 61 j (by omega) (by omega), hk 62 j (by omega) (by omega)]; exact h j hj hl
/-- where the model reads, or its fault -/
def MQr (Y : XZ) (K P : Nat → Int) (h j : Nat) : Prop := Y 56 0 13 = (h : Int) ∧ h ≤ 2 ∧ (h = 0 → Y 56 0 11 = (j : Int) ∧ j ≤ 400 ∧ LK K 0 j) ∧ (h ≠ 0 → Y 56 0 14 = P j)
def KF (Y Y' : XZ) : Prop := ∀ g m i, ¬ (g = 56 ∧ (i = 11 ∨ i = 13 ∨ i = 14)) → Y' g m i = Y g m i
theorem KF.rfl' {Y : XZ} : KF Y Y := fun _ _ _ _ => rfl
theorem KF.trans {Y Y' Y'' : XZ} (h : KF Y Y') (h' : KF Y' Y'') : KF Y Y'' := fun g m i a => (h' g m i a).trans (h g m i a)
theorem KF.tk {Y Y' : XZ} {K P V Nm : Nat → Int} (h : KF Y Y') (hT : TKm Y K P V Nm) : TKm Y' K P V Nm := hT.congr (fun g i a b => h g 0 i (by omega))
theorem MQr.congr {Y Y' : XZ} {K P : Nat → Int} {h j : Nat} (hQ : MQr Y K P h j) (hk : ∀ i, i = 11 ∨ i = 13 ∨ i = 14 → Y' 56 0 i = Y 56 0 i) : MQr Y' K P h j := by
  unfold MQr; rw [hk 11 (by omega), hk 13 (by omega), hk 14 (by omega)]; exact hQ
theorem m_is {Y : XZ} {K P V Nm : Nat → Int} {h j d : Nat} (hB : KB K V) (hT : TKm Y K P V Nm) (hQ : MQr Y K P h j) (hd : 1 ≤ d) (t : Nat) (k mk : Int) (hk : KD k) (hmk : t_m k = mk) : x_CALL d 144 [.inr (.inr (some (56, 0))), .inl mk] (x_S Y t) = some ((if h = 0 ∧ K j = k then 1 else 0), x_S Y t) := by
  obtain ⟨q1, q2, q3, q4⟩ := hQ
  rw [C144 _ _ _ _ (by omega), q1, cn_nt (z := (h : Int)) rfl (by omega)]
  by_cases h0 : h = 0
  · obtain ⟨r1, r2, r3⟩ := q3 h0
    obtain ⟨k1, k2, k3, k4⟩ := hT j r2 r3
    have hb := (hB j).2.2.2
    have b1 := t_m_b hb
    have b2 := t_m_b hk
    rw [if_pos (by omega), r1, cn_nt (z := (j : Int)) rfl (by omega), if_pos (by omega), Int.toNat_natCast, k1, cn_id (z := t_m (K j)) (by omega) (by omega), cn_id (z := mk) (by omega) (by omega), ← hmk]
    by_cases h1 : K j = k
    · rw [if_pos ((t_m_inj hb hk).2 h1), if_pos ⟨h0, h1⟩]
    · rw [if_neg (fun e => h1 ((t_m_inj hb hk).1 e)), if_neg (fun e => h1 e.2)]
  · rw [if_neg (by omega), if_neg (fun e => h0 e.1)]
theorem m_fail {Y : XZ} {K P V Nm : Nat → Int} {h j d : Nat} (hT : TKm Y K P V Nm) (hQ : MQr Y K P h j) (hd : 1 ≤ d) (t k : Nat) (ki : Int) (hki : ki = (k : Int)) (hk : k = 1 ∨ k = 2) : ∃ Y' : XZ, x_CALL d 145 [.inr (.inr (some (56, 0))), .inl ki] (x_S Y t) = some (0, x_S Y' t) ∧ MQr Y' K P (if h = 0 then k else h) j ∧ KF Y Y' := by
  obtain ⟨q1, q2, q3, q4⟩ := hQ
  rw [C145 _ _ _ _ (by omega), q1, cn_nt (z := (h : Int)) rfl (by omega)]
  by_cases h0 : h = 0
  · obtain ⟨r1, r2, r3⟩ := q3 h0
    obtain ⟨k1, k2, k3, k4⟩ := hT j r2 r3
    rw [if_neg (by omega), r1, cn_nt (z := (j : Int)) rfl (by omega), if_pos (by omega), Int.toNat_natCast, k2, if_pos h0]
    exact ⟨_, rfl, ⟨by rw [x_u_ne (by omega), x_u_eq, hki], by omega, fun e => by omega, fun _ => x_u_eq⟩, fun g m i a => by rw [x_u_ne (by omega), x_u_ne (by omega)]⟩
  · rw [if_pos (by omega), if_neg h0]
    exact ⟨Y, rfl, ⟨q1, q2, q3, q4⟩, KF.rfl'⟩
def q_go (s : Nat × Nat) : Nat × Nat := if s.1 = 0 then (if s.2 < 400 then (0, s.2 + 1) else (2, s.2)) else s
def q_sk (K : Nat → Int) (k : Int) (s : Nat × Nat) : Nat × Nat := if s.1 = 0 then (if K s.2 = k then q_go s else (1, s.2)) else s
theorem m_goes1 {Y : XZ} {K P V Nm : Nat → Int} {h j d : Nat} (hT : TKm Y K P V Nm) (hQ : MQr Y K P h j) (hK : h = 0 → K j ≠ 256 ∧ K j ≠ 257) (hd : 2 ≤ d) (t : Nat) : ∃ Y' : XZ, x_CALL d 147 [.inr (.inr (some (56, 0)))] (x_S Y t) = some (0, x_S Y' t) ∧ MQr Y' K P (q_go (h, j)).1 (q_go (h, j)).2 ∧ KF Y Y' := by
  obtain ⟨q1, q2, q3, q4⟩ := hQ
  have hQ : MQr Y K P h j := ⟨q1, q2, q3, q4⟩
  unfold q_go
  rw [C147 _ _ _ (by omega)]
  by_cases h0 : h = 0
  · obtain ⟨r1, r2, r3⟩ := q3 h0
    rw [if_pos h0, r1, cn_nt (z := (j : Int)) rfl (by omega)]
    by_cases hj : j < 400
    · rw [if_neg (by omega), if_pos hj]
      exact ⟨_, rfl, ⟨by rw [x_u_ne (by omega)]; omega, by show 0 ≤ 2; omega, fun _ => ⟨by rw [x_u_eq]; show (j : Int) + 1 = ((j + 1 : Nat) : Int); omega, by show j + 1 ≤ 400; omega, r3.trans (LK.one (hK h0))⟩, fun e => absurd rfl e⟩, fun g m i a => x_u_ne (by omega)⟩
    · obtain ⟨Y1, e1, e2, e3⟩ := m_fail (d := d - 1) hT hQ (by omega) t 2 2 rfl (by omega)
      rw [if_pos (by omega), if_neg hj, e1, Option.bind_some, B147_15]
      rw [if_pos h0] at e2
      exact ⟨Y1, rfl, e2, e3⟩
  · rw [if_neg h0]
    by_cases h4 : cn (Y 56 0 11) = 400
    · obtain ⟨Y1, e1, e2, e3⟩ := m_fail (d := d - 1) hT hQ (by omega) t 2 2 rfl (by omega)
      rw [if_pos h4, e1, Option.bind_some, B147_15]
      rw [if_neg h0] at e2
      exact ⟨Y1, rfl, e2, e3⟩
    · rw [if_neg h4]
      exact ⟨_, rfl, ⟨by rw [x_u_ne (by omega)]; exact q1, q2, fun e => absurd e h0, fun e => by rw [x_u_ne (by omega)]; exact q4 e⟩, fun g m i a => x_u_ne (by omega)⟩
theorem m_must1 {Y : XZ} {K P V Nm : Nat → Int} {h j d : Nat} (hB : KB K V) (hT : TKm Y K P V Nm) (hQ : MQr Y K P h j) (hd : 3 ≤ d) (t : Nat) (k mk : Int) (hk : KD k) (hmk : t_m k = mk) (hk2 : k ≠ 256 ∧ k ≠ 257) : ∃ Y' : XZ, x_CALL d 148 [.inr (.inr (some (56, 0))), .inl mk] (x_S Y t) = some (0, x_S Y' t) ∧ MQr Y' K P (q_sk K k (h, j)).1 (q_sk K k (h, j)).2 ∧ KF Y Y' := by
  rw [C148 _ _ _ _ (by omega), m_is hB hT hQ (by omega) t k mk hk hmk, Option.bind_some, B148_5]
  unfold q_sk
  by_cases h1 : h = 0 ∧ K j = k
  · obtain ⟨Y1, e1, e2, e3⟩ := m_goes1 (d := d - 1) hT hQ (fun _ => by rw [h1.2]; exact hk2) (by omega) t
    rw [if_pos h1, if_neg cn_1n, e1, Option.bind_some, B148_12, B148_20, if_pos h1.1, if_pos h1.2]
    exact ⟨Y1, rfl, e2, e3⟩
  · obtain ⟨Y1, e1, e2, e3⟩ := m_fail (d := d - 1) hT hQ (by omega) t 1 1 rfl (by omega)
    rw [if_neg h1, if_pos cn_0, e1, Option.bind_some, B148_20]
    refine ⟨Y1, rfl, ?_, e3⟩
    by_cases h0 : h = 0
    · rw [if_pos h0] at e2
      rw [if_pos h0, if_neg (fun e => h1 ⟨h0, e⟩)]; exact e2
    · rw [if_neg h0] at e2
      rw [if_neg h0]; exact e2
/-! codes and what waits -/
def m_o (k : Int) : Int := if k = 110 then 0 else if k = 118 then 1 else if k = 43 then 2 else if k = 45 then 3 else if k = 42 then 4 else 5
def o_w (w : Int) : Int := if w = 8 then 43 else if w = 9 then 45 else if w = 10 then 42 else 47
def o_f (ws : List Int) : CL := ws.map (fun x => (o_w x, 0))
def MC (Y : XZ) (c0 : Nat) (cl : CL) : Prop := Y 56 0 46 = ((c0 + cl.length : Nat) : Int) ∧ ∀ i, i < cl.length → Y 88 0 (c0 + i) = m_o (cl.getD i (0, 0)).1 ∧ Y 89 0 (c0 + i) = (cl.getD i (0, 0)).2
def WR (Y : XZ) (ws : List Int) : Prop := match ws with
  | [] => True
  | x :: r => Y 90 0 r.length = x ∧ WR Y r
def WS (Y : XZ) (ws : List Int) : Prop := Y 56 0 50 = (ws.length : Int) ∧ WR Y ws
def OW (ws : List Int) : Prop := ∀ x, x ∈ ws → x = 6 ∨ x = 8 ∨ x = 9 ∨ x = 10 ∨ x = 15
theorem WR.congr {Y Y' : XZ} : ∀ {ws : List Int}, WR Y ws → (∀ i, i < ws.length → Y' 90 0 i = Y 90 0 i) → WR Y' ws := by
  intro ws
  induction ws with
  | nil => intro _ _; trivial
  | cons x r ih =>
    intro h hk
    exact ⟨(hk _ (by simp)).trans h.1, ih h.2 (fun i hi => hk i (by simp; omega))⟩
theorem MC.congr {Y Y' : XZ} {c0 : Nat} {cl : CL} (h : MC Y c0 cl) (hk : Y' 56 0 46 = Y 56 0 46) (h8 : ∀ i, c0 ≤ i → i < c0 + 420 → Y' 88 0 i = Y 88 0 i ∧ Y' 89 0 i = Y 89 0 i) (hl : cl.length ≤ 420) : MC Y' c0 cl := by
  refine ⟨hk.trans h.1, fun i hi => ?_⟩
  rw [(h8 (c0 + i) (by omega) (by omega)).1, (h8 (c0 + i) (by omega) (by omega)).2]; exact h.2 i hi
def KO (c0 : Nat) (Y Y' : XZ) : Prop := ∀ g m i, ¬ (g = 56 ∧ (i = 46 ∨ i = 50)) → ¬ ((g = 88 ∨ g = 89) ∧ c0 ≤ i ∧ i < c0 + 420) → Y' g m i = Y g m i
theorem KO.rfl' {c0 : Nat} {Y : XZ} : KO c0 Y Y := fun _ _ _ _ _ => rfl
theorem KO.trans {c0 : Nat} {Y Y' Y'' : XZ} (h : KO c0 Y Y') (h' : KO c0 Y' Y'') : KO c0 Y Y'' := fun g m i a b => (h' g m i a b).trans (h g m i a b)
def KX (c0 : Nat) (Y Y' : XZ) : Prop := ∀ g m i, ¬ (g = 56 ∧ (i = 11 ∨ i = 12 ∨ i = 13 ∨ i = 14 ∨ i = 46 ∨ i = 50)) → ¬ ((g = 88 ∨ g = 89) ∧ c0 ≤ i ∧ i < c0 + 420) → g ≠ 90 → Y' g m i = Y g m i
theorem KX.rfl' {c0 : Nat} {Y : XZ} : KX c0 Y Y := fun _ _ _ _ _ _ => rfl
theorem KX.trans {c0 : Nat} {Y Y' Y'' : XZ} (h : KX c0 Y Y') (h' : KX c0 Y' Y'') : KX c0 Y Y'' := fun g m i a b c => (h' g m i a b c).trans (h g m i a b c)
theorem KX.tk {c0 : Nat} {Y Y' : XZ} {K P V Nm : Nat → Int} (h : KX c0 Y Y') (hT : TKm Y K P V Nm) : TKm Y' K P V Nm := hT.congr (fun g i a b => h g 0 i (by omega) (by omega) (by omega))
theorem KO.kx {c0 : Nat} {Y Y' : XZ} (h : KO c0 Y Y') : KX c0 Y Y' := fun g m i a b _ => h g m i (by omega) b
theorem KF.kx {c0 : Nat} {Y Y' : XZ} (h : KF Y Y') : KX c0 Y Y' := fun g m i a _ _ => h g m i (by omega)
theorem m_emit {Y : XZ} {c0 d : Nat} {cl : CL} (hM : MC Y c0 cl) (hl : cl.length < 420) (hc : c0 ≤ 420) (hd : 1 ≤ d) (t : Nat) (k a b : Int) (ha : a = m_o k) : ∃ Y' : XZ, x_CALL d 163 [.inr (.inr (some (56, 0))), .inl a, .inl b] (x_S Y t) = some (0, x_S Y' t) ∧ MC Y' c0 (cl ++ [(k, b)]) ∧ KO c0 Y Y' ∧ Y' 56 0 50 = Y 56 0 50 := by
  obtain ⟨h1, h2⟩ := hM
  rw [C163 _ _ _ _ _ (by omega), h1, cn_nt (z := ((c0 + cl.length : Nat) : Int)) rfl (by omega), if_pos (by omega), if_pos (by omega), Int.toNat_natCast]
  refine ⟨_, rfl, ⟨?_, fun i hi => ?_⟩, fun g m i e f => ?_, ?_⟩
  · rw [x_u_eq, List.length_append, List.length_singleton]; omega
  · rw [List.length_append, List.length_singleton] at hi
    rw [getD_app]
    by_cases h : i < cl.length
    · rw [if_pos h, x_u_ne (by omega), x_u_ne (by omega), x_u_ne (by omega), x_u_ne (by omega), x_u_ne (by omega), x_u_ne (by omega)]; exact h2 i h
    · obtain rfl : i = cl.length := by omega
      rw [if_neg h, Nat.sub_self, x_u_ne (by omega), x_u_ne (by omega), x_u_eq, x_u_ne (by omega), x_u_eq]
      exact ⟨ha, rfl⟩
  · rw [x_u_ne (by omega), x_u_ne (by omega), x_u_ne (by omega)]
  · rw [x_u_ne (by omega), x_u_ne (by omega), x_u_ne (by omega)]
theorem m_o_w {x : Int} (hx : x = 8 ∨ x = 9 ∨ x = 10 ∨ x = 15) : m_o (o_w x) = if x = 8 then 2 else if x = 9 then 3 else if x = 10 then 4 else 5 := by
  rcases hx with rfl | rfl | rfl | rfl <;> decide
theorem m_pop {Y : XZ} {c0 d : Nat} {cl : CL} {ws : List Int} {x a : Int} (hW : WS Y (x :: ws)) (hM : MC Y c0 cl) (hl : cl.length < 420) (hc : c0 ≤ 420) (hws : ws.length < 64) (hx : x = 8 ∨ x = 9 ∨ x = 10 ∨ x = 15) (ha : a = 0 ∨ (a = 1 ∧ x ≠ 8 ∧ x ≠ 9)) (hd : 1 ≤ d) (t : Nat) (o2 : Option XV) : ∃ (Y' : XZ) (o : Option XV), x_EX d 164 0 [some (.inr (.inr (some (56, 0)))), some (.inl a), o2] [] (x_S Y t) = x_EX d 164 0 [some (.inr (.inr (some (56, 0)))), some (.inl a), o] [] (x_S Y' t) ∧ WS Y' ws ∧ MC Y' c0 (cl ++ [(o_w x, 0)]) ∧ KO c0 Y Y' := by
  obtain ⟨w1, w2, w3⟩ := hW
  have hlen : ((x :: ws).length : Int) = (ws.length : Int) + 1 := by rw [List.length_cons]; omega
  rw [hlen] at w1
  have e1 : cn ((ws.length : Int) + 1) = ((ws.length + 1 : Nat) : Int) := cn_nt (by omega) (by omega)
  have e2 : cn ((ws.length : Int) + 1 - 1) = (ws.length : Int) := cn_nt (by omega) (by omega)
  have hxc : cn x = x := cn_id (by omega) (by omega)
  have hM1 : MC (x_u Y 56 0 50 ((ws.length : Int) + 1 - 1)) c0 cl := hM.congr (x_u_ne (by omega)) (fun i _ _ => ⟨x_u_ne (by omega), x_u_ne (by omega)⟩) (by omega)
  obtain ⟨Y1, f1, f2, f3, f4⟩ := m_emit (d := d) hM1 hl hc hd t (o_w x) _ 0 (m_o_w hx).symm
  have fin : x_EX d 164 84 [some (.inr (.inr (some (56, 0)))), some (.inl a), some (.inl x)] [.inl (if x = 8 then 2 else if x = 9 then 3 else if x = 10 then 4 else 5), .inr (.inr (some (56, 0)))] (x_S (x_u Y 56 0 50 ((ws.length : Int) + 1 - 1)) t) = x_EX d 164 0 [some (.inr (.inr (some (56, 0)))), some (.inl a), some (.inl x)] [] (x_S Y1 t) := by
    rw [B164_84, f1, Option.bind_some, B164_88]
  refine ⟨Y1, some (.inl x), ?_, ⟨by rw [f4, x_u_eq]; omega, WR.congr w3 (fun i hi => by rw [f3 _ _ _ (by omega) (by omega), x_u_ne (by omega)])⟩, f2, fun g m i p q => by rw [f3 g m i p q, x_u_ne (by omega)]⟩
  rw [B164_0g, w1, e1, if_pos (by omega), e2, if_pos (by omega), Int.toNat_natCast, w2, hxc, if_neg (by omega)]
  rw [← fin]
  rcases ha with ha | ⟨ha, n8, n9⟩
  · rw [ha, if_pos cn_0]
    rcases hx with rfl | rfl | rfl | rfl <;> rfl
  · rw [ha, if_neg cn_1n, if_neg n8, if_neg n9]
    rcases hx with rfl | rfl | rfl | rfl
    · exact absurd rfl n8
    · exact absurd rfl n9
    · rfl
    · rfl
/-- where a popping stops -/
def q_tp (a : Int) (ws : List Int) : Prop := match ws with
  | [] => True
  | x :: _ => x = 6 ∨ (a = 1 ∧ (x = 8 ∨ x = 9))
theorem m_halt {Y : XZ} {d : Nat} {ws : List Int} {a : Int} (hW : WS Y ws) (hws : ws.length < 64) (hq : q_tp a ws) (t : Nat) (o2 : Option XV) : x_EX d 164 0 [some (.inr (.inr (some (56, 0)))), some (.inl a), o2] [] (x_S Y t) = some (0, x_S Y t) := by
  cases ws with
  | nil =>
    have w1 : Y 56 0 50 = 0 := hW.1
    rw [B164_0g, w1, if_neg (by decide)]
  | cons x ws =>
    obtain ⟨w1, w2, w3⟩ := hW
    rw [List.length_cons] at w1 hws
    have e1 : cn ((ws.length + 1 : Nat) : Int) = ((ws.length + 1 : Nat) : Int) := cn_nt rfl (by omega)
    have e2 : cn (((ws.length + 1 : Nat) : Int) - 1) = (ws.length : Int) := cn_nt (by omega) (by omega)
    have hq' : x = 6 ∨ (a = 1 ∧ (x = 8 ∨ x = 9)) := hq
    have hxc : cn x = x := cn_id (by omega) (by omega)
    rw [B164_0g, w1, e1, if_pos (by omega), e2, if_pos (by omega), Int.toNat_natCast, w2, hxc]
    rcases hq' with h | ⟨h, h8 | h9⟩
    · rw [if_pos h]
    · rw [if_neg (by omega), h, if_neg cn_1n, if_pos h8]
    · rw [if_neg (by omega), h, if_neg cn_1n, if_neg (by omega), if_pos h9]
theorem m_pops {c0 d : Nat} {a : Int} (hc : c0 ≤ 420) (hd : 1 ≤ d) (t : Nat) : ∀ (ps : List Int) (Y : XZ) (cl : CL) (ws : List Int) (o2 : Option XV), WS Y (ps ++ ws) → MC Y c0 cl → ps.length + cl.length ≤ 420 → (ps ++ ws).length ≤ 64 → ws.length < 64 → (∀ x, x ∈ ps → (x = 8 ∨ x = 9 ∨ x = 10 ∨ x = 15) ∧ (a = 0 ∨ (a = 1 ∧ x ≠ 8 ∧ x ≠ 9))) → q_tp a ws → ∃ Y' : XZ, x_EX d 164 0 [some (.inr (.inr (some (56, 0)))), some (.inl a), o2] [] (x_S Y t) = some (0, x_S Y' t) ∧ WS Y' ws ∧ MC Y' c0 (cl ++ o_f ps) ∧ KO c0 Y Y' := by
  intro ps
  induction ps with
  | nil =>
    intro Y cl ws o2 hW hM hl h6 h64 hp hq
    exact ⟨Y, m_halt hW h64 hq t o2, hW, by show MC Y c0 (cl ++ []); rw [List.append_nil]; exact hM, KO.rfl'⟩
  | cons x ps ih =>
    intro Y cl ws o2 hW hM hl h6 h64 hp hq
    rw [List.length_cons] at hl
    rw [List.cons_append, List.length_cons] at h6
    obtain ⟨p1, p2⟩ := hp x (List.mem_cons_self ..)
    obtain ⟨Y1, o, e1, e2, e3, e4⟩ := m_pop (d := d) (ws := ps ++ ws) hW hM (by omega) hc (by omega) p1 p2 hd t o2
    obtain ⟨Y2, f1, f2, f3, f4⟩ := ih Y1 _ ws o e2 e3 (by rw [List.length_append, List.length_singleton]; omega) (by omega) h64 (fun y hy => hp y (List.mem_cons_of_mem _ hy)) hq
    refine ⟨Y2, e1.trans f1, f2, ?_, e4.trans f4⟩
    rw [List.append_assoc, List.singleton_append] at f3
    exact f3
theorem m_popA {c0 d : Nat} (hc : c0 ≤ 420) (hd : 1 ≤ d) (t : Nat) : ∀ (ws : List Int) (Y : XZ) (cl : CL) (o2 : Option XV), WS Y ws → MC Y c0 cl → ws.length + cl.length ≤ 420 → ws.length < 64 → OW ws → ∃ Y' : XZ, x_EX d 164 0 [some (.inr (.inr (some (56, 0)))), some (.inl 0), o2] [] (x_S Y t) = some (0, x_S Y' t) ∧ KO c0 Y Y' := by
  intro ws
  induction ws with
  | nil => intro Y cl o2 hW hM hl h6 hO; exact ⟨Y, m_halt hW (by simp) trivial t o2, KO.rfl'⟩
  | cons x ws ih =>
    intro Y cl o2 hW hM hl h6 hO
    rw [List.length_cons] at hl h6
    rcases hO x (List.mem_cons_self ..) with h | h
    · exact ⟨Y, m_halt hW (by rw [List.length_cons]; omega) (.inl h) t o2, KO.rfl'⟩
    · obtain ⟨Y1, o, e1, e2, e3, e4⟩ := m_pop (d := d) hW hM (by omega) hc (by omega) h (.inl rfl) hd t o2
      obtain ⟨Y2, f1, f2⟩ := ih Y1 _ o e2 e3 (by rw [List.length_append, List.length_singleton]; omega) (by omega) (fun y hy => hO y (List.mem_cons_of_mem _ hy))
      exact ⟨Y2, e1.trans f1, e4.trans f2⟩
theorem C164' (d : Nat) (Z : XZ) (t : Nat) (a1 : Int) (h : 0 < d) : x_CALL d 164 [.inr (.inr (some (56, 0))), .inl a1] (x_S Z t) = x_EX (d - 1) 164 0 [some (.inr (.inr (some (56, 0)))), some (.inl a1), none] [] (x_S Z t) := by
  rw [C164 d Z t a1 h, B164_0]
