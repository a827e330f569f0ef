/-! what a law tells: the model -/
def MA (Y : XZ) (i : Nat) (c : CL) : Prop := match c with
  | [] => True
  | (k, v) :: r => Y 88 0 i = m_o k ∧ Y 89 0 i = v ∧ MA Y (i + 1) r
theorem MA.congr {Y Y' : XZ} : ∀ {c : CL} {i : Nat}, MA Y i c → (∀ j, i ≤ j → j < i + c.length → Y' 88 0 j = Y 88 0 j ∧ Y' 89 0 j = Y 89 0 j) → MA Y' i c := by
  intro c
  induction c with
  | nil => intro i _ _; trivial
  | cons x r ih =>
    intro i h hk
    obtain ⟨k, v⟩ := x
    obtain ⟨h1, h2, h3⟩ := h
    have e := hk i (Nat.le_refl _) (by simp)
    exact ⟨e.1.trans h1, e.2.trans h2, ih h3 (fun j a b => hk j (by omega) (by simp; omega))⟩
def K93 (Y Y' : XZ) : Prop := ∀ g m i, g ≠ 92 → (g ≠ 56 ∨ i ≠ 53) → Y' g m i = Y g m i
theorem K93.rfl' {Y : XZ} : K93 Y Y := fun _ _ _ _ _ => rfl
theorem K93.trans {Y Y' Y'' : XZ} (h : K93 Y Y') (h' : K93 Y' Y'') : K93 Y Y'' := fun g m i a b => (h' g m i a b).trans (h g m i a b)
theorem m_run {d : Nat} (t : Nat) (fr : Int) {to : Nat} (hto : to ≤ 840) : ∀ (c : CL) (s : List Int) (i : Nat) (Y : XZ) (o5 o6 o7 : Option XV), XO c → MA Y i c → SWc Y 92 0 s → s.length ≤ 16 → d_z c s.length → i + c.length ≤ to → ((∃ s', s_m (q_va Y 91 0) c s = some s' ∧ s'.length ≤ 16 ∧ ∃ (Y' : XZ) (p5 p6 p7 : Option XV), x_EX d 167 5 [some (.inr (.inr (some (56, 0)))), some (.inl fr), some (.inl ((to : Int))), some (.inl ((s.length : Int))), some (.inl ((i : Int))), o5, o6, o7] [] (x_S Y t) = x_EX d 167 5 [some (.inr (.inr (some (56, 0)))), some (.inl fr), some (.inl ((to : Int))), some (.inl ((s'.length : Int))), some (.inl (((i + c.length : Nat) : Int))), p5, p6, p7] [] (x_S Y' t) ∧ SWc Y' 92 0 s' ∧ ∀ g m i, g ≠ 92 → Y' g m i = Y g m i) ∨ (s_m (q_va Y 91 0) c s = none ∧ ∃ Y' : XZ, x_EX d 167 5 [some (.inr (.inr (some (56, 0)))), some (.inl fr), some (.inl ((to : Int))), some (.inl ((s.length : Int))), some (.inl ((i : Int))), o5, o6, o7] [] (x_S Y t) = some (0, x_S Y' t) ∧ Y' 56 0 53 = 1 ∧ K93 Y Y')) := by
  intro c
  induction c with
  | nil =>
    intro s i Y o5 o6 o7 hO hA hS hs hz hi
    exact .inl ⟨s, rfl, hs, Y, o5, o6, o7, rfl, hS, fun _ _ _ _ => rfl⟩
  | cons x r ih =>
    intro s i Y o5 o6 o7 hO hA hS hs hz hi
    obtain ⟨k, v⟩ := x
    obtain ⟨h17, h18, hA'⟩ := hA
    rw [List.length_cons] at hi
    have hO' : XO r := fun y hy => hO y (List.mem_cons_of_mem _ hy)
    have hx := hO (k, v) (List.mem_cons_self ..)
    have hbi : 0 ≤ (i : Int) ∧ (i : Int) < 840 := by omega
    have hii : (((i + 1 : Nat) : Int)) = (i : Int) + 1 := by omega
    have step : ∀ (Y1 : XZ) (s1 : List Int) (p5 p6 p7 : Option XV), (∀ g m i, g ≠ 92 → Y1 g m i = Y g m i) → SWc Y1 92 0 s1 → s1.length ≤ 16 → d_z r s1.length → s_m (q_va Y 91 0) ((k, v) :: r) s = s_m (q_va Y 91 0) r s1 → x_EX d 167 5 [some (.inr (.inr (some (56, 0)))), some (.inl fr), some (.inl ((to : Int))), some (.inl ((s.length : Int))), some (.inl ((i : Int))), o5, o6, o7] [] (x_S Y t) = x_EX d 167 5 [some (.inr (.inr (some (56, 0)))), some (.inl fr), some (.inl ((to : Int))), some (.inl ((s1.length : Int))), some (.inl (((i + 1 : Nat) : Int))), p5, p6, p7] [] (x_S Y1 t) → ((∃ s', s_m (q_va Y 91 0) ((k, v) :: r) s = some s' ∧ s'.length ≤ 16 ∧ ∃ (Y' : XZ) (p5 p6 p7 : Option XV), x_EX d 167 5 [some (.inr (.inr (some (56, 0)))), some (.inl fr), some (.inl ((to : Int))), some (.inl ((s.length : Int))), some (.inl ((i : Int))), o5, o6, o7] [] (x_S Y t) = x_EX d 167 5 [some (.inr (.inr (some (56, 0)))), some (.inl fr), some (.inl ((to : Int))), some (.inl ((s'.length : Int))), some (.inl (((i + ((k, v) :: r).length : Nat) : Int))), p5, p6, p7] [] (x_S Y' t) ∧ SWc Y' 92 0 s' ∧ ∀ g m i, g ≠ 92 → Y' g m i = Y g m i) ∨ (s_m (q_va Y 91 0) ((k, v) :: r) s = none ∧ ∃ Y' : XZ, x_EX d 167 5 [some (.inr (.inr (some (56, 0)))), some (.inl fr), some (.inl ((to : Int))), some (.inl ((s.length : Int))), some (.inl ((i : Int))), o5, o6, o7] [] (x_S Y t) = some (0, x_S Y' t) ∧ Y' 56 0 53 = 1 ∧ K93 Y Y')) := by
      intro Y1 s1 p5 p6 p7 hk hS1 hs1 hz1 hm he
      have hq : q_va Y1 91 0 = q_va Y 91 0 := by unfold q_va; funext j; rw [hk _ _ _ (by omega)]
      have hI := ih s1 (i + 1) Y1 p5 p6 p7 hO' (hA'.congr (fun j _ _ => ⟨hk _ _ _ (by omega), hk _ _ _ (by omega)⟩)) hS1 hs1 hz1 (by omega)
      rw [hq] at hI
      rw [hm, he, List.length_cons, show i + (r.length + 1) = i + 1 + r.length by omega]
      rcases hI with ⟨s', a, b, Y', q5, q6, q7, e1, e3, e4⟩ | ⟨a, Y', e1, e2, e3⟩
      · exact .inl ⟨s', a, b, Y', q5, q6, q7, e1, e3, fun g m i h => (e4 g m i h).trans (hk g m i h)⟩
      · exact .inr ⟨a, Y', e1, e2, fun g m i h h' => (e3 g m i h h').trans (hk g m i h)⟩
    rcases hx with ⟨x1, x2, x3⟩ | ⟨x1, x2, x3⟩ | ⟨x1, x2⟩
    · have x1' : k = 110 := x1
      have x2' : 0 ≤ v := x2
      have x3' : v < 10000 := x3
      subst x1'
      rw [d_z, if_pos (.inl rfl)] at hz
      have h17' : Y 88 0 i = 0 := h17
      refine step (x_u Y 92 0 s.length v) (v :: s) (some (.inl 0)) o6 o7 (fun g m j a => x_u_ne (by omega)) ⟨by rw [x_u_eq]; exact cn_id (by omega) (by omega), hS.congr (fun j hj => x_u_ne (by omega))⟩ (by rw [List.length_cons]; omega) (by rw [List.length_cons]; exact hz.2) rfl ?_
      rw [B167_5, cn_nt (z := (i : Int)) rfl (by omega), cn_nt (z := (to : Int)) rfl (by omega), if_pos (by omega), if_pos hbi, Int.toNat_natCast, h17', if_pos (by decide), if_pos (by decide), if_pos hbi, h18, B167_58, cn_nt (z := (s.length : Int)) rfl (by omega), if_pos (by omega), Int.toNat_natCast, List.length_cons, hii, show ((s.length + 1 : Nat) : Int) = (s.length : Int) + 1 by omega]
    · have x1' : k = 118 := x1
      have x2' : 0 ≤ v := x2
      have x3' : v < 9 := x3
      subst x1'
      rw [d_z, if_pos (.inr rfl)] at hz
      have h17' : Y 88 0 i = 1 := h17
      refine step (x_u Y 92 0 s.length (Y 91 0 v.toNat)) (q_va Y 91 0 v.toNat :: s) (some (.inl 1)) o6 o7 (fun g m j a => x_u_ne (by omega)) ⟨by rw [x_u_eq]; unfold q_va; rw [if_pos (by omega)], hS.congr (fun j hj => x_u_ne (by omega))⟩ (by rw [List.length_cons]; omega) (by rw [List.length_cons]; exact hz.2) rfl ?_
      rw [B167_5, cn_nt (z := (i : Int)) rfl (by omega), cn_nt (z := (to : Int)) rfl (by omega), if_pos (by omega), if_pos hbi, Int.toNat_natCast, h17', if_pos (by decide), if_neg (by decide), if_pos hbi, h18, cn_id (z := v) (by omega) (by omega), if_pos (by omega), B167_58, cn_nt (z := (s.length : Int)) rfl (by omega), if_pos (by omega), Int.toNat_natCast, List.length_cons, hii, show ((s.length + 1 : Nat) : Int) = (s.length : Int) + 1 by omega]
    · have x1' : k = 43 ∨ k = 45 ∨ k = 42 ∨ k = 47 := x1
      rw [d_z_op x1'] at hz
      have hmo : m_o k = if k = 43 then 2 else if k = 45 then 3 else if k = 42 then 4 else 5 := by
        rcases x1' with rfl | rfl | rfl | rfl <;> decide
      have hmb : 2 ≤ m_o k ∧ m_o k ≤ 5 := by
        rcases x1' with rfl | rfl | rfl | rfl <;> decide
      have hm5 : m_o k = 5 ↔ k = 47 := by
        rcases x1' with rfl | rfl | rfl | rfl <;> decide
      cases s with
      | nil => exact absurd hz.1 (by simp)
      | cons b s =>
        cases s with
        | nil => exact absurd hz.1 (by simp)
        | cons a s =>
          have hl2 : ((b :: a :: s).length : Int) = (s.length : Int) + 2 := by rw [List.length_cons, List.length_cons]; omega
          rw [List.length_cons, List.length_cons] at hs hz
          have pre : ∀ R, (¬ (k = 47 ∧ b = 0) → x_EX d 167 104 [some (.inr (.inr (some (56, 0)))), some (.inl fr), some (.inl ((to : Int))), some (.inl ((s.length : Int) + 2 + (-1))), some (.inl ((i : Int))), some (.inl (m_o k)), some (.inl ((Y 92 0 s.length))), some (.inl ((Y 92 0 (s.length + 1))))] [] (x_S Y t) = R) → ((k = 47 ∧ b = 0) → some (0, x_S (x_u Y 56 0 53 1) t) = R) → x_EX d 167 5 [some (.inr (.inr (some (56, 0)))), some (.inl fr), some (.inl ((to : Int))), some (.inl (((b :: a :: s).length : Int))), some (.inl ((i : Int))), o5, o6, o7] [] (x_S Y t) = R := by
            intro R hR hR0
            rw [hl2, B167_5, cn_nt (z := (i : Int)) rfl (by omega), cn_nt (z := (to : Int)) rfl (by omega), if_pos (by omega), if_pos hbi, Int.toNat_natCast, h17, cn_id (z := m_o k) (by omega) (by omega), if_neg (by omega), cn_nt (z := (s.length : Int) + 2 + (-1) - 1) (n := s.length) (by omega) (by omega), if_pos (by omega), cn_nt (z := (s.length : Int) + 2 + (-1)) (n := s.length + 1) (by omega) (by omega), if_pos (by omega), Int.toNat_natCast, Int.toNat_natCast, show cn (Y 92 0 (s.length + 1)) = b from hS.1]
            by_cases h47 : m_o k = 5
            · rw [if_pos h47]
              by_cases hb0 : b = 0
              · rw [if_pos hb0]; exact hR0 ⟨hm5.1 h47, hb0⟩
              · rw [if_neg hb0]; exact hR (fun e => hb0 e.2)
            · rw [if_neg h47]; exact hR (fun e => h47 (hm5.2 e.1))
          by_cases hzero : k = 47 ∧ b = 0
          · refine .inr ⟨by rw [s_m_op x1', if_pos hzero], x_u Y 56 0 53 1, pre _ (fun h => absurd hzero h) (fun _ => rfl), x_u_eq, fun g m j e f => x_u_ne (by omega)⟩
          · have hb0 : k = 47 → ¬ b = 0 := fun e f => hzero ⟨e, f⟩
            refine step (x_u Y 92 0 s.length (if k = 43 then Y 92 0 s.length + Y 92 0 (s.length + 1) else if k = 45 then Y 92 0 s.length - Y 92 0 (s.length + 1) else if k = 42 then Y 92 0 s.length * Y 92 0 (s.length + 1) else x_div (Y 92 0 s.length) (Y 92 0 (s.length + 1)))) (v_op k a b :: s) (some (.inl (m_o k))) (some (.inl (Y 92 0 s.length))) (some (.inl (Y 92 0 (s.length + 1)))) (fun g m j e => x_u_ne (by omega)) ⟨by rw [x_u_eq]; exact cn_op x1' hS.2.1 hS.1, hS.2.2.congr (fun j hj => x_u_ne (by omega))⟩ (by rw [List.length_cons]; omega) (by rw [List.length_cons]; exact hz.2) (by rw [s_m_op x1', if_neg hzero]) (pre _ (fun _ => ?_) (fun h => absurd h hzero))
            have fin : ∀ w mo : Int, x_EX d 167 158 [some (.inr (.inr (some (56, 0)))), some (.inl fr), some (.inl ((to : Int))), some (.inl ((s.length : Int) + 2 + (-1))), some (.inl ((i : Int))), some (.inl mo), some (.inl ((Y 92 0 s.length))), some (.inl ((Y 92 0 (s.length + 1))))] [.inl w, .inl ((s.length : Int) + 2 + (-1) - 1), .inr (.inr (some (92, 0)))] (x_S Y t) = x_EX d 167 5 [some (.inr (.inr (some (56, 0)))), some (.inl fr), some (.inl ((to : Int))), some (.inl (((v_op k a b :: s).length : Int))), some (.inl (((i + 1 : Nat) : Int))), some (.inl mo), some (.inl ((Y 92 0 s.length))), some (.inl ((Y 92 0 (s.length + 1))))] [] (x_S (x_u Y 92 0 s.length w) t) := by
              intro w mo
              rw [B167_158, cn_nt (z := (s.length : Int) + 2 + (-1) - 1) (n := s.length) (by omega) (by omega), if_pos (by omega), Int.toNat_natCast, List.length_cons, hii, show (s.length : Int) + 2 + (-1) = ((s.length + 1 : Nat) : Int) by omega]
            rw [B167_104, cn_id (z := m_o k) (by omega) (by omega), show cn (Y 92 0 (s.length + 1)) = b from hS.1]
            by_cases h1 : k = 43
            · rw [hmo, if_pos h1, if_pos h1, if_pos rfl]; exact fin _ _
            · by_cases h2 : k = 45
              · rw [hmo, if_neg h1, if_pos h2, if_neg (by decide), if_pos rfl, if_neg h1, if_pos h2]; exact fin _ _
              · by_cases h3 : k = 42
                · rw [hmo, if_neg h1, if_neg h2, if_pos h3, if_neg (by decide), if_neg (by decide), if_pos rfl, if_neg h1, if_neg h2, if_pos h3]; exact fin _ _
                · rw [hmo, if_neg h1, if_neg h2, if_neg h3, if_neg (by decide), if_neg (by decide), if_neg (by decide), if_neg (hb0 (by omega)), if_neg h1, if_neg h2, if_neg h3]; exact fin _ _
theorem m_term {d : Nat} (hd : 1 ≤ d) (t : Nat) {c : CL} (hG : XG c) (p : Nat) (Y : XZ) (hp : p + c.length ≤ 840) (hA : MA Y p c) (p' : Int) (hp' : p' = ((p + c.length : Nat) : Int)) : ∃ (r : Int) (Y' : XZ), x_CALL d 167 [.inr (.inr (some (56, 0))), .inl ((p : Int)), .inl p'] (x_S Y t) = some (r, x_S Y' t) ∧ K93 Y Y' ∧ ((∃ v, e_v (q_va Y 91 0) c = some v ∧ cn r = v ∧ Y' 56 0 53 = Y 56 0 53) ∨ (e_v (q_va Y 91 0) c = none ∧ Y' 56 0 53 = 1)) := by
  obtain ⟨g1, g2, g3⟩ := hG
  have hz : d_z c ([] : List Int).length := by
    have := g1 0 [] (by omega) trivial
    rw [List.append_nil] at this; exact this
  have he := e_v_s g2 (F := q_va Y 91 0) []
  subst hp'
  rw [C167 _ _ _ _ _ (by omega)]
  rcases m_run (d := d - 1) t (p : Int) hp c [] p Y none none none g3 hA trivial (by simp) hz (Nat.le_refl _) with ⟨s', a, b, Y', q5, q6, q7, e1, e3, e4⟩ | ⟨a, Y', e1, e2, e3⟩
  · rw [he] at a
    cases hv : e_v (q_va Y 91 0) c with
    | none => rw [hv] at a; exact absurd a (by simp)
    | some v =>
      rw [hv, Option.bind_some, Option.some.injEq] at a
      subst a
      refine ⟨Y' 92 0 0, Y', e1.trans ?_, fun g m i h _ => e4 g m i h, .inl ⟨v, rfl, e3.1, e4 _ _ _ (by omega)⟩⟩
      rw [B167_5, if_neg (Int.lt_irrefl _)]
  · rw [he] at a
    cases hv : e_v (q_va Y 91 0) c with
    | none => exact ⟨0, Y', e1, e3, .inr ⟨rfl, e2⟩⟩
    | some v => rw [hv, Option.bind_some] at a; exact absurd a (by simp)
def MLw (Y : XZ) (v b e : Nat) (bs : BL) (fin : CL) : Prop := match bs with
  | [] => b + 1 = e ∧ 130 * v ≤ b ∧ b < 130 * v + 130 ∧ Y 83 0 b = 0 ∧ ∃ p : Nat, 420 * v ≤ p ∧ p + fin.length ≤ 420 * v + 420 ∧ Y 86 0 b = (p : Int) ∧ Y 87 0 b = ((p + fin.length : Nat) : Int) ∧ MA Y p fin
  | (c1, c2, c3) :: r => (130 * v ≤ b ∧ b < 130 * v + 130 ∧ Y 83 0 b = 1 ∧ ∃ p : Nat, 420 * v ≤ p ∧ p + c1.length + c2.length + c3.length ≤ 420 * v + 420 ∧ Y 84 0 b = (p : Int) ∧ Y 85 0 b = ((p + c1.length : Nat) : Int) ∧ Y 86 0 b = ((p + c1.length + c2.length : Nat) : Int) ∧ Y 87 0 b = ((p + c1.length + c2.length + c3.length : Nat) : Int) ∧ MA Y p c1 ∧ MA Y (p + c1.length) c2 ∧ MA Y (p + c1.length + c2.length) c3) ∧ MLw Y v (b + 1) e r fin
theorem MLw.le {Y : XZ} {v e : Nat} {fin : CL} : ∀ {bs : BL} {b : Nat}, MLw Y v b e bs fin → b < e ∧ e ≤ 130 * v + 130 ∧ 130 * v ≤ b := by
  intro bs
  induction bs with
  | nil => intro b h; have h1 := h.1; have h2 := h.2.1; have h3 := h.2.2.1; omega
  | cons c r ih =>
    intro b h
    obtain ⟨c1, c2, c3⟩ := c
    have h1 := h.1.1
    have := ih h.2
    omega
theorem MLw.congr {Y Y' : XZ} {v e : Nat} {fin : CL} : ∀ {bs : BL} {b : Nat}, MLw Y v b e bs fin → (∀ g i, mlh v g i → Y' g 0 i = Y g 0 i) → MLw Y' v b e bs fin := by
  intro bs
  induction bs with
  | nil =>
    intro b h hk
    obtain ⟨h1, h2, h3, h4, p, h5, h6, h7, h8, h9⟩ := h
    refine ⟨h1, h2, h3, by rw [hk 83 b (by unfold mlh; omega)]; exact h4, p, h5, h6, by rw [hk 86 b (by unfold mlh; omega)]; exact h7, by rw [hk 87 b (by unfold mlh; omega)]; exact h8, h9.congr (fun j a c => ⟨hk 88 j (by unfold mlh; omega), hk 89 j (by unfold mlh; omega)⟩)⟩
  | cons c r ih =>
    intro b h hk
    obtain ⟨c1, c2, c3⟩ := c
    obtain ⟨⟨h2, h3, h4, p, h5, h6, h7, h8, h9, h10, h11, h12, h13⟩, hr⟩ := h
    refine ⟨⟨h2, h3, by rw [hk 83 b (by unfold mlh; omega)]; exact h4, p, h5, h6, by rw [hk 84 b (by unfold mlh; omega)]; exact h7, by rw [hk 85 b (by unfold mlh; omega)]; exact h8, by rw [hk 86 b (by unfold mlh; omega)]; exact h9, by rw [hk 87 b (by unfold mlh; omega)]; exact h10, h11.congr (fun j a c => ⟨hk 88 j (by unfold mlh; omega), hk 89 j (by unfold mlh; omega)⟩), h12.congr (fun j a c => ⟨hk 88 j (by unfold mlh; omega), hk 89 j (by unfold mlh; omega)⟩), h13.congr (fun j a c => ⟨hk 88 j (by unfold mlh; omega), hk 89 j (by unfold mlh; omega)⟩)⟩, ih hr hk⟩
theorem m_law {d v k e : Nat} (hd : 2 ≤ d) (t : Nat) (a1 a2 : Int) (hv : v < 2) (hk : k < 4) {fin : CL} : ∀ (bs : BL) (b : Nat) (Y : XZ) (o5 o6 : Option XV), GL bs fin → MLw Y v b e bs fin → Y 82 0 (4 * v + k) = (e : Int) → Y 56 0 53 = 0 → ∃ (r : Int) (Y' : XZ), x_EX d 185 39 [some (.inr (.inr (some (56, 0)))), some (.inl a1), some (.inl a2), some (.inl (((4 * v + k : Nat) : Int))), some (.inl ((b : Int))), o5, o6] [] (x_S Y t) = some (r, x_S Y' t) ∧ K93 Y Y' ∧ cn r = l_v (q_va Y 91 0) bs fin := by
  have last : ∀ (c : CL), XG c → ∀ (b p : Nat) (Y : XZ) (o5 o6 : Option XV) (q : Int), p + c.length ≤ 840 → MA Y p c → Y 56 0 53 = 0 → q = ((p + c.length : Nat) : Int) → ∃ (r : Int) (Y' : XZ), ((x_CALL d 167 [.inr (.inr (some (56, 0))), .inl ((p : Int)), .inl q] (x_S Y t)).bind fun q => x_EX d 185 137 [some (.inr (.inr (some (56, 0)))), some (.inl a1), some (.inl a2), some (.inl (((4 * v + k : Nat) : Int))), some (.inl ((b : Int))), o5, o6] [.inl q.1] q.2) = some (r, x_S Y' t) ∧ K93 Y Y' ∧ cn r = (e_v (q_va Y 91 0) c).getD 0 := by
    intro c hG b p Y o5 o6 q hp hA h53 hq
    obtain ⟨r, Y1, e1, e2, e3⟩ := m_term (d := d) (by omega) t hG p Y hp hA q hq
    rw [e1, Option.bind_some, B185_137]
    rcases e3 with ⟨w, f1, f2, f3⟩ | ⟨f1, f2⟩
    · rw [f3, h53, if_pos cn_0, f1]
      exact ⟨r, Y1, rfl, e2, f2⟩
    · rw [f2, if_neg cn_1n, f1]
      exact ⟨0, Y1, rfl, e2, cn_0⟩
  intro bs
  induction bs with
  | nil =>
    intro b Y o5 o6 hG hL h82 h53
    have hle := MLw.le hL
    obtain ⟨h1, h2, h3, h4, p, h5, h6, h7, h8, h9⟩ := hL
    have hb : 0 ≤ (b : Int) ∧ (b : Int) < 260 := by omega
    rw [B185_39, cn_nt (z := ((4 * v + k : Nat) : Int)) rfl (by omega), if_pos (by omega), Int.toNat_natCast, h82, cn_nt (z := (b : Int)) rfl (by omega), cn_nt (z := (e : Int)) rfl (by omega), if_pos (by omega), if_pos hb, Int.toNat_natCast, h4, if_pos cn_0, if_pos hb, if_pos hb, h7, h8]
    exact last fin hG.1 b p Y o5 o6 _ (by omega) h9 h53 rfl
  | cons c r ih =>
    intro b Y o5 o6 hG hL h82 h53
    have hle := MLw.le hL
    obtain ⟨c1, c2, c3⟩ := c
    obtain ⟨⟨h2, h3, h4, p, h5, h6, h7, h8, h9, h10, h11, h12, h13⟩, hr⟩ := hL
    have x1 : XG c1 := (hG.2 (c1, c2, c3) (List.mem_cons_self ..)).1
    have x2 : XG c2 := (hG.2 (c1, c2, c3) (List.mem_cons_self ..)).2.1
    have x3 : XG c3 := (hG.2 (c1, c2, c3) (List.mem_cons_self ..)).2.2
    have hb : 0 ≤ (b : Int) ∧ (b : Int) < 260 := by omega
    obtain ⟨r1, Y1, e1, e2, e3⟩ := m_term (d := d) (by omega) t x1 p Y (by omega) h11 _ rfl
    have k85 : Y1 85 0 b = ((p + c1.length : Nat) : Int) := by rw [e2 _ _ _ (by omega) (by omega)]; exact h8
    have k86 : Y1 86 0 b = ((p + c1.length + c2.length : Nat) : Int) := by rw [e2 _ _ _ (by omega) (by omega)]; exact h9
    have hq1 : q_va Y1 91 0 = q_va Y 91 0 := by unfold q_va; funext j; rw [e2 _ _ _ (by omega) (by omega)]
    obtain ⟨r2, Y2, f1, f2, f3⟩ := m_term (d := d) (by omega) t x2 (p + c1.length) Y1 (by omega) (h12.congr (fun j _ _ => ⟨e2 _ _ _ (by omega) (by omega), e2 _ _ _ (by omega) (by omega)⟩)) _ rfl
    have k2 := e2.trans f2
    rw [hq1] at f3
    rw [B185_39, cn_nt (z := ((4 * v + k : Nat) : Int)) rfl (by omega), if_pos (by omega), Int.toNat_natCast, h82, cn_nt (z := (b : Int)) rfl (by omega), cn_nt (z := (e : Int)) rfl (by omega), if_pos (by omega), if_pos hb, Int.toNat_natCast, h4, if_neg cn_1n, if_pos hb, if_pos hb, h7, h8, e1, Option.bind_some, B185_78, cn_nt (z := (b : Int)) rfl (by omega), if_pos hb, if_pos hb, Int.toNat_natCast, k85, k86, f1, Option.bind_some, B185_98, l_v]
    rcases e3 with ⟨w, g1, g2, g3⟩ | ⟨g1, g2⟩
    · rcases f3 with ⟨w', i1, i2, i3⟩ | ⟨i1, i2⟩
      · have h53' : Y2 56 0 53 = 0 := by rw [i3, g3]; exact h53
        have hq2 : q_va Y2 91 0 = q_va Y 91 0 := by unfold q_va; funext j; rw [k2 _ _ _ (by omega) (by omega)]
        rw [h53', if_pos cn_0, g2, i2, g1, i1]
        show ∃ (rr : Int) (Y' : XZ), _ ∧ _ ∧ cn rr = if w < w' then (e_v (q_va Y 91 0) c3).getD 0 else l_v (q_va Y 91 0) r fin
        by_cases hlt : w < w'
        · rw [if_pos hlt, if_pos hlt, cn_nt (z := (b : Int)) rfl (by omega), if_pos hb, if_pos hb, Int.toNat_natCast, k2 _ _ _ (by omega) (by omega), k2 _ _ _ (by omega) (by omega), h9, h10]
          obtain ⟨rr, Y3, j1, j2, j3⟩ := last c3 x3 b (p + c1.length + c2.length) Y2 (some (.inl r1)) (some (.inl r2)) _ (by omega) (h13.congr (fun j _ _ => ⟨k2 _ _ _ (by omega) (by omega), k2 _ _ _ (by omega) (by omega)⟩)) h53' rfl
          rw [hq2] at j3
          exact ⟨rr, Y3, j1, k2.trans j2, j3⟩
        · rw [if_neg hlt, if_neg hlt, show (b : Int) + 1 = ((b + 1 : Nat) : Int) by omega]
          obtain ⟨rr, Y3, j1, j2, j3⟩ := ih (b + 1) Y2 (some (.inl r1)) (some (.inl r2)) ⟨hG.1, fun b hb => hG.2 b (List.mem_cons_of_mem _ hb)⟩ (hr.congr (fun g i hm => k2 _ _ _ (by unfold mlh at hm; omega) (by unfold mlh at hm; omega))) (by rw [k2 _ _ _ (by omega) (by omega)]; exact h82) h53'
          rw [hq2] at j3
          exact ⟨rr, Y3, j1, k2.trans j2, j3⟩
      · rw [i2, if_neg cn_1n, g1, i1]
        exact ⟨0, Y2, rfl, k2, cn_0⟩
    · have h531 : Y2 56 0 53 = 1 := by
        rcases f3 with ⟨w', i1, i2, i3⟩ | ⟨i1, i2⟩
        · rw [i3]; exact g2
        · exact i2
      rw [h531, if_neg cn_1n, g1]
      exact ⟨0, Y2, rfl, k2, cn_0⟩
