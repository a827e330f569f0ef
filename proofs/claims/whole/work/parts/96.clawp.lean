/-! laws: what a text says, and the class -/
def q_xe (K V : Nat → Int) (s : Nat × Nat) : Nat × Nat := if s.1 = 0 then ((e_T K V s.2).1, (e_T K V s.2).2.1) else s
def b_0 (K : Nat → Int) (j : Nat) : Nat × Nat := q_sk K 272 (0, j)
def b_1 (K V : Nat → Int) (j : Nat) : Nat × Nat := q_xe K V (b_0 K j)
def b_2 (K V : Nat → Int) (j : Nat) : Nat × Nat := q_sk K 60 (b_1 K V j)
def b_3 (K V : Nat → Int) (j : Nat) : Nat × Nat := q_xe K V (b_2 K V j)
def b_4 (K V : Nat → Int) (j : Nat) : Nat × Nat := q_sk K 273 (b_3 K V j)
def b_5 (K V : Nat → Int) (j : Nat) : Nat × Nat := q_xe K V (b_4 K V j)
def b_6 (K V : Nat → Int) (j : Nat) : Nat × Nat := q_sk K 274 (b_5 K V j)
def b_c (K V : Nat → Int) (j : Nat) : CL × CL × CL := ((e_T K V (b_0 K j).2).2.2, (e_T K V (b_2 K V j).2).2.2, (e_T K V (b_4 K V j).2).2.2)
abbrev LR : Type := Nat × Nat × BL × CL
def l_T (K V : Nat → Int) (f : Nat) (j : Nat) : LR := match f with
  | 0 => if K j = 272 then (2, j, [], []) else ((q_sk K 59 (q_xe K V (0, j))).1, (q_sk K 59 (q_xe K V (0, j))).2, [], (e_T K V j).2.2)
  | f + 1 => if K j = 272 then (if (b_6 K V j).1 = 0 then ((l_T K V f (b_6 K V j).2).1, (l_T K V f (b_6 K V j).2).2.1, b_c K V j :: (l_T K V f (b_6 K V j).2).2.2.1, (l_T K V f (b_6 K V j).2).2.2.2) else ((b_6 K V j).1, (b_6 K V j).2, [], [])) else ((q_sk K 59 (q_xe K V (0, j))).1, (q_sk K 59 (q_xe K V (0, j))).2, [], (e_T K V j).2.2)
theorem l_T_n {K V : Nat → Int} {f j : Nat} (h : ¬ K j = 272) : l_T K V f j = ((q_sk K 59 (q_xe K V (0, j))).1, (q_sk K 59 (q_xe K V (0, j))).2, [], (e_T K V j).2.2) := by
  cases f with
  | zero => exact if_neg h
  | succ f => exact if_neg h
theorem l_T_0 {K V : Nat → Int} {j : Nat} (h : K j = 272) : l_T K V 0 j = (2, j, [], []) := if_pos h
theorem l_T_b {K V : Nat → Int} {f j : Nat} (h : K j = 272) (h6 : ¬ (b_6 K V j).1 = 0) : l_T K V (f + 1) j = ((b_6 K V j).1, (b_6 K V j).2, [], []) := by rw [l_T, if_pos h, if_neg h6]
theorem l_T_y {K V : Nat → Int} {f j : Nat} (h : K j = 272) (h6 : (b_6 K V j).1 = 0) : l_T K V (f + 1) j = ((l_T K V f (b_6 K V j).2).1, (l_T K V f (b_6 K V j).2).2.1, b_c K V j :: (l_T K V f (b_6 K V j).2).2.2.1, (l_T K V f (b_6 K V j).2).2.2.2) := by rw [l_T, if_pos h, if_pos h6]
theorem q_sk_f {K : Nat → Int} {k : Int} {s : Nat × Nat} (h : ¬ s.1 = 0) : q_sk K k s = s := if_neg h
theorem q_xe_f {K V : Nat → Int} {s : Nat × Nat} (h : ¬ s.1 = 0) : q_xe K V s = s := if_neg h
theorem b_6_5 {K V : Nat → Int} {j : Nat} (h : ¬ (b_5 K V j).1 = 0) : b_6 K V j = b_5 K V j := q_sk_f h
theorem b_6_4 {K V : Nat → Int} {j : Nat} (h : ¬ (b_4 K V j).1 = 0) : b_6 K V j = b_4 K V j := by
  have e : b_5 K V j = b_4 K V j := q_xe_f h
  rw [b_6_5 (by rw [e]; exact h), e]
theorem b_6_3 {K V : Nat → Int} {j : Nat} (h : ¬ (b_3 K V j).1 = 0) : b_6 K V j = b_3 K V j := by
  have e : b_4 K V j = b_3 K V j := q_sk_f h
  rw [b_6_4 (by rw [e]; exact h), e]
theorem b_6_2 {K V : Nat → Int} {j : Nat} (h : ¬ (b_2 K V j).1 = 0) : b_6 K V j = b_2 K V j := by
  have e : b_3 K V j = b_2 K V j := q_xe_f h
  rw [b_6_3 (by rw [e]; exact h), e]
theorem b_6_1 {K V : Nat → Int} {j : Nat} (h : ¬ (b_1 K V j).1 = 0) : b_6 K V j = b_1 K V j := by
  have e : b_2 K V j = b_1 K V j := q_sk_f h
  rw [b_6_2 (by rw [e]; exact h), e]
theorem b_6_0 {K V : Nat → Int} {j : Nat} (h : ¬ (b_0 K j).1 = 0) : b_6 K V j = b_0 K j := by
  have e : b_1 K V j = b_0 K j := q_xe_f h
  rw [b_6_1 (by rw [e]; exact h), e]
theorem q_sk_y {K : Nat → Int} {k : Int} {s : Nat × Nat} (h : (q_sk K k s).1 = 0) : s.1 = 0 ∧ K s.2 = k ∧ s.2 < 400 ∧ (q_sk K k s).2 = s.2 + 1 := by
  unfold q_sk q_go at *
  by_cases h0 : s.1 = 0
  · rw [if_pos h0] at h ⊢
    by_cases h1 : K s.2 = k
    · rw [if_pos h1, if_pos h0] at h ⊢
      by_cases h2 : s.2 < 400
      · rw [if_pos h2]; exact ⟨h0, h1, h2, rfl⟩
      · rw [if_neg h2] at h; exact absurd h (by simp)
    · rw [if_neg h1] at h; exact absurd h (by simp)
  · rw [if_neg h0] at h; exact absurd h h0
theorem q_xe_y {K V : Nat → Int} {s : Nat × Nat} (h : (q_xe K V s).1 = 0) : s.1 = 0 ∧ (e_T K V s.2).1 = 0 ∧ (q_xe K V s).2 = (e_T K V s.2).2.1 := by
  unfold q_xe at *
  by_cases h0 : s.1 = 0
  · rw [if_pos h0] at h ⊢; exact ⟨h0, h, rfl⟩
  · rw [if_neg h0] at h; exact absurd h h0
theorem e_T_G {K V : Nat → Int} (hB : KB K V) {j : Nat} (hj : j ≤ 400) (h : (e_T K V j).1 = 0) : XG (e_T K V j).2.2 ∧ j < (e_T K V j).2.1 ∧ (e_T K V j).2.1 ≤ 400 ∧ j + (e_T K V j).2.2.length ≤ (e_T K V j).2.1 ∧ LK K j (e_T K V j).2.1 := by
  obtain ⟨p1, p2, p3, p4, p5⟩ := e_T_sp hB j hj
  obtain ⟨z1, z2, z3, z4, z5, z6⟩ := p5 h
  exact ⟨⟨z3, z4, z5⟩, z1, p2, z2, p3⟩
theorem l_T_G {K V : Nat → Int} (hB : KB K V) : ∀ (f j : Nat), j ≤ 400 → (l_T K V f j).1 = 0 → GL (l_T K V f j).2.2.1 (l_T K V f j).2.2.2 ∧ j < (l_T K V f j).2.1 ∧ (l_T K V f j).2.1 ≤ 400 ∧ LK K j (l_T K V f j).2.1 := by
  have base : ∀ j, j ≤ 400 → (q_sk K 59 (q_xe K V (0, j))).1 = 0 → XG (e_T K V j).2.2 ∧ j < (q_sk K 59 (q_xe K V (0, j))).2 ∧ (q_sk K 59 (q_xe K V (0, j))).2 ≤ 400 ∧ LK K j (q_sk K 59 (q_xe K V (0, j))).2 := by
    intro j hj h
    obtain ⟨a1, a2, a3, a4⟩ := q_sk_y h
    obtain ⟨c1, c2, c3⟩ := q_xe_y a1
    obtain ⟨d1, d2, d3, d4, d5⟩ := e_T_G hB hj c2
    rw [c3] at a2 a3 a4
    refine ⟨d1, by rw [a4]; show j < (e_T K V j).2.1 + 1; omega, by rw [a4]; show (e_T K V j).2.1 + 1 ≤ 400; have : (e_T K V j).2.1 < 400 := a3; omega, by rw [a4]; exact d5.trans (LK.one (by have : K (e_T K V j).2.1 = 59 := a2; omega))⟩
  intro f
  induction f with
  | zero =>
    intro j hj h
    by_cases hk : K j = 272
    · rw [l_T_0 hk] at h; exact absurd h (by simp)
    · rw [l_T_n hk] at h ⊢
      obtain ⟨a1, a2, a3, a4⟩ := base j hj h
      exact ⟨⟨a1, fun b hb => absurd hb (List.not_mem_nil)⟩, a2, a3, a4⟩
  | succ f ih =>
    intro j hj h
    by_cases hk : K j = 272
    · by_cases h6 : (b_6 K V j).1 = 0
      · rw [l_T_y hk h6] at h ⊢
        obtain ⟨a1, a2, a3, a4⟩ := q_sk_y h6
        obtain ⟨c1, c2, c3⟩ := q_xe_y (s := b_4 K V j) a1
        obtain ⟨d1, d2, d3, d4⟩ := q_sk_y (s := b_3 K V j) c1
        obtain ⟨e1, e2, e3⟩ := q_xe_y (s := b_2 K V j) d1
        obtain ⟨f1, f2, f3, f4⟩ := q_sk_y (s := b_1 K V j) e1
        obtain ⟨g1, g2, g3⟩ := q_xe_y (s := b_0 K j) f1
        obtain ⟨i1, i2, i3, i4⟩ := q_sk_y (s := (0, j)) g1
        have b0 : (b_0 K j).2 = j + 1 := i4
        have hj' : j < 400 := i3
        have b1 : (b_1 K V j).2 = (e_T K V (b_0 K j).2).2.1 := g3
        have b2 : (b_2 K V j).2 = (b_1 K V j).2 + 1 := f4
        have b3 : (b_3 K V j).2 = (e_T K V (b_2 K V j).2).2.1 := e3
        have b4 : (b_4 K V j).2 = (b_3 K V j).2 + 1 := d4
        have b5 : (b_5 K V j).2 = (e_T K V (b_4 K V j).2).2.1 := c3
        have b6 : (b_6 K V j).2 = (b_5 K V j).2 + 1 := a4
        obtain ⟨x1, x2, x3, x4, x5⟩ := e_T_G hB (j := (b_0 K j).2) (by omega) g2
        obtain ⟨y1, y2, y3, y4, y5⟩ := e_T_G hB (j := (b_2 K V j).2) (by omega) e2
        obtain ⟨z1, z2, z3, z4, z5⟩ := e_T_G hB (j := (b_4 K V j).2) (by omega) c2
        obtain ⟨r1, r2, r3, r4⟩ := ih (b_6 K V j).2 (by omega) h
        refine ⟨⟨r1.1, fun b hb => ?_⟩, by show j < (l_T K V f (b_6 K V j).2).2.1; omega, r3, ?_⟩
        · rcases List.mem_cons.1 hb with hb | hb
          · rw [hb]; exact ⟨x1, y1, z1⟩
          · exact r1.2 b hb
        · have l0 : LK K j (b_0 K j).2 := by rw [b0]; exact LK.one (by omega)
          have l1 : LK K (b_0 K j).2 (b_1 K V j).2 := by rw [b1]; exact x5
          have l2 : LK K (b_1 K V j).2 (b_2 K V j).2 := by rw [b2]; exact LK.one (by omega)
          have l3 : LK K (b_2 K V j).2 (b_3 K V j).2 := by rw [b3]; exact y5
          have l4 : LK K (b_3 K V j).2 (b_4 K V j).2 := by rw [b4]; exact LK.one (by omega)
          have l5 : LK K (b_4 K V j).2 (b_5 K V j).2 := by rw [b5]; exact z5
          have l6 : LK K (b_5 K V j).2 (b_6 K V j).2 := by rw [b6]; exact LK.one (by omega)
          exact l0.trans (l1.trans (l2.trans (l3.trans (l4.trans (l5.trans (l6.trans r4))))))
      · rw [l_T_b hk h6] at h; exact absurd h h6
    · rw [l_T_n hk] at h ⊢
      obtain ⟨a1, a2, a3, a4⟩ := base j hj h
      exact ⟨⟨a1, fun b hb => absurd hb (List.not_mem_nil)⟩, a2, a3, a4⟩
/-! the class -/
def CXn (Z : XZ) (K : Nat → Int) (u j n : Nat) : Prop := j ≤ 400 ∧ LK K 0 j ∧ Z 2 0 3 = (j : Int) ∧ Z 15 u 1 = (n : Int) ∧ n ≤ 400
def q_ls (Z : XZ) (u n : Nat) : CL := (List.range n).map (fun i => (Z 17 u i, Z 18 u i))
theorem q_ls_len {Z : XZ} {u n : Nat} : (q_ls Z u n).length = n := by unfold q_ls; rw [List.length_map, List.length_range]
theorem q_ls_at {Z : XZ} {u n i : Nat} (hi : i < n) : (q_ls Z u n).getD i (0, 0) = (Z 17 u i, Z 18 u i) := by
  unfold q_ls
  rw [List.getD_eq_getElem?_getD, List.getElem?_map, List.getElem?_range hi]; rfl
theorem CXn.cx {Z : XZ} {K : Nat → Int} {u j n : Nat} (h : CXn Z K u j n) : CX Z K u j (q_ls Z u n) := by
  obtain ⟨h1, h2, h3, h4, h5⟩ := h
  exact ⟨h1, h2, h3, by rw [q_ls_len]; exact h4, by rw [q_ls_len]; exact h5, fun i hi => by rw [q_ls_len] at hi; rw [q_ls_at hi]; exact ⟨rfl, rfl⟩⟩
theorem CX.ca {Z : XZ} {u : Nat} {cl : CL} : ∀ {c : CL} {i : Nat}, (∀ x, x < c.length → Z 17 u (i + x) = (c.getD x (0, 0)).1 ∧ Z 18 u (i + x) = (c.getD x (0, 0)).2) → CA Z u i c := by
  intro c
  induction c with
  | nil => intro i _; trivial
  | cons x r ih =>
    intro i h
    obtain ⟨k, v⟩ := x
    have h0 := h 0 (by simp)
    refine ⟨h0.1, h0.2, ih (fun y hy => ?_)⟩
    have := h (y + 1) (by simp; omega)
    rw [show i + (y + 1) = i + 1 + y by omega] at this
    exact this
theorem CX.cxn {Z Z' : XZ} {K : Nat → Int} {u j n : Nat} {c : CL} (h : CX Z' K u j (q_ls Z u n ++ c)) : CXn Z' K u j (n + c.length) ∧ CA Z' u n c ∧ ∀ i, i < n → Z' 17 u i = Z 17 u i ∧ Z' 18 u i = Z 18 u i := by
  obtain ⟨h1, h2, h3, h4, h5, h6⟩ := h
  rw [List.length_append, q_ls_len] at h4 h5 h6
  refine ⟨⟨h1, h2, h3, h4, h5⟩, CX.ca (cl := []) (fun x hx => ?_), fun i hi => ?_⟩
  · have := h6 (n + x) (by omega)
    rw [getD_app, q_ls_len, if_neg (by omega), show n + x - n = x by omega] at this
    exact this
  · have := h6 i (by omega)
    rw [getD_app, q_ls_len, if_pos hi, q_ls_at hi] at this
    exact this
def KB4 (Z Z' : XZ) : Prop := ∀ g m i, ¬ (g = 2 ∧ (i = 3 ∨ i = 4)) → Z' g m i = Z g m i
theorem c_takeN {Z : XZ} {K P V : Nat → Int} {u j n d : Nat} (hB : KB K V) (hT : TKc Z K P V) (hX : CXn Z K u j n) (h4 : Z 2 0 4 = 1) (hd : 1 ≤ d) (t : Nat) (k : Int) (hk : 0 ≤ k ∧ k < 1000) (hk2 : k ≠ 256 ∧ k ≠ 257) : ∃ Z' : XZ, x_CALL d 22 [.inr (.inr (some (2, 0))), .inl k] (x_S Z t) = some ((if (q_sk K k (0, j)).1 = 0 then 1 else 0), x_S Z' t) ∧ KB4 Z Z' ∧ ((q_sk K k (0, j)).1 = 0 → CXn Z' K u (q_sk K k (0, j)).2 n ∧ Z' 2 0 4 = 1) ∧ (¬ (q_sk K k (0, j)).1 = 0 → Z' 2 0 3 = ((q_sk K k (0, j)).2 : Int) ∧ Z' 2 0 4 = ((q_sk K k (0, j)).1 : Int)) := by
  rw [c_take hB hT hX.cx hd t k hk]
  obtain ⟨x1, x2, x3, x4, x5⟩ := hX
  by_cases h1 : K j = k
  · by_cases h2 : j < 400
    · have e : q_sk K k (0, j) = (0, j + 1) := by unfold q_sk q_go; rw [if_pos rfl, if_pos h1, if_pos rfl, if_pos h2]
      rw [e, if_pos h1, if_pos h2]
      exact ⟨_, rfl, fun g m i a => x_u_ne (by omega), fun _ => ⟨⟨by show j + 1 ≤ 400; omega, x2.trans (LK.one (by rw [h1]; exact hk2)), by rw [x_u_eq]; show (j : Int) + 1 = ((j + 1 : Nat) : Int); omega, by rw [x_u_ne (by omega)]; exact x4, x5⟩, by rw [x_u_ne (by omega)]; exact h4⟩, fun h => absurd rfl h⟩
    · have e : q_sk K k (0, j) = (2, j) := by unfold q_sk q_go; rw [if_pos rfl, if_pos h1, if_pos rfl, if_neg h2]
      rw [e, if_pos h1, if_neg h2]
      exact ⟨_, rfl, fun g m i a => x_u_ne (by omega), fun h => absurd h (by simp), fun _ => ⟨by rw [x_u_ne (by omega)]; exact x3, x_u_eq⟩⟩
  · have e : q_sk K k (0, j) = (1, j) := by unfold q_sk; rw [if_pos rfl, if_neg h1]
    rw [e, if_neg h1]
    exact ⟨Z, rfl, fun _ _ _ _ => rfl, fun h => absurd h (by simp), fun _ => ⟨x3, h4⟩⟩
theorem c_termN {Z : XZ} {K P V : Nat → Int} {t j n d : Nat} (hB : KB K V) (hT : TKc Z K P V) (hX : CXn Z K (1 - t) j n) (hl : n + 2 ≤ j) (h4 : Z 2 0 4 = 1) (hd : 22 ≤ d) : ∃ Z' : XZ, x_CALL d 31 [.inr (.inr (some (2, 0))), .inl 0] (x_S Z t) = some ((if (e_T K V j).1 = 0 then 1 else 0), x_S Z' t) ∧ KCr (1 - t) Z Z' ∧ ((e_T K V j).1 = 0 → CXn Z' K (1 - t) (e_T K V j).2.1 (n + (e_T K V j).2.2.length) ∧ CA Z' (1 - t) n (e_T K V j).2.2 ∧ (∀ i, i < n → Z' 17 (1 - t) i = Z 17 (1 - t) i ∧ Z' 18 (1 - t) i = Z 18 (1 - t) i) ∧ Z' 2 0 4 = 1) ∧ (¬ (e_T K V j).1 = 0 → Z' 2 0 3 = ((e_T K V j).2.1 : Int) ∧ Z' 2 0 4 = ((e_T K V j).1 : Int)) := by
  obtain ⟨Z', e1, e2, e3, e4⟩ := c_term hB Z j _ d hd hT hX.cx (by rw [q_ls_len]; exact hl) h4
  refine ⟨Z', e1, e2, fun h => ?_, e4⟩
  obtain ⟨f1, f2, f3⟩ := (e3 h).1.cxn
  exact ⟨f1, f2, f3, (e3 h).2⟩
theorem c_emitN {Z : XZ} {K : Nat → Int} {u j n d : Nat} (hX : CXn Z K u j n) (hl : n < 400) (hd : 1 ≤ d) (t : Nat) (a b : Int) : ∃ Z' : XZ, x_CALL d 7 [.inr (.inr (some (15, u))), .inl a, .inl b] (x_S Z t) = some (0, x_S Z' t) ∧ CXn Z' K u j (n + 1) ∧ (Z' 17 u n = a ∧ Z' 18 u n = b) ∧ (∀ i, i < n → Z' 17 u i = Z 17 u i ∧ Z' 18 u i = Z 18 u i) ∧ ∀ g m i, ¬ (m = u ∧ ((g = 15 ∧ i = 1) ∨ g = 17 ∨ g = 18)) → Z' g m i = Z g m i := by
  obtain ⟨Z', e1, e2, e3⟩ := c_emit hX.cx (by rw [q_ls_len]; exact hl) hd t a b
  obtain ⟨f1, f2, f3⟩ := e2.cxn
  exact ⟨Z', e1, f1, ⟨f2.1, f2.2.1⟩, f3, e3⟩
