/-! terms: what a text says -/
abbrev CL : Type := List (Int × Int)
abbrev ER : Type := Nat × Nat × CL
def e_L (K : Nat → Int) (g : Nat → ER) (s1 s2 : Int) (f : Nat) (j : Nat) : ER := match f with
  | 0 => (0, j, [])
  | f + 1 => if K j = s1 ∨ K j = s2 then (if 400 ≤ j then (2, j, []) else if (g (j + 1)).1 = 0 then ((e_L K g s1 s2 f (g (j + 1)).2.1).1, (e_L K g s1 s2 f (g (j + 1)).2.1).2.1, (g (j + 1)).2.2 ++ (K j, 0) :: (e_L K g s1 s2 f (g (j + 1)).2.1).2.2) else ((g (j + 1)).1, (g (j + 1)).2.1, [])) else (0, j, [])
def e_G (K : Nat → Int) (g : Nat → ER) (s1 s2 : Int) (j : Nat) : ER := if (g j).1 = 0 then ((e_L K g s1 s2 401 (g j).2.1).1, (e_L K g s1 s2 401 (g j).2.1).2.1, (g j).2.2 ++ (e_L K g s1 s2 401 (g j).2.1).2.2) else ((g j).1, (g j).2.1, [])
def e_S (K : Nat → Int) (g : Nat → ER) : Nat → ER := e_G K (e_G K g 42 47) 43 45
def e_O (K : Nat → Int) (g : Nat → ER) (j : Nat) : ER := if 400 ≤ j then (2, j, []) else if (e_S K g (j + 1)).1 = 0 then (if K (e_S K g (j + 1)).2.1 = 41 then (if 400 ≤ (e_S K g (j + 1)).2.1 then (2, (e_S K g (j + 1)).2.1, []) else (0, (e_S K g (j + 1)).2.1 + 1, (e_S K g (j + 1)).2.2)) else (1, (e_S K g (j + 1)).2.1, [])) else ((e_S K g (j + 1)).1, (e_S K g (j + 1)).2.1, [])
def e_A (K V : Nat → Int) (j : Nat) : ER := if K j = 259 then (if 400 ≤ j then (2, j, []) else (0, j + 1, [(110, V j)])) else if 275 ≤ K j then (if 400 ≤ j then (2, j, []) else (0, j + 1, [(118, K j - 275)])) else (1, j, [])
def e_U (K V : Nat → Int) (b : Nat) : Nat → ER := match b with
  | 0 => fun j => if K j = 40 then (2, j, []) else e_A K V j
  | b + 1 => fun j => if K j = 40 then e_O K (e_U K V b) j else e_A K V j
noncomputable def v_op (k a b : Int) : Int := if k = 43 then cn (a + b) else if k = 45 then cn (a - b) else if k = 42 then cn (a * b) else cn (x_div a b)
noncomputable def s_m (F : Nat → Int) (c : CL) (s : List Int) : Option (List Int) := match c with
  | [] => some s
  | (k, v) :: r => if k = 110 then s_m F r (v :: s) else if k = 118 then s_m F r (F v.toNat :: s) else match s with
    | b :: a :: s' => if k = 47 ∧ b = 0 then none else s_m F r (v_op k a b :: s')
    | _ => none
def d_z (c : CL) (p : Nat) : Prop := match c with
  | [] => True
  | (k, _) :: r => if k = 110 ∨ k = 118 then p < 16 ∧ d_z r (p + 1) else 2 ≤ p ∧ d_z r (p - 1)
def XW (D : Nat) (c : CL) : Prop := ∀ p r, p + D ≤ 16 → d_z r (p + 1) → d_z (c ++ r) p
def XWL (D : Nat) (c : CL) : Prop := ∀ p r, p + D ≤ 16 → d_z r (p + 1) → d_z (c ++ r) (p + 1)
def XS (c : CL) : Prop := ∀ F, ∃ o : Option Int, ∀ r s, s_m F (c ++ r) s = o.bind fun v => s_m F r (v :: s)
def XSL (c : CL) : Prop := ∀ F v, ∃ o : Option Int, ∀ r s, s_m F (c ++ r) (v :: s) = o.bind fun w => s_m F r (w :: s)
def XO (c : CL) : Prop := ∀ x, x ∈ c → (x.1 = 110 ∧ 0 ≤ x.2 ∧ x.2 < 10000) ∨ (x.1 = 118 ∧ 0 ≤ x.2 ∧ x.2 < 9) ∨ ((x.1 = 43 ∨ x.1 = 45 ∨ x.1 = 42 ∨ x.1 = 47) ∧ x.2 = 0)
def KD (k : Int) : Prop := k = 40 ∨ k = 41 ∨ k = 42 ∨ k = 43 ∨ k = 45 ∨ k = 47 ∨ k = 59 ∨ k = 60 ∨ k = 61 ∨ (256 ≤ k ∧ k < 284)
def KB (K V : Nat → Int) : Prop := ∀ j, 40 ≤ K j ∧ K j < 284 ∧ (K j = 259 → 0 ≤ V j ∧ V j < 10000) ∧ KD (K j)
def LK (K : Nat → Int) (a b : Nat) : Prop := ∀ i, a ≤ i → i < b → K i ≠ 256 ∧ K i ≠ 257
theorem LK.trans {K : Nat → Int} {a b c : Nat} (h : LK K a b) (h' : LK K b c) : LK K a c := fun i x y => by
  by_cases hb : i < b
  · exact h i x hb
  · exact h' i (by omega) y
theorem LK.one {K : Nat → Int} {a : Nat} (h : K a ≠ 256 ∧ K a ≠ 257) : LK K a (a + 1) := fun i x y => by
  obtain rfl : i = a := by omega
  exact h
theorem LK.nil {K : Nat → Int} {a : Nat} : LK K a a := fun i x y => by omega
def SP (K : Nat → Int) (D : Nat) (N : Int → Prop) (g : Nat → ER) : Prop := ∀ j, j ≤ 400 → j ≤ (g j).2.1 ∧ (g j).2.1 ≤ 400 ∧ LK K j (g j).2.1 ∧ ((g j).1 = 0 ∨ (g j).1 = 1 ∨ (g j).1 = 2) ∧ ((g j).1 = 0 → j < (g j).2.1 ∧ j + (g j).2.2.length ≤ (g j).2.1 ∧ XW D (g j).2.2 ∧ XS (g j).2.2 ∧ XO (g j).2.2 ∧ N (K (g j).2.1))
theorem XO.nil : XO [] := fun x hx => absurd hx (List.not_mem_nil)
theorem XO.app {c e : CL} (h : XO c) (h' : XO e) : XO (c ++ e) := fun x hx => by
  rcases List.mem_append.1 hx with y | y
  · exact h x y
  · exact h' x y
theorem XO.op {c : CL} {k : Int} (hk : k = 43 ∨ k = 45 ∨ k = 42 ∨ k = 47) (h : XO c) : XO ((k, 0) :: c) := fun x hx => by
  rcases List.mem_cons.1 hx with y | y
  · rw [y]; exact .inr (.inr ⟨hk, rfl⟩)
  · exact h x y
theorem s_m_op {F : Nat → Int} {k b a : Int} {r : CL} {s : List Int} (hk : k = 43 ∨ k = 45 ∨ k = 42 ∨ k = 47) (z : Int) : s_m F ((k, z) :: r) (b :: a :: s) = if k = 47 ∧ b = 0 then none else s_m F r (v_op k a b :: s) := by
  rw [s_m, if_neg (by omega), if_neg (by omega)]
theorem d_z_op {k z : Int} {r : CL} {p : Nat} (hk : k = 43 ∨ k = 45 ∨ k = 42 ∨ k = 47) : d_z ((k, z) :: r) p = (2 ≤ p ∧ d_z r (p - 1)) := by
  rw [d_z, if_neg (by omega)]
def SPL (K : Nat → Int) (D : Nat) (N : Int → Prop) (j : Nat) (x : ER) : Prop := j ≤ x.2.1 ∧ x.2.1 ≤ 400 ∧ LK K j x.2.1 ∧ (x.1 = 0 ∨ x.1 = 1 ∨ x.1 = 2) ∧ (x.1 = 0 → j + x.2.2.length ≤ x.2.1 ∧ XWL D x.2.2 ∧ XSL x.2.2 ∧ XO x.2.2 ∧ N (K x.2.1))
theorem e_L_sp {K : Nat → Int} {D : Nat} {N : Int → Prop} {g : Nat → ER} {s1 s2 : Int} (hg : SP K D N g) (h1 : s1 = 43 ∨ s1 = 45 ∨ s1 = 42 ∨ s1 = 47) (h2 : s2 = 43 ∨ s2 = 45 ∨ s2 = 42 ∨ s2 = 47) : ∀ (f j : Nat), j ≤ 400 → 400 < j + f → N (K j) → SPL K (D + 1) (fun k => N k ∧ k ≠ s1 ∧ k ≠ s2) j (e_L K g s1 s2 f j) := by
  intro f
  induction f with
  | zero => intro j a b; omega
  | succ f ih =>
    intro j hj hf hN
    rw [e_L]
    by_cases hk : K j = s1 ∨ K j = s2
    · have hk4 : K j = 43 ∨ K j = 45 ∨ K j = 42 ∨ K j = 47 := by omega
      have hone : LK K j (j + 1) := LK.one (by omega)
      rw [if_pos hk]
      by_cases h4 : 400 ≤ j
      · rw [if_pos h4]
        exact ⟨Nat.le_refl _, hj, LK.nil, .inr (.inr rfl), fun h => absurd h (by simp)⟩
      · rw [if_neg h4]
        obtain ⟨a1, a2, a3, a4, a5⟩ := hg (j + 1) (by omega)
        by_cases h0 : (g (j + 1)).1 = 0
        · obtain ⟨b1, b2, b3, b4, b5, b6⟩ := a5 h0
          rw [if_pos h0]
          obtain ⟨c1, c2, c3, c4, c5⟩ := ih (g (j + 1)).2.1 a2 (by omega) b6
          refine ⟨?_, c2, hone.trans (a3.trans c3), c4, fun h => ?_⟩
          · show j ≤ (e_L K g s1 s2 f (g (j + 1)).2.1).2.1
            omega
          · obtain ⟨d1, d2, d3, d4, d5⟩ := c5 h
            refine ⟨?_, ?_, ?_, ?_, d5⟩
            · show j + ((g (j + 1)).2.2 ++ (K j, 0) :: (e_L K g s1 s2 f (g (j + 1)).2.1).2.2).length ≤ (e_L K g s1 s2 f (g (j + 1)).2.1).2.1
              rw [List.length_append, List.length_cons]; omega
            · intro p r hp hr
              show d_z (((g (j + 1)).2.2 ++ (K j, 0) :: (e_L K g s1 s2 f (g (j + 1)).2.1).2.2) ++ r) (p + 1)
              rw [List.append_assoc, List.cons_append]
              refine b3 (p + 1) _ (by omega) ?_
              rw [d_z_op hk4]
              exact ⟨by omega, d2 p r hp hr⟩
            · intro F v
              obtain ⟨o, ho⟩ := b4 F
              show ∃ o : Option Int, ∀ r s, s_m F (((g (j + 1)).2.2 ++ (K j, 0) :: (e_L K g s1 s2 f (g (j + 1)).2.1).2.2) ++ r) (v :: s) = o.bind fun w => s_m F r (w :: s)
              cases o with
              | none =>
                refine ⟨none, fun r s => ?_⟩
                rw [List.append_assoc, ho]; rfl
              | some w =>
                by_cases hz : K j = 47 ∧ w = 0
                · refine ⟨none, fun r s => ?_⟩
                  rw [List.append_assoc, ho, Option.bind_some, List.cons_append, s_m_op hk4, if_pos hz]; rfl
                · obtain ⟨o2, ho2⟩ := d3 F (v_op (K j) v w)
                  refine ⟨o2, fun r s => ?_⟩
                  rw [List.append_assoc, ho, Option.bind_some, List.cons_append, s_m_op hk4, if_neg hz]
                  exact ho2 r s
            · exact b5.app (XO.op hk4 d4)
        · rw [if_neg h0]
          exact ⟨show j ≤ (g (j + 1)).2.1 by omega, a2, hone.trans a3, a4, fun h => absurd h h0⟩
    · rw [if_neg hk]
      refine ⟨Nat.le_refl _, hj, LK.nil, .inl rfl, fun _ => ⟨Nat.le_refl _, fun p r _ h => h, fun F v => ⟨some v, fun r s => rfl⟩, XO.nil, hN, fun e => hk (.inl e), fun e => hk (.inr e)⟩⟩
theorem e_G_sp {K : Nat → Int} {D : Nat} {N : Int → Prop} {g : Nat → ER} {s1 s2 : Int} (hg : SP K D N g) (h1 : s1 = 43 ∨ s1 = 45 ∨ s1 = 42 ∨ s1 = 47) (h2 : s2 = 43 ∨ s2 = 45 ∨ s2 = 42 ∨ s2 = 47) : SP K (D + 1) (fun k => N k ∧ k ≠ s1 ∧ k ≠ s2) (e_G K g s1 s2) := by
  intro j hj
  obtain ⟨a1, a2, a3, a4, a5⟩ := hg j hj
  unfold e_G
  by_cases h0 : (g j).1 = 0
  · rw [if_pos h0]
    obtain ⟨b1, b2, b3, b4, b5, b6⟩ := a5 h0
    obtain ⟨c1, c2, c3, c4, c5⟩ := e_L_sp hg h1 h2 401 (g j).2.1 a2 (by omega) b6
    refine ⟨show j ≤ (e_L K g s1 s2 401 (g j).2.1).2.1 by omega, c2, a3.trans c3, c4, fun h => ?_⟩
    obtain ⟨d1, d2, d3, d4, d5⟩ := c5 h
    refine ⟨show j < (e_L K g s1 s2 401 (g j).2.1).2.1 by omega, ?_, ?_, ?_, b5.app d4, d5⟩
    · show j + ((g j).2.2 ++ (e_L K g s1 s2 401 (g j).2.1).2.2).length ≤ (e_L K g s1 s2 401 (g j).2.1).2.1
      rw [List.length_append]; omega
    · intro p r hp hr
      show d_z (((g j).2.2 ++ (e_L K g s1 s2 401 (g j).2.1).2.2) ++ r) p
      rw [List.append_assoc]
      exact b3 p _ (by omega) (d2 p r hp hr)
    · intro F
      obtain ⟨o, ho⟩ := b4 F
      show ∃ o : Option Int, ∀ r s, s_m F (((g j).2.2 ++ (e_L K g s1 s2 401 (g j).2.1).2.2) ++ r) s = o.bind fun w => s_m F r (w :: s)
      cases o with
      | none => exact ⟨none, fun r s => by rw [List.append_assoc, ho]; rfl⟩
      | some w =>
        obtain ⟨o2, ho2⟩ := d3 F w
        exact ⟨o2, fun r s => by rw [List.append_assoc, ho, Option.bind_some]; exact ho2 r s⟩
  · rw [if_neg h0]
    exact ⟨a1, a2, a3, a4, fun h => absurd h h0⟩
def N_s (k : Int) : Prop := ((True ∧ k ≠ 42 ∧ k ≠ 47) ∧ k ≠ 43 ∧ k ≠ 45)
theorem e_S_sp {K : Nat → Int} {D : Nat} {g : Nat → ER} (hg : SP K D (fun _ => True) g) : SP K (D + 2) N_s (e_S K g) := e_G_sp (e_G_sp hg (by omega) (by omega)) (by omega) (by omega)
theorem XW.mono {D D' : Nat} {c : CL} (h : XW D c) (hd : D ≤ D') : XW D' c := fun p r hp hr => h p r (by omega) hr
theorem e_A_sp {K V : Nat → Int} (hB : KB K V) {D : Nat} (hD : 1 ≤ D) (j : Nat) (hj : j ≤ 400) : j ≤ (e_A K V j).2.1 ∧ (e_A K V j).2.1 ≤ 400 ∧ LK K j (e_A K V j).2.1 ∧ ((e_A K V j).1 = 0 ∨ (e_A K V j).1 = 1 ∨ (e_A K V j).1 = 2) ∧ ((e_A K V j).1 = 0 → j < (e_A K V j).2.1 ∧ j + (e_A K V j).2.2.length ≤ (e_A K V j).2.1 ∧ XW D (e_A K V j).2.2 ∧ XS (e_A K V j).2.2 ∧ XO (e_A K V j).2.2 ∧ True) := by
  obtain ⟨k1, k2, k3, _⟩ := hB j
  unfold e_A
  by_cases h1 : K j = 259
  · rw [if_pos h1]
    by_cases h4 : 400 ≤ j
    · rw [if_pos h4]; exact ⟨Nat.le_refl _, hj, LK.nil, .inr (.inr rfl), fun h => absurd h (by simp)⟩
    · rw [if_neg h4]
      refine ⟨Nat.le_succ _, by show j + 1 ≤ 400; omega, LK.one (by omega), .inl rfl, fun _ => ⟨Nat.lt_succ_self _, Nat.le_refl _, ?_, ?_, ?_, trivial⟩⟩
      · intro p r hp hr
        show d_z ((110, V j) :: r) p
        rw [d_z, if_pos (.inl rfl)]; exact ⟨by omega, hr⟩
      · intro F; exact ⟨some (V j), fun r s => rfl⟩
      · intro x hx
        rw [List.mem_singleton] at hx
        rw [hx]; exact .inl ⟨rfl, k3 h1⟩
  · rw [if_neg h1]
    by_cases h2 : 275 ≤ K j
    · rw [if_pos h2]
      by_cases h4 : 400 ≤ j
      · rw [if_pos h4]; exact ⟨Nat.le_refl _, hj, LK.nil, .inr (.inr rfl), fun h => absurd h (by simp)⟩
      · rw [if_neg h4]
        refine ⟨Nat.le_succ _, by show j + 1 ≤ 400; omega, LK.one (by omega), .inl rfl, fun _ => ⟨Nat.lt_succ_self _, Nat.le_refl _, ?_, ?_, ?_, trivial⟩⟩
        · intro p r hp hr
          show d_z ((118, K j - 275) :: r) p
          rw [d_z, if_pos (.inr rfl)]; exact ⟨by omega, hr⟩
        · intro F; exact ⟨some (F (K j - 275).toNat), fun r s => rfl⟩
        · intro x hx
          rw [List.mem_singleton] at hx
          rw [hx]; exact .inr (.inl ⟨rfl, by show 0 ≤ K j - 275; omega, by show K j - 275 < 9; omega⟩)
    · rw [if_neg h2]
      exact ⟨Nat.le_refl _, hj, LK.nil, .inr (.inl rfl), fun h => absurd h (by simp)⟩
theorem e_U_0a {K V : Nat → Int} {j : Nat} (h : K j = 40) : e_U K V 0 j = (2, j, []) := if_pos h
theorem e_U_sa {K V : Nat → Int} {b j : Nat} (h : K j = 40) : e_U K V (b + 1) j = e_O K (e_U K V b) j := if_pos h
theorem e_U_n {K V : Nat → Int} {b j : Nat} (h : ¬ K j = 40) : e_U K V b j = e_A K V j := by
  cases b with
  | zero => exact if_neg h
  | succ b => exact if_neg h
theorem e_U_sp {K V : Nat → Int} (hB : KB K V) : ∀ b, SP K (2 * b + 1) (fun _ => True) (e_U K V b) := by
  intro b
  induction b with
  | zero =>
    intro j hj
    by_cases h : K j = 40
    · rw [e_U_0a h]
      exact ⟨Nat.le_refl _, hj, LK.nil, .inr (.inr rfl), fun h => absurd h (by simp)⟩
    · rw [e_U_n h]
      exact e_A_sp hB (by omega) j hj
  | succ b ih =>
    intro j hj
    by_cases h : K j = 40
    · rw [e_U_sa h]
      unfold e_O
      by_cases h4 : 400 ≤ j
      · rw [if_pos h4]; exact ⟨Nat.le_refl _, hj, LK.nil, .inr (.inr rfl), fun h => absurd h (by simp)⟩
      · rw [if_neg h4]
        have hone : LK K j (j + 1) := LK.one (by omega)
        obtain ⟨a1, a2, a3, a4, a5⟩ := e_S_sp ih (j + 1) (by omega)
        by_cases h0 : (e_S K (e_U K V b) (j + 1)).1 = 0
        · rw [if_pos h0]
          obtain ⟨b1, b2, b3, b4, b5, b6⟩ := a5 h0
          by_cases hc : K (e_S K (e_U K V b) (j + 1)).2.1 = 41
          · rw [if_pos hc]
            by_cases h5 : 400 ≤ (e_S K (e_U K V b) (j + 1)).2.1
            · rw [if_pos h5]; exact ⟨by show j ≤ (e_S K (e_U K V b) (j + 1)).2.1; omega, a2, hone.trans a3, .inr (.inr rfl), fun h => absurd h (by simp)⟩
            · rw [if_neg h5]
              exact ⟨by show j ≤ (e_S K (e_U K V b) (j + 1)).2.1 + 1; omega, by show (e_S K (e_U K V b) (j + 1)).2.1 + 1 ≤ 400; omega, hone.trans (a3.trans (LK.one (by omega))), .inl rfl, fun _ => ⟨by show j < (e_S K (e_U K V b) (j + 1)).2.1 + 1; omega, by show j + (e_S K (e_U K V b) (j + 1)).2.2.length ≤ (e_S K (e_U K V b) (j + 1)).2.1 + 1; omega, b3.mono (by omega), b4, b5, trivial⟩⟩
          · rw [if_neg hc]; exact ⟨by show j ≤ (e_S K (e_U K V b) (j + 1)).2.1; omega, a2, hone.trans a3, .inr (.inl rfl), fun h => absurd h (by simp)⟩
        · rw [if_neg h0]
          exact ⟨by show j ≤ (e_S K (e_U K V b) (j + 1)).2.1; omega, a2, hone.trans a3, a4, fun h => absurd h h0⟩
    · rw [e_U_n h]
      exact e_A_sp hB (by omega) j hj
