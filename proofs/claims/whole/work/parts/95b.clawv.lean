/-! what a law tells: the class, by branches -/
/-- what a term is worth -/
noncomputable def e_v (F : Nat → Int) (c : CL) : Option Int := (s_m F c []).bind List.head?
theorem e_v_s {F : Nat → Int} {c : CL} (h : XS c) (s : List Int) : s_m F c s = (e_v F c).bind fun v => some (v :: s) := by
  obtain ⟨o, ho⟩ := h F
  have h1 := ho [] s
  have h2 := ho [] []
  rw [List.append_nil] at h1 h2
  unfold e_v
  rw [h1, h2]
  cases o with
  | none => rfl
  | some v => rfl
def XG (c : CL) : Prop := XW 15 c ∧ XS c ∧ XO c
theorem c_ev {u d : Nat} (hd : 1 ≤ d) (t : Nat) (a1 : Int) {sz : Nat} (hsz : sz ≤ 400) {c : CL} (hG : XG c) (s : List Int) (i n : Nat) (Z : XZ) (o5 o6 o7 o8 : Option XV) (hA : CA Z u i c) (hS : SWc Z 19 u s) (hs : s.length ≤ 1) (h15 : Z 15 u 1 = (sz : Int)) (hi : i + c.length ≤ sz) (hn : n ≤ i) : ((∃ v, e_v (q_va Z 20 u) c = some v ∧ ∃ (Z' : XZ) (n' : Nat) (p5 p6 p7 p8 : Option XV), x_EX d 12 12 [some (.inr (.inr (some (15, u)))), some (.inl a1), some (.inl ((s.length : Int))), some (.inl ((i : Int))), some (.inl ((n : Int))), o5, o6, o7, o8] [] (x_S Z t) = x_EX d 12 12 [some (.inr (.inr (some (15, u)))), some (.inl a1), some (.inl (((s.length + 1 : Nat) : Int))), some (.inl (((i + c.length : Nat) : Int))), some (.inl ((n' : Int))), p5, p6, p7, p8] [] (x_S Z' t) ∧ n' ≤ i + c.length ∧ SWc Z' 19 u (v :: s) ∧ K19 u Z Z') ∨ (e_v (q_va Z 20 u) c = none ∧ ∃ Z' : XZ, x_EX d 12 12 [some (.inr (.inr (some (15, u)))), some (.inl a1), some (.inl ((s.length : Int))), some (.inl ((i : Int))), some (.inl ((n : Int))), o5, o6, o7, o8] [] (x_S Z t) = some (0, x_S Z' t) ∧ K19 u Z Z')) := by
  obtain ⟨g1, g2, g3⟩ := hG
  have hz : d_z c s.length := by
    have := g1 s.length [] (by omega) trivial
    rw [List.append_nil] at this; exact this
  have he := e_v_s g2 (F := q_va Z 20 u) s
  rcases c_run hd t a1 hsz c s i n Z o5 o6 o7 o8 g3 hA hS (by omega) hz h15 hi hn with ⟨s', a, b, Z', n', q5, q6, q7, q8, e1, e2, e3, e4⟩ | ⟨a, Z', e1, e2⟩
  · rw [he] at a
    cases hv : e_v (q_va Z 20 u) c with
    | none => rw [hv] at a; exact absurd a (by simp)
    | some v =>
      rw [hv, Option.bind_some, Option.some.injEq] at a
      subst a
      exact .inl ⟨v, rfl, Z', n', q5, q6, q7, q8, e1, e2, e3, e4⟩
  · rw [he] at a
    cases hv : e_v (q_va Z 20 u) c with
    | none => exact .inr ⟨rfl, Z', e1, e2⟩
    | some v => rw [hv, Option.bind_some] at a; exact absurd a (by simp)
abbrev BL : Type := List (CL × CL × CL)
noncomputable def l_v (F : Nat → Int) (bs : BL) (fin : CL) : Int := match bs with
  | [] => (e_v F fin).getD 0
  | (c1, c2, c3) :: r => match e_v F c1 with
    | none => 0
    | some x => match e_v F c2 with
      | none => 0
      | some y => if x < y then (e_v F c3).getD 0 else l_v F r fin
def GL (bs : BL) (fin : CL) : Prop := XG fin ∧ ∀ b, b ∈ bs → XG b.1 ∧ XG b.2.1 ∧ XG b.2.2
def CLw (Z : XZ) (u sz i : Nat) (bs : BL) (fin : CL) : Prop := match bs with
  | [] => CA Z u i fin ∧ Z 17 u (i + fin.length) = 59 ∧ i + fin.length + 1 ≤ sz
  | (c1, c2, c3) :: r => CA Z u i c1 ∧ CA Z u (i + c1.length) c2 ∧ Z 17 u (i + c1.length + c2.length) = 60 ∧ Z 18 u (i + c1.length + c2.length) = ((i + c1.length + c2.length + 1 + c3.length + 1 : Nat) : Int) ∧ CA Z u (i + c1.length + c2.length + 1) c3 ∧ Z 17 u (i + c1.length + c2.length + 1 + c3.length) = 59 ∧ CLw Z u sz (i + c1.length + c2.length + 1 + c3.length + 1) r fin
theorem CLw.le {Z : XZ} {u sz : Nat} {fin : CL} : ∀ {bs : BL} {i : Nat}, CLw Z u sz i bs fin → i < sz := by
  intro bs
  induction bs with
  | nil => intro i h; have := h.2.2; omega
  | cons b r ih =>
    intro i h
    obtain ⟨c1, c2, c3⟩ := b
    have := ih h.2.2.2.2.2.2
    omega
theorem CLw.congr {Z Z' : XZ} {u sz : Nat} {fin : CL} : ∀ {bs : BL} {i : Nat}, CLw Z u sz i bs fin → (∀ j, i ≤ j → j < sz → Z' 17 u j = Z 17 u j ∧ Z' 18 u j = Z 18 u j) → CLw Z' u sz i bs fin := by
  intro bs
  induction bs with
  | nil =>
    intro i h hk
    obtain ⟨h1, h2, h3⟩ := h
    exact ⟨h1.congr (fun j a b => hk j a (by omega)), by rw [(hk _ (by omega) (by omega)).1]; exact h2, h3⟩
  | cons b r ih =>
    intro i h hk
    obtain ⟨c1, c2, c3⟩ := b
    obtain ⟨h1, h2, h3, h4, h5, h6, h7⟩ := h
    have hle := CLw.le h7
    exact ⟨h1.congr (fun j a b => hk j a (by omega)), h2.congr (fun j a b => hk j (by omega) (by omega)), by rw [(hk _ (by omega) (by omega)).1]; exact h3, by rw [(hk _ (by omega) (by omega)).2]; exact h4, h5.congr (fun j a b => hk j (by omega) (by omega)), by rw [(hk _ (by omega) (by omega)).1]; exact h6, ih h7 (fun j a b => hk j (by omega) b)⟩
theorem CLw.size {Z : XZ} {u sz sz' : Nat} {fin : CL} (hs : sz ≤ sz') : ∀ {bs : BL} {i : Nat}, CLw Z u sz i bs fin → CLw Z u sz' i bs fin := by
  intro bs
  induction bs with
  | nil => intro i h; exact ⟨h.1, h.2.1, by have := h.2.2; omega⟩
  | cons b r ih =>
    intro i h
    obtain ⟨c1, c2, c3⟩ := b
    exact ⟨h.1, h.2.1, h.2.2.1, h.2.2.2.1, h.2.2.2.2.1, h.2.2.2.2.2.1, ih h.2.2.2.2.2.2⟩
/-- at the end of a term -/
theorem c_ret {u d : Nat} (t : Nat) (a1 : Int) {sz : Nat} (hsz : sz ≤ 400) {v : Int} (i n : Nat) (Z : XZ) (o5 o6 o7 o8 : Option XV) (h17 : Z 17 u i = 59) (hS : SWc Z 19 u [v]) (h15 : Z 15 u 1 = (sz : Int)) (hi : i < sz) (hn : n ≤ i) : ∃ r : Int, x_EX d 12 12 [some (.inr (.inr (some (15, u)))), some (.inl a1), some (.inl 1), some (.inl ((i : Int))), some (.inl ((n : Int))), o5, o6, o7, o8] [] (x_S Z t) = some (r, x_S Z t) ∧ cn r = v := by
  refine ⟨Z 19 u 0, ?_, hS.1⟩
  rw [B12_12, cn_nt (z := (n : Int)) rfl (by omega), if_pos (by omega), cn_nt (z := (i : Int)) rfl (by omega), if_neg (by omega), h15, cn_nt (z := (sz : Int)) rfl (by omega), if_pos (by omega), if_pos (by omega), Int.toNat_natCast, h17, if_neg (by decide), if_neg (by decide), if_pos (by decide), if_pos (by decide), if_pos (by decide), B12_132]
  rfl
theorem c_law {u d : Nat} (hd : 1 ≤ d) (t : Nat) (a1 : Int) {sz : Nat} (hsz : sz ≤ 400) {fin : CL} : ∀ (bs : BL) (i n : Nat) (Z : XZ) (o5 o6 o7 o8 : Option XV), GL bs fin → CLw Z u sz i bs fin → Z 15 u 1 = (sz : Int) → n ≤ i → ∃ (r : Int) (Z' : XZ), x_EX d 12 12 [some (.inr (.inr (some (15, u)))), some (.inl a1), some (.inl 0), some (.inl ((i : Int))), some (.inl ((n : Int))), o5, o6, o7, o8] [] (x_S Z t) = some (r, x_S Z' t) ∧ K19 u Z Z' ∧ cn r = l_v (q_va Z 20 u) bs fin := by
  have term : ∀ (c : CL), XG c → ∀ (i n : Nat) (Z : XZ) (o5 o6 o7 o8 : Option XV), CA Z u i c → Z 17 u (i + c.length) = 59 → i + c.length + 1 ≤ sz → Z 15 u 1 = (sz : Int) → n ≤ i → ∃ (r : Int) (Z' : XZ), x_EX d 12 12 [some (.inr (.inr (some (15, u)))), some (.inl a1), some (.inl 0), some (.inl ((i : Int))), some (.inl ((n : Int))), o5, o6, o7, o8] [] (x_S Z t) = some (r, x_S Z' t) ∧ K19 u Z Z' ∧ cn r = (e_v (q_va Z 20 u) c).getD 0 := by
    intro c hG i n Z o5 o6 o7 o8 hA h17 hi h15 hn
    rcases c_ev hd t a1 hsz hG [] i n Z o5 o6 o7 o8 hA trivial (by simp) h15 (by omega) hn with ⟨v, a, Z', n', q5, q6, q7, q8, e1, e2, e3, e4⟩ | ⟨a, Z', e1, e2⟩
    · obtain ⟨r, f1, f2⟩ := c_ret (d := d) t a1 hsz (i + c.length) n' Z' q5 q6 q7 q8 (by rw [e4 _ _ _ (by omega)]; exact h17) e3 (by rw [e4 _ _ _ (by omega)]; exact h15) (by omega) e2
      exact ⟨r, Z', e1.trans f1, e4, by rw [a]; exact f2⟩
    · exact ⟨0, Z', e1, e2, by rw [a]; exact cn_0⟩
  intro bs
  induction bs with
  | nil =>
    intro i n Z o5 o6 o7 o8 hG hL h15 hn
    exact term fin hG.1 i n Z o5 o6 o7 o8 hL.1 hL.2.1 hL.2.2 h15 hn
  | cons b r ih =>
    intro i n Z o5 o6 o7 o8 hG hL h15 hn
    obtain ⟨c1, c2, c3⟩ := b
    obtain ⟨h1, h2, h3, h4, h5, h6, h7⟩ := hL
    have x1 : XG c1 := (hG.2 (c1, c2, c3) (List.mem_cons_self ..)).1
    have x2 : XG c2 := (hG.2 (c1, c2, c3) (List.mem_cons_self ..)).2.1
    have x3 : XG c3 := (hG.2 (c1, c2, c3) (List.mem_cons_self ..)).2.2
    have hle := CLw.le h7
    rw [l_v]
    rcases c_ev hd t a1 hsz x1 [] i n Z o5 o6 o7 o8 h1 trivial (by simp) h15 (by omega) hn with ⟨v, a, Z1, n1, q5, q6, q7, q8, e1, e2, e3, e4⟩ | ⟨a, Z1, e1, e2⟩
    · have hq1 : q_va Z1 20 u = q_va Z 20 u := by unfold q_va; funext j; rw [e4 _ _ _ (by omega)]
      have h15' : Z1 15 u 1 = (sz : Int) := by rw [e4 _ _ _ (by omega)]; exact h15
      rcases c_ev hd t a1 hsz x2 [v] (i + c1.length) n1 Z1 q5 q6 q7 q8 (h2.congr (fun j _ _ => ⟨e4 _ _ _ (by omega), e4 _ _ _ (by omega)⟩)) e3 (by simp) h15' (by omega) e2 with ⟨w, a', Z2, n2, r5, r6, r7, r8, f1, f2, f3, f4⟩ | ⟨a', Z2, f1, f2⟩
      · rw [hq1] at a'
        have k2 : K19 u Z Z2 := e4.trans f4
        have h15'' : Z2 15 u 1 = (sz : Int) := by rw [k2 _ _ _ (by omega)]; exact h15
        have hq2 : q_va Z2 20 u = q_va Z 20 u := by unfold q_va; funext j; rw [k2 _ _ _ (by omega)]
        have road : x_EX d 12 12 [some (.inr (.inr (some (15, u)))), some (.inl a1), some (.inl 0), some (.inl ((i : Int))), some (.inl ((n : Int))), o5, o6, o7, o8] [] (x_S Z t) = x_EX d 12 12 [some (.inr (.inr (some (15, u)))), some (.inl a1), some (.inl 2), some (.inl (((i + c1.length + c2.length : Nat) : Int))), some (.inl ((n2 : Int))), r5, r6, r7, r8] [] (x_S Z2 t) := e1.trans f1
        have hb2 : 0 ≤ ((i + c1.length + c2.length : Nat) : Int) ∧ ((i + c1.length + c2.length : Nat) : Int) < 400 := by omega
        have road2 : x_EX d 12 12 [some (.inr (.inr (some (15, u)))), some (.inl a1), some (.inl 2), some (.inl (((i + c1.length + c2.length : Nat) : Int))), some (.inl ((n2 : Int))), r5, r6, r7, r8] [] (x_S Z2 t) = x_EX d 12 174 [some (.inr (.inr (some (15, u)))), some (.inl a1), some (.inl 2), some (.inl (((i + c1.length + c2.length : Nat) : Int))), some (.inl ((n2 : Int))), some (.inl 60), some (.inl (((i + c1.length + c2.length : Nat) : Int) + 1)), some (.inl ((Z2 19 u 0))), some (.inl ((Z2 19 u 1)))] [] (x_S Z2 t) := by
          rw [B12_12, cn_nt (z := (n2 : Int)) rfl (by omega), if_pos (by omega), cn_nt (z := ((i + c1.length + c2.length : Nat) : Int)) rfl (by omega), if_neg (by omega), h15'', cn_nt (z := (sz : Int)) rfl (by omega), if_pos (by omega), if_pos hb2, Int.toNat_natCast, k2 _ _ _ (by omega), h3, if_neg (by decide), if_neg (by decide), if_neg (by decide), if_neg (by decide), if_pos (by decide), if_pos (by decide), if_neg (by decide)]
          rfl
        rw [a, a']
        show ∃ (rr : Int) (Z' : XZ), _ ∧ _ ∧ cn rr = if v < w then (e_v (q_va Z 20 u) c3).getD 0 else l_v (q_va Z 20 u) r fin
        rw [road, road2, B12_174, if_pos (by decide), show cn (Z2 19 u 1) = w from f3.1, show cn (Z2 19 u 0) = v from f3.2.1]
        by_cases hlt : v < w
        · rw [if_pos hlt, if_pos hlt, B12_222]
          obtain ⟨rr, Z3, g1, g2, g3⟩ := term c3 x3 (i + c1.length + c2.length + 1) (n2 + 1) Z2 (some (.inl 60)) (some (.inl (((i + c1.length + c2.length : Nat) : Int) + 1))) (some (.inl (Z2 19 u 0))) (some (.inl (Z2 19 u 1))) (h5.congr (fun j _ _ => ⟨k2 _ _ _ (by omega), k2 _ _ _ (by omega)⟩)) (by rw [k2 _ _ _ (by omega)]; exact h6) (by omega) h15'' (by omega)
          rw [hq2] at g3
          exact ⟨rr, Z3, g1, k2.trans g2, g3⟩
        · rw [if_neg hlt, if_neg hlt, cn_nt (z := ((i + c1.length + c2.length : Nat) : Int)) rfl (by omega), if_pos hb2, Int.toNat_natCast, k2 _ _ _ (by omega), h4, B12_222]
          obtain ⟨rr, Z3, g1, g2, g3⟩ := ih (i + c1.length + c2.length + 1 + c3.length + 1) (n2 + 1) Z2 (some (.inl 60)) (some (.inl (((i + c1.length + c2.length + 1 + c3.length + 1 : Nat) : Int)))) (some (.inl (Z2 19 u 0))) (some (.inl (Z2 19 u 1))) ⟨hG.1, fun b hb => hG.2 b (List.mem_cons_of_mem _ hb)⟩ (h7.congr (fun j _ _ => ⟨k2 _ _ _ (by omega), k2 _ _ _ (by omega)⟩)) h15'' (by omega)
          rw [hq2] at g3
          exact ⟨rr, Z3, g1, k2.trans g2, g3⟩
      · rw [hq1] at a'
        rw [a, a']
        exact ⟨0, Z2, e1.trans f1, e4.trans f2, cn_0⟩
    · rw [a]
      exact ⟨0, Z1, e1, e2, cn_0⟩
