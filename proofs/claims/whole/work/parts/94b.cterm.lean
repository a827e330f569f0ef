/-! terms: what the class reads -/
theorem ite2 {α : Type} {p q : Prop} [Decidable p] [Decidable q] {X Y : α} (h : p ∨ q) : (if p then X else if q then X else Y) = X := by
  by_cases hp : p
  · rw [if_pos hp]
  · rw [if_neg hp, if_pos (h.resolve_left hp)]
theorem ite2n {α : Type} {p q : Prop} [Decidable p] [Decidable q] {X X' Y : α} (h : ¬ (p ∨ q)) : (if p then X else if q then X' else Y) = Y := by
  rw [if_neg (fun e => h (.inl e)), if_neg (fun e => h (.inr e))]
theorem e_L_n {K : Nat → Int} {g : Nat → ER} {s1 s2 : Int} {f j : Nat} (h : ¬ (K j = s1 ∨ K j = s2)) : e_L K g s1 s2 (f + 1) j = (0, j, []) := if_neg h
theorem e_L_r {K : Nat → Int} {g : Nat → ER} {s1 s2 : Int} {f j : Nat} (h : K j = s1 ∨ K j = s2) (hj : 400 ≤ j) : e_L K g s1 s2 (f + 1) j = (2, j, []) := by rw [e_L, if_pos h, if_pos hj]
theorem e_L_b {K : Nat → Int} {g : Nat → ER} {s1 s2 : Int} {f j : Nat} (h : K j = s1 ∨ K j = s2) (hj : ¬ 400 ≤ j) (h0 : ¬ (g (j + 1)).1 = 0) : e_L K g s1 s2 (f + 1) j = ((g (j + 1)).1, (g (j + 1)).2.1, []) := by rw [e_L, if_pos h, if_neg hj, if_neg h0]
theorem e_L_y {K : Nat → Int} {g : Nat → ER} {s1 s2 : Int} {f j : Nat} (h : K j = s1 ∨ K j = s2) (hj : ¬ 400 ≤ j) (h0 : (g (j + 1)).1 = 0) : e_L K g s1 s2 (f + 1) j = ((e_L K g s1 s2 f (g (j + 1)).2.1).1, (e_L K g s1 s2 f (g (j + 1)).2.1).2.1, (g (j + 1)).2.2 ++ (K j, 0) :: (e_L K g s1 s2 f (g (j + 1)).2.1).2.2) := by rw [e_L, if_pos h, if_neg hj, if_pos h0]
theorem e_G_y {K : Nat → Int} {g : Nat → ER} {s1 s2 : Int} {j : Nat} (h0 : (g j).1 = 0) : e_G K g s1 s2 j = ((e_L K g s1 s2 401 (g j).2.1).1, (e_L K g s1 s2 401 (g j).2.1).2.1, (g j).2.2 ++ (e_L K g s1 s2 401 (g j).2.1).2.2) := by rw [e_G, if_pos h0]
theorem e_G_b {K : Nat → Int} {g : Nat → ER} {s1 s2 : Int} {j : Nat} (h0 : ¬ (g j).1 = 0) : e_G K g s1 s2 j = ((g j).1, (g j).2.1, []) := by rw [e_G, if_neg h0]
theorem e_O_r {K : Nat → Int} {g : Nat → ER} {j : Nat} (hj : 400 ≤ j) : e_O K g j = (2, j, []) := if_pos hj
theorem e_O_b {K : Nat → Int} {g : Nat → ER} {j : Nat} (hj : ¬ 400 ≤ j) (h0 : ¬ (e_S K g (j + 1)).1 = 0) : e_O K g j = ((e_S K g (j + 1)).1, (e_S K g (j + 1)).2.1, []) := by rw [e_O, if_neg hj, if_neg h0]
theorem e_O_s {K : Nat → Int} {g : Nat → ER} {j : Nat} (hj : ¬ 400 ≤ j) (h0 : (e_S K g (j + 1)).1 = 0) (hc : ¬ K (e_S K g (j + 1)).2.1 = 41) : e_O K g j = (1, (e_S K g (j + 1)).2.1, []) := by rw [e_O, if_neg hj, if_pos h0, if_neg hc]
theorem e_O_q {K : Nat → Int} {g : Nat → ER} {j : Nat} (hj : ¬ 400 ≤ j) (h0 : (e_S K g (j + 1)).1 = 0) (hc : K (e_S K g (j + 1)).2.1 = 41) (h4 : 400 ≤ (e_S K g (j + 1)).2.1) : e_O K g j = (2, (e_S K g (j + 1)).2.1, []) := by rw [e_O, if_neg hj, if_pos h0, if_pos hc, if_pos h4]
theorem e_O_y {K : Nat → Int} {g : Nat → ER} {j : Nat} (hj : ¬ 400 ≤ j) (h0 : (e_S K g (j + 1)).1 = 0) (hc : K (e_S K g (j + 1)).2.1 = 41) (h4 : ¬ 400 ≤ (e_S K g (j + 1)).2.1) : e_O K g j = (0, (e_S K g (j + 1)).2.1 + 1, (e_S K g (j + 1)).2.2) := by rw [e_O, if_neg hj, if_pos h0, if_pos hc, if_neg h4]
theorem e_A_i {K V : Nat → Int} {j : Nat} (h : K j = 259) (hj : ¬ 400 ≤ j) : e_A K V j = (0, j + 1, [(110, V j)]) := by rw [e_A, if_pos h, if_neg hj]
theorem e_A_ir {K V : Nat → Int} {j : Nat} (h : K j = 259) (hj : 400 ≤ j) : e_A K V j = (2, j, []) := by rw [e_A, if_pos h, if_pos hj]
theorem e_A_v {K V : Nat → Int} {j : Nat} (h : ¬ K j = 259) (h' : 275 ≤ K j) (hj : ¬ 400 ≤ j) : e_A K V j = (0, j + 1, [(118, K j - 275)]) := by rw [e_A, if_neg h, if_pos h', if_neg hj]
theorem e_A_vr {K V : Nat → Int} {j : Nat} (h : ¬ K j = 259) (h' : 275 ≤ K j) (hj : 400 ≤ j) : e_A K V j = (2, j, []) := by rw [e_A, if_neg h, if_pos h', if_pos hj]
theorem e_A_n {K V : Nat → Int} {j : Nat} (h : ¬ K j = 259) (h' : ¬ 275 ≤ K j) : e_A K V j = (1, j, []) := by rw [e_A, if_neg h, if_neg h']
def TKc (Z : XZ) (K P V : Nat → Int) : Prop := ∀ j, j ≤ 400 → LK K 0 j → Z 4 0 j = K j ∧ Z 5 0 j = P j ∧ (258 ≤ K j → Z 6 0 j = V j)
theorem TKc.congr {Z Z' : XZ} {K P V : Nat → Int} (h : TKc Z K P V) (hk : ∀ g i, 4 ≤ g → g ≤ 6 → Z' g 0 i = Z g 0 i) : TKc Z' K P V := fun j hj hl => by
  rw [hk 4 j (by omega) (by omega), hk 5 j (by omega) (by omega), hk 6 j (by omega) (by omega)]; exact h j hj hl
def CX (Z : XZ) (K : Nat → Int) (u j : Nat) (cl : CL) : Prop := j ≤ 400 ∧ LK K 0 j ∧ Z 2 0 3 = (j : Int) ∧ Z 15 u 1 = (cl.length : Int) ∧ cl.length ≤ 400 ∧ ∀ i, i < cl.length → Z 17 u i = (cl.getD i (0, 0)).1 ∧ Z 18 u i = (cl.getD i (0, 0)).2
def KCr (u : Nat) (Z Z' : XZ) : Prop := ∀ g m i, ¬ (g = 2 ∧ (i = 3 ∨ i = 4)) → ¬ (m = u ∧ ((g = 15 ∧ i = 1) ∨ g = 17 ∨ g = 18)) → Z' g m i = Z g m i
theorem KCr.rfl' {u : Nat} {Z : XZ} : KCr u Z Z := fun _ _ _ _ _ => rfl
theorem KCr.trans {u : Nat} {Z Z' Z'' : XZ} (h : KCr u Z Z') (h' : KCr u Z' Z'') : KCr u Z Z'' := fun g m i a b => (h' g m i a b).trans (h g m i a b)
theorem KCr.tk {u : Nat} {Z Z' : XZ} {K P V : Nat → Int} (h : KCr u Z Z') (hT : TKc Z K P V) : TKc Z' K P V := hT.congr (fun g i a b => h g 0 i (by omega) (by omega))
theorem KCr.u23 {u : Nat} {Z : XZ} {v : Int} : KCr u Z (x_u Z 2 0 3 v) := fun g m i a b => x_u_ne (by omega)
theorem KCr.u24 {u : Nat} {Z : XZ} {v : Int} : KCr u Z (x_u Z 2 0 4 v) := fun g m i a b => x_u_ne (by omega)
theorem c_take {Z : XZ} {K P V : Nat → Int} {u j d : Nat} {cl : CL} (hB : KB K V) (hT : TKc Z K P V) (hX : CX Z K u j cl) (hd : 1 ≤ d) (t : Nat) (k : Int) (hk : 0 ≤ k ∧ k < 1000) : x_CALL d 22 [.inr (.inr (some (2, 0))), .inl k] (x_S Z t) = if K j = k then (if j < 400 then some (1, x_S (x_u Z 2 0 3 ((j : Int) + 1)) t) else some (0, x_S (x_u Z 2 0 4 2) t)) else some (0, x_S Z t) := by
  obtain ⟨x1, x2, x3, x4, x5, x6⟩ := hX
  obtain ⟨k1, k2, k3⟩ := hT j x1 x2
  have hb := hB j
  rw [C22 _ _ _ _ (by omega), x3, cn_nt (z := (j : Int)) rfl (by omega), if_pos (by omega), Int.toNat_natCast, k1, cn_id (z := K j) (by omega) (by omega), cn_id (z := k) (by omega) (by omega)]
  by_cases h1 : K j = k
  · rw [if_pos h1, if_pos h1]
    by_cases h2 : j < 400
    · rw [if_pos h2, if_pos (by omega)]
    · rw [if_neg h2, if_neg (by omega)]
  · rw [if_neg h1, if_neg h1]
theorem CX.adv {Z : XZ} {K : Nat → Int} {u j : Nat} {cl : CL} (hX : CX Z K u j cl) (hj : j < 400) (hk : K j ≠ 256 ∧ K j ≠ 257) : CX (x_u Z 2 0 3 ((j : Int) + 1)) K u (j + 1) cl := by
  obtain ⟨x1, x2, x3, x4, x5, x6⟩ := hX
  refine ⟨by omega, x2.trans (LK.one hk), by rw [x_u_eq]; omega, by rw [x_u_ne (by omega)]; exact x4, x5, fun i hi => ?_⟩
  rw [x_u_ne (by omega), x_u_ne (by omega)]; exact x6 i hi
theorem getD_app {c : CL} {e : CL} {i : Nat} : (c ++ e).getD i (0, 0) = if i < c.length then c.getD i (0, 0) else e.getD (i - c.length) (0, 0) := by
  by_cases h : i < c.length
  · rw [if_pos h, List.getD_eq_getElem?_getD, List.getD_eq_getElem?_getD, List.getElem?_append_left h]
  · rw [if_neg h, List.getD_eq_getElem?_getD, List.getD_eq_getElem?_getD, List.getElem?_append_right (by omega)]
theorem c_emit {Z : XZ} {K : Nat → Int} {u j d : Nat} {cl : CL} (hX : CX Z K u j cl) (hl : cl.length < 400) (hd : 1 ≤ d) (t : Nat) (a b : Int) : ∃ Z' : XZ, x_CALL d 7 [.inr (.inr (some (15, u))), .inl a, .inl b] (x_S Z t) = some (0, x_S Z' t) ∧ CX Z' K u j (cl ++ [(a, b)]) ∧ ∀ g m i, ¬ (m = u ∧ ((g = 15 ∧ i = 1) ∨ g = 17 ∨ g = 18)) → Z' g m i = Z g m i := by
  obtain ⟨x1, x2, x3, x4, x5, x6⟩ := hX
  rw [C7 _ _ _ _ _ _ (by omega), x4, cn_nt (z := (cl.length : Int)) rfl (by omega), if_pos (by omega), if_pos (by omega), if_pos (by omega), Int.toNat_natCast]
  refine ⟨_, rfl, ⟨x1, x2, ?_, ?_, ?_, fun i hi => ?_⟩, fun g m i h => ?_⟩
  · rw [x_u_ne (by omega), x_u_ne (by omega), x_u_ne (by omega)]; exact x3
  · rw [x_u_eq, List.length_append, List.length_singleton]; omega
  · rw [List.length_append, List.length_singleton]; omega
  · rw [List.length_append, List.length_singleton] at hi
    rw [getD_app]
    by_cases h : i < cl.length
    · rw [if_pos h, x_u_ne (by omega), x_u_ne (by omega), x_u_ne (by omega), x_u_ne (by omega), x_u_ne (by omega), x_u_ne (by omega)]; exact x6 i h
    · obtain rfl : i = cl.length := by omega
      rw [if_neg h, Nat.sub_self, x_u_ne (by omega), x_u_ne (by omega), x_u_eq, x_u_ne (by omega), x_u_eq]
      exact ⟨rfl, rfl⟩
  · rw [x_u_ne (by omega), x_u_ne (by omega), x_u_ne (by omega)]
def CSim (K P V : Nat → Int) (t mth : Nat) (a : Int) (dd : Nat) (g : Nat → ER) : Prop := ∀ (Z : XZ) (j : Nat) (cl : CL) (d : Nat), dd ≤ d → TKc Z K P V → CX Z K (1 - t) j cl → cl.length + 2 ≤ j → Z 2 0 4 = 1 → ∃ Z' : XZ, x_CALL d mth [.inr (.inr (some (2, 0))), .inl a] (x_S Z t) = some ((if (g j).1 = 0 then 1 else 0), x_S Z' t) ∧ KCr (1 - t) Z Z' ∧ ((g j).1 = 0 → CX Z' K (1 - t) (g j).2.1 (cl ++ (g j).2.2) ∧ Z' 2 0 4 = 1) ∧ ((g j).1 ≠ 0 → Z' 2 0 3 = ((g j).2.1 : Int) ∧ Z' 2 0 4 = ((g j).1 : Int))
theorem c_tprod {K P V : Nat → Int} {t dd D : Nat} {a : Int} {N : Int → Prop} {g : Nat → ER} (hB : KB K V) (hg : CSim K P V t 33 a dd g) (hs : SP K D N g) (_hN : ∀ k, N k) (hdd : 1 ≤ dd) : CSim K P V t 32 a (dd + 1) (e_G K g 42 47) := by
  intro Z j cl d hd hT hX hl h4
  have loop : ∀ (f : Nat) (Z : XZ) (j : Nat) (cl : CL) (o3 : Option XV), f ≤ 401 → TKc Z K P V → CX Z K (1 - t) j cl → cl.length + 2 ≤ j → Z 2 0 4 = 1 → ∃ Z' : XZ, x_EX (d - 1) 32 12 [some (.inr (.inr (some (2, 0)))), some (.inl a), some (.inl (((401 - f : Nat) : Int))), o3] [] (x_S Z t) = some ((if (e_L K g 42 47 f j).1 = 0 then 1 else 0), x_S Z' t) ∧ KCr (1 - t) Z Z' ∧ ((e_L K g 42 47 f j).1 = 0 → CX Z' K (1 - t) (e_L K g 42 47 f j).2.1 (cl ++ (e_L K g 42 47 f j).2.2) ∧ Z' 2 0 4 = 1) ∧ ((e_L K g 42 47 f j).1 ≠ 0 → Z' 2 0 3 = ((e_L K g 42 47 f j).2.1 : Int) ∧ Z' 2 0 4 = ((e_L K g 42 47 f j).1 : Int)) := by
    intro f
    induction f with
    | zero =>
      intro Z j cl o3 hf hT hX hl h4
      rw [B32_12, if_pos (by decide), e_L]
      exact ⟨Z, rfl, KCr.rfl', fun _ => ⟨by rw [List.append_nil]; exact hX, h4⟩, fun h => absurd rfl h⟩
    | succ f ih =>
      intro Z j cl o3 hf hT hX hl h4
      obtain ⟨x1, x2, x3, x4, x5, x6⟩ := hX
      have hX : CX Z K (1 - t) j cl := ⟨x1, x2, x3, x4, x5, x6⟩
      obtain ⟨k1, k2, k3⟩ := hT j x1 x2
      have hb := hB j
      rw [B32_12, cn_nt (z := ((401 - (f + 1) : Nat) : Int)) rfl (by omega), if_neg (by omega), x3, cn_nt (z := (j : Int)) rfl (by omega), if_pos (by omega), Int.toNat_natCast, k1, cn_id (z := K j) (by omega) (by omega)]
      by_cases hk : K j = 42 ∨ K j = 47
      · rw [ite2 hk, c_take hB hT hX (by omega) t (K j) (by omega), if_pos rfl]
        by_cases hj : j < 400
        · rw [if_pos hj, Option.bind_some, B32_52, if_neg cn_1n]
          have hX1 := hX.adv hj (by omega)
          obtain ⟨Z2, e1, e2, e3, e4⟩ := hg (x_u Z 2 0 3 ((j : Int) + 1)) (j + 1) cl (d - 1) (by omega) (KCr.u23.tk (u := 1 - t) hT) hX1 (by omega) (by rw [x_u_ne (by omega)]; exact h4)
          obtain ⟨p1, p2, p3, p4, p5⟩ := hs (j + 1) (by omega)
          have e2' : KCr (1 - t) Z Z2 := KCr.u23.trans e2
          rw [e1, Option.bind_some, B32_60]
          by_cases h0 : (g (j + 1)).1 = 0
          · obtain ⟨q1, q2, q3⟩ := p5 h0
            rw [e_L_y hk (by omega) h0, if_pos h0, if_neg cn_1n]
            have hlen : (cl ++ (g (j + 1)).2.2).length = cl.length + (g (j + 1)).2.2.length := List.length_append
            obtain ⟨Z3, f1, f2, f3⟩ := c_emit (d := d - 1) (e3 h0).1 (by omega) (by omega) t (K j) 0
            have k23 : KCr (1 - t) Z2 Z3 := fun g m i _ b => f3 g m i b
            rw [f1, Option.bind_some, B32_77, show ((401 - (f + 1) : Nat) : Int) + 1 = ((401 - f : Nat) : Int) by omega]
            obtain ⟨Z4, g1, g2, g3, g4⟩ := ih Z3 (g (j + 1)).2.1 _ (some (.inl (K j))) (by omega) (k23.tk (e2'.tk hT)) f2 (by rw [List.length_append, List.length_singleton]; omega) (by rw [f3 _ _ _ (by omega)]; exact (e3 h0).2)
            refine ⟨Z4, g1, e2'.trans (k23.trans g2), fun h => ⟨?_, (g3 h).2⟩, g4⟩
            have := (g3 h).1
            rw [List.append_assoc, List.append_assoc, List.singleton_append] at this
            exact this
          · rw [e_L_b hk (by omega) h0, if_neg h0, if_pos cn_0]
            exact ⟨Z2, rfl, e2', fun h => absurd h h0, e4⟩
        · rw [if_neg hj, Option.bind_some, B32_52, if_pos cn_0, e_L_r hk (by omega)]
          exact ⟨_, rfl, KCr.u24, fun h => absurd h (by simp), fun _ => ⟨by rw [x_u_ne (by omega)]; exact x3, x_u_eq⟩⟩
      · rw [ite2n hk, e_L_n hk]
        exact ⟨Z, rfl, KCr.rfl', fun _ => ⟨by rw [List.append_nil]; exact hX, h4⟩, fun h => absurd rfl h⟩
  obtain ⟨Z1, e1, e2, e3, e4⟩ := hg Z j cl (d - 1) (by omega) hT hX hl h4
  obtain ⟨p1, p2, p3, p4, p5⟩ := hs j hX.1
  rw [C32 _ _ _ _ (by omega), e1, Option.bind_some, B32_5]
  by_cases h0 : (g j).1 = 0
  · obtain ⟨q1, q2, q3⟩ := p5 h0
    rw [e_G_y h0, if_pos h0, if_neg cn_1n]
    have hlen : (cl ++ (g j).2.2).length = cl.length + (g j).2.2.length := List.length_append
    obtain ⟨Z4, g1, g2, g3, g4⟩ := loop 401 Z1 (g j).2.1 _ none (by omega) (e2.tk hT) (e3 h0).1 (by omega) (e3 h0).2
    refine ⟨Z4, g1, e2.trans g2, fun h => ⟨?_, (g3 h).2⟩, g4⟩
    have := (g3 h).1
    rw [List.append_assoc] at this
    exact this
  · rw [e_G_b h0, if_neg h0, if_pos cn_0]
    exact ⟨Z1, rfl, e2, fun h => absurd h h0, e4⟩
theorem c_tsum {K P V : Nat → Int} {t dd D : Nat} {a : Int} {N : Int → Prop} {g : Nat → ER} (hB : KB K V) (hg : CSim K P V t 32 a dd g) (hs : SP K D N g) (hdd : 1 ≤ dd) : CSim K P V t 31 a (dd + 1) (e_G K g 43 45) := by
  intro Z j cl d hd hT hX hl h4
  have loop : ∀ (f : Nat) (Z : XZ) (j : Nat) (cl : CL) (o3 : Option XV), f ≤ 401 → TKc Z K P V → CX Z K (1 - t) j cl → cl.length + 2 ≤ j → Z 2 0 4 = 1 → ∃ Z' : XZ, x_EX (d - 1) 31 12 [some (.inr (.inr (some (2, 0)))), some (.inl a), some (.inl (((401 - f : Nat) : Int))), o3] [] (x_S Z t) = some ((if (e_L K g 43 45 f j).1 = 0 then 1 else 0), x_S Z' t) ∧ KCr (1 - t) Z Z' ∧ ((e_L K g 43 45 f j).1 = 0 → CX Z' K (1 - t) (e_L K g 43 45 f j).2.1 (cl ++ (e_L K g 43 45 f j).2.2) ∧ Z' 2 0 4 = 1) ∧ ((e_L K g 43 45 f j).1 ≠ 0 → Z' 2 0 3 = ((e_L K g 43 45 f j).2.1 : Int) ∧ Z' 2 0 4 = ((e_L K g 43 45 f j).1 : Int)) := by
    intro f
    induction f with
    | zero =>
      intro Z j cl o3 hf hT hX hl h4
      rw [B31_12, if_pos (by decide), e_L]
      exact ⟨Z, rfl, KCr.rfl', fun _ => ⟨by rw [List.append_nil]; exact hX, h4⟩, fun h => absurd rfl h⟩
    | succ f ih =>
      intro Z j cl o3 hf hT hX hl h4
      obtain ⟨x1, x2, x3, x4, x5, x6⟩ := hX
      have hX : CX Z K (1 - t) j cl := ⟨x1, x2, x3, x4, x5, x6⟩
      obtain ⟨k1, k2, k3⟩ := hT j x1 x2
      have hb := hB j
      rw [B31_12, cn_nt (z := ((401 - (f + 1) : Nat) : Int)) rfl (by omega), if_neg (by omega), x3, cn_nt (z := (j : Int)) rfl (by omega), if_pos (by omega), Int.toNat_natCast, k1, cn_id (z := K j) (by omega) (by omega)]
      by_cases hk : K j = 43 ∨ K j = 45
      · rw [ite2 hk, c_take hB hT hX (by omega) t (K j) (by omega), if_pos rfl]
        by_cases hj : j < 400
        · rw [if_pos hj, Option.bind_some, B31_52, if_neg cn_1n]
          have hX1 := hX.adv hj (by omega)
          obtain ⟨Z2, e1, e2, e3, e4⟩ := hg (x_u Z 2 0 3 ((j : Int) + 1)) (j + 1) cl (d - 1) (by omega) (KCr.u23.tk (u := 1 - t) hT) hX1 (by omega) (by rw [x_u_ne (by omega)]; exact h4)
          obtain ⟨p1, p2, p3, p4, p5⟩ := hs (j + 1) (by omega)
          have e2' : KCr (1 - t) Z Z2 := KCr.u23.trans e2
          rw [e1, Option.bind_some, B31_60]
          by_cases h0 : (g (j + 1)).1 = 0
          · obtain ⟨q1, q2, q3⟩ := p5 h0
            rw [e_L_y hk (by omega) h0, if_pos h0, if_neg cn_1n]
            have hlen : (cl ++ (g (j + 1)).2.2).length = cl.length + (g (j + 1)).2.2.length := List.length_append
            obtain ⟨Z3, f1, f2, f3⟩ := c_emit (d := d - 1) (e3 h0).1 (by omega) (by omega) t (K j) 0
            have k23 : KCr (1 - t) Z2 Z3 := fun g m i _ b => f3 g m i b
            rw [f1, Option.bind_some, B31_77, show ((401 - (f + 1) : Nat) : Int) + 1 = ((401 - f : Nat) : Int) by omega]
            obtain ⟨Z4, g1, g2, g3, g4⟩ := ih Z3 (g (j + 1)).2.1 _ (some (.inl (K j))) (by omega) (k23.tk (e2'.tk hT)) f2 (by rw [List.length_append, List.length_singleton]; omega) (by rw [f3 _ _ _ (by omega)]; exact (e3 h0).2)
            refine ⟨Z4, g1, e2'.trans (k23.trans g2), fun h => ⟨?_, (g3 h).2⟩, g4⟩
            have := (g3 h).1
            rw [List.append_assoc, List.append_assoc, List.singleton_append] at this
            exact this
          · rw [e_L_b hk (by omega) h0, if_neg h0, if_pos cn_0]
            exact ⟨Z2, rfl, e2', fun h => absurd h h0, e4⟩
        · rw [if_neg hj, Option.bind_some, B31_52, if_pos cn_0, e_L_r hk (by omega)]
          exact ⟨_, rfl, KCr.u24, fun h => absurd h (by simp), fun _ => ⟨by rw [x_u_ne (by omega)]; exact x3, x_u_eq⟩⟩
      · rw [ite2n hk, e_L_n hk]
        exact ⟨Z, rfl, KCr.rfl', fun _ => ⟨by rw [List.append_nil]; exact hX, h4⟩, fun h => absurd rfl h⟩
  obtain ⟨Z1, e1, e2, e3, e4⟩ := hg Z j cl (d - 1) (by omega) hT hX hl h4
  obtain ⟨p1, p2, p3, p4, p5⟩ := hs j hX.1
  rw [C31 _ _ _ _ (by omega), e1, Option.bind_some, B31_5]
  by_cases h0 : (g j).1 = 0
  · obtain ⟨q1, q2, q3⟩ := p5 h0
    rw [e_G_y h0, if_pos h0, if_neg cn_1n]
    have hlen : (cl ++ (g j).2.2).length = cl.length + (g j).2.2.length := List.length_append
    obtain ⟨Z4, g1, g2, g3, g4⟩ := loop 401 Z1 (g j).2.1 _ none (by omega) (e2.tk hT) (e3 h0).1 (by omega) (e3 h0).2
    refine ⟨Z4, g1, e2.trans g2, fun h => ⟨?_, (g3 h).2⟩, g4⟩
    have := (g3 h).1
    rw [List.append_assoc] at this
    exact this
  · rw [e_G_b h0, if_neg h0, if_pos cn_0]
    exact ⟨Z1, rfl, e2, fun h => absurd h h0, e4⟩
theorem c_unit {K P V : Nat → Int} {t : Nat} (hB : KB K V) : ∀ b, b ≤ 6 → CSim K P V t 33 ((6 - b : Nat) : Int) (3 * b + 2) (e_U K V b) := by
  intro b
  have leaf : ∀ (Z : XZ) (j : Nat) (cl : CL) (d : Nat) (a : Int), 2 ≤ d → TKc Z K P V → CX Z K (1 - t) j cl → cl.length + 2 ≤ j → Z 2 0 4 = 1 → ¬ K j = 40 → ∃ Z' : XZ, x_CALL d 33 [.inr (.inr (some (2, 0))), .inl a] (x_S Z t) = some ((if (e_A K V j).1 = 0 then 1 else 0), x_S Z' t) ∧ KCr (1 - t) Z Z' ∧ ((e_A K V j).1 = 0 → CX Z' K (1 - t) (e_A K V j).2.1 (cl ++ (e_A K V j).2.2) ∧ Z' 2 0 4 = 1) ∧ ((e_A K V j).1 ≠ 0 → Z' 2 0 3 = ((e_A K V j).2.1 : Int) ∧ Z' 2 0 4 = ((e_A K V j).1 : Int)) := by
    intro Z j cl d a hd hT hX hl h4 hk
    obtain ⟨x1, x2, x3, x4, x5, x6⟩ := hX
    have hX : CX Z K (1 - t) j cl := ⟨x1, x2, x3, x4, x5, x6⟩
    obtain ⟨k1, k2, k3⟩ := hT j x1 x2
    have hb := hB j
    rw [C33 _ _ _ _ (by omega), x3, cn_nt (z := (j : Int)) rfl (by omega), if_pos (by omega), Int.toNat_natCast, k1, cn_id (z := K j) (by omega) (by omega), if_neg hk]
    by_cases h1 : K j = 259
    · obtain ⟨Z1, f1, f2, f3⟩ := c_emit (d := d - 1) hX (by omega) (by omega) t 110 (V j)
      have kc : KCr (1 - t) Z Z1 := fun g m i _ b => f3 g m i b
      rw [if_pos h1, if_pos (by omega), k3 (by omega), f1, Option.bind_some, B33_96, c_take hB (kc.tk hT) f2 (by omega) t 259 (by omega), if_pos h1]
      by_cases hj : j < 400
      · rw [if_pos hj, Option.bind_some, B33_103, if_pos (.inr rfl), e_A_i h1 (by omega)]
        exact ⟨_, rfl, kc.trans KCr.u23, fun _ => ⟨f2.adv hj (by omega), by rw [x_u_ne (by omega), f3 _ _ _ (by omega)]; exact h4⟩, fun h => absurd rfl h⟩
      · rw [if_neg hj, Option.bind_some, B33_103, if_pos (.inl rfl), e_A_ir h1 (by omega)]
        exact ⟨_, rfl, kc.trans KCr.u24, fun h => absurd h (by simp), fun _ => ⟨by rw [x_u_ne (by omega), f3 _ _ _ (by omega)]; exact x3, x_u_eq⟩⟩
    · rw [if_neg h1]
      by_cases h2 : 275 ≤ K j
      · obtain ⟨Z1, f1, f2, f3⟩ := c_emit (d := d - 1) hX (by omega) (by omega) t 118 (K j - 275)
        have kc : KCr (1 - t) Z Z1 := fun g m i _ b => f3 g m i b
        rw [if_neg (by omega), if_pos (by omega), f1, Option.bind_some, B33_135, c_take hB (kc.tk hT) f2 (by omega) t (K j) (by omega), if_pos rfl]
        by_cases hj : j < 400
        · rw [if_pos hj, Option.bind_some, B33_140, if_pos (.inr rfl), e_A_v h1 h2 (by omega)]
          exact ⟨_, rfl, kc.trans KCr.u23, fun _ => ⟨f2.adv hj (by omega), by rw [x_u_ne (by omega), f3 _ _ _ (by omega)]; exact h4⟩, fun h => absurd rfl h⟩
        · rw [if_neg hj, Option.bind_some, B33_140, if_pos (.inl rfl), e_A_vr h1 h2 (by omega)]
          exact ⟨_, rfl, kc.trans KCr.u24, fun h => absurd h (by simp), fun _ => ⟨by rw [x_u_ne (by omega), f3 _ _ _ (by omega)]; exact x3, x_u_eq⟩⟩
      · rw [if_pos (by omega), e_A_n h1 h2]
        exact ⟨Z, rfl, KCr.rfl', fun h => absurd h (by simp), fun _ => ⟨x3, h4⟩⟩
  induction b with
  | zero =>
    intro _ Z j cl d hd hT hX hl h4
    by_cases hk : K j = 40
    · rw [e_U_0a hk]
      obtain ⟨x1, x2, x3, x4, x5, x6⟩ := hX
      obtain ⟨k1, k2, k3⟩ := hT j x1 x2
      rw [C33 _ _ _ _ (by omega), x3, cn_nt (z := (j : Int)) rfl (by omega), if_pos (by omega), Int.toNat_natCast, k1, hk, if_pos (by decide), if_neg (by decide), C23 _ _ _ (by omega), Option.bind_some, B33_29, if_pos (.inl rfl)]
      exact ⟨_, rfl, KCr.u24, fun h => absurd h (by simp), fun _ => ⟨by rw [x_u_ne (by omega)]; exact x3, x_u_eq⟩⟩
    · rw [e_U_n hk]
      exact leaf Z j cl d _ (by omega) hT hX hl h4 hk
  | succ b ih =>
    intro hb6 Z j cl d hd hT hX hl h4
    have hsum : CSim K P V t 31 ((6 - b : Nat) : Int) (3 * b + 4) (e_S K (e_U K V b)) := c_tsum hB (c_tprod hB (ih (by omega)) (e_U_sp hB b) (fun _ => trivial) (by omega)) (e_G_sp (e_U_sp hB b) (by omega) (by omega)) (by omega)
    by_cases hk : K j = 40
    · rw [e_U_sa hk]
      obtain ⟨x1, x2, x3, x4, x5, x6⟩ := hX
      have hX : CX Z K (1 - t) j cl := ⟨x1, x2, x3, x4, x5, x6⟩
      obtain ⟨k1, k2, k3⟩ := hT j x1 x2
      rw [C33 _ _ _ _ (by omega), x3, cn_nt (z := (j : Int)) rfl (by omega), if_pos (by omega), Int.toNat_natCast, k1, hk, if_pos (by decide), cn_nt (z := ((6 - (b + 1) : Nat) : Int)) rfl (by omega), if_pos (by omega), c_take hB hT hX (by omega) t 40 (by omega), if_pos hk]
      by_cases hj : j < 400
      · obtain ⟨Z1, e1, e2, e3, e4⟩ := hsum (x_u Z 2 0 3 ((j : Int) + 1)) (j + 1) cl (d - 1) (by omega) (KCr.u23.tk (u := 1 - t) hT) (hX.adv hj (by omega)) (by omega) (by rw [x_u_ne (by omega)]; exact h4)
        have e2' : KCr (1 - t) Z Z1 := KCr.u23.trans e2
        obtain ⟨p1, p2, p3, p4, p5⟩ := e_S_sp (e_U_sp hB b) (j + 1) (by omega)
        rw [if_pos hj, Option.bind_some, B33_36, if_neg cn_1n, show ((6 - (b + 1) : Nat) : Int) + 1 = ((6 - b : Nat) : Int) by omega, e1, Option.bind_some, B33_46]
        by_cases h0 : (e_S K (e_U K V b) (j + 1)).1 = 0
        · obtain ⟨y1, y2⟩ := e3 h0
          rw [if_pos h0, if_neg cn_1n, c_take hB (e2'.tk hT) y1 (by omega) t 41 (by omega)]
          by_cases hc : K (e_S K (e_U K V b) (j + 1)).2.1 = 41
          · rw [if_pos hc]
            by_cases h5 : (e_S K (e_U K V b) (j + 1)).2.1 < 400
            · rw [if_pos h5, Option.bind_some, B33_55, if_neg cn_1n, e_O_y (by omega) h0 hc (by omega)]
              exact ⟨_, rfl, e2'.trans KCr.u23, fun _ => ⟨y1.adv h5 (by omega), by rw [x_u_ne (by omega)]; exact y2⟩, fun h => absurd rfl h⟩
            · rw [if_neg h5, Option.bind_some, B33_55, if_pos cn_0, e_O_q (by omega) h0 hc (by omega)]
              exact ⟨_, rfl, e2'.trans KCr.u24, fun h => absurd h (by simp), fun _ => ⟨by rw [x_u_ne (by omega)]; exact y1.2.2.1, x_u_eq⟩⟩
          · rw [if_neg hc, Option.bind_some, B33_55, if_pos cn_0, e_O_s (by omega) h0 hc]
            exact ⟨_, rfl, e2', fun h => absurd h (by simp), fun _ => ⟨y1.2.2.1, y2⟩⟩
        · rw [if_neg h0, if_pos cn_0, e_O_b (by omega) h0]
          exact ⟨_, by rw [if_neg h0], e2', fun h => absurd h h0, e4⟩
      · rw [if_neg hj, Option.bind_some, B33_36, if_pos cn_0, e_O_r (by omega)]
        exact ⟨_, rfl, KCr.u24, fun h => absurd h (by simp), fun _ => ⟨by rw [x_u_ne (by omega)]; exact x3, x_u_eq⟩⟩
    · rw [e_U_n hk]
      exact leaf Z j cl d _ (by omega) hT hX hl h4 hk
/-- a sum outside brackets -/
def e_T (K V : Nat → Int) : Nat → ER := e_S K (e_U K V 6)
theorem e_T_sp {K V : Nat → Int} (hB : KB K V) : SP K 15 N_s (e_T K V) := e_S_sp (e_U_sp hB 6)
theorem c_term {K P V : Nat → Int} {t : Nat} (hB : KB K V) : CSim K P V t 31 0 22 (e_T K V) := c_tsum hB (c_tprod hB (c_unit (t := t) hB 6 (by omega)) (e_U_sp hB 6) (fun _ => trivial) (by omega)) (e_G_sp (e_U_sp hB 6) (by omega) (by omega)) (by omega)
