/-! laws that were read -/
noncomputable def FG (G : Nat → Option (BL × CL)) : PF := fun k => (G k).map (fun x => fun f => l_v f x.1 x.2)
theorem FG_some {G : Nat → Option (BL × CL)} {k : Nat} {f : (Nat → Int) → Int} (h : FG G k = some f) : ∃ bs fin, G k = some (bs, fin) ∧ f = fun F => l_v F bs fin := by
  unfold FG at h
  cases hg : G k with
  | none => rw [hg] at h; exact absurd h (by simp)
  | some x =>
    rw [hg] at h
    obtain ⟨bs, fin⟩ := x
    rw [Option.map_some, Option.some.injEq] at h
    exact ⟨bs, fin, rfl, h.symm⟩
theorem FG_none {G : Nat → Option (BL × CL)} {k : Nat} (h : FG G k = none) : G k = none := by
  unfold FG at h
  cases hg : G k with
  | none => rfl
  | some x => rw [hg] at h; exact absurd h (by simp)
theorem g_CLaw {Z : XZ} {u n : Nat} {G : Nat → Option (BL × CL)} (hJ : JCl Z u n G) (h15 : Z 15 u 1 = (n : Int)) (hn : n ≤ 400) : CLaw Z u (FG G) := by
  intro k hk
  obtain ⟨j1, j2⟩ := hJ k hk
  refine ⟨fun h => j1 (FG_none h), fun f hf => ?_⟩
  obtain ⟨bs, fin, g1, rfl⟩ := FG_some hf
  obtain ⟨c1, i, c2, c3⟩ := j2 bs fin g1
  have hle := CLw.le c3
  refine ⟨by rw [c2, cn_nt rfl (by omega)]; omega, fun Z' t' d hd e15 e16 e17 e18 => ?_⟩
  have h15' : Z' 15 u 1 = (n : Int) := by rw [e15]; exact h15
  have c2' : Z' 16 u k = (i : Int) := by rw [e16]; exact c2
  obtain ⟨r, Z'', f1, f2, f3⟩ := c_law (d := d - 1) (u := u) (by omega) t' (k : Int) hn bs i 0 Z' none none none none c1 (c3.congr (fun x _ _ => by rw [e17, e18]; exact ⟨rfl, rfl⟩)) h15' (Nat.zero_le _)
  refine ⟨r, Z'', ?_, f2, f3⟩
  rw [C12 _ _ _ _ _ (by omega), cn_nt (z := (k : Int)) rfl (by omega), if_pos (by omega), Int.toNat_natCast, c2']
  exact f1
theorem g_MLaw {Y : XZ} {v b q : Nat} {G : Nat → Option (BL × CL)} (hv : v < 2) (hJ : JMl Y v b q G) : MLaw Y v (FG G) := by
  intro k hk
  obtain ⟨j1, j2⟩ := hJ k hk
  refine ⟨fun h => by obtain ⟨a, b⟩ := j1 (FG_none h); rw [a, b], fun f hf => ?_⟩
  obtain ⟨bs, fin, g1, rfl⟩ := FG_some hf
  obtain ⟨c1, b0, b1, c2, c3, c4, c6, c5⟩ := j2 bs fin g1
  have hle := MLw.le c5
  refine ⟨by rw [c2, c3, cn_nt rfl (by omega), cn_nt rfl (by omega)]; omega, fun Z' t' d p hd hm h18 => ?_⟩
  have m81 : Z' 81 0 (4 * v + k) = (b0 : Int) := by rw [hm 81 _ (by unfold mlh; omega)]; exact c2
  have m82 : Z' 82 0 (4 * v + k) = (b1 : Int) := by rw [hm 82 _ (by unfold mlh; omega)]; exact c3
  obtain ⟨r, Y'', f1, f2, f3⟩ := m_law (d := d - 1) (v := v) (k := k) (e := b1) (by omega) t' (k : Int) p hv hk bs b0 (x_u Z' 56 0 53 0) none none c1 ((c5.congr hm).congr (fun g i h => x_u_ne (by unfold mlh at h; omega))) (by rw [x_u_ne (by omega)]; exact m82) x_u_eq
  have hq : q_va (x_u Z' 56 0 53 0) 91 0 = q_va Z' 91 0 := by unfold q_va; funext j; rw [x_u_ne (by omega)]
  rw [hq] at f3
  refine ⟨r, Y'', ?_, fun g m i a c => by rw [f2 g m i a c, x_u_ne (by omega)], f3⟩
  rw [C185 _ _ _ _ _ (by omega), h18, show 4 * (v : Int) + (k : Int) = ((4 * v + k : Nat) : Int) by omega, cn_nt (z := ((4 * v + k : Nat) : Int)) rfl (by omega), if_pos (by omega), if_pos (by omega), Int.toNat_natCast, m81, m82, cn_nt (z := (b0 : Int)) rfl (by omega), cn_nt (z := (b1 : Int)) rfl (by omega), if_neg (by omega), if_pos (by omega)]
  exact f1
/-! the two towns change places -/
theorem x_swap {t : Nat} (ht : t < 2) : x_ur (x_ur (x_RTn t) 2 0 1 (some (7, t))) 0 0 4 (some (7, (1 - t))) = x_RTn (1 - t) := by
  funext g i f
  have nb : ∀ a b : Nat, a ≠ b → Nat.beq a b = false := fun a b h => by
    cases hh : Nat.beq a b with
    | false => rfl
    | true => exact absurd (Nat.eq_of_beq_eq_true hh) h
  unfold x_ur
  by_cases h0 : g = 0
  · subst h0
    by_cases hi : i = 0
    · subst hi
      by_cases hf : f = 4
      · subst hf; rw [if_pos ⟨rfl, rfl, rfl⟩]; rfl
      · rw [if_neg (fun e => hf e.2.2), if_neg (fun e => absurd e.1 (by decide))]
        show x_RT t 0 0 f = x_RT (1 - t) 0 0 f
        have h4 := nb f 4 hf
        show (bif Nat.beq f 0 then some (1, 0) else (bif Nat.beq f 3 then some (2, 0) else (bif Nat.beq f 4 then some (7, t) else _))) = (bif Nat.beq f 0 then some (1, 0) else (bif Nat.beq f 3 then some (2, 0) else (bif Nat.beq f 4 then some (7, 1 - t) else _)))
        rw [h4]
        rfl
    · have hb := nb i 0 hi
      rw [if_neg (fun e => hi e.2.1), if_neg (fun e => hi e.2.1)]
      show (bif (bif Nat.beq i 0 then false else true) then none else x_RT t 0 i f) = (bif (bif Nat.beq i 0 then false else true) then none else x_RT (1 - t) 0 i f)
      rw [hb]; rfl
  · by_cases h2 : g = 2
    · subst h2
      by_cases hi : i = 0
      · subst hi
        by_cases hf : f = 1
        · subst hf; rw [if_neg (fun e => absurd e.1 (by decide)), if_pos ⟨rfl, rfl, rfl⟩]
          show some (7, t) = some (7, 1 - (1 - t))
          rw [show 1 - (1 - t) = t by omega]
        · rw [if_neg (fun e => absurd e.1 (by decide)), if_neg (fun e => hf e.2.2)]
          show x_RT t 2 0 f = x_RT (1 - t) 2 0 f
          have h4 := nb f 1 hf
          show (bif Nat.beq f 1 then some (7, 1 - t) else _) = (bif Nat.beq f 1 then some (7, 1 - (1 - t)) else _)
          rw [h4]
          rfl
      · have hb := nb i 0 hi
        rw [if_neg (fun e => hi e.2.1), if_neg (fun e => hi e.2.1)]
        show (bif (bif Nat.beq i 0 then false else true) then none else x_RT t 2 i f) = (bif (bif Nat.beq i 0 then false else true) then none else x_RT (1 - t) 2 i f)
        rw [hb]; rfl
    · rw [if_neg (fun e => h0 e.1), if_neg (fun e => h2 e.1)]
      unfold x_RTn x_RT
      rw [nb g 0 h0, nb g 2 h2]
      rfl
theorem c_letgo {Z : XZ} {d : Nat} (hd : 1 ≤ d) (t : Nat) : ∃ Z' : XZ, x_CALL d 86 [.inr (.inr (some (0, 0)))] (x_S Z t) = some (0, x_S Z' t) ∧ (∀ s, s < 3 → Z' 34 0 s = 0) ∧ ∀ g m i, g ≠ 34 → Z' g m i = Z g m i := by
  have loop : ∀ (r k : Nat) (Z1 : XZ), k + r = 3 → ∃ Z' : XZ, x_EX (d - 1) 86 2 [some (.inr (.inr (some (0, 0)))), some (.inl ((k : Int)))] [] (x_S Z1 t) = some (0, x_S Z' t) ∧ (∀ s, k ≤ s → s < 3 → Z' 34 0 s = 0) ∧ ∀ g m i, ¬ (g = 34 ∧ k ≤ i) → Z' g m i = Z1 g m i := by
    intro r
    induction r with
    | zero =>
      intro k Z1 hk
      obtain rfl : k = 3 := by omega
      rw [B86_2, if_neg (by decide)]
      exact ⟨Z1, rfl, fun s a b => by omega, fun _ _ _ _ => rfl⟩
    | succ r ih =>
      intro k Z1 hk
      rw [B86_2, cn_nt (z := (k : Int)) rfl (by omega), if_pos (by omega), if_pos (by omega), Int.toNat_natCast, show (k : Int) + 1 = ((k + 1 : Nat) : Int) by omega]
      obtain ⟨Z', e1, e2, e3⟩ := ih (k + 1) (x_u Z1 34 0 k 0) (by omega)
      refine ⟨Z', e1, fun s a b => ?_, fun g m i a => by rw [e3 g m i (by omega), x_u_ne (by omega)]⟩
      by_cases hs : s = k
      · rw [hs, e3 _ _ _ (by omega), x_u_eq]
      · exact e2 s (by omega) b
  obtain ⟨Z', e1, e2, e3⟩ := loop 3 0 Z (by omega)
  rw [C86 _ _ _ (by omega)]
  exact ⟨Z', e1, fun s hs => e2 s (by omega) hs, fun g m i a => e3 g m i (by omega)⟩
theorem m_rest {Y : XZ} {d : Nat} (t : Nat) : ∃ Y' : XZ, x_EX d 150 219 [some (.inr (.inr (some (56, 0)))), some (.inl 0)] [] (x_S Y t) = some (0, x_S Y' t) ∧ (∀ s, s < 3 → Y' 107 0 s = 0) ∧ ∀ g m i, g ≠ 107 → Y' g m i = Y g m i := by
  have loop : ∀ (r k : Nat) (Z1 : XZ), k + r = 3 → ∃ Z' : XZ, x_EX d 150 219 [some (.inr (.inr (some (56, 0)))), some (.inl ((k : Int)))] [] (x_S Z1 t) = some (0, x_S Z' t) ∧ (∀ s, k ≤ s → s < 3 → Z' 107 0 s = 0) ∧ ∀ g m i, ¬ (g = 107 ∧ k ≤ i) → Z' g m i = Z1 g m i := by
    intro r
    induction r with
    | zero =>
      intro k Z1 hk
      obtain rfl : k = 3 := by omega
      rw [B150_219, if_neg (by decide)]
      exact ⟨Z1, rfl, fun s a b => by omega, fun _ _ _ _ => rfl⟩
    | succ r ih =>
      intro k Z1 hk
      rw [B150_219, cn_nt (z := (k : Int)) rfl (by omega), if_pos (by omega), if_pos (by omega), Int.toNat_natCast, show (k : Int) + 1 = ((k + 1 : Nat) : Int) by omega]
      obtain ⟨Z', e1, e2, e3⟩ := ih (k + 1) (x_u Z1 107 0 k 0) (by omega)
      refine ⟨Z', e1, fun s a b => ?_, fun g m i a => by rw [e3 g m i (by omega), x_u_ne (by omega)]⟩
      by_cases hs : s = k
      · rw [hs, e3 _ _ _ (by omega), x_u_eq]
      · exact e2 s (by omega) b
  obtain ⟨Z', e1, e2, e3⟩ := loop 3 0 Y (by omega)
  exact ⟨Z', e1, fun s hs => e2 s (by omega) hs, fun g m i a => e3 g m i (by omega)⟩
theorem m_beg {Y : XZ} {v d : Nat} (hv : v < 2) (h18 : Y 56 0 18 = (v : Int)) (hd : 1 ≤ d) (t : Nat) : ∃ Y' : XZ, x_CALL d 175 [.inr (.inr (some (56, 0)))] (x_S Y t) = some (0, x_S Y' t) ∧ (∀ k, k < 16 → Y' 94 0 k = if k = 15 then -2 else if k = 12 then Y 79 0 v else if 5 ≤ k ∧ k < 12 then Y 68 0 (7 * v + (k - 5)) else 0) ∧ ∀ g m i, g ≠ 94 → ¬ (g = 56 ∧ i = 56) → Y' g m i = Y g m i := by
  have l2 : ∀ (r k : Nat) (Z1 : XZ), k + r = 16 → ∃ Z' : XZ, x_EX (d - 1) 175 2 [some (.inr (.inr (some (56, 0)))), some (.inl ((k : Int)))] [] (x_S Z1 t) = x_EX (d - 1) 175 23 [some (.inr (.inr (some (56, 0)))), some (.inl 0)] [] (x_S Z' t) ∧ (∀ s, k ≤ s → s < 16 → Z' 94 0 s = 0) ∧ ∀ g m i, ¬ (g = 94 ∧ k ≤ i) → Z' g m i = Z1 g m i := by
    intro r
    induction r with
    | zero =>
      intro k Z1 hk
      obtain rfl : k = 16 := by omega
      rw [B175_2, if_neg (by decide)]
      exact ⟨Z1, rfl, fun s a b => by omega, fun _ _ _ _ => rfl⟩
    | succ r ih =>
      intro k Z1 hk
      rw [B175_2, cn_nt (z := (k : Int)) rfl (by omega), if_pos (by omega), if_pos (by omega), Int.toNat_natCast, show (k : Int) + 1 = ((k + 1 : Nat) : Int) by omega]
      obtain ⟨Z', e1, e2, e3⟩ := ih (k + 1) (x_u Z1 94 0 k 0) (by omega)
      refine ⟨Z', e1, fun s a b => ?_, fun g m i a => by rw [e3 g m i (by omega), x_u_ne (by omega)]⟩
      by_cases hs : s = k
      · rw [hs, e3 _ _ _ (by omega), x_u_eq]
      · exact e2 s (by omega) b
  have bv : 0 ≤ (v : Int) ∧ (v : Int) < 2 := by omega
  have l3 : ∀ (r k : Nat) (Z1 : XZ), k + r = 7 → Z1 56 0 18 = (v : Int) → ∃ Z' : XZ, x_EX (d - 1) 175 23 [some (.inr (.inr (some (56, 0)))), some (.inl ((k : Int)))] [] (x_S Z1 t) = some (0, x_S (x_u (x_u (x_u Z' 94 0 12 (Z' 79 0 v)) 94 0 15 (-2)) 56 0 56 (Z' 80 0 v)) t) ∧ (∀ s, k ≤ s → s < 7 → Z' 94 0 (5 + s) = Z1 68 0 (7 * v + s)) ∧ ∀ g m i, ¬ (g = 94 ∧ 5 + k ≤ i ∧ i < 12) → Z' g m i = Z1 g m i := by
    intro r
    induction r with
    | zero =>
      intro k Z1 hk h18
      obtain rfl : k = 7 := by omega
      rw [B175_23, if_neg (by decide), h18, cn_nt (z := (v : Int)) rfl (by omega), if_pos bv, if_pos bv, Int.toNat_natCast]
      exact ⟨Z1, rfl, fun s a b => by omega, fun _ _ _ _ => rfl⟩
    | succ r ih =>
      intro k Z1 hk h18
      rw [B175_23, cn_nt (z := (k : Int)) rfl (by omega), if_pos (by omega), h18, cn_nt (z := 7 * (v : Int) + (k : Int)) (n := 7 * v + k) (by omega) (by omega), if_pos (by omega), cn_nt (z := 5 + (k : Int)) (n := 5 + k) (by omega) (by omega), if_pos (by omega), Int.toNat_natCast, Int.toNat_natCast, show (k : Int) + 1 = ((k + 1 : Nat) : Int) by omega]
      obtain ⟨Z', e1, e2, e3⟩ := ih (k + 1) (x_u Z1 94 0 (5 + k) (Z1 68 0 (7 * v + k))) (by omega) (by rw [x_u_ne (by omega)]; exact h18)
      refine ⟨Z', e1, fun s a b => ?_, fun g m i a => by rw [e3 g m i (by omega), x_u_ne (by omega)]⟩
      by_cases hs : s = k
      · rw [hs, e3 _ _ _ (by omega), x_u_eq]
      · rw [e2 s (by omega) b, x_u_ne (by omega)]
  obtain ⟨Z1, e1, e2, e3⟩ := l2 16 0 Y (by omega)
  obtain ⟨Z2, f1, f2, f3⟩ := l3 7 0 Z1 (by omega) (by rw [e3 _ _ _ (by omega)]; exact h18)
  rw [C175 _ _ _ (by omega)]
  refine ⟨_, e1.trans f1, fun k hk => ?_, fun g m i a b => by rw [x_u_ne (by omega), x_u_ne (by omega), x_u_ne (by omega), f3 _ _ _ (by omega), e3 _ _ _ (by omega)]⟩
  rw [x_u_ne (by omega)]
  by_cases h15 : k = 15
  · rw [if_pos h15, h15, x_u_eq]
  · rw [if_neg h15, x_u_ne (by omega)]
    by_cases h12 : k = 12
    · rw [if_pos h12, h12, x_u_eq, f3 _ _ _ (by omega), e3 _ _ _ (by omega)]
    · rw [if_neg h12, x_u_ne (by omega)]
      by_cases h5 : 5 ≤ k ∧ k < 12
      · have := f2 (k - 5) (by omega) (by omega)
        rw [show 5 + (k - 5) = k by omega] at this
        rw [if_pos h5, this, e3 _ _ _ (by omega)]
      · rw [if_neg h5, f3 _ _ _ (by omega), e2 k (by omega) hk]
