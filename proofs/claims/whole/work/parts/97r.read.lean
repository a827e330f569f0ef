/-! reading, to its end -/
theorem c_end {Z' : XZ} {t d : Nat} {T : PT} (ht : t < 2) (hT : TOK T) (hR : RT Z' (1 - t) T) (h10 : T 10 0 < 1000) (hd : 5 ≤ d) : ∃ Z1 : XZ, x_EX d 85 15 [some (.inr (.inr (some (0, 0)))), none, none] [.inl 0] (x_S Z' t) = some (0, x_S Z1 (1 - t)) ∧ CT Z1 (1 - t) T ∧ (Z1 0 0 1 = 0 ∧ Z1 0 0 2 = Z' 2 0 0 ∧ Z1 28 0 0 = 0 ∧ Z1 28 0 1 = (T 12 0 : Int) ∧ Z1 28 0 2 = -2 ∧ Z1 28 0 3 = 0 ∧ Z1 31 0 0 = 0 ∧ Z1 35 0 0 = 0) ∧ (∀ c, c < 7 → Z1 29 0 c = ((T 9 c - 1 : Nat) : Int)) ∧ (∀ s, s < 5 → Z1 30 0 s = 0) ∧ (∀ s, s < 3 → Z1 34 0 s = 0) ∧ ∀ g m i, ¬ (g = 0 ∧ (i = 1 ∨ i = 2)) → ¬ (21 ≤ g ∧ g ≤ 24 ∧ m = 1 - t) → ¬ (28 ≤ g ∧ g ≤ 30 ∧ m = 0) → ¬ (g = 31 ∧ i = 0) → ¬ (g = 35 ∧ i = 0) → g ≠ 34 → Z1 g m i = Z' g m i := by
  have hRs : RT (x_u (x_u Z' 0 0 1 0) 0 0 2 (Z' 2 0 0)) (1 - t) T := hR.congr (fun g i a b => by rw [x_u_ne (by omega), x_u_ne (by omega)])
  obtain ⟨Zf, e1, e2, e3⟩ := c_finish (d := d) hRs hT h10 (by omega) (1 - t)
  have f12 : Zf 7 (1 - t) 12 = (T 12 0 : Int) := by rw [e3 _ _ _ (by omega)]; exact hRs.1 12 (by omega)
  have f14 : ∀ c, c < 7 → Zf 14 (1 - t) c = ((T 9 c - 1 : Nat) : Int) := fun c hc => by rw [e3 _ _ _ (by omega)]; exact hRs.2.2.2.2 c hc
  obtain ⟨Z1, g1, g2, g3⟩ := c_letgo (Z := x_u (x_u (x_fil (x_cp (x_u (x_u (x_u (x_u Zf 28 0 0 0) 28 0 1 (Zf 7 (1 - t) 12)) 28 0 2 (-2)) 28 0 3 0) 14 (1 - t) 0 29 0 0 7) 30 0 5 0) 31 0 0 0) 35 0 0 0) (d := d) (by omega) (1 - t)
  have road : x_EX d 85 15 [some (.inr (.inr (some (0, 0)))), none, none] [.inl 0] (x_S Z' t) = some (0, x_S Z1 (1 - t)) := by
    rw [B85_15, if_pos cn_0, x_swap ht]
    rw [show ((x_NC, (x_u (x_u Z' 0 0 1 0) 0 0 2 (Z' 2 0 0), x_RTn (1 - t))) : XH) = x_S (x_u (x_u Z' 0 0 1 0) 0 0 2 (Z' 2 0 0)) (1 - t) from rfl, e1, Option.bind_some, B85_67, C40 _ _ _ _ _ (by omega), c_fill30 (by omega), Option.bind_some, B40_47, Option.bind_some, B85_78, C2 _ _ _ (by omega), Option.bind_some, B85_85, g1, Option.bind_some, B85_97]
  have fr0 : ∀ g m i, g ≠ 34 → ¬ (28 ≤ g ∧ g ≤ 30 ∧ m = 0) → ¬ (g = 31 ∧ i = 0) → ¬ (g = 35 ∧ i = 0) → Z1 g m i = Zf g m i := fun g m i a b c e => by
    rw [g3 _ _ _ a, x_u_ne (by omega), x_u_ne (by omega), x_fil_ne (by omega), x_cp_ne (by omega), x_u_ne (by omega), x_u_ne (by omega), x_u_ne (by omega), x_u_ne (by omega)]
  refine ⟨Z1, road, e2.congr (fun g i a b c e => fr0 _ _ _ (by omega) (by omega) (by omega) (by omega)), ⟨?_, ?_, ?_, ?_, ?_, ?_, ?_, ?_⟩, fun c hc => ?_, fun m hm => ?_, g2, fun g m i a b c e f h => ?_⟩
  · rw [fr0 _ _ _ (by omega) (by omega) (by omega) (by omega), e3 _ _ _ (by omega), x_u_ne (by omega), x_u_eq]
  · rw [fr0 _ _ _ (by omega) (by omega) (by omega) (by omega), e3 _ _ _ (by omega), x_u_eq]
  · rw [g3 _ _ _ (by omega), x_u_ne (by omega), x_u_ne (by omega), x_fil_ne (by omega), x_cp_ne (by omega), x_u_ne (by omega), x_u_ne (by omega), x_u_ne (by omega), x_u_eq]
  · rw [g3 _ _ _ (by omega), x_u_ne (by omega), x_u_ne (by omega), x_fil_ne (by omega), x_cp_ne (by omega), x_u_ne (by omega), x_u_ne (by omega), x_u_eq]; exact f12
  · rw [g3 _ _ _ (by omega), x_u_ne (by omega), x_u_ne (by omega), x_fil_ne (by omega), x_cp_ne (by omega), x_u_ne (by omega), x_u_eq]
  · rw [g3 _ _ _ (by omega), x_u_ne (by omega), x_u_ne (by omega), x_fil_ne (by omega), x_cp_ne (by omega), x_u_eq]
  · rw [g3 _ _ _ (by omega), x_u_ne (by omega), x_u_eq]
  · rw [g3 _ _ _ (by omega), x_u_eq]
  · have h := x_cp_in (Z := x_u (x_u (x_u (x_u Zf 28 0 0 0) 28 0 1 (Zf 7 (1 - t) 12)) 28 0 2 (-2)) 28 0 3 0) (gs := 14) (is := 1 - t) (sp := 0) (gd := 29) (id := 0) (dp := 0) (n := 7) hc
    rw [Nat.zero_add] at h
    rw [g3 _ _ _ (by omega), x_u_ne (by omega), x_u_ne (by omega), x_fil_ne (by omega), h, x_u_ne (by omega), x_u_ne (by omega), x_u_ne (by omega), x_u_ne (by omega)]; exact f14 c hc
  · rw [g3 _ _ _ (by omega), x_u_ne (by omega), x_u_ne (by omega), x_fil_in hm]
  · rw [fr0 _ _ _ h c e f, e3 _ _ _ b, x_u_ne (by omega), x_u_ne (by omega)]
theorem mal_half {v g i : Nat} (hv : v < 2) (h : mlh v g i) : ¬ mal (1 - v) g i := by
  unfold mlh at h
  unfold mal mlh
  omega
/-- what a text told ill leaves -/
theorem pp_ill {T : PT} {F : PF} {N : PN} {H K : Nat → PN} {v u nx : Nat} {Z Z' : XZ} {t : Nat} (h : PP T F N H K v u nx Z t) (fr : ∀ g m i, ¬ (g = 0 ∧ (i = 1 ∨ i = 2)) → g ≠ 2 → ¬ (4 ≤ g ∧ g ≤ 6) → g ≠ 26 → g ≠ 27 → ¬ (m = 1 - t ∧ 7 ≤ g ∧ g ≤ 18) → ¬ (58 ≤ g ∧ g ≤ 62) → ¬ (g = 56 ∧ (i = 2 ∨ i = 4 ∨ i = 10 ∨ i = 17 ∨ i = 19)) → ¬ mal (1 - v) g i → Z' g m i = Z g m i) (h01 : Z' 0 0 1 = 0) (h562 : Z' 56 0 2 = 0) (hpl : Z' 0 0 2 = Z' 56 0 17) : PP T F N H K v u nx Z' t := by
  obtain ⟨h1, h2, h3, h4, h5, h6, h7, h8, h9, h10, h11, h12, h13⟩ := h
  have nm : ∀ g i, g < 56 ∨ 90 < g → ¬ mal (1 - v) g i := fun g i h => by unfold mal mlh; omega
  have nm56 : ∀ i, i = 18 ∨ i = 67 ∨ i = 70 → ¬ mal (1 - v) 56 i := fun i h => by unfold mal mlh; omega
  have nm63 : ∀ i, ¬ mal (1 - v) 63 i := fun i => by unfold mal mlh; omega
  have fl : ∀ g m i, g < 56 → ¬ (g = 0 ∧ (i = 1 ∨ i = 2)) → g ≠ 2 → ¬ (4 ≤ g ∧ g ≤ 6) → g ≠ 26 → g ≠ 27 → ¬ (m = 1 - t ∧ 7 ≤ g ∧ g ≤ 18) → Z' g m i = Z g m i := fun g m i a b c d e f k => fr g m i b c d e f k (by omega) (by omega) (nm g i (.inl a))
  have fh : ∀ g m i, 90 < g → Z' g m i = Z g m i := fun g m i a => fr g m i (by omega) (by omega) (by omega) (by omega) (by omega) (by omega) (by omega) (by omega) (nm g i (.inr a))
  have f56 : ∀ i, i = 18 ∨ i = 67 ∨ i = 70 → Z' 56 0 i = Z 56 0 i := fun i h => fr 56 0 i (by omega) (by omega) (by omega) (by omega) (by omega) (by omega) (by omega) (by omega) (nm56 i h)
  have cs : ∀ {m : Nat} {N : PN}, CS Z m N → CS Z' m N := fun h => h.congr (fun i => fl _ _ _ (by omega) (by omega) (by omega) (by omega) (by omega) (by omega) (by omega)) (fun i => fl _ _ _ (by omega) (by omega) (by omega) (by omega) (by omega) (by omega) (by omega)) (fun i => fl _ _ _ (by omega) (by omega) (by omega) (by omega) (by omega) (by omega) (by omega))
  refine ⟨h1, h2, h3.congr (fun g i a b c d => fl _ _ _ (by omega) (by omega) (by omega) (by omega) (by omega) (by omega) (by omega)), ?_, h5.congr (fun g i a b => fl _ _ _ (by omega) (by omega) (by omega) (by omega) (by omega) (by omega) (by omega)), ?_, cs h7, h8.congr (fun i => fh _ _ _ (by omega)), h9, ?_, ?_, ?_, ?_⟩
  · obtain ⟨v1, m18, ⟨m1, m2, m3, m4, m5, m6, m7⟩, m8, m9, m10, m11⟩ := h4
    have ft : ∀ g i, 66 ≤ g → g ≤ 80 → ¬ mal (1 - v) g i → Z' g 0 i = Z g 0 i := fun g i a b c => fr g 0 i (by omega) (by omega) (by omega) (by omega) (by omega) (by omega) (by omega) (by omega) c
    have t0 := h2.1
    have t1 := h2.2.1
    have t2 := h2.2.2.1
    refine ⟨v1, by rw [f56 18 (by omega)]; exact m18, ⟨?_, ?_, ?_, ?_, ?_, ?_, ?_⟩, fun c hc => ?_, fun l hl => ?_, fun s hs => ?_, fun c hc => ?_⟩
    · rw [ft _ _ (by omega) (by omega) (by unfold mal mlh; omega)]; exact m1
    · rw [ft _ _ (by omega) (by omega) (by unfold mal mlh; omega)]; exact m2
    · rw [ft _ _ (by omega) (by omega) (by unfold mal mlh; omega)]; exact m3
    · rw [ft _ _ (by omega) (by omega) (by unfold mal mlh; omega)]; exact m4
    · rw [ft _ _ (by omega) (by omega) (by unfold mal mlh; omega)]; exact m5
    · rw [ft _ _ (by omega) (by omega) (by unfold mal mlh; omega)]; exact m6
    · rw [ft _ _ (by omega) (by omega) (by unfold mal mlh; omega)]; exact m7
    · rw [ft _ _ (by omega) (by omega) (by unfold mal mlh; omega)]; exact m8 c hc
    · rw [ft _ _ (by omega) (by omega) (by unfold mal mlh; omega), ft _ _ (by omega) (by omega) (by unfold mal mlh; omega), ft _ _ (by omega) (by omega) (by unfold mal mlh; omega)]; exact m9 l hl
    · rw [ft _ _ (by omega) (by omega) (by unfold mal mlh; omega), ft _ _ (by omega) (by omega) (by unfold mal mlh; omega)]; exact m10 s hs
    · rw [ft _ _ (by omega) (by omega) (by unfold mal mlh; omega)]; exact m11 c hc
  · exact h6.half (fun g i hm => fr g 0 i (by unfold mlh at hm; omega) (by unfold mlh at hm; omega) (by unfold mlh at hm; omega) (by unfold mlh at hm; omega) (by unfold mlh at hm; omega) (by unfold mlh at hm; omega) (by unfold mlh at hm; omega) (by unfold mlh at hm; omega) (mal_half h4.1 hm))
  · obtain ⟨b1, b2, b3, b4, b5, b6⟩ := h10
    refine ⟨by rw [fl _ _ _ (by omega) (by omega) (by omega) (by omega) (by omega) (by omega) (by omega)]; exact b1, by rw [f56 67 (by omega)]; exact b2, b3, by rw [fl _ _ _ (by omega) (by omega) (by omega) (by omega) (by omega) (by omega) (by omega)]; exact b4, b5, fun j hj => ⟨cs (b6 j hj).1, (b6 j hj).2.1.congr (fun i => fh _ _ _ (by omega)), (b6 j hj).2.2⟩⟩
  · intro s hs
    obtain ⟨b1, b2⟩ := h11 s hs
    rw [fl 34 _ _ (by omega) (by omega) (by omega) (by omega) (by omega) (by omega) (by omega), fh 107 _ _ (by omega)]
    refine ⟨b1, ?_⟩
    rcases b2 with b2 | ⟨b2, b3, b4, b5⟩
    · exact .inl b2
    · exact .inr ⟨b2, cs b3, b4.congr (fun i => fh _ _ _ (by omega)), b5⟩
  · obtain ⟨n, b1, b2, b3, b4⟩ := h12
    refine ⟨n, b1, by rw [fl _ _ _ (by omega) (by omega) (by omega) (by omega) (by omega) (by omega) (by omega)]; exact b2, by rw [f56 70 (by omega)]; exact b3, fun j hj => ?_⟩
    rw [fl 36 _ _ (by omega) (by omega) (by omega) (by omega) (by omega) (by omega) (by omega), fl 37 _ _ (by omega) (by omega) (by omega) (by omega) (by omega) (by omega) (by omega), fl 38 _ _ (by omega) (by omega) (by omega) (by omega) (by omega) (by omega) (by omega), fl 39 _ _ (by omega) (by omega) (by omega) (by omega) (by omega) (by omega) (by omega), fh 102 _ _ (by omega), fh 103 _ _ (by omega), fh 104 _ _ (by omega), fh 105 _ _ (by omega)]
    exact b4 j hj
  · obtain ⟨n, b1, b2, b3, b4, b5, b6⟩ := h13
    exact ⟨0, by omega, h01, h562, hpl, fun i hi => by omega, fun k hk => by rw [fr 63 0 k (by omega) (by omega) (by omega) (by omega) (by omega) (by omega) (by omega) (by omega) (nm63 k)]; exact b6 k hk⟩
