/-! tells: the class, house, numbers, posts -/
def s_hou (P V : Nat → Int) (T : PT) (ct : Nat → Nat) (j : Nat) (s : Nat × Int) : Nat × Int := q_nt (decide (¬ q_ax V T ct (j + 1) < T 0 0)) 4 (P (j + 1)) s
def T_hou (V : Nat → Int) (T : PT) (ct : Nat → Nat) (j : Nat) : PT := tU T 10 0 (q_ax V T ct (j + 1))
theorem CSo.k {Z Z' : XZ} {s : Nat × Int} (h : CSo Z s) (h5 : Z' 2 0 5 = Z 2 0 5) (h6 : Z' 2 0 6 = Z 2 0 6) : CSo Z' s := ⟨h5.trans h.1, h6.trans h.2.1, h.2.2⟩
theorem c_thouse {Z : XZ} {K P V : Nat → Int} {t j n np d : Nat} {s : Nat × Int} {T : PT} {ct st : Nat → Nat} {G : Nat → Option (BL × CL)} (hB : KB K V) (hV : VN K V) (hJ : JC Z K P V t j n np s T ct st G) (hp : JPu K P j np s T ct st) (hd : 5 ≤ d) : ∃ Z' : XZ, x_CALL d 26 [.inr (.inr (some (2, 0)))] (x_S Z t) = some ((if (q_tk K k_hou j).1 = 0 then 1 else 0), x_S Z' t) ∧ KPc (1 - t) Z Z' ∧ (¬ (q_tk K k_hou j).1 = 0 → Z' 2 0 3 = ((q_tk K k_hou j).2 : Int) ∧ Z' 2 0 4 = ((q_tk K k_hou j).1 : Int)) ∧ ((q_tk K k_hou j).1 = 0 → JC Z' K P V t (j + 3) n np (s_hou P V T ct j s) (T_hou V T ct j) ct st G) := by
  obtain ⟨a1, a2, a3, a4, a5, a6, a7, a8, a9, a10⟩ := hJ
  have hJ : JC Z K P V t j n np s T ct st G := ⟨a1, a2, a3, a4, a5, a6, a7, a8, a9, a10⟩
  obtain ⟨p1, p2, p3, p4, p5, p6, p7, p8⟩ := hp
  have x3 := a2.2.2.1
  rw [C26 _ _ _ (by omega), x3]
  have hc := c_chain (d := d - 1) (u := 1 - t) (L := fun σ => (x_CALL (d - 1) 36 [.inr (.inr (some (2, 0))), .inl ((j : Int) + 1)] σ).bind fun q => x_EX (d - 1) 26 47 [some (.inr (.inr (some (2, 0)))), some (.inl ((j : Int)))] [.inl q.1, .inr (.inr (some (7, (1 - t))))] q.2) hB (by omega) t [258, 59] 262 (fun r σ => x_EX (d - 1) 26 12 [some (.inr (.inr (some (2, 0)))), some (.inl ((j : Int)))] [.inl r] σ) Z j n ⟨fun r σ => x_EX (d - 1) 26 22 [some (.inr (.inr (some (2, 0)))), some (.inl ((j : Int)))] [.inl r] σ, fun r Z => B26_12 _ _ _ _ _, fun r σ => x_EX (d - 1) 26 31 [some (.inr (.inr (some (2, 0)))), some (.inl ((j : Int)))] [.inl r] σ, fun r Z => B26_22 _ _ _ _ _, fun r Z => B26_31 _ _ _ _ _⟩ a1 a2 a4 (by decide)
  by_cases h0 : (q_tk K k_hou j).1 = 0
  · obtain ⟨Z1, e1, e2, e3, e4⟩ := hc.1 h0
    obtain ⟨l1, l2, l3⟩ := q_tk_len _ _ h0
    have l1' : (q_tk K [262, 258, 59] j).2 = j + 3 := l1
    have k1 : K (j + 1) = 258 := l3 1 (by decide)
    have hj4 : j + 3 ≤ 400 := l2 (by decide)
    rw [l1'] at e3
    have hl := e3.2.1
    have lp : ∀ m, m ≤ j + 3 → LK K 0 m := fun m hm i a b => hl i a (by omega)
    obtain ⟨Z2, f1, f2, f3⟩ := c_cor (tok := j + 1) (d := d - 1) (st := st) hV (e2.tk a1) (a5.k (e2 _ _ _ (by omega)) (e2 _ _ _ (by omega))) (a7.k (fun i => e2 _ _ _ (by omega))) (a8.k (fun i => e2 _ _ _ (by omega)) (fun i => e2 _ _ _ (by omega))) (by omega) (lp _ (by omega)) k1 p1 p5 (by omega) ((j : Int) + 1) (by omega)
    have big : ((x_CALL (d - 1) 22 [.inr (.inr (some (2, 0))), .inl 262] (x_S Z t)).bind fun q => x_EX (d - 1) 26 12 [some (.inr (.inr (some (2, 0)))), some (.inl ((j : Int)))] [.inl q.1] q.2) = some (1, x_S (x_u Z2 7 (1 - t) 10 (if q_ax V T ct (j + 1) < T 0 0 then (q_ax V T ct (j + 1) : Int) else -1)) t) := by
      refine e1.trans ?_
      show ((x_CALL (d - 1) 36 [.inr (.inr (some (2, 0))), .inl ((j : Int) + 1)] (x_S Z1 t)).bind fun q => x_EX (d - 1) 26 47 [some (.inr (.inr (some (2, 0)))), some (.inl ((j : Int)))] [.inl q.1, .inr (.inr (some (7, (1 - t))))] q.2) = _
      rw [f1, Option.bind_some, B26_47]
    have fr : ∀ g m i, ¬ (g = 2 ∧ 3 ≤ i ∧ i ≤ 6) → ¬ (g = 7 ∧ m = 1 - t ∧ i = 10) → (x_u Z2 7 (1 - t) 10 (if q_ax V T ct (j + 1) < T 0 0 then (q_ax V T ct (j + 1) : Int) else -1)) g m i = Z g m i := fun g m i q1 q2 => by rw [x_u_ne (by omega), f3 _ _ _ (by omega), e2 _ _ _ (by omega)]
    rw [big, h0, if_pos rfl]
    refine ⟨_, rfl, fun g m i a => fr g m i (by unfold cal at a; omega) (by unfold cal at a; omega), fun h => absurd rfl h, fun _ => ?_⟩
    have t1 : ∀ a b, ¬ (a = 10 ∧ b = 0) → T_hou V T ct j a b = T a b := fun a b h => by unfold T_hou; rw [tU_ne h]
    refine hJ.step (fun g m i q1 q2 q3 q4 => fr g m i (by omega) (by omega)) (by omega) hj4 hl ?_ ?_ ?_ ?_ ?_ ?_ (fun _ hs => ?_)
    · rw [x_u_ne (by omega), f3 _ _ _ (by omega)]; exact e3.2.2.1
    · rw [x_u_ne (by omega), f3 _ _ _ (by omega)]; exact e4
    · exact f2.k (x_u_ne (by omega)) (x_u_ne (by omega))
    · rw [fr _ _ _ (by omega) (by omega)]; exact a6
    · refine ⟨?_, ?_, ?_⟩
      · rw [fr _ _ _ (by omega) (by omega), t1 _ _ (by omega)]; exact a7.1
      · rw [fr _ _ _ (by omega) (by omega), t1 _ _ (by omega)]; exact a7.2.1
      · rw [fr _ _ _ (by omega) (by omega), t1 _ _ (by omega)]; exact a7.2.2
    · rw [t1 _ _ (by omega), t1 _ _ (by omega)]
      exact a8.k (fun i => fr _ _ _ (by omega) (by omega)) (fun i => fr _ _ _ (by omega) (by omega))
    · obtain ⟨w4, w5, w6⟩ := q_nt_0 (by decide) hs
      have w5' := of_decide_eq_false w5
      obtain ⟨r1, r2, r3, r4, r5⟩ := a10 0 w4
      refine ⟨fun k hk => ?_, fun c hc => ?_, fun l hl => ?_, fun m hm => ?_, fun c hc => ?_⟩
      · by_cases hk0 : k = 10
        · rw [hk0, x_u_eq, if_pos (by omega)]
          have : T_hou V T ct j 10 0 = q_ax V T ct (j + 1) := tU_eq
          rw [this]
        · rw [fr _ _ _ (by omega) (by omega), t1 _ _ (by omega)]; exact r1 k hk
      · rw [t1 _ _ (by omega)] at hc
        rw [fr _ _ _ (by omega) (by omega), t1 _ _ (by omega)]; exact r2 c hc
      · rw [t1 _ _ (by omega)] at hl
        rw [fr _ _ _ (by omega) (by omega), fr _ _ _ (by omega) (by omega), fr _ _ _ (by omega) (by omega), t1 _ _ (by omega), t1 _ _ (by omega), t1 _ _ (by omega)]; exact r3 l hl
      · rw [t1 _ _ (by omega)] at hm
        rw [fr _ _ _ (by omega) (by omega), fr _ _ _ (by omega) (by omega), t1 _ _ (by omega), t1 _ _ (by omega)]; exact r4 m hm
      · rw [fr _ _ _ (by omega) (by omega), t1 _ _ (by omega)]; exact r5 c hc
  · obtain ⟨Z1, e1, e2, e3, e4⟩ := hc.2 h0
    refine ⟨Z1, ?_, e2.kp, fun _ => ⟨e3, e4⟩, fun h => absurd h h0⟩
    rw [if_neg h0]; exact e1
def q_hi (m : Nat) : Int := if m = 0 then 99 else if m = 1 then 9 else 9999
def k_nbr (m : Nat) : List Int := [269 + (m : Int), 259, 59]
def s_nbr (P V : Nat → Int) (m j : Nat) (s : Nat × Int) : Nat × Int := q_nt (decide (V (j + 1) < 0 ∨ q_hi m < V (j + 1))) 5 (P (j + 1)) s
def T_nbr (V : Nat → Int) (T : PT) (m j : Nat) : PT := tU T (11 + m) 0 (V (j + 1)).toNat
theorem c_tnumber {Z : XZ} {K P V : Nat → Int} {t j n np d m : Nat} {s : Nat × Int} {T : PT} {ct st : Nat → Nat} {G : Nat → Option (BL × CL)} (hB : KB K V) (hm : m < 3) (hJ : JC Z K P V t j n np s T ct st G) (hd : 5 ≤ d) (ki : Int) (hki : ki = 269 + (m : Int)) : ∃ Z' : XZ, x_CALL d 29 [.inr (.inr (some (2, 0))), .inl ki] (x_S Z t) = some ((if (q_tk K (k_nbr m) j).1 = 0 then 1 else 0), x_S Z' t) ∧ KPc (1 - t) Z Z' ∧ (¬ (q_tk K (k_nbr m) j).1 = 0 → Z' 2 0 3 = ((q_tk K (k_nbr m) j).2 : Int) ∧ Z' 2 0 4 = ((q_tk K (k_nbr m) j).1 : Int)) ∧ ((q_tk K (k_nbr m) j).1 = 0 → JC Z' K P V t (j + 3) n np (s_nbr P V m j s) (T_nbr V T m j) ct st G) := by
  obtain ⟨a1, a2, a3, a4, a5, a6, a7, a8, a9, a10⟩ := hJ
  have hJ : JC Z K P V t j n np s T ct st G := ⟨a1, a2, a3, a4, a5, a6, a7, a8, a9, a10⟩
  have x3 := a2.2.2.1
  rw [C29 _ _ _ _ (by omega), x3]
  have hc := c_chain (d := d - 1) (u := 1 - t) (L := fun σ => if cn ki = 269 then ((x_CALL (d - 1) 35 [.inr (.inr (some (2, 0))), .inl ((j : Int) + 1), .inl 0, .inl 99] σ).bind fun q => x_EX (d - 1) 29 55 [some (.inr (.inr (some (2, 0)))), some (.inl ki), some (.inl ((j : Int)))] [.inl q.1, .inr (.inr (some (7, (1 - t))))] q.2) else (if cn ki = 270 then ((x_CALL (d - 1) 35 [.inr (.inr (some (2, 0))), .inl ((j : Int) + 1), .inl 0, .inl 9] σ).bind fun q => x_EX (d - 1) 29 82 [some (.inr (.inr (some (2, 0)))), some (.inl ki), some (.inl ((j : Int)))] [.inl q.1, .inr (.inr (some (7, (1 - t))))] q.2) else ((x_CALL (d - 1) 35 [.inr (.inr (some (2, 0))), .inl ((j : Int) + 1), .inl 0, .inl 9999] σ).bind fun q => x_EX (d - 1) 29 103 [some (.inr (.inr (some (2, 0)))), some (.inl ki), some (.inl ((j : Int)))] [.inl q.1, .inr (.inr (some (7, (1 - t))))] q.2))) hB (by omega) t [259, 59] ki (fun r σ => x_EX (d - 1) 29 10 [some (.inr (.inr (some (2, 0)))), some (.inl ki), some (.inl ((j : Int)))] [.inl r] σ) Z j n ⟨fun r σ => x_EX (d - 1) 29 20 [some (.inr (.inr (some (2, 0)))), some (.inl ki), some (.inl ((j : Int)))] [.inl r] σ, fun r Z => B29_10 _ _ _ _ _ _, fun r σ => x_EX (d - 1) 29 29 [some (.inr (.inr (some (2, 0)))), some (.inl ki), some (.inl ((j : Int)))] [.inl r] σ, fun r Z => B29_20 _ _ _ _ _ _, fun r Z => B29_29 _ _ _ _ _ _⟩ a1 a2 a4 (fun x hx => by
    rcases List.mem_cons.1 hx with y | y
    · omega
    · rcases List.mem_cons.1 y with z | z
      · omega
      · rw [List.mem_singleton] at z; omega)
  have hkk : k_nbr m = [ki, 259, 59] := by unfold k_nbr; rw [hki]
  rw [← hkk] at hc
  by_cases h0 : (q_tk K (k_nbr m) j).1 = 0
  · obtain ⟨Z1, e1, e2, e3, e4⟩ := hc.1 h0
    obtain ⟨l1, l2, l3⟩ := q_tk_len _ _ h0
    have l1' : (q_tk K (k_nbr m) j).2 = j + 3 := l1
    have k1 : K (j + 1) = 259 := l3 1 (show 1 < 3 by decide)
    have hj4 : j + 3 ≤ 400 := l2 (by rw [hkk]; simp)
    rw [l1'] at e3
    have hl := e3.2.1
    have lp : ∀ m, m ≤ j + 3 → LK K 0 m := fun m hm i a b => hl i a (by omega)
    have hhi : 0 ≤ q_hi m ∧ q_hi m ≤ 9999 := by unfold q_hi; split <;> (try split) <;> omega
    obtain ⟨Z2, f1, f2, f3⟩ := c_num (tok := j + 1) (d := d - 1) hB (e2.tk a1) (a5.k (e2 _ _ _ (by omega)) (e2 _ _ _ (by omega))) (by omega) (lp _ (by omega)) k1 (by omega) t ((j : Int) + 1) 0 (q_hi m) (by omega) (by omega) hhi
    have big : ((x_CALL (d - 1) 22 [.inr (.inr (some (2, 0))), .inl ki] (x_S Z t)).bind fun q => x_EX (d - 1) 29 10 [some (.inr (.inr (some (2, 0)))), some (.inl ki), some (.inl ((j : Int)))] [.inl q.1] q.2) = some (1, x_S (x_u Z2 7 (1 - t) (11 + m) (V (j + 1))) t) := by
      refine e1.trans ?_
      have hm3 : m = 0 ∨ m = 1 ∨ m = 2 := by omega
      rcases hm3 with h | h | h
      · subst h
        rw [hki]
        show (if cn 269 = 269 then ((x_CALL (d - 1) 35 [.inr (.inr (some (2, 0))), .inl ((j : Int) + 1), .inl 0, .inl 99] (x_S Z1 t)).bind fun q => x_EX (d - 1) 29 55 [some (.inr (.inr (some (2, 0)))), some (.inl 269), some (.inl ((j : Int)))] [.inl q.1, .inr (.inr (some (7, (1 - t))))] q.2) else _) = _
        rw [if_pos (by decide), show (99 : Int) = q_hi 0 from rfl, f1, Option.bind_some, B29_55]
      · subst h
        rw [hki]
        show (if cn 270 = 269 then _ else (if cn 270 = 270 then ((x_CALL (d - 1) 35 [.inr (.inr (some (2, 0))), .inl ((j : Int) + 1), .inl 0, .inl 9] (x_S Z1 t)).bind fun q => x_EX (d - 1) 29 82 [some (.inr (.inr (some (2, 0)))), some (.inl 270), some (.inl ((j : Int)))] [.inl q.1, .inr (.inr (some (7, (1 - t))))] q.2) else _)) = _
        rw [if_neg (by decide), if_pos (by decide), show (9 : Int) = q_hi 1 from rfl, f1, Option.bind_some, B29_82]
      · subst h
        rw [hki]
        show (if cn 271 = 269 then _ else (if cn 271 = 270 then _ else ((x_CALL (d - 1) 35 [.inr (.inr (some (2, 0))), .inl ((j : Int) + 1), .inl 0, .inl 9999] (x_S Z1 t)).bind fun q => x_EX (d - 1) 29 103 [some (.inr (.inr (some (2, 0)))), some (.inl 271), some (.inl ((j : Int)))] [.inl q.1, .inr (.inr (some (7, (1 - t))))] q.2))) = _
        rw [if_neg (by decide), if_neg (by decide), show (9999 : Int) = q_hi 2 from rfl, f1, Option.bind_some, B29_103]
    have fr : ∀ g m' i, ¬ (g = 2 ∧ 3 ≤ i ∧ i ≤ 6) → ¬ (g = 7 ∧ m' = 1 - t ∧ i = 11 + m) → (x_u Z2 7 (1 - t) (11 + m) (V (j + 1))) g m' i = Z g m' i := fun g m' i q1 q2 => by rw [x_u_ne (by omega), f3 _ _ _ (by omega), e2 _ _ _ (by omega)]
    rw [big, h0, if_pos rfl]
    refine ⟨_, rfl, fun g m' i a => fr g m' i (by unfold cal at a; omega) (by unfold cal at a; omega), fun h => absurd rfl h, fun _ => ?_⟩
    have t1 : ∀ a b, ¬ (a = 11 + m ∧ b = 0) → T_nbr V T m j a b = T a b := fun a b h => by unfold T_nbr; rw [tU_ne h]
    refine hJ.step (fun g m' i q1 q2 q3 q4 => fr g m' i (by omega) (by omega)) (by omega) hj4 hl ?_ ?_ ?_ ?_ ?_ ?_ (fun _ hs => ?_)
    · rw [x_u_ne (by omega), f3 _ _ _ (by omega)]; exact e3.2.2.1
    · rw [x_u_ne (by omega), f3 _ _ _ (by omega)]; exact e4
    · exact f2.k (x_u_ne (by omega)) (x_u_ne (by omega))
    · rw [fr _ _ _ (by omega) (by omega)]; exact a6
    · refine ⟨?_, ?_, ?_⟩
      · rw [fr _ _ _ (by omega) (by omega), t1 _ _ (by omega)]; exact a7.1
      · rw [fr _ _ _ (by omega) (by omega), t1 _ _ (by omega)]; exact a7.2.1
      · rw [fr _ _ _ (by omega) (by omega), t1 _ _ (by omega)]; exact a7.2.2
    · rw [t1 _ _ (by omega), t1 _ _ (by omega)]
      exact a8.k (fun i => fr _ _ _ (by omega) (by omega)) (fun i => fr _ _ _ (by omega) (by omega))
    · obtain ⟨w4, w5, w6⟩ := q_nt_0 (by decide) hs
      have w5' := of_decide_eq_false w5
      obtain ⟨r1, r2, r3, r4, r5⟩ := a10 0 w4
      refine ⟨fun k hk => ?_, fun c hc => ?_, fun l hl => ?_, fun m' hm => ?_, fun c hc => ?_⟩
      · by_cases hk0 : k = 11 + m
        · rw [hk0, x_u_eq]
          have : T_nbr V T m j (11 + m) 0 = (V (j + 1)).toNat := tU_eq
          rw [this]; omega
        · rw [fr _ _ _ (by omega) (by omega), t1 _ _ (by omega)]; exact r1 k hk
      · rw [t1 _ _ (by omega)] at hc
        rw [fr _ _ _ (by omega) (by omega), t1 _ _ (by omega)]; exact r2 c hc
      · rw [t1 _ _ (by omega)] at hl
        rw [fr _ _ _ (by omega) (by omega), fr _ _ _ (by omega) (by omega), fr _ _ _ (by omega) (by omega), t1 _ _ (by omega), t1 _ _ (by omega), t1 _ _ (by omega)]; exact r3 l hl
      · rw [t1 _ _ (by omega)] at hm
        rw [fr _ _ _ (by omega) (by omega), fr _ _ _ (by omega) (by omega), t1 _ _ (by omega), t1 _ _ (by omega)]; exact r4 m' hm
      · rw [fr _ _ _ (by omega) (by omega), t1 _ _ (by omega)]; exact r5 c hc
  · obtain ⟨Z1, e1, e2, e3, e4⟩ := hc.2 h0
    refine ⟨Z1, ?_, e2.kp, fun _ => ⟨e3, e4⟩, fun h => absurd h h0⟩
    rw [if_neg h0]; exact e1
def s_pos (P V : Nat → Int) (T : PT) (ct : Nat → Nat) (j : Nat) (s : Nat × Int) : Nat × Int := q_nt (decide (V (j + 2) < 0 ∨ 9 < V (j + 2))) 5 (P (j + 2)) (q_nt (decide (¬ q_ax V T ct (j + 1) < T 0 0)) 4 (P (j + 1)) s)
def T_pos (V : Nat → Int) (T : PT) (ct : Nat → Nat) (j : Nat) : PT := tU T 9 (q_ax V T ct (j + 1)) ((V (j + 2)).toNat + 1)
theorem c_tpost {Z : XZ} {K P V : Nat → Int} {t j n np d : Nat} {s : Nat × Int} {T : PT} {ct st : Nat → Nat} {G : Nat → Option (BL × CL)} (hB : KB K V) (hV : VN K V) (hJ : JC Z K P V t j n np s T ct st G) (hp : JPu K P j np s T ct st) (hd : 5 ≤ d) : ∃ Z' : XZ, x_CALL d 27 [.inr (.inr (some (2, 0)))] (x_S Z t) = some ((if (q_rm K np 7 k_pos j).1 = 0 then 1 else 0), x_S Z' t) ∧ KPc (1 - t) Z Z' ∧ (¬ (q_rm K np 7 k_pos j).1 = 0 → Z' 2 0 3 = ((q_rm K np 7 k_pos j).2 : Int) ∧ Z' 2 0 4 = ((q_rm K np 7 k_pos j).1 : Int)) ∧ ((q_rm K np 7 k_pos j).1 = 0 → JC Z' K P V t (j + 4) n (np + 1) (s_pos P V T ct j s) (T_pos V T ct j) ct st G) := by
  obtain ⟨a1, a2, a3, a4, a5, a6, a7, a8, a9, a10⟩ := hJ
  have hJ : JC Z K P V t j n np s T ct st G := ⟨a1, a2, a3, a4, a5, a6, a7, a8, a9, a10⟩
  obtain ⟨p1, p2, p3, p4, p5, p6, p7, p8⟩ := hp
  have x3 := a2.2.2.1
  rw [C27 _ _ _ (by omega), a6, cn_nt (z := (np : Int)) rfl (by omega), x3]
  unfold q_rm
  by_cases hr : 7 ≤ np
  · rw [if_neg (by omega), if_pos hr, C23 _ _ _ (by omega), Option.bind_some, B27_18, if_pos (.inl rfl)]
    exact ⟨_, rfl, fun g m i a => x_u_ne (by unfold cal at a; omega), fun _ => ⟨by rw [x_u_ne (by omega)]; exact x3, x_u_eq⟩, fun h => absurd h (by simp)⟩
  · rw [if_pos (by omega), if_neg hr]
    have hc := c_chain (d := d - 1) (u := 1 - t) (L := fun σ => (x_CALL (d - 1) 36 [.inr (.inr (some (2, 0))), .inl ((j : Int) + 1)] σ).bind fun q => x_EX (d - 1) 27 67 [some (.inr (.inr (some (2, 0)))), some (.inl ((j : Int))), none, none] [.inl q.1] q.2) hB (by omega) t [258, 259, 59] 263 (fun r σ => x_EX (d - 1) 27 26 [some (.inr (.inr (some (2, 0)))), some (.inl ((j : Int))), none, none] [.inl r] σ) Z j n ⟨fun r σ => x_EX (d - 1) 27 36 [some (.inr (.inr (some (2, 0)))), some (.inl ((j : Int))), none, none] [.inl r] σ, fun r Z => B27_26 _ _ _ _ _ _ _, fun r σ => x_EX (d - 1) 27 46 [some (.inr (.inr (some (2, 0)))), some (.inl ((j : Int))), none, none] [.inl r] σ, fun r Z => B27_36 _ _ _ _ _ _ _, fun r σ => x_EX (d - 1) 27 55 [some (.inr (.inr (some (2, 0)))), some (.inl ((j : Int))), none, none] [.inl r] σ, fun r Z => B27_46 _ _ _ _ _ _ _, fun r Z => B27_55 _ _ _ _ _ _ _⟩ a1 a2 a4 (by decide)
    by_cases h0 : (q_tk K k_pos j).1 = 0
    · obtain ⟨Z1, e1, e2, e3, e4⟩ := hc.1 h0
      obtain ⟨l1, l2, l3⟩ := q_tk_len _ _ h0
      have l1' : (q_tk K [263, 258, 259, 59] j).2 = j + 4 := l1
      have k1 : K (j + 1) = 258 := l3 1 (by decide)
      have k2 : K (j + 2) = 259 := l3 2 (by decide)
      have hj4 : j + 4 ≤ 400 := l2 (by decide)
      rw [l1'] at e3
      have hl := e3.2.1
      have lp : ∀ m, m ≤ j + 4 → LK K 0 m := fun m hm i a b => hl i a (by omega)
      obtain ⟨Z2, f1, f2, f3⟩ := c_cor (tok := j + 1) (d := d - 1) (st := st) hV (e2.tk a1) (a5.k (e2 _ _ _ (by omega)) (e2 _ _ _ (by omega))) (a7.k (fun i => e2 _ _ _ (by omega))) (a8.k (fun i => e2 _ _ _ (by omega)) (fun i => e2 _ _ _ (by omega))) (by omega) (lp _ (by omega)) k1 p1 p5 (by omega) ((j : Int) + 1) (by omega)
      obtain ⟨Z4, g1, g2, g3⟩ := c_num (tok := j + 2) (d := d - 1) hB (f3.tk (e2.tk a1)) f2 (by omega) (lp _ (by omega)) k2 (by omega) t ((j : Int) + 2) 0 9 (by omega) (by omega) (by omega)
      have z29 : Z4 2 0 9 = (np : Int) := by rw [g3 _ _ _ (by omega), f3 _ _ _ (by omega), e2 _ _ _ (by omega)]; exact a6
      have big : ∃ Z5 : XZ, ((x_CALL (d - 1) 22 [.inr (.inr (some (2, 0))), .inl 263] (x_S Z t)).bind fun q => x_EX (d - 1) 27 26 [some (.inr (.inr (some (2, 0)))), some (.inl ((j : Int))), none, none] [.inl q.1] q.2) = some (1, x_S Z5 t) ∧ Z5 2 0 9 = ((np + 1 : Nat) : Int) ∧ (q_ax V T ct (j + 1) < T 0 0 → Z5 14 (1 - t) (q_ax V T ct (j + 1)) = V (j + 2)) ∧ (∀ g m i, ¬ (g = 2 ∧ i = 9) → ¬ (g = 14 ∧ m = 1 - t ∧ i = q_ax V T ct (j + 1)) → Z5 g m i = Z4 g m i) := by
        rw [show ((x_CALL (d - 1) 22 [.inr (.inr (some (2, 0))), .inl 263] (x_S Z t)).bind fun q => x_EX (d - 1) 27 26 [some (.inr (.inr (some (2, 0)))), some (.inl ((j : Int))), none, none] [.inl q.1] q.2) = ((x_CALL (d - 1) 36 [.inr (.inr (some (2, 0))), .inl ((j : Int) + 1)] (x_S Z1 t)).bind fun q => x_EX (d - 1) 27 67 [some (.inr (.inr (some (2, 0)))), some (.inl ((j : Int))), none, none] [.inl q.1] q.2) from e1, f1, Option.bind_some, B27_67, g1, Option.bind_some, B27_78]
        by_cases hq : q_ax V T ct (j + 1) < T 0 0
        · rw [if_pos hq, cn_nt (z := (q_ax V T ct (j + 1) : Int)) rfl (by omega), if_neg (by omega), if_pos (by omega), Int.toNat_natCast, z29]
          exact ⟨_, rfl, by rw [x_u_eq]; omega, fun _ => by rw [x_u_ne (by omega), x_u_eq], fun g m i q1 q2 => by rw [x_u_ne (by omega), x_u_ne (by omega)]⟩
        · rw [if_neg hq, if_pos (show cn (-1) = -1 by decide), z29]
          exact ⟨_, rfl, by rw [x_u_eq]; omega, fun h => absurd h hq, fun g m i q1 q2 => x_u_ne (by omega)⟩
      obtain ⟨Z5, i1, i2, i3, i4⟩ := big
      have i3' : ∀ _ : Nat, q_ax V T ct (j + 1) < T 0 0 → Z5 14 (1 - t) (q_ax V T ct (j + 1)) = V (j + 2) := fun _ => i3
      clear i3
      have fr : ∀ g m i, ¬ (g = 2 ∧ 3 ≤ i) → ¬ (g = 14 ∧ m = 1 - t ∧ i = q_ax V T ct (j + 1)) → Z5 g m i = Z g m i := fun g m i q1 q2 => by rw [i4 _ _ _ (by omega) (by omega), g3 _ _ _ (by omega), f3 _ _ _ (by omega), e2 _ _ _ (by omega)]
      rw [i1, show (q_tk K k_pos j).1 = 0 from h0, if_pos rfl]
      refine ⟨Z5, rfl, fun g m i a => fr g m i (by unfold cal at a; omega) (by unfold cal at a; omega), fun h => absurd rfl h, fun _ => ?_⟩
      have t1 : ∀ a b, ¬ (a = 9 ∧ b = q_ax V T ct (j + 1)) → T_pos V T ct j a b = T a b := fun a b h => by unfold T_pos; rw [tU_ne h]
      refine hJ.step (fun g m i q1 q2 q3 q4 => fr g m i (by omega) (by omega)) (by omega) hj4 hl ?_ ?_ ?_ i2 ?_ ?_ (fun _ hs => ?_)
      · rw [i4 _ _ _ (by omega) (by omega), g3 _ _ _ (by omega), f3 _ _ _ (by omega)]; exact e3.2.2.1
      · rw [i4 _ _ _ (by omega) (by omega), g3 _ _ _ (by omega), f3 _ _ _ (by omega)]; exact e4
      · exact g2.k (i4 _ _ _ (by omega) (by omega)) (i4 _ _ _ (by omega) (by omega))
      · refine ⟨?_, ?_, ?_⟩
        · rw [fr _ _ _ (by omega) (by omega), t1 _ _ (by omega)]; exact a7.1
        · rw [fr _ _ _ (by omega) (by omega), t1 _ _ (by omega)]; exact a7.2.1
        · rw [fr _ _ _ (by omega) (by omega), t1 _ _ (by omega)]; exact a7.2.2
      · rw [t1 _ _ (by omega), t1 _ _ (by omega)]
        exact a8.k (fun i => fr _ _ _ (by omega) (by omega)) (fun i => fr _ _ _ (by omega) (by omega))
      · obtain ⟨w1, w2, w3⟩ := q_nt_0 (by decide) hs
        obtain ⟨w4, w5, w6⟩ := q_nt_0 (by decide) w1
        have w2' := of_decide_eq_false w2
        have w5' := of_decide_eq_false w5
        obtain ⟨r1, r2, r3, r4, r5⟩ := a10 0 w4
        refine ⟨fun k hk => ?_, fun c hc => ?_, fun l hl => ?_, fun m hm => ?_, fun c hc => ?_⟩
        · rw [fr _ _ _ (by omega) (by omega), t1 _ _ (by omega)]; exact r1 k hk
        · rw [t1 _ _ (by omega)] at hc
          rw [fr _ _ _ (by omega) (by omega), t1 _ _ (by omega)]; exact r2 c hc
        · rw [t1 _ _ (by omega)] at hl
          rw [fr _ _ _ (by omega) (by omega), fr _ _ _ (by omega) (by omega), fr _ _ _ (by omega) (by omega), t1 _ _ (by omega), t1 _ _ (by omega), t1 _ _ (by omega)]; exact r3 l hl
        · rw [t1 _ _ (by omega)] at hm
          rw [fr _ _ _ (by omega) (by omega), fr _ _ _ (by omega) (by omega), t1 _ _ (by omega), t1 _ _ (by omega)]; exact r4 m hm
        · by_cases hc0 : c = q_ax V T ct (j + 1)
          · rw [hc0, i3' 0 (by omega)]
            have : T_pos V T ct j 9 (q_ax V T ct (j + 1)) = (V (j + 2)).toNat + 1 := tU_eq
            rw [this]; omega
          · rw [fr _ _ _ (by omega) (by omega), t1 _ _ (by omega)]; exact r5 c hc
    · obtain ⟨Z1, e1, e2, e3, e4⟩ := hc.2 h0
      refine ⟨Z1, ?_, e2.kp, fun _ => ⟨e3, e4⟩, fun h => absurd h h0⟩
      rw [if_neg h0]; exact e1
