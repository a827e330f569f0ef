/-! tells: the class reads each kind -/
def q_rm (K : Nat → Int) (has most : Nat) (ks : List Int) (j : Nat) : Nat × Nat := if most ≤ has then (2, j) else q_tk K ks j
def KQ (u : Nat) (Z Z' : XZ) : Prop := ∀ g m i, g ≠ 2 → g ≠ 26 → g ≠ 27 → ¬ (m = u ∧ 7 ≤ g ∧ g ≤ 14) → Z' g m i = Z g m i
theorem JC.step {Z Z' : XZ} {K P V : Nat → Int} {t j n np : Nat} {s : Nat × Int} {T : PT} {ct st : Nat → Nat} {G : Nat → Option (BL × CL)} (hJ : JC Z K P V t j n np s T ct st G) {j' np' : Nat} {s' : Nat × Int} {T' : PT} {ct' st' : Nat → Nat} (hk : KQ (1 - t) Z Z') (hj : j ≤ j') (hj4 : j' ≤ 400) (hl : LK K 0 j') (h3 : Z' 2 0 3 = (j' : Int)) (h4 : Z' 2 0 4 = 1) (hS : CSo Z' s') (h9 : Z' 2 0 9 = (np' : Int)) (hC : RC Z' (1 - t) T') (hN : JCn Z' V (T' 0 0) (T' 2 0) ct' st') (hR : ∀ _ : Nat, s'.1 = 0 → RT Z' (1 - t) T') : JC Z' K P V t j' n np' s' T' ct' st' G := by
  obtain ⟨a1, ⟨x1, x2, x3, x4, x5⟩, a3, a4, a5, a6, a7, a8, a9, a10⟩ := hJ
  exact ⟨a1.congr (fun g i a b => hk _ _ _ (by omega) (by omega) (by omega) (by omega)), ⟨hj4, hl, h3, by rw [hk _ _ _ (by omega) (by omega) (by omega) (by omega)]; exact x4, x5⟩, by omega, h4, hS, h9, hC, hN, a9.congr (fun i => hk _ _ _ (by omega) (by omega) (by omega) (by omega)) (fun i => ⟨hk _ _ _ (by omega) (by omega) (by omega) (by omega), hk _ _ _ (by omega) (by omega) (by omega) (by omega)⟩), hR⟩
theorem RC.k {Z Z' : XZ} {u : Nat} {T : PT} (h : RC Z u T) (hk : ∀ i, Z' 7 u i = Z 7 u i) : RC Z' u T := by unfold RC; rw [hk, hk, hk]; exact h
theorem JCn.k {Z Z' : XZ} {V : Nat → Int} {a b : Nat} {ct st : Nat → Nat} (h : JCn Z V a b ct st) (h6 : ∀ i, Z' 26 0 i = Z 26 0 i) (h7 : ∀ i, Z' 27 0 i = Z 27 0 i) : JCn Z' V a b ct st := ⟨fun i hi => by rw [h6]; exact h.1 i hi, fun i hi => by rw [h7]; exact h.2 i hi⟩
theorem kinds_ok {ks : List Int} (h : ∀ x, x ∈ ks → 40 ≤ x ∧ x < 1000 ∧ x ≠ 256 ∧ x ≠ 257) : ∀ x, x ∈ ks → 0 ≤ x ∧ x < 1000 ∧ x ≠ 256 ∧ x ≠ 257 := fun x hx => by have := h x hx; omega
def k_cor : List Int := [260, 258, 259, 59]
def k_lan : List Int := [261, 258, 258, 259, 59]
def k_hou : List Int := [262, 258, 59]
def k_pos : List Int := [263, 258, 259, 59]
def k_see : List Int := [264, 258, 259, 258, 59]
def s_cor (P V : Nat → Int) (T : PT) (ct st : Nat → Nat) (j : Nat) (s : Nat × Int) : Nat × Int := q_nt (decide (V (j + 2) < 0 ∨ 9 < V (j + 2))) 5 (P (j + 2)) (q_nt (q_dup V T ct st (j + 1)) 3 (P (j + 1)) s)
def T_cor (V : Nat → Int) (T : PT) (j : Nat) : PT := tU (tU T 3 (T 0 0) (V (j + 2)).toNat) 0 0 (T 0 0 + 1)
def q_ext (f : Nat → Nat) (a x : Nat) : Nat → Nat := fun i => if i = a then x else f i
theorem c_tcorner {Z : XZ} {K P V : Nat → Int} {t j n np d : Nat} {s : Nat × Int} {T : PT} {ct st : Nat → Nat} {G : Nat → Option (BL × CL)} (hB : KB K V) (hV : VN K V) (hJ : JC Z K P V t j n np s T ct st G) (hp : JPu K P j np s T ct st) (hd : 5 ≤ d) : ∃ Z' : XZ, x_CALL d 24 [.inr (.inr (some (2, 0)))] (x_S Z t) = some ((if (q_rm K (T 0 0) 7 k_cor j).1 = 0 then 1 else 0), x_S Z' t) ∧ KPc (1 - t) Z Z' ∧ (¬ (q_rm K (T 0 0) 7 k_cor j).1 = 0 → Z' 2 0 3 = ((q_rm K (T 0 0) 7 k_cor j).2 : Int) ∧ Z' 2 0 4 = ((q_rm K (T 0 0) 7 k_cor j).1 : Int)) ∧ ((q_rm K (T 0 0) 7 k_cor j).1 = 0 → JC Z' K P V t (j + 4) n np (s_cor P V T ct st j s) (T_cor V T j) (q_ext ct (T 0 0) (j + 1)) st G) := by
  obtain ⟨a1, a2, a3, a4, a5, a6, a7, a8, a9, a10⟩ := hJ
  have hJ : JC Z K P V t j n np s T ct st G := ⟨a1, a2, a3, a4, a5, a6, a7, a8, a9, a10⟩
  obtain ⟨p1, p2, p3, p4, p5, p6, p7, p8⟩ := hp
  have x3 := a2.2.2.1
  have c0 := a7.1
  rw [C24 _ _ _ (by omega), c0, cn_nt (z := (T 0 0 : Int)) rfl (by omega), x3]
  unfold q_rm
  by_cases hr : 7 ≤ T 0 0
  · rw [if_neg (by omega), if_pos hr, C23 _ _ _ (by omega), Option.bind_some, B24_23, if_pos (.inl rfl)]
    exact ⟨_, rfl, fun g m i a => x_u_ne (by unfold cal at a; omega), fun _ => ⟨by rw [x_u_ne (by omega)]; exact x3, x_u_eq⟩, fun h => absurd h (by simp)⟩
  · rw [if_pos (by omega), if_neg hr]
    have hc := c_chain (d := d - 1) (u := 1 - t) (L := fun σ => (x_CALL (d - 1) 37 [.inr (.inr (some (2, 0))), .inl ((j : Int) + 1)] σ).bind fun q => x_EX (d - 1) 24 72 [some (.inr (.inr (some (2, 0)))), some (.inl ((j : Int))), some (.inl ((T 0 0 : Int)))] [] q.2) hB (by omega) t [258, 259, 59] 260 (fun r σ => x_EX (d - 1) 24 31 [some (.inr (.inr (some (2, 0)))), some (.inl ((j : Int))), some (.inl ((T 0 0 : Int)))] [.inl r] σ) Z j n ⟨fun r σ => x_EX (d - 1) 24 41 [some (.inr (.inr (some (2, 0)))), some (.inl ((j : Int))), some (.inl ((T 0 0 : Int)))] [.inl r] σ, fun r Z => B24_31 _ _ _ _ _ _, fun r σ => x_EX (d - 1) 24 51 [some (.inr (.inr (some (2, 0)))), some (.inl ((j : Int))), some (.inl ((T 0 0 : Int)))] [.inl r] σ, fun r Z => B24_41 _ _ _ _ _ _, fun r σ => x_EX (d - 1) 24 60 [some (.inr (.inr (some (2, 0)))), some (.inl ((j : Int))), some (.inl ((T 0 0 : Int)))] [.inl r] σ, fun r Z => B24_51 _ _ _ _ _ _, fun r Z => B24_60 _ _ _ _ _ _⟩ a1 a2 a4 (by decide)
    by_cases h0 : (q_tk K k_cor j).1 = 0
    · obtain ⟨Z1, e1, e2, e3, e4⟩ := hc.1 h0
      obtain ⟨l1, l2, l3⟩ := q_tk_len _ _ h0
      have l1' : (q_tk K [260, 258, 259, 59] j).2 = j + 4 := l1
      have k1 : K (j + 1) = 258 := l3 1 (by decide)
      have k2 : K (j + 2) = 259 := l3 2 (by decide)
      have hj4 : j + 4 ≤ 400 := l2 (by decide)
      rw [l1'] at e3
      have hl := e3.2.1
      have lp : ∀ m, m ≤ j + 4 → LK K 0 m := fun m hm i a b => hl i a (by omega)
      obtain ⟨Z2, f1, f2, f3⟩ := c_new (tok := j + 1) (d := d - 1) hV (e2.tk a1) ⟨by rw [e2 _ _ _ (by omega)]; exact a5.1, by rw [e2 _ _ _ (by omega)]; exact a5.2.1, a5.2.2⟩ (a7.k (fun i => e2 _ _ _ (by omega))) (a8.k (fun i => e2 _ _ _ (by omega)) (fun i => e2 _ _ _ (by omega))) (by omega) (lp _ (by omega)) k1 p1 p3 p5 p6 (by omega) ((j : Int) + 1) (by omega)
      have hT2 := f3.tk (e2.tk a1)
      have v1 := (hT2 (j + 1) (by omega) (lp _ (by omega))).2.2 (by omega)
      have kz3 : KN (x_u Z2 26 0 (T 0 0) (V (j + 1))) (x_u Z2 26 0 (T 0 0) (V (j + 1))) := KN.rfl'
      have hT3 : TKc (x_u Z2 26 0 (T 0 0) (V (j + 1))) K P V := hT2.congr (fun g i a b => x_u_ne (by omega))
      obtain ⟨Z4, g1, g2, g3⟩ := c_num (tok := j + 2) (d := d - 1) hB hT3 ⟨by rw [x_u_ne (by omega)]; exact f2.1, by rw [x_u_ne (by omega)]; exact f2.2.1, f2.2.2⟩ (by omega) (lp _ (by omega)) k2 (by omega) t ((j : Int) + 2) 0 9 (by omega) (by omega) (by omega)
      have z70 : Z4 7 (1 - t) 0 = (T 0 0 : Int) := by rw [g3 _ _ _ (by omega), x_u_ne (by omega), f3 _ _ _ (by omega), e2 _ _ _ (by omega)]; exact c0
      rw [show (j : Int) + 2 = ((j + 2 : Nat) : Int) by omega] at g1
      have big : ((x_CALL (d - 1) 22 [.inr (.inr (some (2, 0))), .inl 260] (x_S Z t)).bind fun q => x_EX (d - 1) 24 31 [some (.inr (.inr (some (2, 0)))), some (.inl ((j : Int))), some (.inl ((T 0 0 : Int)))] [.inl q.1] q.2) = some (1, x_S (x_u (x_u Z4 8 (1 - t) (T 0 0) (V (j + 2))) 7 (1 - t) 0 ((T 0 0 : Int) + 1)) t) := by
        refine e1.trans ?_
        show ((x_CALL (d - 1) 37 [.inr (.inr (some (2, 0))), .inl ((j : Int) + 1)] (x_S Z1 t)).bind fun q => x_EX (d - 1) 24 72 [some (.inr (.inr (some (2, 0)))), some (.inl ((j : Int))), some (.inl ((T 0 0 : Int)))] [] q.2) = _
        rw [f1, Option.bind_some, B24_72, cn_nt (z := (j : Int) + 1) (n := j + 1) (by omega) (by omega), if_pos (by omega), cn_nt (z := (T 0 0 : Int)) rfl (by omega), if_pos (by omega), Int.toNat_natCast, Int.toNat_natCast, v1, show (j : Int) + 2 = ((j + 2 : Nat) : Int) by omega, g1, Option.bind_some, B24_107, cn_nt (z := (T 0 0 : Int)) rfl (by omega), if_pos (by omega), Int.toNat_natCast, z70]
      rw [big, show (q_tk K k_cor j).1 = 0 from h0, if_pos rfl]
      refine ⟨_, rfl, ?_, fun h => absurd rfl h, fun _ => ?_⟩
      · intro g m i a
        unfold cal at a
        rw [x_u_ne (by omega), x_u_ne (by omega), g3 _ _ _ (by omega), x_u_ne (by omega), f3 _ _ _ (by omega), e2 _ _ _ (by omega)]
      · have t0 : T_cor V T j 0 0 = T 0 0 + 1 := tU_eq
        have t1 : ∀ a b, ¬ (a = 0 ∧ b = 0) → ¬ (a = 3 ∧ b = T 0 0) → T_cor V T j a b = T a b := fun a b h h' => by unfold T_cor; rw [tU_ne h, tU_ne h']
        refine hJ.step (fun g m i q1 q2 q3 q4 => ?_) (by omega) hj4 hl ?_ ?_ ?_ ?_ ?_ ?_ (fun _ hs => ?_)
        · rw [x_u_ne (by omega), x_u_ne (by omega), g3 _ _ _ (by omega), x_u_ne (by omega), f3 _ _ _ (by omega), e2 _ _ _ (by omega)]
        · rw [x_u_ne (by omega), x_u_ne (by omega), g3 _ _ _ (by omega), x_u_ne (by omega), f3 _ _ _ (by omega)]; exact e3.2.2.1
        · rw [x_u_ne (by omega), x_u_ne (by omega), g3 _ _ _ (by omega), x_u_ne (by omega), f3 _ _ _ (by omega)]; exact e4
        · exact ⟨by rw [x_u_ne (by omega), x_u_ne (by omega)]; exact g2.1, by rw [x_u_ne (by omega), x_u_ne (by omega)]; exact g2.2.1, g2.2.2⟩
        · rw [x_u_ne (by omega), x_u_ne (by omega), g3 _ _ _ (by omega), x_u_ne (by omega), f3 _ _ _ (by omega), e2 _ _ _ (by omega)]; exact a6
        · refine ⟨by rw [x_u_eq, t0]; omega, ?_, ?_⟩
          · rw [x_u_ne (by omega), x_u_ne (by omega), g3 _ _ _ (by omega), x_u_ne (by omega), f3 _ _ _ (by omega), e2 _ _ _ (by omega), t1 _ _ (by omega) (by omega)]; exact a7.2.1
          · rw [x_u_ne (by omega), x_u_ne (by omega), g3 _ _ _ (by omega), x_u_ne (by omega), f3 _ _ _ (by omega), e2 _ _ _ (by omega), t1 _ _ (by omega) (by omega)]; exact a7.2.2
        · rw [t0, t1 2 0 (by omega) (by omega)]
          refine ⟨fun i hi => ?_, fun i hi => ?_⟩
          · rw [x_u_ne (by omega), x_u_ne (by omega), g3 _ _ _ (by omega)]
            unfold q_ext
            by_cases hi' : i = T 0 0
            · rw [if_pos hi', hi', x_u_eq]
            · rw [if_neg hi', x_u_ne (by omega), f3 _ _ _ (by omega), e2 _ _ _ (by omega)]; exact a8.1 i (by omega)
          · rw [x_u_ne (by omega), x_u_ne (by omega), g3 _ _ _ (by omega), x_u_ne (by omega), f3 _ _ _ (by omega), e2 _ _ _ (by omega)]; exact a8.2 i hi
        · obtain ⟨w1, w2, w3⟩ := q_nt_0 (by decide) hs
          obtain ⟨w4, w5, w6⟩ := q_nt_0 (by decide) w1
          have w2' := of_decide_eq_false w2
          obtain ⟨r1, r2, r3, r4, r5⟩ := a10 0 w4
          refine ⟨fun k hk => ?_, fun c hc => ?_, fun l hl => ?_, fun m hm => ?_, fun c hc => ?_⟩
          · by_cases hk0 : k = 0
            · rw [hk0, x_u_eq, t0]; omega
            · rw [x_u_ne (by omega), x_u_ne (by omega), g3 _ _ _ (by omega), x_u_ne (by omega), f3 _ _ _ (by omega), e2 _ _ _ (by omega), t1 _ _ (by omega) (by omega)]; exact r1 k hk
          · rw [t0] at hc
            rw [x_u_ne (by omega)]
            by_cases hc0 : c = T 0 0
            · rw [hc0, x_u_eq]
              have : T_cor V T j 3 (T 0 0) = (V (j + 2)).toNat := by unfold T_cor; rw [tU_ne (by omega), tU_eq]
              rw [this]; omega
            · rw [x_u_ne (by omega), g3 _ _ _ (by omega), x_u_ne (by omega), f3 _ _ _ (by omega), e2 _ _ _ (by omega), t1 _ _ (by omega) (by omega)]; exact r2 c (by omega)
          · rw [t1 1 0 (by omega) (by omega)] at hl
            rw [x_u_ne (by omega), x_u_ne (by omega), g3 _ _ _ (by omega), x_u_ne (by omega), f3 _ _ _ (by omega), e2 _ _ _ (by omega), x_u_ne (by omega), x_u_ne (by omega), g3 _ _ _ (by omega), x_u_ne (by omega), f3 _ _ _ (by omega), e2 _ _ _ (by omega), x_u_ne (by omega), x_u_ne (by omega), g3 _ _ _ (by omega), x_u_ne (by omega), f3 _ _ _ (by omega), e2 _ _ _ (by omega), t1 _ _ (by omega) (by omega), t1 _ _ (by omega) (by omega), t1 _ _ (by omega) (by omega)]; exact r3 l hl
          · rw [t1 2 0 (by omega) (by omega)] at hm
            rw [x_u_ne (by omega), x_u_ne (by omega), g3 _ _ _ (by omega), x_u_ne (by omega), f3 _ _ _ (by omega), e2 _ _ _ (by omega), x_u_ne (by omega), x_u_ne (by omega), g3 _ _ _ (by omega), x_u_ne (by omega), f3 _ _ _ (by omega), e2 _ _ _ (by omega), t1 _ _ (by omega) (by omega), t1 _ _ (by omega) (by omega)]; exact r4 m hm
          · rw [x_u_ne (by omega), x_u_ne (by omega), g3 _ _ _ (by omega), x_u_ne (by omega), f3 _ _ _ (by omega), e2 _ _ _ (by omega), t1 _ _ (by omega) (by omega)]; exact r5 c hc
    · obtain ⟨Z1, e1, e2, e3, e4⟩ := hc.2 h0
      refine ⟨Z1, ?_, e2.kp, fun _ => ⟨e3, e4⟩, fun h => absurd h h0⟩
      rw [if_neg h0]; exact e1
