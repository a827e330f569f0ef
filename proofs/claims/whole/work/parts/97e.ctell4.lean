/-! tells: the class, lanes, seekers, laws -/
def s_lan (P V : Nat → Int) (T : PT) (ct : Nat → Nat) (j : Nat) (s : Nat × Int) : Nat × Int := q_nt (decide (V (j + 3) < 1 ∨ 9 < V (j + 3))) 5 (P (j + 3)) (q_nt (decide (q_ax V T ct (j + 1) = q_ax V T ct (j + 2))) 3 (P (j + 2)) (q_nt (decide (¬ q_ax V T ct (j + 2) < T 0 0)) 4 (P (j + 2)) (q_nt (decide (¬ q_ax V T ct (j + 1) < T 0 0)) 4 (P (j + 1)) s)))
def T_lan (V : Nat → Int) (T : PT) (ct : Nat → Nat) (j : Nat) : PT := tU (tU (tU (tU T 4 (T 1 0) (q_ax V T ct (j + 1))) 5 (T 1 0) (q_ax V T ct (j + 2))) 6 (T 1 0) (V (j + 3)).toNat) 1 0 (T 1 0 + 1)
theorem q_ax_le {V : Nat → Int} {T : PT} {ct : Nat → Nat} {tok : Nat} : q_ax V T ct tok ≤ T 0 0 := by
  have := (q_fi_b (f := fun i => V (ct i)) (x := V tok) (T 0 0) 0).2.1
  unfold q_ax; omega
theorem c_tlane {Z : XZ} {K P V : Nat → Int} {t j n np d : Nat} {s : Nat × Int} {T : PT} {ct st : Nat → Nat} {G : Nat → Option (BL × CL)} (hB : KB K V) (hV : VN K V) (hJ : JC Z K P V t j n np s T ct st G) (hp : JPu K P j np s T ct st) (hd : 5 ≤ d) : ∃ Z' : XZ, x_CALL d 25 [.inr (.inr (some (2, 0)))] (x_S Z t) = some ((if (q_rm K (T 1 0) 10 k_lan j).1 = 0 then 1 else 0), x_S Z' t) ∧ KPc (1 - t) Z Z' ∧ (¬ (q_rm K (T 1 0) 10 k_lan j).1 = 0 → Z' 2 0 3 = ((q_rm K (T 1 0) 10 k_lan j).2 : Int) ∧ Z' 2 0 4 = ((q_rm K (T 1 0) 10 k_lan j).1 : Int)) ∧ ((q_rm K (T 1 0) 10 k_lan j).1 = 0 → JC Z' K P V t (j + 5) n np (s_lan P V T ct j s) (T_lan V T ct j) ct st G) := by
  obtain ⟨a1, a2, a3, a4, a5, a6, a7, a8, a9, a10⟩ := hJ
  have hJ : JC Z K P V t j n np s T ct st G := ⟨a1, a2, a3, a4, a5, a6, a7, a8, a9, a10⟩
  obtain ⟨p1, p2, p3, p4, p5, p6, p7, p8⟩ := hp
  have x3 := a2.2.2.1
  have c0 := a7.2.1
  rw [C25 _ _ _ (by omega), c0, cn_nt (z := (T 1 0 : Int)) rfl (by omega), x3]
  unfold q_rm
  by_cases hr : 10 ≤ T 1 0
  · rw [if_neg (by omega), if_pos hr, C23 _ _ _ (by omega), Option.bind_some, B25_23, if_pos (.inl rfl)]
    exact ⟨_, rfl, fun g m i a => x_u_ne (by unfold cal at a; omega), fun _ => ⟨by rw [x_u_ne (by omega)]; exact x3, x_u_eq⟩, fun h => absurd h (by simp)⟩
  · rw [if_pos (by omega), if_neg hr]
    have hc := c_chain (d := d - 1) (u := 1 - t) (L := fun σ => (x_CALL (d - 1) 36 [.inr (.inr (some (2, 0))), .inl ((j : Int) + 1)] σ).bind fun q => x_EX (d - 1) 25 90 [some (.inr (.inr (some (2, 0)))), some (.inl ((j : Int))), some (.inl ((T 1 0 : Int)))] [.inl q.1, .inl (T 1 0 : Int), .inr (.inr (some (9, (1 - t))))] q.2) hB (by omega) t [258, 258, 259, 59] 261 (fun r σ => x_EX (d - 1) 25 31 [some (.inr (.inr (some (2, 0)))), some (.inl ((j : Int))), some (.inl ((T 1 0 : Int)))] [.inl r] σ) Z j n ⟨fun r σ => x_EX (d - 1) 25 41 [some (.inr (.inr (some (2, 0)))), some (.inl ((j : Int))), some (.inl ((T 1 0 : Int)))] [.inl r] σ, fun r Z => B25_31 _ _ _ _ _ _, fun r σ => x_EX (d - 1) 25 51 [some (.inr (.inr (some (2, 0)))), some (.inl ((j : Int))), some (.inl ((T 1 0 : Int)))] [.inl r] σ, fun r Z => B25_41 _ _ _ _ _ _, fun r σ => x_EX (d - 1) 25 61 [some (.inr (.inr (some (2, 0)))), some (.inl ((j : Int))), some (.inl ((T 1 0 : Int)))] [.inl r] σ, fun r Z => B25_51 _ _ _ _ _ _, fun r σ => x_EX (d - 1) 25 70 [some (.inr (.inr (some (2, 0)))), some (.inl ((j : Int))), some (.inl ((T 1 0 : Int)))] [.inl r] σ, fun r Z => B25_61 _ _ _ _ _ _, fun r Z => B25_70 _ _ _ _ _ _⟩ a1 a2 a4 (by decide)
    by_cases h0 : (q_tk K k_lan j).1 = 0
    · obtain ⟨Z1, e1, e2, e3, e4⟩ := hc.1 h0
      obtain ⟨l1, l2, l3⟩ := q_tk_len _ _ h0
      have l1' : (q_tk K [261, 258, 258, 259, 59] j).2 = j + 5 := l1
      have k1 : K (j + 1) = 258 := l3 1 (by decide)
      have k2 : K (j + 2) = 258 := l3 2 (by decide)
      have k3 : K (j + 3) = 259 := l3 3 (by decide)
      have hj4 : j + 5 ≤ 400 := l2 (by decide)
      rw [l1'] at e3
      have hl := e3.2.1
      have lp : ∀ m, m ≤ j + 5 → LK K 0 m := fun m hm i a b => hl i a (by omega)
      have hn : 0 ≤ (T 1 0 : Int) ∧ (T 1 0 : Int) < 10 := by omega
      have ha := q_ax_le (V := V) (T := T) (ct := ct) (tok := j + 1)
      have hb := q_ax_le (V := V) (T := T) (ct := ct) (tok := j + 2)
      obtain ⟨Z2, f1, f2, f3⟩ := c_cor (tok := j + 1) (d := d - 1) (st := st) hV (e2.tk a1) (a5.k (e2 _ _ _ (by omega)) (e2 _ _ _ (by omega))) (a7.k (fun i => e2 _ _ _ (by omega))) (a8.k (fun i => e2 _ _ _ (by omega)) (fun i => e2 _ _ _ (by omega))) (by omega) (lp _ (by omega)) k1 p1 p5 (by omega) ((j : Int) + 1) (by omega)
      have hT3 : TKc (x_u Z2 9 (1 - t) (T 1 0) (if q_ax V T ct (j + 1) < T 0 0 then (q_ax V T ct (j + 1) : Int) else -1)) K P V := (f3.tk (e2.tk a1)).congr (fun g i a b => x_u_ne (by omega))
      obtain ⟨Z4, g1, g2, g3⟩ := c_cor (tok := j + 2) (d := d - 1) (st := st) (T := T) (ct := ct) (j := j) hV hT3 (f2.k (x_u_ne (by omega)) (x_u_ne (by omega))) (a7.k (fun i => by rw [x_u_ne (by omega), f3 _ _ _ (by omega), e2 _ _ _ (by omega)])) (a8.k (fun i => by rw [x_u_ne (by omega), f3 _ _ _ (by omega), e2 _ _ _ (by omega)]) (fun i => by rw [x_u_ne (by omega), f3 _ _ _ (by omega), e2 _ _ _ (by omega)])) (by omega) (lp _ (by omega)) k2 p1 p5 (by omega) ((j : Int) + 2) (by omega)
      have z9 : Z4 9 (1 - t) (T 1 0) = (if q_ax V T ct (j + 1) < T 0 0 then (q_ax V T ct (j + 1) : Int) else -1) := by rw [g3 _ _ _ (by omega), x_u_eq]
      have hT5 : TKc (x_u Z4 10 (1 - t) (T 1 0) (if q_ax V T ct (j + 2) < T 0 0 then (q_ax V T ct (j + 2) : Int) else -1)) K P V := (g3.tk hT3).congr (fun g i a b => x_u_ne (by omega))
      have hS5 : CSo (x_u Z4 10 (1 - t) (T 1 0) (if q_ax V T ct (j + 2) < T 0 0 then (q_ax V T ct (j + 2) : Int) else -1)) _ := g2.k (x_u_ne (by omega)) (x_u_ne (by omega))
      have mid : ∃ Z6 : XZ, (if cn (Z4 9 (1 - t) (T 1 0)) = cn ((x_u Z4 10 (1 - t) (T 1 0) (if q_ax V T ct (j + 2) < T 0 0 then (q_ax V T ct (j + 2) : Int) else -1)) 10 (1 - t) (T 1 0)) then ((x_CALL (d - 1) 34 [.inr (.inr (some (2, 0))), .inl 3, .inl ((j : Int) + 2)] (x_S (x_u Z4 10 (1 - t) (T 1 0) (if q_ax V T ct (j + 2) < T 0 0 then (q_ax V T ct (j + 2) : Int) else -1)) t)).bind fun q => x_EX (d - 1) 25 136 [some (.inr (.inr (some (2, 0)))), some (.inl ((j : Int))), some (.inl ((T 1 0 : Int)))] [] q.2) else (x_EX (d - 1) 25 136 [some (.inr (.inr (some (2, 0)))), some (.inl ((j : Int))), some (.inl ((T 1 0 : Int)))] [] (x_S (x_u Z4 10 (1 - t) (T 1 0) (if q_ax V T ct (j + 2) < T 0 0 then (q_ax V T ct (j + 2) : Int) else -1)) t))) = x_EX (d - 1) 25 136 [some (.inr (.inr (some (2, 0)))), some (.inl ((j : Int))), some (.inl ((T 1 0 : Int)))] [] (x_S Z6 t) ∧ CSo Z6 (q_nt (decide (q_ax V T ct (j + 1) = q_ax V T ct (j + 2))) 3 (P (j + 2)) (q_nt (decide (¬ q_ax V T ct (j + 2) < T 0 0)) 4 (P (j + 2)) (q_nt (decide (¬ q_ax V T ct (j + 1) < T 0 0)) 4 (P (j + 1)) s))) ∧ KN (x_u Z4 10 (1 - t) (T 1 0) (if q_ax V T ct (j + 2) < T 0 0 then (q_ax V T ct (j + 2) : Int) else -1)) Z6 := by
        rw [z9, x_u_eq, cn_id (z := (if q_ax V T ct (j + 1) < T 0 0 then (q_ax V T ct (j + 1) : Int) else -1)) (by split <;> omega) (by split <;> omega), cn_id (z := (if q_ax V T ct (j + 2) < T 0 0 then (q_ax V T ct (j + 2) : Int) else -1)) (by split <;> omega) (by split <;> omega)]
        by_cases hq : q_ax V T ct (j + 1) = q_ax V T ct (j + 2)
        · obtain ⟨Z6, i1, i2, i3⟩ := c_note (tok := j + 2) (d := d - 1) hT5 hS5 (by omega) (lp _ (by omega)) (by omega) t 3 3 ((j : Int) + 2) rfl (by omega) (by omega)
          have hz : (if q_ax V T ct (j + 1) < T 0 0 then (q_ax V T ct (j + 1) : Int) else -1) = (if q_ax V T ct (j + 2) < T 0 0 then (q_ax V T ct (j + 2) : Int) else -1) := by rw [hq]
          rw [if_pos hz, i1, Option.bind_some, show decide (q_ax V T ct (j + 1) = q_ax V T ct (j + 2)) = true from decide_eq_true hq]
          exact ⟨Z6, rfl, i2, i3⟩
        · have hz : ¬ (if q_ax V T ct (j + 1) < T 0 0 then (q_ax V T ct (j + 1) : Int) else -1) = (if q_ax V T ct (j + 2) < T 0 0 then (q_ax V T ct (j + 2) : Int) else -1) := by
            split <;> split <;> omega
          rw [if_neg hz, show decide (q_ax V T ct (j + 1) = q_ax V T ct (j + 2)) = false from decide_eq_false hq]
          refine ⟨_, rfl, ?_, KN.rfl'⟩
          have : ∀ (f : Nat) (p : Int) (s : Nat × Int), q_nt false f p s = s := fun f p s => if_neg (fun e => absurd e.2 (by decide))
          rw [this]; exact hS5
      obtain ⟨Z6, i1, i2, i3⟩ := mid
      obtain ⟨Z7, j1, j2, j3⟩ := c_num (tok := j + 3) (d := d - 1) hB (i3.tk hT5) i2 (by omega) (lp _ (by omega)) k3 (by omega) t ((j : Int) + 3) 1 9 (by omega) (by omega) (by omega)
      have z71 : Z7 7 (1 - t) 1 = (T 1 0 : Int) := by rw [j3 _ _ _ (by omega), i3 _ _ _ (by omega), x_u_ne (by omega), g3 _ _ _ (by omega), x_u_ne (by omega), f3 _ _ _ (by omega), e2 _ _ _ (by omega)]; exact c0
      have big : ((x_CALL (d - 1) 22 [.inr (.inr (some (2, 0))), .inl 261] (x_S Z t)).bind fun q => x_EX (d - 1) 25 31 [some (.inr (.inr (some (2, 0)))), some (.inl ((j : Int))), some (.inl ((T 1 0 : Int)))] [.inl q.1] q.2) = some (1, x_S (x_u (x_u Z7 11 (1 - t) (T 1 0) (V (j + 3))) 7 (1 - t) 1 ((T 1 0 : Int) + 1)) t) := by
        refine e1.trans ?_
        show ((x_CALL (d - 1) 36 [.inr (.inr (some (2, 0))), .inl ((j : Int) + 1)] (x_S Z1 t)).bind fun q => x_EX (d - 1) 25 90 [some (.inr (.inr (some (2, 0)))), some (.inl ((j : Int))), some (.inl ((T 1 0 : Int)))] [.inl q.1, .inl (T 1 0 : Int), .inr (.inr (some (9, (1 - t))))] q.2) = _
        rw [f1, Option.bind_some, B25_90, cn_nt (z := (T 1 0 : Int)) rfl (by omega), if_pos hn, Int.toNat_natCast, g1, Option.bind_some, B25_106, cn_nt (z := (T 1 0 : Int)) rfl (by omega), if_pos hn, if_pos hn, if_pos hn, Int.toNat_natCast, i1, B25_136, j1, Option.bind_some, B25_154, cn_nt (z := (T 1 0 : Int)) rfl (by omega), if_pos hn, Int.toNat_natCast, z71]
      have fr : ∀ g m i, ¬ (g = 2 ∧ 3 ≤ i ∧ i ≤ 6) → ¬ (g = 7 ∧ m = 1 - t ∧ i = 1) → ¬ (9 ≤ g ∧ g ≤ 11 ∧ m = 1 - t ∧ i = T 1 0) → (x_u (x_u Z7 11 (1 - t) (T 1 0) (V (j + 3))) 7 (1 - t) 1 ((T 1 0 : Int) + 1)) g m i = Z g m i := fun g m i q1 q2 q3 => by
        rw [x_u_ne (by omega), x_u_ne (by omega), j3 _ _ _ (by omega), i3 _ _ _ (by omega), x_u_ne (by omega), g3 _ _ _ (by omega), x_u_ne (by omega), f3 _ _ _ (by omega), e2 _ _ _ (by omega)]
      rw [big, show (q_tk K k_lan j).1 = 0 from h0, if_pos rfl]
      refine ⟨_, rfl, fun g m i a => fr g m i (by unfold cal at a; omega) (by unfold cal at a; omega) (by unfold cal at a; omega), fun h => absurd rfl h, fun _ => ?_⟩
      have t0 : T_lan V T ct j 1 0 = T 1 0 + 1 := tU_eq
      have t1 : ∀ a b, ¬ (a = 1 ∧ b = 0) → ¬ (4 ≤ a ∧ a ≤ 6 ∧ b = T 1 0) → T_lan V T ct j a b = T a b := fun a b h h' => by unfold T_lan; rw [tU_ne h, tU_ne (by omega), tU_ne (by omega), tU_ne (by omega)]
      refine hJ.step (fun g m i q1 q2 q3 q4 => fr g m i (by omega) (by omega) (by omega)) (by omega) hj4 hl ?_ ?_ ?_ ?_ ?_ ?_ (fun _ hs => ?_)
      · rw [x_u_ne (by omega), x_u_ne (by omega), j3 _ _ _ (by omega), i3 _ _ _ (by omega), x_u_ne (by omega), g3 _ _ _ (by omega), x_u_ne (by omega), f3 _ _ _ (by omega)]; exact e3.2.2.1
      · rw [x_u_ne (by omega), x_u_ne (by omega), j3 _ _ _ (by omega), i3 _ _ _ (by omega), x_u_ne (by omega), g3 _ _ _ (by omega), x_u_ne (by omega), f3 _ _ _ (by omega)]; exact e4
      · exact j2.k (by rw [x_u_ne (by omega), x_u_ne (by omega)]) (by rw [x_u_ne (by omega), x_u_ne (by omega)])
      · rw [fr _ _ _ (by omega) (by omega) (by omega)]; exact a6
      · refine ⟨?_, ?_, ?_⟩
        · rw [fr _ _ _ (by omega) (by omega) (by omega), t1 _ _ (by omega) (by omega)]; exact a7.1
        · rw [x_u_eq, t0]; omega
        · rw [fr _ _ _ (by omega) (by omega) (by omega), t1 _ _ (by omega) (by omega)]; exact a7.2.2
      · rw [t1 _ _ (by omega) (by omega), t1 _ _ (by omega) (by omega)]
        exact a8.k (fun i => fr _ _ _ (by omega) (by omega) (by omega)) (fun i => fr _ _ _ (by omega) (by omega) (by omega))
      · obtain ⟨w1, w2, w3⟩ := q_nt_0 (by decide) hs
        obtain ⟨w4, w5, w6⟩ := q_nt_0 (by decide) w1
        obtain ⟨w7, w8, w9⟩ := q_nt_0 (by decide) w4
        obtain ⟨w10, w11, w12⟩ := q_nt_0 (by decide) w7
        have w2' := of_decide_eq_false w2
        have w8' := of_decide_eq_false w8
        have w11' := of_decide_eq_false w11
        obtain ⟨r1, r2, r3, r4, r5⟩ := a10 0 w10
        refine ⟨fun k hk => ?_, fun c hc => ?_, fun l hl => ?_, fun m hm => ?_, fun c hc => ?_⟩
        · by_cases hk0 : k = 1
          · rw [hk0, x_u_eq, t0]; omega
          · rw [fr _ _ _ (by omega) (by omega) (by omega), t1 _ _ (by omega) (by omega)]; exact r1 k hk
        · rw [t1 _ _ (by omega) (by omega)] at hc
          rw [fr _ _ _ (by omega) (by omega) (by omega), t1 _ _ (by omega) (by omega)]; exact r2 c hc
        · rw [t0] at hl
          by_cases hl0 : l = T 1 0
          · have u4 : T_lan V T ct j 4 (T 1 0) = q_ax V T ct (j + 1) := by unfold T_lan; rw [tU_ne (by omega), tU_ne (by omega), tU_ne (by omega), tU_eq]
            have u5 : T_lan V T ct j 5 (T 1 0) = q_ax V T ct (j + 2) := by unfold T_lan; rw [tU_ne (by omega), tU_ne (by omega), tU_eq]
            have u6 : T_lan V T ct j 6 (T 1 0) = (V (j + 3)).toNat := by unfold T_lan; rw [tU_ne (by omega), tU_eq]
            rw [hl0, u4, u5, u6]
            refine ⟨?_, ?_, ?_⟩
            · rw [x_u_ne (by omega), x_u_ne (by omega), j3 _ _ _ (by omega), i3 _ _ _ (by omega), x_u_ne (by omega), z9, if_pos (by omega)]
            · rw [x_u_ne (by omega), x_u_ne (by omega), j3 _ _ _ (by omega), i3 _ _ _ (by omega), x_u_eq, if_pos (by omega)]
            · rw [x_u_ne (by omega), x_u_eq]; omega
          · rw [fr _ _ _ (by omega) (by omega) (by omega), fr _ _ _ (by omega) (by omega) (by omega), fr _ _ _ (by omega) (by omega) (by omega), t1 _ _ (by omega) (by omega), t1 _ _ (by omega) (by omega), t1 _ _ (by omega) (by omega)]; exact r3 l (by omega)
        · rw [t1 _ _ (by omega) (by omega)] at hm
          rw [fr _ _ _ (by omega) (by omega) (by omega), fr _ _ _ (by omega) (by omega) (by omega), t1 _ _ (by omega) (by omega), t1 _ _ (by omega) (by omega)]; exact r4 m hm
        · rw [fr _ _ _ (by omega) (by omega) (by omega), t1 _ _ (by omega) (by omega)]; exact r5 c hc
    · obtain ⟨Z1, e1, e2, e3, e4⟩ := hc.2 h0
      refine ⟨Z1, ?_, e2.kp, fun _ => ⟨e3, e4⟩, fun h => absurd h h0⟩
      rw [if_neg h0]; exact e1
def s_see (P V : Nat → Int) (T : PT) (ct st : Nat → Nat) (j : Nat) (s : Nat × Int) : Nat × Int := q_nt (decide (¬ q_ax V T ct (j + 3) < T 0 0)) 4 (P (j + 3)) (q_nt (decide (V (j + 2) < 0 ∨ 9 < V (j + 2))) 5 (P (j + 2)) (q_nt (q_dup V T ct st (j + 1)) 3 (P (j + 1)) s))
def T_see (V : Nat → Int) (T : PT) (ct : Nat → Nat) (j : Nat) : PT := tU (tU (tU T 7 (T 2 0) (V (j + 2)).toNat) 8 (T 2 0) (q_ax V T ct (j + 3))) 2 0 (T 2 0 + 1)
theorem c_tseeker {Z : XZ} {K P V : Nat → Int} {t j n np d : Nat} {s : Nat × Int} {T : PT} {ct st : Nat → Nat} {G : Nat → Option (BL × CL)} (hB : KB K V) (hV : VN K V) (hJ : JC Z K P V t j n np s T ct st G) (hp : JPu K P j np s T ct st) (hd : 5 ≤ d) : ∃ Z' : XZ, x_CALL d 28 [.inr (.inr (some (2, 0)))] (x_S Z t) = some ((if (q_rm K (T 2 0) 5 k_see j).1 = 0 then 1 else 0), x_S Z' t) ∧ KPc (1 - t) Z Z' ∧ (¬ (q_rm K (T 2 0) 5 k_see j).1 = 0 → Z' 2 0 3 = ((q_rm K (T 2 0) 5 k_see j).2 : Int) ∧ Z' 2 0 4 = ((q_rm K (T 2 0) 5 k_see j).1 : Int)) ∧ ((q_rm K (T 2 0) 5 k_see j).1 = 0 → JC Z' K P V t (j + 5) n np (s_see P V T ct st j s) (T_see V T ct j) ct (q_ext st (T 2 0) (j + 1)) G) := by
  obtain ⟨a1, a2, a3, a4, a5, a6, a7, a8, a9, a10⟩ := hJ
  have hJ : JC Z K P V t j n np s T ct st G := ⟨a1, a2, a3, a4, a5, a6, a7, a8, a9, a10⟩
  obtain ⟨p1, p2, p3, p4, p5, p6, p7, p8⟩ := hp
  have x3 := a2.2.2.1
  have c0 := a7.2.2
  rw [C28 _ _ _ (by omega), c0, cn_nt (z := (T 2 0 : Int)) rfl (by omega), x3]
  unfold q_rm
  by_cases hr : 5 ≤ T 2 0
  · rw [if_neg (by omega), if_pos hr, C23 _ _ _ (by omega), Option.bind_some, B28_22, if_pos (.inl rfl)]
    exact ⟨_, rfl, fun g m i a => x_u_ne (by unfold cal at a; omega), fun _ => ⟨by rw [x_u_ne (by omega)]; exact x3, x_u_eq⟩, fun h => absurd h (by simp)⟩
  · rw [if_pos (by omega), if_neg hr]
    have hc := c_chain (d := d - 1) (u := 1 - t) (L := fun σ => (x_CALL (d - 1) 37 [.inr (.inr (some (2, 0))), .inl ((j : Int) + 1)] σ).bind fun q => x_EX (d - 1) 28 81 [some (.inr (.inr (some (2, 0)))), some (.inl ((j : Int))), some (.inl ((T 2 0 : Int)))] [] q.2) hB (by omega) t [258, 259, 258, 59] 264 (fun r σ => x_EX (d - 1) 28 30 [some (.inr (.inr (some (2, 0)))), some (.inl ((j : Int))), some (.inl ((T 2 0 : Int)))] [.inl r] σ) Z j n ⟨fun r σ => x_EX (d - 1) 28 40 [some (.inr (.inr (some (2, 0)))), some (.inl ((j : Int))), some (.inl ((T 2 0 : Int)))] [.inl r] σ, fun r Z => B28_30 _ _ _ _ _ _, fun r σ => x_EX (d - 1) 28 50 [some (.inr (.inr (some (2, 0)))), some (.inl ((j : Int))), some (.inl ((T 2 0 : Int)))] [.inl r] σ, fun r Z => B28_40 _ _ _ _ _ _, fun r σ => x_EX (d - 1) 28 60 [some (.inr (.inr (some (2, 0)))), some (.inl ((j : Int))), some (.inl ((T 2 0 : Int)))] [.inl r] σ, fun r Z => B28_50 _ _ _ _ _ _, fun r σ => x_EX (d - 1) 28 69 [some (.inr (.inr (some (2, 0)))), some (.inl ((j : Int))), some (.inl ((T 2 0 : Int)))] [.inl r] σ, fun r Z => B28_60 _ _ _ _ _ _, fun r Z => B28_69 _ _ _ _ _ _⟩ a1 a2 a4 (by decide)
    by_cases h0 : (q_tk K k_see j).1 = 0
    · obtain ⟨Z1, e1, e2, e3, e4⟩ := hc.1 h0
      obtain ⟨l1, l2, l3⟩ := q_tk_len _ _ h0
      have l1' : (q_tk K [264, 258, 259, 258, 59] j).2 = j + 5 := l1
      have k1 : K (j + 1) = 258 := l3 1 (by decide)
      have k2 : K (j + 2) = 259 := l3 2 (by decide)
      have k3 : K (j + 3) = 258 := l3 3 (by decide)
      have hj4 : j + 5 ≤ 400 := l2 (by decide)
      rw [l1'] at e3
      have hl := e3.2.1
      have lp : ∀ m, m ≤ j + 5 → LK K 0 m := fun m hm i a b => hl i a (by omega)
      have hn : 0 ≤ (T 2 0 : Int) ∧ (T 2 0 : Int) < 5 := by omega
      obtain ⟨Z2, f1, f2, f3⟩ := c_new (tok := j + 1) (d := d - 1) hV (e2.tk a1) (a5.k (e2 _ _ _ (by omega)) (e2 _ _ _ (by omega))) (a7.k (fun i => e2 _ _ _ (by omega))) (a8.k (fun i => e2 _ _ _ (by omega)) (fun i => e2 _ _ _ (by omega))) (by omega) (lp _ (by omega)) k1 p1 p3 p5 p6 (by omega) ((j : Int) + 1) (by omega)
      have hT2 := f3.tk (e2.tk a1)
      have v1 := (hT2 (j + 1) (by omega) (lp _ (by omega))).2.2 (by omega)
      have hT3 : TKc (x_u Z2 27 0 (T 2 0) (V (j + 1))) K P V := hT2.congr (fun g i a b => x_u_ne (by omega))
      obtain ⟨Z4, g1, g2, g3⟩ := c_num (tok := j + 2) (d := d - 1) hB hT3 (f2.k (x_u_ne (by omega)) (x_u_ne (by omega))) (by omega) (lp _ (by omega)) k2 (by omega) t ((j : Int) + 2) 0 9 (by omega) (by omega) (by omega)
      have hT5 : TKc (x_u Z4 12 (1 - t) (T 2 0) (V (j + 2))) K P V := (g3.tk hT3).congr (fun g i a b => x_u_ne (by omega))
      have hN5 : ∀ i, i < T 0 0 → (x_u Z4 12 (1 - t) (T 2 0) (V (j + 2))) 26 0 i = V (ct i) := fun i hi => by rw [x_u_ne (by omega), g3 _ _ _ (by omega), x_u_ne (by omega), f3 _ _ _ (by omega), e2 _ _ _ (by omega)]; exact a8.1 i hi
      have hN5' : ∀ i, i < T 2 0 → (x_u Z4 12 (1 - t) (T 2 0) (V (j + 2))) 27 0 i = V (st i) := fun i hi => by rw [x_u_ne (by omega), g3 _ _ _ (by omega), x_u_ne (by omega), f3 _ _ _ (by omega), e2 _ _ _ (by omega)]; exact a8.2 i hi
      obtain ⟨Z6, i1, i2, i3⟩ := c_cor (tok := j + 3) (d := d - 1) (st := st) (T := T) (ct := ct) (j := j) hV hT5 (g2.k (x_u_ne (by omega)) (x_u_ne (by omega))) (a7.k (fun i => by rw [x_u_ne (by omega), g3 _ _ _ (by omega), x_u_ne (by omega), f3 _ _ _ (by omega), e2 _ _ _ (by omega)])) ⟨hN5, hN5'⟩ (by omega) (lp _ (by omega)) k3 p1 p5 (by omega) ((j : Int) + 3) (by omega)
      have z72 : Z6 7 (1 - t) 2 = (T 2 0 : Int) := by rw [i3 _ _ _ (by omega), x_u_ne (by omega), g3 _ _ _ (by omega), x_u_ne (by omega), f3 _ _ _ (by omega), e2 _ _ _ (by omega)]; exact c0
      have big : ((x_CALL (d - 1) 22 [.inr (.inr (some (2, 0))), .inl 264] (x_S Z t)).bind fun q => x_EX (d - 1) 28 30 [some (.inr (.inr (some (2, 0)))), some (.inl ((j : Int))), some (.inl ((T 2 0 : Int)))] [.inl q.1] q.2) = some (1, x_S (x_u (x_u Z6 13 (1 - t) (T 2 0) (if q_ax V T ct (j + 3) < T 0 0 then (q_ax V T ct (j + 3) : Int) else -1)) 7 (1 - t) 2 ((T 2 0 : Int) + 1)) t) := by
        refine e1.trans ?_
        show ((x_CALL (d - 1) 37 [.inr (.inr (some (2, 0))), .inl ((j : Int) + 1)] (x_S Z1 t)).bind fun q => x_EX (d - 1) 28 81 [some (.inr (.inr (some (2, 0)))), some (.inl ((j : Int))), some (.inl ((T 2 0 : Int)))] [] q.2) = _
        rw [f1, Option.bind_some, B28_81, cn_nt (z := (j : Int) + 1) (n := j + 1) (by omega) (by omega), if_pos (by omega), cn_nt (z := (T 2 0 : Int)) rfl (by omega), if_pos hn, Int.toNat_natCast, Int.toNat_natCast, v1, g1, Option.bind_some, B28_116, cn_nt (z := (T 2 0 : Int)) rfl (by omega), if_pos hn, Int.toNat_natCast, i1, Option.bind_some, B28_132, cn_nt (z := (T 2 0 : Int)) rfl (by omega), if_pos hn, Int.toNat_natCast, z72]
      have fr : ∀ g m i, ¬ (g = 2 ∧ 3 ≤ i ∧ i ≤ 6) → ¬ (g = 7 ∧ m = 1 - t ∧ i = 2) → ¬ (12 ≤ g ∧ g ≤ 13 ∧ m = 1 - t ∧ i = T 2 0) → ¬ (g = 27 ∧ i = T 2 0) → (x_u (x_u Z6 13 (1 - t) (T 2 0) (if q_ax V T ct (j + 3) < T 0 0 then (q_ax V T ct (j + 3) : Int) else -1)) 7 (1 - t) 2 ((T 2 0 : Int) + 1)) g m i = Z g m i := fun g m i q1 q2 q3 q4 => by
        rw [x_u_ne (by omega), x_u_ne (by omega), i3 _ _ _ (by omega), x_u_ne (by omega), g3 _ _ _ (by omega), x_u_ne (by omega), f3 _ _ _ (by omega), e2 _ _ _ (by omega)]
      rw [big, show (q_tk K k_see j).1 = 0 from h0, if_pos rfl]
      refine ⟨_, rfl, fun g m i a => fr g m i (by unfold cal at a; omega) (by unfold cal at a; omega) (by unfold cal at a; omega) (by unfold cal at a; omega), fun h => absurd rfl h, fun _ => ?_⟩
      have t0 : T_see V T ct j 2 0 = T 2 0 + 1 := tU_eq
      have t1 : ∀ a b, ¬ (a = 2 ∧ b = 0) → ¬ (7 ≤ a ∧ a ≤ 8 ∧ b = T 2 0) → T_see V T ct j a b = T a b := fun a b h h' => by unfold T_see; rw [tU_ne h, tU_ne (by omega), tU_ne (by omega)]
      refine hJ.step (fun g m i q1 q2 q3 q4 => fr g m i (by omega) (by omega) (by omega) (by omega)) (by omega) hj4 hl ?_ ?_ ?_ ?_ ?_ ?_ (fun _ hs => ?_)
      · rw [x_u_ne (by omega), x_u_ne (by omega), i3 _ _ _ (by omega), x_u_ne (by omega), g3 _ _ _ (by omega), x_u_ne (by omega), f3 _ _ _ (by omega)]; exact e3.2.2.1
      · rw [x_u_ne (by omega), x_u_ne (by omega), i3 _ _ _ (by omega), x_u_ne (by omega), g3 _ _ _ (by omega), x_u_ne (by omega), f3 _ _ _ (by omega)]; exact e4
      · exact i2.k (by rw [x_u_ne (by omega), x_u_ne (by omega)]) (by rw [x_u_ne (by omega), x_u_ne (by omega)])
      · rw [fr _ _ _ (by omega) (by omega) (by omega) (by omega)]; exact a6
      · refine ⟨?_, ?_, ?_⟩
        · rw [fr _ _ _ (by omega) (by omega) (by omega) (by omega), t1 _ _ (by omega) (by omega)]; exact a7.1
        · rw [fr _ _ _ (by omega) (by omega) (by omega) (by omega), t1 _ _ (by omega) (by omega)]; exact a7.2.1
        · rw [x_u_eq, t0]; omega
      · rw [t0, t1 _ _ (by omega) (by omega)]
        refine ⟨fun i hi => ?_, fun i hi => ?_⟩
        · rw [fr _ _ _ (by omega) (by omega) (by omega) (by omega)]; exact a8.1 i hi
        · unfold q_ext
          by_cases hi' : i = T 2 0
          · rw [if_pos hi', hi', x_u_ne (by omega), x_u_ne (by omega), i3 _ _ _ (by omega), x_u_ne (by omega), g3 _ _ _ (by omega), x_u_eq]
          · rw [if_neg hi', fr _ _ _ (by omega) (by omega) (by omega) (by omega)]; exact a8.2 i (by omega)
      · obtain ⟨w1, w2, w3⟩ := q_nt_0 (by decide) hs
        obtain ⟨w4, w5, w6⟩ := q_nt_0 (by decide) w1
        obtain ⟨w7, w8, w9⟩ := q_nt_0 (by decide) w4
        have w2' := of_decide_eq_false w2
        have w5' := of_decide_eq_false w5
        obtain ⟨r1, r2, r3, r4, r5⟩ := a10 0 w7
        refine ⟨fun k hk => ?_, fun c hc => ?_, fun l hl => ?_, fun m hm => ?_, fun c hc => ?_⟩
        · by_cases hk0 : k = 2
          · rw [hk0, x_u_eq, t0]; omega
          · rw [fr _ _ _ (by omega) (by omega) (by omega) (by omega), t1 _ _ (by omega) (by omega)]; exact r1 k hk
        · rw [t1 _ _ (by omega) (by omega)] at hc
          rw [fr _ _ _ (by omega) (by omega) (by omega) (by omega), t1 _ _ (by omega) (by omega)]; exact r2 c hc
        · rw [t1 _ _ (by omega) (by omega)] at hl
          rw [fr _ _ _ (by omega) (by omega) (by omega) (by omega), fr _ _ _ (by omega) (by omega) (by omega) (by omega), fr _ _ _ (by omega) (by omega) (by omega) (by omega), t1 _ _ (by omega) (by omega), t1 _ _ (by omega) (by omega), t1 _ _ (by omega) (by omega)]; exact r3 l hl
        · rw [t0] at hm
          by_cases hm0 : m = T 2 0
          · have u7 : T_see V T ct j 7 (T 2 0) = (V (j + 2)).toNat := by unfold T_see; rw [tU_ne (by omega), tU_ne (by omega), tU_eq]
            have u8 : T_see V T ct j 8 (T 2 0) = q_ax V T ct (j + 3) := by unfold T_see; rw [tU_ne (by omega), tU_eq]
            rw [hm0, u7, u8]
            refine ⟨?_, ?_⟩
            · rw [x_u_ne (by omega), x_u_ne (by omega), i3 _ _ _ (by omega), x_u_eq]; omega
            · rw [x_u_ne (by omega), x_u_eq, if_pos (by omega)]
          · rw [fr _ _ _ (by omega) (by omega) (by omega) (by omega), fr _ _ _ (by omega) (by omega) (by omega) (by omega), t1 _ _ (by omega) (by omega), t1 _ _ (by omega) (by omega)]; exact r4 m (by omega)
        · rw [fr _ _ _ (by omega) (by omega) (by omega) (by omega), t1 _ _ (by omega) (by omega)]; exact r5 c hc
    · obtain ⟨Z1, e1, e2, e3, e4⟩ := hc.2 h0
      refine ⟨Z1, ?_, e2.kp, fun _ => ⟨e3, e4⟩, fun h => absurd h h0⟩
      rw [if_neg h0]; exact e1
def k_law (k : Nat) : List Int := [265 + (k : Int), 61]
def q_law (K V : Nat → Int) (k j : Nat) : LR := if (q_tk K (k_law k) j).1 = 0 then l_T K V 4 (j + 2) else ((q_tk K (k_law k) j).1, (q_tk K (k_law k) j).2, [], [])
def G_law (K V : Nat → Int) (G : Nat → Option (BL × CL)) (k j : Nat) : Nat → Option (BL × CL) := fun i => if i = k then some ((q_law K V k j).2.2.1, (q_law K V k j).2.2.2) else G i
theorem c_tlaw {Z : XZ} {K P V : Nat → Int} {t j n np d k : Nat} {s : Nat × Int} {T : PT} {ct st : Nat → Nat} {G : Nat → Option (BL × CL)} (hB : KB K V) (hk : k < 4) (hJ : JC Z K P V t j n np s T ct st G) (hd : 24 ≤ d) (ki : Int) (hki : ki = 265 + (k : Int)) : ∃ Z' : XZ, x_CALL d 30 [.inr (.inr (some (2, 0))), .inl ki] (x_S Z t) = some ((if (q_law K V k j).1 = 0 then 1 else 0), x_S Z' t) ∧ KPc (1 - t) Z Z' ∧ (¬ (q_law K V k j).1 = 0 → Z' 2 0 3 = ((q_law K V k j).2.1 : Int) ∧ Z' 2 0 4 = ((q_law K V k j).1 : Int)) ∧ ((q_law K V k j).1 = 0 → ∃ n', JC Z' K P V t (q_law K V k j).2.1 n' np s T ct st (G_law K V G k j)) := by
  obtain ⟨a1, a2, a3, a4, a5, a6, a7, a8, a9, a10⟩ := hJ
  have x3 := a2.2.2.1
  have x5 := a2.2.2.2.1
  rw [C30 _ _ _ _ (by omega), x5]
  have hc := c_chain (d := d - 1) (u := 1 - t) (L := fun σ => x_EX (d - 1) 30 35 [some (.inr (.inr (some (2, 0)))), some (.inl ki), some (.inr (.inr (some (15, (1 - t))))), some (.inl ((n : Int))), some (.inl 0), none] [] σ) hB (by omega) t [61] ki (fun r σ => x_EX (d - 1) 30 18 [some (.inr (.inr (some (2, 0)))), some (.inl ki), some (.inr (.inr (some (15, (1 - t))))), some (.inl ((n : Int))), none, none] [.inl r] σ) Z j n ⟨fun r σ => x_EX (d - 1) 30 27 [some (.inr (.inr (some (2, 0)))), some (.inl ki), some (.inr (.inr (some (15, (1 - t))))), some (.inl ((n : Int))), none, none] [.inl r] σ, fun r Z => B30_18 _ _ _ _ _ _ _ _ _, fun r Z => B30_27 _ _ _ _ _ _ _ _ _⟩ a1 a2 a4 (fun x hx => by
    rcases List.mem_cons.1 hx with y | y
    · omega
    · rw [List.mem_singleton] at y; omega)
  have hkk : k_law k = [ki, 61] := by unfold k_law; rw [hki]
  rw [← hkk] at hc
  unfold G_law
  by_cases h0 : (q_tk K (k_law k) j).1 = 0
  · obtain ⟨Z1, e1, e2, e3, e4⟩ := hc.1 h0
    obtain ⟨l1, l2, l3⟩ := q_tk_len _ _ h0
    have l1' : (q_tk K (k_law k) j).2 = j + 2 := l1
    rw [l1'] at e3
    have hq : q_law K V k j = l_T K V 4 (j + 2) := if_pos h0
    obtain ⟨Z2, f1, f2, f3, f4⟩ := c_lawp (d := d - 1) hB (by omega) ki (n : Int) (by omega) 4 (by omega) Z1 (j + 2) n none (e2.tk a1) e3 (by omega) e4
    rw [hq]
    have kk : KLr (1 - t) Z Z2 := e2.kc.kl.trans f2
    refine ⟨Z2, e1.trans f1, kk.kp, f4, fun h => ?_⟩
    obtain ⟨n', g1, g2, g3, g4, g5, g6, g7, g8⟩ := f3 h
    obtain ⟨i1, i2, i3, i4⟩ := l_T_G hB 4 (j + 2) (by have := e3.1; omega) h
    have kidx : (ki - 265).toNat = k := by omega
    rw [kidx] at g7 g8
    have g8' : ∀ i, i ≠ k → Z2 16 (1 - t) i = Z 16 (1 - t) i := fun i hi => by rw [g8 i hi, e2 _ _ _ (by omega)]
    refine ⟨n', ?_⟩
    refine ⟨a1.congr (fun g i a b => kk _ _ _ (by omega) (by omega)), g1, by omega, g6, a5.k (kk _ _ _ (by omega) (by omega)) (kk _ _ _ (by omega) (by omega)), by rw [kk _ _ _ (by omega) (by omega)]; exact a6, a7.k (fun i => kk _ _ _ (by omega) (by omega)), a8.k (fun i => kk _ _ _ (by omega) (by omega)) (fun i => kk _ _ _ (by omega) (by omega)), fun m hm => ?_, fun _ hs => (a10 0 hs).congr (fun g i a b => kk _ _ _ (by omega) (by omega))⟩
    dsimp only
    by_cases hmk : m = k
    · rw [if_pos hmk]
      refine ⟨fun e => absurd e (by simp), fun bs fin e => ?_⟩
      rw [Option.some.injEq, Prod.mk.injEq] at e
      rw [← e.1, ← e.2]
      exact ⟨i1, n, by rw [hmk]; exact g7, g5⟩
    · rw [if_neg hmk]
      obtain ⟨b1, b2⟩ := a9 m hm
      refine ⟨fun e => by rw [g8' m hmk]; exact b1 e, fun bs fin e => ?_⟩
      obtain ⟨c1, i, c2, c3⟩ := b2 bs fin e
      exact ⟨c1, i, by rw [g8' m hmk]; exact c2, (c3.congr (fun x _ b => by rw [(g4 x b).1, (g4 x b).2, e2 _ _ _ (by omega), e2 _ _ _ (by omega)]; exact ⟨rfl, rfl⟩)).size g3⟩
  · obtain ⟨Z1, e1, e2, e3, e4⟩ := hc.2 h0
    have hq : q_law K V k j = ((q_tk K (k_law k) j).1, (q_tk K (k_law k) j).2, [], []) := if_neg h0
    rw [hq]
    refine ⟨Z1, ?_, e2.kp, fun _ => ⟨e3, e4⟩, fun h => absurd h h0⟩
    rw [if_neg h0]; exact e1
