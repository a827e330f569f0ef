/-! lead -/
theorem q_dg_ne {T : PT} {c l : Nat} (hl : l < T 1 0) (he : q_e T c l = true) : q_dg T c ≠ 0 := by
  have : l ∈ q_ln T c := by unfold q_ln q_lu; exact List.mem_filter.2 ⟨List.mem_range.2 hl, he⟩
  unfold q_dg
  intro h
  rw [List.length_eq_zero_iff.1 h] at this
  cases this
theorem c_led_lane {T : PT} {N : PN} {Z : XZ} {t d l : Nat} {D : Nat → Nat} {a2 a3 : Int} (hC : CT Z t T) (hT : TOK T) (hS : CS Z 0 N) (hN : NOK N) (hD : CE 25 Z t D) (hF : FB D) (hd : 2 ≤ d) (hl : l < T 1 0) (o5 o6 : Option XV) : ∃ (Z' : XZ) (p5 p6 : Option XV), x_EX d 66 47 [some (.inr (.inr (some (7, t)))), some (.inr (.inr (some (28, 0)))), some (.inl a2), some (.inl a3), some (.inl ((l : Int))), o5, o6] [] (x_S Z t) = x_EX d 66 47 [some (.inr (.inr (some (7, t)))), some (.inr (.inr (some (28, 0)))), some (.inl a2), some (.inl a3), some (.inl (((l + 1 : Nat) : Int))), p5, p6] [] (x_S Z' t) ∧ CE 25 Z' t (g_ro [(T 4 l, T 5 l, q_wt T N (T 4 l) l), (T 5 l, T 4 l, q_wt T N (T 5 l) l)] D) ∧ ∀ g m i, ¬ (g = 25 ∧ m = t) → Z' g m i = Z g m i := by
  have t0 : T 0 0 ≤ 7 := hT.1
  have t1 : T 1 0 ≤ 10 := hT.2.1
  obtain ⟨b1, b2, b3, b4, b5⟩ := hT.2.2.2.2.1 l hl
  obtain ⟨r1, r2, r3⟩ := hC.2.2.1 l hl
  have bl : 0 ≤ (l : Int) ∧ (l : Int) < 10 := by omega
  have sg : ∀ c, c < 7 → q_sg N c ≤ 9 := fun c hc => by have := hN.2.1 c hc; unfold q_sg; omega
  have sa := sg (T 4 l) (by omega)
  have sb := sg (T 5 l) (by omega)
  have da : q_dg T (T 4 l) ≠ 0 := q_dg_ne hl (by unfold q_e; simp)
  have db : q_dg T (T 5 l) ≠ 0 := q_dg_ne hl (by unfold q_e; simp)
  have la := q_at_lt (p := q_sg N (T 4 l)) da
  have lb := q_at_lt (p := q_sg N (T 5 l)) db
  obtain ⟨Z1, e1, e2, e3⟩ := c_sho25 (d := d) (a := T 4 l) (b := T 5 l) (w := q_wt T N (T 4 l) l) hD hF (by omega) (by omega) (q_wt_le _ _ _ _) (by omega) t
  have hC1 : CT Z1 t T := hC.congr (fun g i a b c d => e3 _ _ _ (by omega))
  have hS1 : CS Z1 0 N := hS.congr (fun i => e3 _ _ _ (by omega)) (fun i => e3 _ _ _ (by omega)) (fun i => e3 _ _ _ (by omega))
  obtain ⟨Z2, f1, f2, f3⟩ := c_sho25 (d := d) (a := T 5 l) (b := T 4 l) (w := q_wt T N (T 5 l) l) e2 (hF.rx (by omega) (by omega) (q_wt_le _ _ _ _)) (by omega) (by omega) (q_wt_le _ _ _ _) (by omega) t
  have w1 : x_EX d 66 95 [some (.inr (.inr (some (7, t)))), some (.inr (.inr (some (28, 0)))), some (.inl a2), some (.inl a3), some (.inl ((l : Int))), some (.inl ((T 4 l : Int))), some (.inl ((T 5 l : Int)))] [.inl ((q_at T (T 4 l) (q_sg N (T 4 l)) : Int)), .inl ((T 5 l : Int)), .inl ((T 4 l : Int)), .inr (.inr (some (25, t)))] (x_S Z t) = x_EX d 66 108 [some (.inr (.inr (some (7, t)))), some (.inr (.inr (some (28, 0)))), some (.inl a2), some (.inl a3), some (.inl ((l : Int))), some (.inl ((T 4 l : Int))), some (.inl ((T 5 l : Int)))] [] (x_S Z1 t) := by
    rw [B66_95, cn_nt (z := (q_at T (T 4 l) (q_sg N (T 4 l)) : Int)) rfl (by omega), cn_nt (z := (l : Int)) rfl (by omega)]
    unfold q_wt at e1
    by_cases h : q_at T (T 4 l) (q_sg N (T 4 l)) = l
    · rw [if_pos h] at e1
      rw [if_pos (by omega)]
      have e1' : x_CALL d 58 [.inr (.inr (some (25, t))), .inl ((T 4 l : Int)), .inl ((T 5 l : Int)), .inl 0] (x_S Z t) = _ := e1
      rw [e1', Option.bind_some]
    · rw [if_neg h] at e1
      rw [if_neg (by omega)]
      have e1' : x_CALL d 58 [.inr (.inr (some (25, t))), .inl ((T 4 l : Int)), .inl ((T 5 l : Int)), .inl 1] (x_S Z t) = _ := e1
      rw [e1', Option.bind_some]
  have w2 : x_EX d 66 129 [some (.inr (.inr (some (7, t)))), some (.inr (.inr (some (28, 0)))), some (.inl a2), some (.inl a3), some (.inl ((l : Int))), some (.inl ((T 4 l : Int))), some (.inl ((T 5 l : Int)))] [.inl ((q_at T (T 5 l) (q_sg N (T 5 l)) : Int)), .inl ((T 4 l : Int)), .inl ((T 5 l : Int)), .inr (.inr (some (25, t)))] (x_S Z1 t) = x_EX d 66 142 [some (.inr (.inr (some (7, t)))), some (.inr (.inr (some (28, 0)))), some (.inl a2), some (.inl a3), some (.inl ((l : Int))), some (.inl ((T 4 l : Int))), some (.inl ((T 5 l : Int)))] [] (x_S Z2 t) := by
    rw [B66_129, cn_nt (z := (q_at T (T 5 l) (q_sg N (T 5 l)) : Int)) rfl (by omega), cn_nt (z := (l : Int)) rfl (by omega)]
    unfold q_wt at f1
    by_cases h : q_at T (T 5 l) (q_sg N (T 5 l)) = l
    · rw [if_pos h] at f1
      rw [if_pos (by omega)]
      have f1' : x_CALL d 58 [.inr (.inr (some (25, t))), .inl ((T 5 l : Int)), .inl ((T 4 l : Int)), .inl 0] (x_S Z1 t) = _ := f1
      rw [f1', Option.bind_some]
    · rw [if_neg h] at f1
      rw [if_neg (by omega)]
      have f1' : x_CALL d 58 [.inr (.inr (some (25, t))), .inl ((T 5 l : Int)), .inl ((T 4 l : Int)), .inl 1] (x_S Z1 t) = _ := f1
      rw [f1', Option.bind_some]
  rw [B66_47, hC.1 1 (by omega), cn_nt (z := (l : Int)) rfl (by omega), cn_nt (z := (T 1 0 : Int)) rfl (by omega), if_pos (by omega), if_pos bl, if_pos bl, Int.toNat_natCast, r1, r2, cn_nt (z := (T 4 l : Int)) rfl (by omega), if_pos (by omega), Int.toNat_natCast, hS.1 _ (by omega), c_laneAt hC hT (by omega) t b1 (by omega), Option.bind_some, if_neg da, w1, B66_108, cn_nt (z := (T 5 l : Int)) rfl (by omega), if_pos (by omega), Int.toNat_natCast, hS1.1 _ (by omega), c_laneAt hC1 hT (by omega) t b2 (by omega), Option.bind_some, if_neg db, w2, B66_142]
  exact ⟨Z2, _, _, rfl, f2, fun g m i hg => (f3 g m i hg).trans (e3 g m i hg)⟩
theorem c_led_round {T : PT} {N : PN} {t d : Nat} {D : Nat → Nat} {a2 a3 : Int} (hT : TOK T) (hN : NOK N) (hF : FB D) (hd : 2 ≤ d) : ∀ (n l : Nat) (Z : XZ) (o5 o6 : Option XV), l + n = T 1 0 → CT Z t T → CS Z 0 N → CE 25 Z t (g_ro (g_lc T N l) D) → ∃ (Z' : XZ) (p4 p5 p6 : Option XV), x_EX d 66 47 [some (.inr (.inr (some (7, t)))), some (.inr (.inr (some (28, 0)))), some (.inl a2), some (.inl a3), some (.inl ((l : Int))), o5, o6] [] (x_S Z t) = x_EX d 66 36 [some (.inr (.inr (some (7, t)))), some (.inr (.inr (some (28, 0)))), some (.inl a2), some (.inl (a3 + 1)), p4, p5, p6] [] (x_S Z' t) ∧ CE 25 Z' t (g_ro (g_lc T N (T 1 0)) D) ∧ ∀ g m i, ¬ (g = 25 ∧ m = t) → Z' g m i = Z g m i := by
  intro n
  induction n with
  | zero =>
    intro l Z o5 o6 hl hC hS hD
    obtain rfl : l = T 1 0 := by omega
    rw [B66_47, hC.1 1 (by omega), if_neg (Int.lt_irrefl _)]
    exact ⟨Z, _, _, _, rfl, hD, fun _ _ _ _ => rfl⟩
  | succ n ih =>
    intro l Z o5 o6 hl hC hS hD
    obtain ⟨Z1, p5, p6, e1, e2, e3⟩ := c_led_lane (d := d) (l := l) (a2 := a2) (a3 := a3) hC hT hS hN hD (hF.ro (g_lc_GE (n := l) hT (by omega))) hd (by omega) o5 o6
    rw [← g_ro_app] at e2
    obtain ⟨Z2, q4, q5, q6, f1, f2, f3⟩ := ih (l + 1) Z1 p5 p6 (by omega) (hC.congr (fun g i a b c d => e3 _ _ _ (by omega))) (hS.congr (fun i => e3 _ _ _ (by omega)) (fun i => e3 _ _ _ (by omega)) (fun i => e3 _ _ _ (by omega))) e2
    exact ⟨Z2, q4, q5, q6, e1.trans f1, f2, fun g m i hg => (f3 g m i hg).trans (e3 g m i hg)⟩
theorem c_led_rounds {T : PT} {N : PN} {t d f : Nat} (hT : TOK T) (hN : NOK N) (hd : 2 ≤ d) (hf : f < 7) : ∀ (n k : Nat) (Z : XZ) (o4 o5 o6 : Option XV), k + n = T 0 0 → CT Z t T → CS Z 0 N → CE 25 Z t (g_rs (g_lc T N (T 1 0)) k (q_d0 T)) → ∃ Z' : XZ, x_EX d 66 36 [some (.inr (.inr (some (7, t)))), some (.inr (.inr (some (28, 0)))), some (.inl ((f : Int))), some (.inl ((k : Int))), o4, o5, o6] [] (x_S Z t) = some (q_en (g_rs (g_lc T N (T 1 0)) (T 0 0) (q_d0 T) f), x_S Z' t) ∧ ∀ g m i, ¬ (g = 25 ∧ m = t) → Z' g m i = Z g m i := by
  have t0 : T 0 0 ≤ 7 := hT.1
  intro n
  induction n with
  | zero =>
    intro k Z o4 o5 o6 hk hC hS hD
    obtain rfl : k = T 0 0 := by omega
    rw [B66_36, hC.1 0 (by omega), if_neg (Int.lt_irrefl _), cn_nt (z := (f : Int)) rfl (by omega), if_pos (by omega), Int.toNat_natCast, hD f hf]
    exact ⟨Z, rfl, fun _ _ _ _ => rfl⟩
  | succ n ih =>
    intro k Z o4 o5 o6 hk hC hS hD
    obtain ⟨Z1, p4, p5, p6, e1, e2, e3⟩ := c_led_round (t := t) (a2 := (f : Int)) (a3 := (k : Int)) hT hN ((FB.d0 hT).rs (g_lc_GE (N := N) hT (Nat.le_refl _)) k) hd (T 1 0) 0 Z o5 o6 (by omega) hC hS hD
    obtain ⟨Z2, f1, f2⟩ := ih (k + 1) Z1 p4 p5 p6 (by omega) (hC.congr (fun g i a b c d => e3 _ _ _ (by omega))) (hS.congr (fun i => e3 _ _ _ (by omega)) (fun i => e3 _ _ _ (by omega)) (fun i => e3 _ _ _ (by omega))) e2
    rw [B66_36, hC.1 0 (by omega), cn_nt (z := (k : Int)) rfl (by omega), cn_nt (z := (T 0 0 : Int)) rfl (by omega), if_pos (by omega)]
    exact ⟨Z2, e1.trans f1, fun g m i hg => (f2 g m i hg).trans (e3 g m i hg)⟩
theorem c_led_init {T : PT} {t d : Nat} {a2 : Int} (hT : TOK T) (h0 : T 0 0 ≠ 0) (o4 o5 o6 : Option XV) : ∀ (n k : Nat) (Z : XZ), k + n = 7 → CT Z t T → (∀ c, c < k → Z 25 t c = q_en (q_d0 T c)) → ∃ Z' : XZ, x_EX d 66 2 [some (.inr (.inr (some (7, t)))), some (.inr (.inr (some (28, 0)))), some (.inl a2), some (.inl ((k : Int))), o4, o5, o6] [] (x_S Z t) = x_EX d 66 36 [some (.inr (.inr (some (7, t)))), some (.inr (.inr (some (28, 0)))), some (.inl a2), some (.inl 0), o4, o5, o6] [] (x_S Z' t) ∧ CE 25 Z' t (q_d0 T) ∧ ∀ g m i, ¬ (g = 25 ∧ m = t) → Z' g m i = Z g m i := by
  have t0 : T 0 0 ≤ 7 := hT.1
  have h10 := hT.2.2.2.2.2.2.1 (by omega)
  intro n
  induction n with
  | zero =>
    intro k Z hk hC hD
    obtain rfl : k = 7 := by omega
    rw [B66_2, if_neg (by decide)]
    exact ⟨Z, rfl, hD, fun _ _ _ _ => rfl⟩
  | succ n ih =>
    intro k Z hk hC hD
    have step : x_EX d 66 2 [some (.inr (.inr (some (7, t)))), some (.inr (.inr (some (28, 0)))), some (.inl a2), some (.inl ((k : Int))), o4, o5, o6] [] (x_S Z t) = x_EX d 66 2 [some (.inr (.inr (some (7, t)))), some (.inr (.inr (some (28, 0)))), some (.inl a2), some (.inl (((k + 1 : Nat) : Int))), o4, o5, o6] [] (x_S (x_u Z 25 t k (q_en (q_d0 T k))) t) := by
      rw [B66_2, cn_nt (z := (k : Int)) rfl (by omega), if_pos (by omega), hC.1 10 (by omega), cn_nt (z := (T 10 0 : Int)) rfl (by omega), Int.toNat_natCast]
      by_cases hk0 : k = T 10 0
      · have : q_en (q_d0 T k) = 0 := by unfold q_d0; rw [if_pos ⟨hk0, h0⟩]; rfl
        rw [if_pos (by omega), if_pos (by omega), this]; rfl
      · have : q_en (q_d0 T k) = -2 := by unfold q_d0; rw [if_neg (fun e => hk0 e.1)]; rfl
        rw [if_neg (by omega), if_pos (by omega), this]; rfl
    obtain ⟨Z2, f1, f2, f3⟩ := ih (k + 1) (x_u Z 25 t k (q_en (q_d0 T k))) (by omega) (hC.congr (fun g i a b c d => x_u_ne (by omega))) (fun c hc => by
      by_cases hck : c = k
      · rw [hck, x_u_eq]
      · rw [x_u_ne (by omega)]; exact hD c (by omega))
    exact ⟨Z2, step.trans f1, f2, fun g m i hg => by rw [f3 g m i hg, x_u_ne (by omega)]⟩
theorem c_led {T : PT} {N : PN} {Z : XZ} {t d f : Nat} (hC : CT Z t T) (hT : TOK T) (hS : CS Z 0 N) (hN : NOK N) (h0 : T 0 0 ≠ 0) (hd : 3 ≤ d) (hf : f < 7) : ∃ Z' : XZ, x_CALL d 66 [.inr (.inr (some (7, t))), .inr (.inr (some (28, 0))), .inl ((f : Int))] (x_S Z t) = some (q_en (g_rs (g_lc T N (T 1 0)) (T 0 0) (q_d0 T) f), x_S Z' t) ∧ ∀ g m i, ¬ (g = 25 ∧ m = t) → Z' g m i = Z g m i := by
  rw [C66 _ _ _ _ _ _ (by omega)]
  obtain ⟨Z1, e1, e2, e3⟩ := c_led_init (d := d - 1) (a2 := (f : Int)) hT h0 none none none 7 0 Z (by omega) hC (fun c hc => by omega)
  obtain ⟨Z2, f1, f2⟩ := c_led_rounds (d := d - 1) (f := f) hT hN (by omega) hf (T 0 0) 0 Z1 none none none (by omega) (hC.congr (fun g i a b c d => e3 _ _ _ (by omega))) (hS.congr (fun i => e3 _ _ _ (by omega)) (fun i => e3 _ _ _ (by omega)) (fun i => e3 _ _ _ (by omega))) e2
  exact ⟨Z2, e1.trans f1, fun g m i hg => (f2 g m i hg).trans (e3 g m i hg)⟩
/-! the model's -/
def g_li (T : PT) (N : PN) (c n : Nat) : List (Nat × Nat × Nat) := match n with
  | 0 => []
  | n + 1 => g_li T N c n ++ (if q_e T c n = true then [(c, q_oe T n c, q_wt T N c n)] else [])
def g_lo (T : PT) (N : PN) (n : Nat) : List (Nat × Nat × Nat) := match n with
  | 0 => []
  | n + 1 => g_lo T N n ++ g_li T N n (T 1 0)
theorem g_li_mem (T : PT) (N : PN) (c n : Nat) (e : Nat × Nat × Nat) : e ∈ g_li T N c n ↔ ∃ l, l < n ∧ q_e T c l = true ∧ e = (c, q_oe T l c, q_wt T N c l) := by
  induction n with
  | zero => constructor
            · intro h; cases h
            · rintro ⟨l, h, _⟩; omega
  | succ n ih =>
    rw [g_li, List.mem_append, ih]
    constructor
    · rintro (⟨l, h1, h2⟩ | h)
      · exact ⟨l, by omega, h2⟩
      · by_cases hq : q_e T c n = true
        · rw [if_pos hq] at h
          exact ⟨n, by omega, hq, by simpa using h⟩
        · rw [if_neg hq] at h; cases h
    · rintro ⟨l, h1, h2, h3⟩
      by_cases hl : l = n
      · subst hl; right; rw [if_pos h2]; simpa using h3
      · exact .inl ⟨l, by omega, h2, h3⟩
theorem g_lo_mem (T : PT) (N : PN) (n : Nat) (e : Nat × Nat × Nat) : e ∈ g_lo T N n ↔ ∃ c l, c < n ∧ l < T 1 0 ∧ q_e T c l = true ∧ e = (c, q_oe T l c, q_wt T N c l) := by
  induction n with
  | zero => constructor
            · intro h; cases h
            · rintro ⟨c, l, h, _⟩; omega
  | succ n ih =>
    rw [g_lo, List.mem_append, ih, g_li_mem]
    constructor
    · rintro (⟨c, l, h1, h2⟩ | ⟨l, h1, h2⟩)
      · exact ⟨c, l, by omega, h2⟩
      · exact ⟨n, l, by omega, h1, h2⟩
    · rintro ⟨c, l, h1, h2⟩
      by_cases hc : c = n
      · subst hc; exact .inr ⟨l, h2⟩
      · exact .inl ⟨c, l, by omega, h2⟩
theorem g_lo_lc {T : PT} {N : PN} (hT : TOK T) (e : Nat × Nat × Nat) : e ∈ g_lc T N (T 1 0) ↔ e ∈ g_lo T N (T 0 0) := by
  rw [g_lc_mem, g_lo_mem]
  constructor
  · rintro ⟨l, hl, h⟩
    obtain ⟨b1, b2, b3, _⟩ := hT.2.2.2.2.1 l hl
    rcases h with rfl | rfl
    · exact ⟨T 4 l, l, b1, hl, by unfold q_e; simp, by unfold q_oe; rw [if_pos rfl]⟩
    · exact ⟨T 5 l, l, b2, hl, by unfold q_e; simp, by unfold q_oe; rw [if_neg b3]⟩
  · rintro ⟨c, l, hc, hl, he, rfl⟩
    refine ⟨l, hl, ?_⟩
    unfold q_e at he
    simp at he
    by_cases h4 : T 4 l = c
    · left; unfold q_oe; rw [if_pos h4, h4]
    · have h5 : T 5 l = c := by rcases he with he | he; exact absurd he h4; exact he
      right; unfold q_oe; rw [if_neg h4, h5]
def MS (Z : XZ) (D : Nat → Nat) : Prop := ∀ c, c < 7 → Z 101 0 c = (D c : Int)
theorem m_led_in {T : PT} {N : PN} {v d c : Nat} {D : Nat → Nat} {a1 a2 : Int} (hT : TOK T) (hN : NOK N) (hB : ∀ c, D c ≤ 1000) (hd : 3 ≤ d) (t : Nat) (hc : c < T 0 0) : ∀ (n l : Nat) (Z : XZ) (o5 : Option XV), l + n = T 1 0 → MT Z v T → MR Z 94 0 N → MS Z (g_ro (g_li T N c l) D) → ∃ (Z' : XZ) (p4 p5 : Option XV), x_EX d 232 75 [some (.inr (.inr (some (56, 0)))), some (.inl a1), some (.inl a2), some (.inl ((c : Int))), some (.inl ((l : Int))), o5] [] (x_S Z t) = x_EX d 232 59 [some (.inr (.inr (some (56, 0)))), some (.inl a1), some (.inl a2), some (.inl (((c + 1 : Nat) : Int))), p4, p5] [] (x_S Z' t) ∧ MS Z' (g_ro (g_li T N c (T 1 0)) D) ∧ ∀ g m i, g ≠ 101 → Z' g m i = Z g m i := by
  have t0 : T 0 0 ≤ 7 := hT.1
  have t1 : T 1 0 ≤ 10 := hT.2.1
  have bc : 0 ≤ (c : Int) ∧ (c : Int) < 7 := by omega
  intro n
  induction n with
  | zero =>
    intro l Z o5 hl hM hR hD
    obtain ⟨hv, h18, ⟨_, v1, _⟩, _⟩ := id hM
    obtain rfl : l = T 1 0 := by omega
    rw [B232_75, h18, cn_nt (z := (v : Int)) rfl (by omega), Int.toNat_natCast, v1, if_pos (by omega), if_neg (Int.lt_irrefl _)]
    exact ⟨Z, _, _, rfl, hD, fun _ _ _ _ => rfl⟩
  | succ n ih =>
    intro l Z o5 hl hM hR hD
    obtain ⟨hv, h18, ⟨_, v1, _⟩, _⟩ := id hM
    have hlt : l < T 1 0 := by omega
    rw [B232_75, h18, cn_nt (z := (v : Int)) rfl (by omega), Int.toNat_natCast, v1, if_pos (by omega), cn_nt (z := (l : Int)) rfl (by omega), cn_nt (z := (T 1 0 : Int)) rfl (by omega), if_pos (by omega), m_end hM hT (by omega) t hlt (by omega), Option.bind_some, B232_96]
    by_cases he : q_e T c l = true
    · have hli : g_li T N c (l + 1) = g_li T N c l ++ [(c, q_oe T l c, q_wt T N c l)] := by rw [g_li, if_pos he]
      have hdg := q_dg_ne hlt he
      have hoe := q_oe_lt (c := c) hT hlt
      have hat := q_at_lt (p := q_sg N c) hdg
      generalize hX : g_ro (g_li T N c l) D = X at hD
      have hXB : ∀ c, X c ≤ 1000 := fun c => by rw [← hX]; exact Nat.le_trans (g_ro_le _ _ _) (hB c)
      have hro : g_ro (g_li T N c (l + 1)) D = q_rx X c (q_oe T l c) (q_wt T N c l) := by rw [hli, g_ro_app, hX]; rfl
      have b1 := hXB (q_oe T l c)
      have b2 := hXB c
      have eb : x_CALL d 184 [.inr (.inr (some (56, 0))), .inl ((c : Int)), .inl 0] (x_S Z t) = some ((q_at T c (q_sg N c) : Int), x_S Z t) := by
        have := m_lnBy hM hT hR hN (d := d) hd t (c := c) (b := 0) (by omega) (by omega)
        rw [if_neg hdg, Nat.add_zero] at this; exact this
      have fin : ∀ w : Nat, w ≤ 1 → q_wt T N c l = w → ∃ (Z1 : XZ) (o : Option XV), (if cn ((X (q_oe T l c) : Int) + (w : Int)) < cn (X c : Int) then (if 0 ≤ (c : Int) ∧ (c : Int) < 7 then (x_EX d 232 75 [some (.inr (.inr (some (56, 0)))), some (.inl a1), some (.inl a2), some (.inl ((c : Int))), some (.inl ((l : Int) + 1)), some (.inl ((X (q_oe T l c) : Int) + (w : Int)))] [] (x_S (x_u Z 101 0 c ((X (q_oe T l c) : Int) + (w : Int))) t)) else none) else (x_EX d 232 75 [some (.inr (.inr (some (56, 0)))), some (.inl a1), some (.inl a2), some (.inl ((c : Int))), some (.inl ((l : Int) + 1)), some (.inl ((X (q_oe T l c) : Int) + (w : Int)))] [] (x_S Z t))) = x_EX d 232 75 [some (.inr (.inr (some (56, 0)))), some (.inl a1), some (.inl a2), some (.inl ((c : Int))), some (.inl (((l + 1 : Nat) : Int))), o] [] (x_S Z1 t) ∧ MS Z1 (g_ro (g_li T N c (l + 1)) D) ∧ ∀ g m i, g ≠ 101 → Z1 g m i = Z g m i := by
        intro w hw hwt
        rw [hro, hwt, cn_nt (z := (X (q_oe T l c) : Int) + (w : Int)) (n := X (q_oe T l c) + w) (by omega) (by omega), cn_nt (z := (X c : Int)) rfl (by omega)]
        unfold q_rx
        by_cases hlt2 : X (q_oe T l c) + w < X c
        · rw [if_pos (by omega), if_pos bc, if_pos hlt2]
          refine ⟨_, _, rfl, fun y hy => ?_, fun g m i hg => x_u_ne (by omega)⟩
          unfold q_up
          by_cases hyc : y = c
          · rw [hyc, x_u_eq, if_pos rfl]; rfl
          · rw [x_u_ne (by omega), if_neg hyc]; exact hD y hy
        · rw [if_neg (by omega), if_neg hlt2]
          exact ⟨Z, _, rfl, hD, fun _ _ _ _ => rfl⟩
      rw [if_pos he, if_neg cn_1n, m_oth hM hT (by omega) t hlt he, Option.bind_some, B232_113, cn_nt (z := (q_oe T l c : Int)) rfl (by omega), if_pos (by omega), Int.toNat_natCast, hD _ (by omega), eb, Option.bind_some, B232_120, cn_nt (z := (q_at T c (q_sg N c) : Int)) rfl (by omega), cn_nt (z := (l : Int)) rfl (by omega), cn_nt (z := (c : Int)) rfl (by omega), Int.toNat_natCast, hD c (by omega)]
      by_cases hw : q_at T c (q_sg N c) = l
      · obtain ⟨Z1, o, f1, f2, f3⟩ := fin 0 (by omega) (by unfold q_wt; rw [if_pos hw])
        obtain ⟨Z2, p4, p5, g1, g2, g3⟩ := ih (l + 1) Z1 o (by omega) (hM.congr (fun g i a b => f3 _ _ _ (by omega)) (f3 _ _ _ (by omega))) (hR.congr (fun i => f3 _ _ _ (by omega))) f2
        rw [if_pos (by omega), if_pos bc]
        exact ⟨Z2, p4, p5, f1.trans g1, g2, fun g m i hg => (g3 g m i hg).trans (f3 g m i hg)⟩
      · obtain ⟨Z1, o, f1, f2, f3⟩ := fin 1 (by omega) (by unfold q_wt; rw [if_neg hw])
        obtain ⟨Z2, p4, p5, g1, g2, g3⟩ := ih (l + 1) Z1 o (by omega) (hM.congr (fun g i a b => f3 _ _ _ (by omega)) (f3 _ _ _ (by omega))) (hR.congr (fun i => f3 _ _ _ (by omega))) f2
        rw [if_neg (by omega), if_pos bc]
        exact ⟨Z2, p4, p5, f1.trans g1, g2, fun g m i hg => (g3 g m i hg).trans (f3 g m i hg)⟩
    · have hli : g_li T N c (l + 1) = g_li T N c l := by rw [g_li, if_neg he, List.append_nil]
      obtain ⟨Z2, p4, p5, g1, g2, g3⟩ := ih (l + 1) Z o5 (by omega) hM hR (by rw [hli]; exact hD)
      rw [if_neg he, if_pos cn_0]
      exact ⟨Z2, p4, p5, g1, g2, g3⟩
theorem m_led_c {T : PT} {N : PN} {v d : Nat} {D : Nat → Nat} {a1 a2 : Int} (hT : TOK T) (hN : NOK N) (hB : ∀ c, D c ≤ 1000) (hd : 3 ≤ d) (t : Nat) : ∀ (n c : Nat) (Z : XZ) (o4 o5 : Option XV), c + n = T 0 0 → MT Z v T → MR Z 94 0 N → MS Z (g_ro (g_lo T N c) D) → ∃ (Z' : XZ) (p3 p4 p5 : Option XV), x_EX d 232 59 [some (.inr (.inr (some (56, 0)))), some (.inl a1), some (.inl a2), some (.inl ((c : Int))), o4, o5] [] (x_S Z t) = x_EX d 232 51 [some (.inr (.inr (some (56, 0)))), some (.inl a1), some (.inl (a2 + 1)), p3, p4, p5] [] (x_S Z' t) ∧ MS Z' (g_ro (g_lo T N (T 0 0)) D) ∧ ∀ g m i, g ≠ 101 → Z' g m i = Z g m i := by
  have t0 : T 0 0 ≤ 7 := hT.1
  intro n
  induction n with
  | zero =>
    intro c Z o4 o5 hc hM hR hD
    obtain ⟨hv, h18, ⟨v0, _⟩, _⟩ := id hM
    obtain rfl : c = T 0 0 := by omega
    rw [B232_59, h18, cn_nt (z := (v : Int)) rfl (by omega), Int.toNat_natCast, v0, if_pos (by omega), if_neg (Int.lt_irrefl _)]
    exact ⟨Z, _, _, _, rfl, hD, fun _ _ _ _ => rfl⟩
  | succ n ih =>
    intro c Z o4 o5 hc hM hR hD
    obtain ⟨hv, h18, ⟨v0, _⟩, _⟩ := id hM
    obtain ⟨Z1, p4, p5, e1, e2, e3⟩ := m_led_in (d := d) (a1 := a1) (a2 := a2) (c := c) (D := g_ro (g_lo T N c) D) hT hN (fun y => Nat.le_trans (g_ro_le _ _ _) (hB y)) hd t (by omega) (T 1 0) 0 Z o5 (by omega) hM hR hD
    rw [← g_ro_app] at e2
    obtain ⟨Z2, q3, q4, q5, f1, f2, f3⟩ := ih (c + 1) Z1 p4 p5 (by omega) (hM.congr (fun g i a b => e3 _ _ _ (by omega)) (e3 _ _ _ (by omega))) (hR.congr (fun i => e3 _ _ _ (by omega))) e2
    rw [B232_59, h18, cn_nt (z := (v : Int)) rfl (by omega), Int.toNat_natCast, v0, if_pos (by omega), cn_nt (z := (c : Int)) rfl (by omega), cn_nt (z := (T 0 0 : Int)) rfl (by omega), if_pos (by omega)]
    exact ⟨Z2, q3, q4, q5, e1.trans f1, f2, fun g m i hg => (f3 g m i hg).trans (e3 g m i hg)⟩
theorem m_led_k {T : PT} {N : PN} {v d s : Nat} (hT : TOK T) (hN : NOK N) (hd : 3 ≤ d) (t : Nat) (hs : s < T 2 0) : ∀ (n k : Nat) (Z : XZ) (o3 o4 o5 : Option XV), k + n = 7 → MT Z v T → MR Z 94 0 N → MS Z (g_rs (g_lo T N (T 0 0)) k (q_d0 T)) → ∃ Z' : XZ, x_EX d 232 51 [some (.inr (.inr (some (56, 0)))), some (.inl ((s : Int))), some (.inl ((k : Int))), o3, o4, o5] [] (x_S Z t) = some (q_en (g_rs (g_lo T N (T 0 0)) 7 (q_d0 T) (T 8 s)), x_S Z' t) ∧ ∀ g m i, g ≠ 101 → Z' g m i = Z g m i := by
  have t0 : T 0 0 ≤ 7 := hT.1
  have h8 := (hT.2.2.2.2.2.1 s hs).2
  intro n
  induction n with
  | zero =>
    intro k Z o3 o4 o5 hk hM hR hD
    obtain rfl : k = 7 := by omega
    have hb : g_rs (g_lo T N (T 0 0)) 7 (q_d0 T) (T 8 s) ≤ 1000 := Nat.le_trans (g_rs_le _ _ _ _) (q_d0_le T _)
    rw [B232_51, if_neg (by decide), m_start hM hT (by omega) t hs, Option.bind_some, B232_179, cn_nt (z := (T 8 s : Int)) rfl (by omega), if_pos (by omega), Int.toNat_natCast, hD _ (by omega), cn_nt (z := (g_rs (g_lo T N (T 0 0)) 7 (q_d0 T) (T 8 s) : Int)) rfl (by omega)]
    unfold q_en
    by_cases h : 1000 ≤ g_rs (g_lo T N (T 0 0)) 7 (q_d0 T) (T 8 s)
    · rw [if_neg (by omega), if_pos h]; exact ⟨Z, rfl, fun _ _ _ _ => rfl⟩
    · rw [if_pos (by omega), if_neg h]; exact ⟨Z, rfl, fun _ _ _ _ => rfl⟩
  | succ n ih =>
    intro k Z o3 o4 o5 hk hM hR hD
    obtain ⟨Z1, p3, p4, p5, e1, e2, e3⟩ := m_led_c (d := d) (a1 := (s : Int)) (a2 := (k : Int)) (D := g_rs (g_lo T N (T 0 0)) k (q_d0 T)) hT hN (fun y => Nat.le_trans (g_rs_le _ _ _ _) (q_d0_le T y)) hd t (T 0 0) 0 Z o4 o5 (by omega) hM hR hD
    obtain ⟨Z2, f1, f2⟩ := ih (k + 1) Z1 p3 p4 p5 (by omega) (hM.congr (fun g i a b => e3 _ _ _ (by omega)) (e3 _ _ _ (by omega))) (hR.congr (fun i => e3 _ _ _ (by omega))) e2
    rw [B232_51, cn_nt (z := (k : Int)) rfl (by omega), if_pos (by omega)]
    exact ⟨Z2, e1.trans f1, fun g m i hg => (f2 g m i hg).trans (e3 g m i hg)⟩
theorem m_led_init {T : PT} {v d : Nat} {a1 : Int} (hT : TOK T) (hd : 1 ≤ d) (t : Nat) (o3 o4 o5 : Option XV) : ∀ (n k : Nat) (Z : XZ), k + n = 7 → MT Z v T → (∀ c, c < k → Z 101 0 c = (q_d0 T c : Int)) → ∃ Z' : XZ, x_EX d 232 16 [some (.inr (.inr (some (56, 0)))), some (.inl a1), some (.inl ((k : Int))), o3, o4, o5] [] (x_S Z t) = x_EX d 232 51 [some (.inr (.inr (some (56, 0)))), some (.inl a1), some (.inl 0), o3, o4, o5] [] (x_S Z' t) ∧ MS Z' (q_d0 T) ∧ ∀ g m i, g ≠ 101 → Z' g m i = Z g m i := by
  have t0 : T 0 0 ≤ 7 := hT.1
  intro n
  induction n with
  | zero =>
    intro k Z hk hM hD
    obtain rfl : k = 7 := by omega
    rw [B232_16, if_neg (by decide)]
    exact ⟨Z, rfl, hD, fun _ _ _ _ => rfl⟩
  | succ n ih =>
    intro k Z hk hM hD
    have hstep : x_EX d 232 16 [some (.inr (.inr (some (56, 0)))), some (.inl a1), some (.inl ((k : Int))), o3, o4, o5] [] (x_S Z t) = x_EX d 232 16 [some (.inr (.inr (some (56, 0)))), some (.inl a1), some (.inl (((k + 1 : Nat) : Int))), o3, o4, o5] [] (x_S (x_u Z 101 0 k (q_d0 T k : Int)) t) := by
      rw [B232_16, cn_nt (z := (k : Int)) rfl (by omega), if_pos (by omega), m_house hM hT hd t, Option.bind_some, B232_32, cn_nt (z := (k : Int)) rfl (by omega), Int.toNat_natCast]
      unfold q_ho q_d0
      by_cases h0 : T 0 0 = 0
      · rw [if_pos h0, cn_id (z := -2) (by decide) (by decide), if_neg (by omega), if_pos (by omega), if_neg (by omega)]; rfl
      · have h10 := hT.2.2.2.2.2.2.1 (by omega)
        rw [if_neg h0, cn_nt (z := (T 10 0 : Int)) rfl (by omega)]
        by_cases hk0 : k = T 10 0
        · rw [if_pos (by omega), if_pos (by omega), if_pos ⟨hk0, h0⟩]; rfl
        · rw [if_neg (by omega), if_pos (by omega), if_neg (fun e => hk0 e.1)]; rfl
    obtain ⟨Z2, f1, f2, f3⟩ := ih (k + 1) (x_u Z 101 0 k (q_d0 T k : Int)) (by omega) (hM.congr (fun g i a b => x_u_ne (by omega)) (x_u_ne (by omega))) (fun c hc => by
      by_cases hck : c = k
      · rw [hck, x_u_eq]
      · rw [x_u_ne (by omega)]; exact hD c (by omega))
    exact ⟨Z2, hstep.trans f1, f2, fun g m i hg => by rw [f3 g m i hg, x_u_ne (by omega)]⟩
theorem s30_ok : p_s30 PI := by
  intro a ha Z t ⟨T, F, N, H, K, v, u, nx, h⟩
  obtain ⟨ht, hT, hC, hM, hL, hML, hS, hR, hN, hH, _⟩ := id h
  have t0 : T 0 0 ≤ 7 := hT.1
  have t2 : T 2 0 ≤ 5 := hT.2.2.1
  have c1 := C116 60 Z t a (by decide)
  rw [c_hasS hC hT (by decide), Option.bind_some, B116_8, cn_id ha.1 ha.2] at c1
  have m1 : ∀ Z1, MT Z1 v T → x_CALL 60 232 [.inr (.inr (some (56, 0))), .inl a] (x_S Z1 t) = _ := fun Z1 hM1 => by rw [C232 60 Z1 t a (by decide), m_isS hM1 hT (by decide), Option.bind_some, B232_5, cn_id ha.1 ha.2]
  by_cases h1 : 0 ≤ a ∧ a < (T 2 0 : Int)
  case neg =>
    have m2 := m1 Z hM
    rw [if_pos (ite_00 _ h1)] at c1 m2; exact p_fin h c1 keepQ.rfl' m2 keepQ.rfl' rfl
  obtain ⟨s, rfl⟩ := Int.eq_ofNat_of_zero_le h1.1
  have hs : s < T 2 0 := by omega
  have h8 := (hT.2.2.2.2.2.1 s hs).2
  have heq : g_rs (g_lc T N (T 1 0)) (T 0 0) (q_d0 T) (T 8 s) = g_rs (g_lo T N (T 0 0)) 7 (q_d0 T) (T 8 s) := g_rs_eq (n := T 0 0) (fun e he => by
      obtain ⟨l, hl, hh⟩ := (g_lc_mem T N _ e).1 he
      obtain ⟨b1, b2, _⟩ := hT.2.2.2.2.1 l hl
      rcases hh with rfl | rfl
      · exact b1
      · exact b2) (g_lo_lc hT) (Nat.le_refl _) t0 _
  refine q_one h (X := cn (q_en (g_rs (g_lc T N (T 1 0)) (T 0 0) (q_d0 T) (T 8 s)))) ?_ (fun Z1 hI => ?_)
  · obtain ⟨Z', f1, f2⟩ := c_led (d := 59) (f := T 8 s) hC hT hS hN (by omega) (by decide) (by omega)
    rw [if_neg (ite_01 _ h1), if_pos (by omega), Int.toNat_natCast, (hC.2.2.2.1 s hs).2, f1, Option.bind_some, B116_31] at c1
    exact ⟨_, Z', c1, rfl, fun g m i hs => f2 g m i (by unfold scr at hs; omega)⟩
  · obtain ⟨Z2, g1, g2, g3, g4, g5, _⟩ := m_crr hI hT hH.2.2.1 (d := 59) (by decide) t
    obtain ⟨Z3, e1, e2, e3⟩ := m_led_init (d := 59) (a1 := (s : Int)) hT (by decide) t none none none 7 0 Z2 (by omega) g2.1 (fun c hc => by omega)
    obtain ⟨Z4, f1, f2⟩ := m_led_k (d := 59) hT hN (by decide) t hs 7 0 Z3 none none none (by omega) (g2.1.congr (fun g i a b => e3 _ _ _ (by omega)) (e3 _ _ _ (by omega))) (g3.congr (fun i => e3 _ _ _ (by omega))) e2
    have m2 := m1 Z1 hI.1
    rw [if_neg (ite_01 _ h1), g1, Option.bind_some, B232_14] at m2
    refine ⟨_, Z4, (m2.trans e1).trans f1, by rw [heq], fun g m i hs => ?_⟩
    rw [f2 g m i (by unfold scr at hs; omega), e3 g m i (by unfold scr at hs; omega)]; exact g5 g m i hs
