/-! the class finishes a town that was read -/
def RT (Z : XZ) (t : Nat) (T : PT) : Prop := (∀ k, (k < 3 ∨ (10 ≤ k ∧ k ≤ 13)) → Z 7 t k = (T k 0 : Int)) ∧ (∀ c, c < T 0 0 → Z 8 t c = (T 3 c : Int)) ∧ (∀ l, l < T 1 0 → Z 9 t l = (T 4 l : Int) ∧ Z 10 t l = (T 5 l : Int) ∧ Z 11 t l = (T 6 l : Int)) ∧ (∀ s, s < T 2 0 → Z 12 t s = (T 7 s : Int) ∧ Z 13 t s = (T 8 s : Int)) ∧ ∀ c, c < 7 → Z 14 t c = ((T 9 c - 1 : Nat) : Int)
theorem RT.congr {Z Z' : XZ} {t : Nat} {T : PT} (h : RT Z t T) (hk : ∀ g i, 7 ≤ g → g ≤ 14 → Z' g t i = Z g t i) : RT Z' t T := by
  obtain ⟨h1, h2, h3, h4, h5⟩ := h
  exact ⟨fun k hk' => by rw [hk 7 _ (by omega) (by omega)]; exact h1 k hk', fun c hc => by rw [hk 8 _ (by omega) (by omega)]; exact h2 c hc, fun l hl => by rw [hk 9 _ (by omega) (by omega), hk 10 _ (by omega) (by omega), hk 11 _ (by omega) (by omega)]; exact h3 l hl, fun s hs => by rw [hk 12 _ (by omega) (by omega), hk 13 _ (by omega) (by omega)]; exact h4 s hs, fun c hc => by rw [hk 14 _ (by omega) (by omega)]; exact h5 c hc⟩
def LU (Z : XZ) (t : Nat) (T : PT) (f : Nat → List Nat) : Prop := ∀ c, c < T 0 0 → Z 21 t c = ((f c).length : Int) ∧ Z 22 t c = (q_bt (f c) : Int) ∧ ∀ j, j < (f c).length → Z 23 t (10 * c + j) = (((f c).getD j 0 : Nat) : Int)
theorem r_hasC {Z : XZ} {t : Nat} {T : PT} {d : Nat} (hC : RT Z t T) (hT : TOK T) (hd : 1 ≤ d) (t' : Nat) {a : Nat} (ha : a < T 0 0) : x_CALL d 53 [.inr (.inr (some (7, t))), .inl ((a : Int))] (x_S Z t') = some (1, x_S Z t') := by
  have hc : T 0 0 ≤ 7 := hT.1
  rw [C53 _ _ _ _ _ (by omega), hC.1 0 (by omega), cn_nt (z := (T 0 0 : Int)) rfl (by omega), cn_nt (z := (a : Int)) rfl (by omega), if_neg (by omega), if_pos (by omega)]
theorem c_addl {Z : XZ} {t : Nat} {T : PT} {d a l : Nat} {f : Nat → List Nat} (hC : RT Z t T) (hT : TOK T) (hU : LU Z t T f) (ha : a < T 0 0) (hl : l < 10) (hlen : (f a).length < 10) (hall : ∀ c, (f c).length ≤ 10) (hbt : q_bt (f a) < 2 ^ l) (hd : 2 ≤ d) (t' : Nat) : ∃ Z' : XZ, x_CALL d 57 [.inr (.inr (some (7, t))), .inl ((a : Int)), .inl ((l : Int))] (x_S Z t') = some (0, x_S Z' t') ∧ LU Z' t T (fun c => if c = a then f c ++ [l] else f c) ∧ ∀ g m i, ¬ (21 ≤ g ∧ g ≤ 23 ∧ m = t) → Z' g m i = Z g m i := by
  have t0 : T 0 0 ≤ 7 := hT.1
  obtain ⟨u1, u2, u3⟩ := hU a ha
  have ba : 0 ≤ (a : Int) ∧ (a : Int) < 7 := by omega
  have bx : 0 ≤ ((10 * a + (f a).length : Nat) : Int) ∧ ((10 * a + (f a).length : Nat) : Int) < 70 := by omega
  have p2 : 2 ^ l < 2 ^ 10 := Nat.pow_lt_pow_right (by decide) hl
  rw [C57 _ _ _ _ _ _ (by omega), r_hasC hC hT (by omega) t' ha, Option.bind_some, B57_5, if_neg cn_1n, cn_nt (z := (a : Int)) rfl (by omega), Int.toNat_natCast, u1, u2, cn_nt (z := ((f a).length : Int)) rfl (by omega), cn_nt (z := (a : Int) * 10 + ((f a).length : Int)) (n := 10 * a + (f a).length) (by omega) (by omega), Int.toNat_natCast, x_shl_1 (by omega), x_or_nat (by omega) (by omega), two_or hbt]
  simp only [if_pos ba, if_pos bx]
  rw [if_pos (by omega)]
  refine ⟨_, rfl, ?_, fun g m i hg => by rw [x_u_ne (by omega), x_u_ne (by omega), x_u_ne (by omega)]⟩
  intro c hc
  by_cases hca : c = a
  · subst hca
    simp only [↓reduceIte]
    refine ⟨?_, ?_, ?_⟩
    · rw [x_u_ne (by omega), x_u_eq, List.length_append]; rfl
    · rw [x_u_eq, q_bt_app]
    · intro j hj
      rw [x_u_ne (by omega), x_u_ne (by omega)]
      by_cases hjl : j = (f c).length
      · rw [hjl, x_u_eq, getD_app_r (Nat.le_refl _), Nat.sub_self]; rfl
      · rw [List.length_append] at hj
        simp only [List.length_cons, List.length_nil] at hj
        rw [x_u_ne (by omega), getD_app_l (by omega)]; exact u3 j (by omega)
  · simp only [if_neg hca]
    obtain ⟨v1, v2, v3⟩ := hU c hc
    have hac := hall c
    refine ⟨?_, ?_, ?_⟩
    · rw [x_u_ne (by omega), x_u_ne (by omega), x_u_ne (by omega)]; exact v1
    · rw [x_u_ne (by omega), x_u_ne (by omega), x_u_ne (by omega)]; exact v2
    · intro j hj
      rw [x_u_ne (by omega), x_u_ne (by omega)]
      rw [x_u_ne (by omega)]; exact v3 j hj
theorem q_lu_bt (T : PT) (c l : Nat) : q_bt (q_lu T c l) < 2 ^ l := by rw [q_bt_bs]; exact q_bs_lt _ _
theorem LU.ext {Z : XZ} {t : Nat} {T : PT} {f g : Nat → List Nat} (h : LU Z t T f) (e : ∀ c, c < T 0 0 → f c = g c) : LU Z t T g := fun c hc => by rw [← e c hc]; exact h c hc
theorem c_fin_lanes {T : PT} {t d : Nat} (hT : TOK T) (hd : 2 ≤ d) (t' : Nat) (o2 : Option XV) : ∀ (n l : Nat) (Z : XZ), l + n = T 1 0 → RT Z t T → LU Z t T (fun c => q_lu T c l) → ∃ Z' : XZ, x_EX d 56 18 [some (.inr (.inr (some (7, t)))), some (.inl ((l : Int))), o2] [] (x_S Z t') = x_EX d 56 56 [some (.inr (.inr (some (7, t)))), some (.inl 0), o2] [] (x_S Z' t') ∧ LU Z' t T (q_ln T) ∧ ∀ g m i, ¬ (21 ≤ g ∧ g ≤ 23 ∧ m = t) → Z' g m i = Z g m i := by
  have t0 : T 0 0 ≤ 7 := hT.1
  have t1 : T 1 0 ≤ 10 := hT.2.1
  intro n
  induction n with
  | zero =>
    intro l Z hl hC hU
    obtain rfl : l = T 1 0 := by omega
    rw [B56_18, hC.1 1 (by omega), if_neg (Int.lt_irrefl _)]
    exact ⟨Z, rfl, hU, fun _ _ _ _ => rfl⟩
  | succ n ih =>
    intro l Z hl hC hU
    have hlt : l < T 1 0 := by omega
    obtain ⟨b1, b2, b3, b4, b5⟩ := hT.2.2.2.2.1 l hlt
    obtain ⟨r1, r2, r3⟩ := hC.2.2.1 l hlt
    have bl : 0 ≤ (l : Int) ∧ (l : Int) < 10 := by omega
    have hlen : ∀ c, (q_lu T c l).length ≤ l := fun c => q_lu_len T c l
    obtain ⟨Z1, e1, e2, e3⟩ := c_addl (d := d) (a := T 4 l) (l := l) hC hT hU b1 (by omega) (by have := hlen (T 4 l); show (q_lu T (T 4 l) l).length < 10; omega) (fun c => by have := hlen c; show (q_lu T c l).length ≤ 10; omega) (q_lu_bt T _ l) hd t'
    have hC1 : RT Z1 t T := hC.congr (fun g i a b => e3 _ _ _ (by omega))
    have hne : ¬ T 5 l = T 4 l := fun e => b3 e.symm
    obtain ⟨Z2, f1, f2, f3⟩ := c_addl (d := d) (a := T 5 l) (l := l) hC1 hT e2 b2 (by omega) (by have := hlen (T 5 l); simp only [if_neg hne]; omega) (fun c => by have := hlen c; show (if c = T 4 l then q_lu T c l ++ [l] else q_lu T c l).length ≤ 10; split; rw [List.length_append]; show (q_lu T c l).length + 1 ≤ 10; omega; omega) (by simp only [if_neg hne]; exact q_lu_bt T _ l) hd t'
    have hU2 : LU Z2 t T (fun c => q_lu T c (l + 1)) := f2.ext (fun c hc => by
      simp only [q_lu_succ]
      unfold q_e
      by_cases h5 : c = T 5 l
      · subst h5; rw [if_pos rfl, if_neg hne, if_pos (by simp)]
      · rw [if_neg h5]
        by_cases h4 : c = T 4 l
        · subst h4; rw [if_pos rfl, if_pos (by simp)]
        · rw [if_neg h4, if_neg (by simp; omega), List.append_nil])
    obtain ⟨Z3, g1, g2, g3⟩ := ih (l + 1) Z2 (by omega) (hC1.congr (fun g i a b => f3 _ _ _ (by omega))) hU2
    rw [B56_18, hC.1 1 (by omega), cn_nt (z := (l : Int)) rfl (by omega), cn_nt (z := (T 1 0 : Int)) rfl (by omega), if_pos (by omega), if_pos bl, Int.toNat_natCast, r1, e1, Option.bind_some, B56_37, cn_nt (z := (l : Int)) rfl (by omega), if_pos bl, Int.toNat_natCast, (hC1.2.2.1 l hlt).2.1, f1, Option.bind_some, B56_48]
    exact ⟨Z3, g1, g2, fun g m i hg => (g3 g m i hg).trans ((f3 g m i hg).trans (e3 g m i hg))⟩
theorem c_fin_init {T : PT} {t d : Nat} (t' : Nat) (hT10 : T 10 0 < 1000) (o2 : Option XV) : ∀ (n k : Nat) (Z : XZ), k + n = 7 → RT Z t T → (∀ c, c < k → Z 24 t c = q_en (q_df (T 10 0) c)) → ∃ Z' : XZ, x_EX d 56 56 [some (.inr (.inr (some (7, t)))), some (.inl ((k : Int))), o2] [] (x_S Z t') = x_EX d 56 90 [some (.inr (.inr (some (7, t)))), some (.inl 0), o2] [] (x_S Z' t') ∧ CE 24 Z' t (q_df (T 10 0)) ∧ ∀ g m i, ¬ (g = 24 ∧ m = t) → Z' g m i = Z g m i := by
  intro n
  induction n with
  | zero =>
    intro k Z hk hC hD
    obtain rfl : k = 7 := by omega
    rw [B56_56, if_neg (by decide)]
    exact ⟨Z, rfl, hD, fun _ _ _ _ => rfl⟩
  | succ n ih =>
    intro k Z hk hC hD
    have step : x_EX d 56 56 [some (.inr (.inr (some (7, t)))), some (.inl ((k : Int))), o2] [] (x_S Z t') = x_EX d 56 56 [some (.inr (.inr (some (7, t)))), some (.inl (((k + 1 : Nat) : Int))), o2] [] (x_S (x_u Z 24 t k (q_en (q_df (T 10 0) k))) t') := by
      rw [B56_56, cn_nt (z := (k : Int)) rfl (by omega), if_pos (by omega), hC.1 10 (by omega), cn_nt (z := (T 10 0 : Int)) rfl (by omega), Int.toNat_natCast]
      by_cases hk0 : k = T 10 0
      · have : q_en (q_df (T 10 0) k) = 0 := by unfold q_df; rw [if_pos hk0]; rfl
        rw [if_pos (by omega), if_pos (by omega), this]; rfl
      · have : q_en (q_df (T 10 0) k) = -2 := by unfold q_df; rw [if_neg hk0]; rfl
        rw [if_neg (by omega), if_pos (by omega), this]; rfl
    obtain ⟨Z2, f1, f2, f3⟩ := ih (k + 1) (x_u Z 24 t k (q_en (q_df (T 10 0) k))) (by omega) (hC.congr (fun g i a b => x_u_ne (by omega))) (fun c hc => by
      by_cases hck : c = k
      · rw [hck, x_u_eq]
      · rw [x_u_ne (by omega)]; exact hD c (by omega))
    exact ⟨Z2, step.trans f1, f2, fun g m i hg => by rw [f3 g m i hg, x_u_ne (by omega)]⟩
theorem FB.df (f : Nat) : FB (q_df f) := by
  refine ⟨fun c => by unfold q_df; split <;> omega, fun c hc hf => ?_⟩
  have h1 : c = f := by
    by_cases h : c = f
    · exact h
    · unfold q_df at hf; rw [if_neg h] at hf; omega
  have h2 : q_df f c = 0 := by unfold q_df; rw [if_pos h1]
  have h3 := q_sm_pos (f := q_fn (q_df f)) (a := c) 7 hc (by unfold q_fn; rw [if_pos hf]; exact Nat.le_refl 1)
  omega
theorem c_fin_round {T : PT} {t d : Nat} {D : Nat → Nat} {a1 : Int} (hT : TOK T) (hF : FB D) (hd : 1 ≤ d) (t' : Nat) : ∀ (n l : Nat) (Z : XZ), l + n = T 1 0 → RT Z t T → CE 24 Z t (g_ro (g_ed T 99 l) D) → ∃ (Z' : XZ) (p2 : Option XV), x_EX d 56 100 [some (.inr (.inr (some (7, t)))), some (.inl a1), some (.inl ((l : Int)))] [] (x_S Z t') = x_EX d 56 90 [some (.inr (.inr (some (7, t)))), some (.inl (a1 + 1)), p2] [] (x_S Z' t') ∧ CE 24 Z' t (g_ro (g_ed T 99 (T 1 0)) D) ∧ ∀ g m i, ¬ (g = 24 ∧ m = t) → Z' g m i = Z g m i := by
  have t0 : T 0 0 ≤ 7 := hT.1
  have t1 : T 1 0 ≤ 10 := hT.2.1
  intro n
  induction n with
  | zero =>
    intro l Z hl hC hD
    obtain rfl : l = T 1 0 := by omega
    rw [B56_100, hC.1 1 (by omega), if_neg (Int.lt_irrefl _)]
    exact ⟨Z, _, rfl, hD, fun _ _ _ _ => rfl⟩
  | succ n ih =>
    intro l Z hl hC hD
    have hlt : l < T 1 0 := by omega
    obtain ⟨b1, b2, b3, b4, b5⟩ := hT.2.2.2.2.1 l hlt
    obtain ⟨r1, r2, r3⟩ := hC.2.2.1 l hlt
    have bl : 0 ≤ (l : Int) ∧ (l : Int) < 10 := by omega
    have hGE : GE (g_ed T 99 l) := fun e he => by
      obtain ⟨q, h1, _, h3⟩ := (g_ed_mem T 99 _ e).1 he
      obtain ⟨c1, c2, _, _, c5⟩ := hT.2.2.2.2.1 q (by omega)
      rcases h3 with rfl | rfl
      · exact ⟨by show T 4 q < 7; omega, by show T 5 q < 7; omega, c5⟩
      · exact ⟨by show T 5 q < 7; omega, by show T 4 q < 7; omega, c5⟩
    have hFl := hF.ro hGE
    obtain ⟨Z1, e1, e2, e3⟩ := c_sho24 (d := d) (a := T 4 l) (b := T 5 l) (w := T 6 l) hD hFl (by omega) (by omega) b5 hd t'
    have hC1 : RT Z1 t T := hC.congr (fun g i a b => e3 _ _ _ (by omega))
    obtain ⟨s1, s2, s3⟩ := hC1.2.2.1 l hlt
    obtain ⟨Z2, f1, f2, f3⟩ := c_sho24 (d := d) (a := T 5 l) (b := T 4 l) (w := T 6 l) e2 (hFl.rx (by omega) (by omega) b5) (by omega) (by omega) b5 hd t'
    have hro : g_ro (g_ed T 99 (l + 1)) D = q_rx (q_rx (g_ro (g_ed T 99 l) D) (T 4 l) (T 5 l) (T 6 l)) (T 5 l) (T 4 l) (T 6 l) := by rw [g_ed, if_neg (by omega), g_ro_app]; rfl
    rw [← hro] at f2
    obtain ⟨Z3, p2, g1, g2, g3⟩ := ih (l + 1) Z2 (by omega) (hC1.congr (fun g i a b => f3 _ _ _ (by omega))) f2
    rw [B56_100, hC.1 1 (by omega), cn_nt (z := (l : Int)) rfl (by omega), cn_nt (z := (T 1 0 : Int)) rfl (by omega), if_pos (by omega), if_pos bl, if_pos bl, if_pos bl, Int.toNat_natCast, r1, r2, r3, e1, Option.bind_some, B56_133, cn_nt (z := (l : Int)) rfl (by omega), if_pos bl, if_pos bl, if_pos bl, Int.toNat_natCast, s1, s2, s3, f1, Option.bind_some, B56_158]
    exact ⟨Z3, p2, g1, g2, fun g m i hg => (g3 g m i hg).trans ((f3 g m i hg).trans (e3 g m i hg))⟩
theorem c_fin_rounds {T : PT} {t d : Nat} (hT : TOK T) (hd : 1 ≤ d) (t' : Nat) : ∀ (n k : Nat) (Z : XZ) (o2 : Option XV), k + n = T 0 0 → RT Z t T → CE 24 Z t (g_rs (g_ed T 99 (T 1 0)) k (q_df (T 10 0))) → ∃ Z' : XZ, x_EX d 56 90 [some (.inr (.inr (some (7, t)))), some (.inl ((k : Int))), o2] [] (x_S Z t') = some (0, x_S Z' t') ∧ CE 24 Z' t (g_rs (g_ed T 99 (T 1 0)) (T 0 0) (q_df (T 10 0))) ∧ ∀ g m i, ¬ (g = 24 ∧ m = t) → Z' g m i = Z g m i := by
  have t0 : T 0 0 ≤ 7 := hT.1
  intro n
  induction n with
  | zero =>
    intro k Z o2 hk hC hD
    obtain rfl : k = T 0 0 := by omega
    rw [B56_90, hC.1 0 (by omega), if_neg (Int.lt_irrefl _)]
    exact ⟨Z, rfl, hD, fun _ _ _ _ => rfl⟩
  | succ n ih =>
    intro k Z o2 hk hC hD
    obtain ⟨Z1, p2, e1, e2, e3⟩ := c_fin_round (d := d) (a1 := (k : Int)) hT ((FB.df (T 10 0)).rs (g_ed_GE hT 99) k) hd t' (T 1 0) 0 Z (by omega) hC hD
    obtain ⟨Z2, f1, f2, f3⟩ := ih (k + 1) Z1 p2 (by omega) (hC.congr (fun g i a b => e3 _ _ _ (by omega))) e2
    rw [B56_90, hC.1 0 (by omega), cn_nt (z := (k : Int)) rfl (by omega), cn_nt (z := (T 0 0 : Int)) rfl (by omega), if_pos (by omega)]
    exact ⟨Z2, e1.trans f1, f2, fun g m i hg => (f3 g m i hg).trans (e3 g m i hg)⟩
theorem c_finish {T : PT} {Z : XZ} {t d : Nat} (hC : RT Z t T) (hT : TOK T) (h10 : T 10 0 < 1000) (hd : 3 ≤ d) (t' : Nat) : ∃ Z' : XZ, x_CALL d 56 [.inr (.inr (some (7, t)))] (x_S Z t') = some (0, x_S Z' t') ∧ CT Z' t T ∧ ∀ g m i, ¬ (21 ≤ g ∧ g ≤ 24 ∧ m = t) → Z' g m i = Z g m i := by
  have t0 : T 0 0 ≤ 7 := hT.1
  rw [C56 _ _ _ _ (by omega), c_fill21 (by omega), Option.bind_some, B56_8, c_fill22 (by omega), Option.bind_some, B56_16]
  have k0 : ∀ g m i, ¬ (21 ≤ g ∧ g ≤ 22 ∧ m = t) → x_fil (x_fil Z 21 t 7 0) 22 t 7 0 g m i = Z g m i := fun g m i hg => by rw [x_fil_ne (by omega), x_fil_ne (by omega)]
  obtain ⟨Z1, e1, e2, e3⟩ := c_fin_lanes (d := d - 1) hT (by omega) t' none (T 1 0) 0 (x_fil (x_fil Z 21 t 7 0) 22 t 7 0) (by omega) (hC.congr (fun g i a b => k0 _ _ _ (by omega))) (fun c hc => ⟨by rw [x_fil_ne (by omega), x_fil_in (by omega)]; rfl, by rw [x_fil_in (by omega)]; rfl, fun j hj => absurd hj (Nat.not_lt_zero _)⟩)
  have hC1 : RT Z1 t T := hC.congr (fun g i a b => (e3 _ _ _ (by omega)).trans (k0 _ _ _ (by omega)))
  obtain ⟨Z2, f1, f2, f3⟩ := c_fin_init (d := d - 1) t' h10 none 7 0 Z1 (by omega) hC1 (fun c hc => by omega)
  have hC2 : RT Z2 t T := hC1.congr (fun g i a b => f3 _ _ _ (by omega))
  obtain ⟨Z3, g1, g2, g3⟩ := c_fin_rounds (d := d - 1) hT (by omega) t' (T 0 0) 0 Z2 none (by omega) hC2 f2
  have hC3 : RT Z3 t T := hC2.congr (fun g i a b => g3 _ _ _ (by omega))
  have k3 : ∀ g m i, ¬ (g = 24 ∧ m = t) → Z3 g m i = Z1 g m i := fun g m i hg => (g3 g m i hg).trans (f3 g m i hg)
  refine ⟨Z3, e1.trans (f1.trans g1), ⟨hC3.1, fun c hc => ?_, hC3.2.2.1, hC3.2.2.2.1, hC3.2.2.2.2⟩, fun g m i hg => (k3 g m i (by omega)).trans ((e3 g m i (by omega)).trans (k0 g m i (by omega)))⟩
  obtain ⟨u1, u2, u3⟩ := e2 c hc
  refine ⟨hC3.2.1 c hc, by rw [k3 _ _ _ (by omega)]; exact u1, by rw [k3 _ _ _ (by omega)]; exact u2, ?_, fun j hj => by rw [k3 _ _ _ (by omega)]; exact u3 j hj⟩
  have hd0 : q_df (T 10 0) = q_d0 T := by
    funext y; unfold q_df q_d0
    by_cases hy : y = T 10 0
    · rw [if_pos hy, if_pos ⟨hy, by omega⟩]
    · rw [if_neg hy, if_neg (fun x => hy x.1)]
  rw [g2 c (by omega), hd0, ← g_ed_rs, q_ds_n hT]
  rfl
