/-! shortening in the class; lead -/
def q_en (d : Nat) : Int := if 1000 ≤ d then -2 else (d : Int)
def q_fn (D : Nat → Nat) (c : Nat) : Nat := if D c < 1000 then 1 else 0
def FB (D : Nat → Nat) : Prop := (∀ c, D c ≤ 1000) ∧ ∀ c, c < 7 → D c < 1000 → D c + 9 ≤ 9 * q_sm (q_fn D) 7
theorem q_sm_le1 {f : Nat → Nat} (h : ∀ c, f c ≤ 1) (n : Nat) : q_sm f n ≤ n := by
  induction n with
  | zero => exact Nat.le_refl 0
  | succ n ih => unfold q_sm; have := h n; omega
theorem q_sm_congr {f g : Nat → Nat} (n : Nat) (h : ∀ c, c < n → f c = g c) : q_sm f n = q_sm g n := by
  induction n with
  | zero => rfl
  | succ n ih => rw [q_sm, q_sm, ih (fun c hc => h c (by omega)), h n (by omega)]
theorem q_sm_inc {f g : Nat → Nat} {a : Nat} (n : Nat) (ha : a < n) (h1 : g a = f a + 1) (h2 : ∀ c, c ≠ a → g c = f c) : q_sm g n = q_sm f n + 1 := by
  induction n with
  | zero => omega
  | succ n ih =>
    rw [q_sm, q_sm]
    by_cases hn : a = n
    · subst hn
      rw [q_sm_congr a (fun c hc => h2 c (by omega)), h1]; omega
    · rw [ih (by omega), h2 n (by omega)]; omega
theorem q_sm_pos {f : Nat → Nat} {a : Nat} (n : Nat) (ha : a < n) (h : 1 ≤ f a) : 1 ≤ q_sm f n := by
  induction n with
  | zero => omega
  | succ n ih =>
    rw [q_sm]
    by_cases hn : a = n
    · subst hn; omega
    · have := ih (by omega); omega
theorem q_fn_le (D : Nat → Nat) (c : Nat) : q_fn D c ≤ 1 := by unfold q_fn; split <;> omega
theorem FB.b {D : Nat → Nat} (h : FB D) {c : Nat} (hc : c < 7) (hf : D c < 1000) : D c ≤ 54 := by
  have h1 := h.2 c hc hf
  have h2 := q_sm_le1 (q_fn_le D) 7
  omega
theorem FB.rx {D : Nat → Nat} (h : FB D) {a b w : Nat} (ha : a < 7) (hb : b < 7) (hw : w ≤ 9) : FB (q_rx D a b w) := by
  refine ⟨fun c => Nat.le_trans (q_rx_le _ _ _ _ _) (h.1 c), ?_⟩
  unfold q_rx
  by_cases hlt : D b + w < D a
  · rw [if_pos hlt]
    have hDa := h.1 a
    have hbf : D b < 1000 := by omega
    have hb1 := h.2 b hb hbf
    have hbb := h.b hb hbf
    by_cases haf : D a < 1000
    · have he : q_sm (q_fn (q_up D a (D b + w))) 7 = q_sm (q_fn D) 7 := q_sm_congr 7 (fun c hc => by
        unfold q_fn q_up
        by_cases hca : c = a
        · subst hca; rw [if_pos rfl, if_pos (by omega), if_pos haf]
        · rw [if_neg hca])
      intro c hc hcf
      rw [he]
      have ha1 := h.2 a ha haf
      unfold q_up at hcf ⊢
      by_cases hca : c = a
      · rw [if_pos hca]; omega
      · rw [if_neg hca] at hcf ⊢; exact h.2 c hc hcf
    · have he : q_sm (q_fn (q_up D a (D b + w))) 7 = q_sm (q_fn D) 7 + 1 := q_sm_inc 7 ha (by
        unfold q_fn q_up; rw [if_pos rfl, if_pos (by omega), if_neg haf]) (fun c hca => by
        unfold q_fn q_up; rw [if_neg hca])
      intro c hc hcf
      rw [he]
      unfold q_up at hcf ⊢
      by_cases hca : c = a
      · rw [if_pos hca]; omega
      · rw [if_neg hca] at hcf ⊢; have := h.2 c hc hcf; omega
  · rw [if_neg hlt]; exact h.2
theorem FB.d0 {T : PT} (hT : TOK T) : FB (q_d0 T) := by
  have t0 : T 0 0 ≤ 7 := hT.1
  refine ⟨q_d0_le T, fun c hc hf => ?_⟩
  have h1 : c = T 10 0 ∧ T 0 0 ≠ 0 := by
    by_cases h : c = T 10 0 ∧ T 0 0 ≠ 0
    · exact h
    · unfold q_d0 at hf; rw [if_neg h] at hf; omega
  have h2 : q_d0 T c = 0 := by unfold q_d0; rw [if_pos h1]
  have h3 := q_sm_pos (f := q_fn (q_d0 T)) (a := c) 7 hc (by unfold q_fn; rw [if_pos hf]; exact Nat.le_refl 1)
  omega
def GE (E : List (Nat × Nat × Nat)) : Prop := ∀ e, e ∈ E → e.1 < 7 ∧ e.2.1 < 7 ∧ e.2.2 ≤ 9
theorem FB.ro {E : List (Nat × Nat × Nat)} : ∀ {D : Nat → Nat}, FB D → GE E → FB (g_ro E D) := by
  induction E with
  | nil => intro D h _; exact h
  | cons x E ih =>
    intro D h hE
    obtain ⟨h1, h2, h3⟩ := hE x (List.mem_cons_self ..)
    exact ih (h.rx h1 h2 h3) (fun e he => hE e (List.mem_cons_of_mem _ he))
theorem FB.rs {E : List (Nat × Nat × Nat)} {D : Nat → Nat} (h : FB D) (hE : GE E) (k : Nat) : FB (g_rs E k D) := by
  induction k with
  | zero => exact h
  | succ k ih => exact ih.ro hE
theorem g_ro_app (E E' : List (Nat × Nat × Nat)) (D : Nat → Nat) : g_ro (E ++ E') D = g_ro E' (g_ro E D) := by
  unfold g_ro; rw [List.foldl_append]
def CE (g : Nat) (Z : XZ) (t : Nat) (D : Nat → Nat) : Prop := ∀ c, c < 7 → Z g t c = q_en (D c)
theorem CE.up {g : Nat} {Z : XZ} {t : Nat} {D : Nat → Nat} (h : CE g Z t D) {a x : Nat} (hx : x < 1000) : CE g (x_u Z g t a (x : Int)) t (q_up D a x) := by
  intro c hc
  unfold q_up
  by_cases hca : c = a
  · subst hca; rw [x_u_eq, if_pos rfl, q_en, if_neg (by omega)]
  · rw [x_u_ne (by omega), if_neg hca]; exact h c hc
theorem c_sho24 {Z : XZ} {t d a b w : Nat} {D : Nat → Nat} (hD : CE 24 Z t D) (hF : FB D) (ha : a < 7) (hb : b < 7) (hw : w ≤ 9) (hd : 1 ≤ d) (t' : Nat) : ∃ Z' : XZ, x_CALL d 58 [.inr (.inr (some (24, t))), .inl ((a : Int)), .inl ((b : Int)), .inl ((w : Int))] (x_S Z t') = some (0, x_S Z' t') ∧ CE 24 Z' t (q_rx D a b w) ∧ ∀ g m i, ¬ (g = 24 ∧ m = t) → Z' g m i = Z g m i := by
  have ba : 0 ≤ (a : Int) ∧ (a : Int) < 7 := by omega
  have bb : 0 ≤ (b : Int) ∧ (b : Int) < 7 := by omega
  have hDa := hF.1 a
  have hDb := hF.1 b
  rw [C58_g24 _ _ _ _ _ _ _ (by omega), cn_nt (z := (a : Int)) rfl (by omega), cn_nt (z := (b : Int)) rfl (by omega), Int.toNat_natCast, Int.toNat_natCast, hD a ha, hD b hb]
  simp only [if_pos ba, if_pos bb]
  unfold q_rx
  by_cases hbf : D b < 1000
  · have hb54 := hF.b hb hbf
    have eb : q_en (D b) = (D b : Int) := by unfold q_en; rw [if_neg (by omega)]
    rw [eb, cn_nt (z := (D b : Int)) rfl (by omega), if_neg (by omega), cn_nt (z := (D b : Int) + (w : Int)) (n := D b + w) (by omega) (by omega), show (D b : Int) + (w : Int) = ((D b + w : Nat) : Int) from rfl]
    by_cases haf : D a < 1000
    · have ea : q_en (D a) = (D a : Int) := by unfold q_en; rw [if_neg (by omega)]
      rw [ea, cn_nt (z := (D a : Int)) rfl (by omega), if_neg (by omega)]
      by_cases hlt : D b + w < D a
      · rw [if_pos (by omega), if_pos hlt]
        exact ⟨_, rfl, hD.up (by omega), fun g m i hg => x_u_ne (by omega)⟩
      · rw [if_neg (by omega), if_neg hlt]
        exact ⟨Z, rfl, hD, fun _ _ _ _ => rfl⟩
    · have ea : q_en (D a) = -2 := by unfold q_en; rw [if_pos (by omega)]
      rw [ea, if_pos (by decide), if_pos (by omega)]
      exact ⟨_, rfl, hD.up (by omega), fun g m i hg => x_u_ne (by omega)⟩
  · have eb : q_en (D b) = -2 := by unfold q_en; rw [if_pos (by omega)]
    rw [eb, if_pos (by decide), if_neg (by omega)]
    exact ⟨Z, rfl, hD, fun _ _ _ _ => rfl⟩
theorem c_sho25 {Z : XZ} {t d a b w : Nat} {D : Nat → Nat} (hD : CE 25 Z t D) (hF : FB D) (ha : a < 7) (hb : b < 7) (hw : w ≤ 9) (hd : 1 ≤ d) (t' : Nat) : ∃ Z' : XZ, x_CALL d 58 [.inr (.inr (some (25, t))), .inl ((a : Int)), .inl ((b : Int)), .inl ((w : Int))] (x_S Z t') = some (0, x_S Z' t') ∧ CE 25 Z' t (q_rx D a b w) ∧ ∀ g m i, ¬ (g = 25 ∧ m = t) → Z' g m i = Z g m i := by
  have ba : 0 ≤ (a : Int) ∧ (a : Int) < 7 := by omega
  have bb : 0 ≤ (b : Int) ∧ (b : Int) < 7 := by omega
  have hDa := hF.1 a
  have hDb := hF.1 b
  rw [C58_g25 _ _ _ _ _ _ _ (by omega), cn_nt (z := (a : Int)) rfl (by omega), cn_nt (z := (b : Int)) rfl (by omega), Int.toNat_natCast, Int.toNat_natCast, hD a ha, hD b hb]
  simp only [if_pos ba, if_pos bb]
  unfold q_rx
  by_cases hbf : D b < 1000
  · have hb54 := hF.b hb hbf
    have eb : q_en (D b) = (D b : Int) := by unfold q_en; rw [if_neg (by omega)]
    rw [eb, cn_nt (z := (D b : Int)) rfl (by omega), if_neg (by omega), cn_nt (z := (D b : Int) + (w : Int)) (n := D b + w) (by omega) (by omega), show (D b : Int) + (w : Int) = ((D b + w : Nat) : Int) from rfl]
    by_cases haf : D a < 1000
    · have ea : q_en (D a) = (D a : Int) := by unfold q_en; rw [if_neg (by omega)]
      rw [ea, cn_nt (z := (D a : Int)) rfl (by omega), if_neg (by omega)]
      by_cases hlt : D b + w < D a
      · rw [if_pos (by omega), if_pos hlt]
        exact ⟨_, rfl, hD.up (by omega), fun g m i hg => x_u_ne (by omega)⟩
      · rw [if_neg (by omega), if_neg hlt]
        exact ⟨Z, rfl, hD, fun _ _ _ _ => rfl⟩
    · have ea : q_en (D a) = -2 := by unfold q_en; rw [if_pos (by omega)]
      rw [ea, if_pos (by decide), if_pos (by omega)]
      exact ⟨_, rfl, hD.up (by omega), fun g m i hg => x_u_ne (by omega)⟩
  · have eb : q_en (D b) = -2 := by unfold q_en; rw [if_pos (by omega)]
    rw [eb, if_pos (by decide), if_neg (by omega)]
    exact ⟨Z, rfl, hD, fun _ _ _ _ => rfl⟩
def q_wt (T : PT) (N : PN) (c l : Nat) : Nat := if q_at T c (q_sg N c) = l then 0 else 1
def g_lc (T : PT) (N : PN) (n : Nat) : List (Nat × Nat × Nat) := match n with
  | 0 => []
  | n + 1 => g_lc T N n ++ [(T 4 n, T 5 n, q_wt T N (T 4 n) n), (T 5 n, T 4 n, q_wt T N (T 5 n) n)]
theorem q_wt_le (T : PT) (N : PN) (c l : Nat) : q_wt T N c l ≤ 9 := by unfold q_wt; split <;> omega
theorem g_lc_mem (T : PT) (N : PN) (n : Nat) (e : Nat × Nat × Nat) : e ∈ g_lc T N n ↔ ∃ l, l < n ∧ (e = (T 4 l, T 5 l, q_wt T N (T 4 l) l) ∨ e = (T 5 l, T 4 l, q_wt T N (T 5 l) l)) := by
  induction n with
  | zero => constructor
            · intro h; cases h
            · rintro ⟨l, h, _⟩; omega
  | succ n ih =>
    rw [g_lc, List.mem_append, ih]
    simp only [List.mem_cons, List.not_mem_nil, or_false]
    constructor
    · rintro (⟨l, h1, h2⟩ | h)
      · exact ⟨l, by omega, h2⟩
      · exact ⟨n, by omega, h⟩
    · rintro ⟨l, h1, h2⟩
      by_cases hl : l = n
      · subst hl; exact .inr h2
      · exact .inl ⟨l, by omega, h2⟩
theorem g_lc_GE {T : PT} {N : PN} (hT : TOK T) {n : Nat} (hn : n ≤ T 1 0) : GE (g_lc T N n) := by
  have t0 : T 0 0 ≤ 7 := hT.1
  intro e he
  obtain ⟨l, h1, h2⟩ := (g_lc_mem T N n e).1 he
  obtain ⟨b1, b2, _⟩ := hT.2.2.2.2.1 l (by omega)
  rcases h2 with rfl | rfl
  · exact ⟨by show T 4 l < 7; omega, by show T 5 l < 7; omega, q_wt_le _ _ _ _⟩
  · exact ⟨by show T 5 l < 7; omega, by show T 4 l < 7; omega, q_wt_le _ _ _ _⟩
