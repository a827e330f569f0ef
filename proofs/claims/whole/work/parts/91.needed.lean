/-! needed: what is reached without a lane -/
def g_e0 (T : PT) (wo n : Nat) : List (Nat × Nat × Nat) := match n with
  | 0 => []
  | n + 1 => g_e0 T wo n ++ (if n = wo then [] else [(T 4 n, T 5 n, 0), (T 5 n, T 4 n, 0)])
theorem g_e0_mem (T : PT) (wo n : Nat) (e : Nat × Nat × Nat) : e ∈ g_e0 T wo n ↔ ∃ l, l < n ∧ l ≠ wo ∧ (e = (T 4 l, T 5 l, 0) ∨ e = (T 5 l, T 4 l, 0)) := by
  induction n with
  | zero => constructor
            · intro h; cases h
            · rintro ⟨l, h, _⟩; omega
  | succ n ih =>
    rw [g_e0, List.mem_append, ih]
    constructor
    · rintro (⟨l, h1, h2, h3⟩ | h)
      · exact ⟨l, by omega, h2, h3⟩
      · by_cases hw : n = wo
        · rw [if_pos hw] at h; cases h
        · rw [if_neg hw] at h
          simp only [List.mem_cons, List.not_mem_nil, or_false] at h
          exact ⟨n, by omega, hw, h⟩
    · rintro ⟨l, h1, h2, h3⟩
      by_cases hl : l = n
      · subst hl
        right
        rw [if_neg h2]
        simp only [List.mem_cons, List.not_mem_nil, or_false]
        exact h3
      · exact .inl ⟨l, by omega, h2, h3⟩
def q_df (f : Nat) : Nat → Nat := fun c => if c = f then 0 else 1000
def q_dr (T : PT) (wo f : Nat) : Nat → Nat := g_rs (g_e0 T wo (T 1 0)) (T 0 0) (q_df f)
theorem g_e0_lt {T : PT} (hT : TOK T) (wo : Nat) : ∀ e, e ∈ g_e0 T wo (T 1 0) → e.1 < T 0 0 := by
  intro e he
  obtain ⟨l, h1, h2, h3⟩ := (g_e0_mem T wo _ e).1 he
  obtain ⟨b1, b2, _⟩ := hT.2.2.2.2.1 l h1
  rcases h3 with rfl | rfl
  · exact b1
  · exact b2
theorem g_ed_GE {T : PT} (hT : TOK T) (wo : Nat) : GE (g_ed T wo (T 1 0)) := by
  have t0 : T 0 0 ≤ 7 := hT.1
  intro e he
  obtain ⟨l, h1, _, h3⟩ := (g_ed_mem T wo _ e).1 he
  obtain ⟨b1, b2, _, _, b5⟩ := hT.2.2.2.2.1 l h1
  rcases h3 with rfl | rfl
  · exact ⟨by show T 4 l < 7; omega, by show T 5 l < 7; omega, b5⟩
  · exact ⟨by show T 5 l < 7; omega, by show T 4 l < 7; omega, b5⟩
theorem q_ds_FB {T : PT} (hT : TOK T) (wo : Nat) : FB (q_ds T wo) := by
  unfold q_ds; rw [g_ed_rs]; exact (FB.d0 hT).rs (g_ed_GE hT wo) 7
theorem q_ds_fin {T : PT} (hT : TOK T) {wo l : Nat} (hl : l < T 1 0) (hw : l ≠ wo) : q_ds T wo (T 4 l) < 1000 ↔ q_ds T wo (T 5 l) < 1000 := by
  have t0 : T 0 0 ≤ 7 := hT.1
  obtain ⟨b1, b2, _, _, b5⟩ := hT.2.2.2.2.1 l hl
  obtain ⟨a1, a2⟩ := q_ds_sta hT hl hw
  have hF := q_ds_FB hT wo
  constructor
  · intro h; have := hF.b (by omega) h; omega
  · intro h; have := hF.b (by omega) h; omega
theorem reach_iff {T : PT} (hT : TOK T) (h0 : T 0 0 ≠ 0) (wo f : Nat) : q_dr T wo f (T 10 0) = 0 ↔ q_ds T wo f < 1000 := by
  have t0 : T 0 0 ≤ 7 := hT.1
  have hsta : g_sta (g_e0 T wo (T 1 0)) (q_dr T wo f) := g_rs_sta (g_e0_lt hT wo) (Nat.le_refl _)
  have hho := q_ds_house h0 wo
  constructor
  · intro h
    have hG := g_rs_ge (E := g_e0 T wo (T 1 0)) (G := fun c => if (q_ds T wo c < 1000 ↔ q_ds T wo f < 1000) then 0 else 1000) (D := q_df f) (fun e he => by
        obtain ⟨l, h1, h2, h3⟩ := (g_e0_mem T wo _ e).1 he
        have hf := q_ds_fin hT h1 h2
        rcases h3 with rfl | rfl
        · show (if (q_ds T wo (T 4 l) < 1000 ↔ q_ds T wo f < 1000) then 0 else 1000) ≤ (if (q_ds T wo (T 5 l) < 1000 ↔ q_ds T wo f < 1000) then 0 else 1000) + 0
          simp only [hf]; omega
        · show (if (q_ds T wo (T 5 l) < 1000 ↔ q_ds T wo f < 1000) then 0 else 1000) ≤ (if (q_ds T wo (T 4 l) < 1000 ↔ q_ds T wo f < 1000) then 0 else 1000) + 0
          simp only [hf]; omega) (fun c => by
        show (if (q_ds T wo c < 1000 ↔ q_ds T wo f < 1000) then 0 else 1000) ≤ q_df f c
        unfold q_df
        by_cases hc : c = f
        · subst hc; rw [if_pos Iff.rfl]; exact Nat.zero_le _
        · rw [if_neg hc]; split <;> omega) (T 0 0) (T 10 0)
    have hG' : (if (q_ds T wo (T 10 0) < 1000 ↔ q_ds T wo f < 1000) then 0 else 1000) ≤ q_dr T wo f (T 10 0) := hG
    rw [h] at hG'
    by_cases hx : (q_ds T wo (T 10 0) < 1000 ↔ q_ds T wo f < 1000)
    · exact hx.1 (by omega)
    · rw [if_neg hx] at hG'; omega
  · intro h
    by_cases hx : q_dr T wo f (T 10 0) = 0
    · exact hx
    · have hG := g_rs_ge (E := g_ed T wo (T 1 0)) (G := fun c => if q_dr T wo f c = 0 then 1000 else 0) (D := q_d0 T) (fun e he => by
          obtain ⟨l, h1, h2, h3⟩ := (g_ed_mem T wo _ e).1 he
          have s1 := hsta _ ((g_e0_mem T wo _ _).2 ⟨l, h1, h2, .inl rfl⟩)
          have s2 := hsta _ ((g_e0_mem T wo _ _).2 ⟨l, h1, h2, .inr rfl⟩)
          rcases h3 with rfl | rfl
          · show (if q_dr T wo f (T 4 l) = 0 then 1000 else 0) ≤ (if q_dr T wo f (T 5 l) = 0 then 1000 else 0) + T 6 l
            by_cases hy : q_dr T wo f (T 4 l) = 0
            · rw [if_pos hy, if_pos (by simp only at s2; omega)]; omega
            · rw [if_neg hy]; exact Nat.zero_le _
          · show (if q_dr T wo f (T 5 l) = 0 then 1000 else 0) ≤ (if q_dr T wo f (T 4 l) = 0 then 1000 else 0) + T 6 l
            by_cases hy : q_dr T wo f (T 5 l) = 0
            · rw [if_pos hy, if_pos (by simp only at s1; omega)]; omega
            · rw [if_neg hy]; exact Nat.zero_le _) (fun c => by
          show (if q_dr T wo f c = 0 then 1000 else 0) ≤ q_d0 T c
          unfold q_d0
          by_cases hc : c = T 10 0 ∧ T 0 0 ≠ 0
          · rw [if_pos hc, hc.1, if_neg hx]; exact Nat.le_refl 0
          · rw [if_neg hc]; split <;> omega) 7 f
      have hf0 : q_dr T wo f f = 0 := by
        have := g_rs_le (g_e0 T wo (T 1 0)) (q_df f) (T 0 0) f
        have h2 : q_df f f = 0 := by unfold q_df; rw [if_pos rfl]
        unfold q_dr; omega
      have hG' : (if q_dr T wo f f = 0 then 1000 else 0) ≤ q_ds T wo f := by unfold q_ds; rw [g_ed_rs]; exact hG
      rw [if_pos hf0] at hG'
      omega
/-! the class's set of bits -/
def BS (acc : Nat) (D : Nat → Nat) : Prop := acc < 2 ^ 7 ∧ (∀ c, D c = 0 ∨ D c = 1000) ∧ ∀ c, c < 7 → (acc / 2 ^ c % 2 = 1 ↔ D c = 0)
theorem bit_2 (a c : Nat) : 2 ^ a / 2 ^ c % 2 = 1 ↔ a = c := by rw [bit_iff, Nat.testBit_two_pow]; simp
theorem bit_o (x y c : Nat) : (x ||| y) / 2 ^ c % 2 = 1 ↔ (x / 2 ^ c % 2 = 1 ∨ y / 2 ^ c % 2 = 1) := by rw [bit_iff, Nat.testBit_or, Bool.or_eq_true, ← bit_iff, ← bit_iff]
theorem and_2 (x a b : Nat) : x &&& (2 ^ a ||| 2 ^ b) = 0 ↔ (¬ x / 2 ^ a % 2 = 1 ∧ ¬ x / 2 ^ b % 2 = 1) := by
  rw [Nat.and_or_distrib_left, ← bit_t, ← bit_t]
  constructor
  · intro h
    have h1 : x &&& 2 ^ a ≤ x &&& 2 ^ a ||| x &&& 2 ^ b := Nat.left_le_or
    have h2 : x &&& 2 ^ b ≤ x &&& 2 ^ a ||| x &&& 2 ^ b := Nat.right_le_or
    omega
  · rintro ⟨h1, h2⟩; rw [h1, h2]; rfl
theorem q_rx0 {D : Nat → Nat} (h : ∀ c, D c = 0 ∨ D c = 1000) (a b c : Nat) : q_rx (q_rx D a b 0) b a 0 c = if (D a = 0 ∨ D b = 0) ∧ (c = a ∨ c = b) then 0 else D c := by
  have ha := h a
  have hb := h b
  have hc := h c
  unfold q_rx q_up
  by_cases h1 : D b + 0 < D a
  · rw [if_pos h1]
    simp only
    have e1 : (if True then D b + 0 else D a) = D b := if_pos trivial
    rw [e1]
    rw [if_neg (show ¬ D b + 0 < (if b = a then D b + 0 else D b) by split <;> omega)]
    by_cases hca : c = a
    · rw [if_pos hca, if_pos ⟨.inr (by omega), .inl hca⟩]; omega
    · rw [if_neg hca]
      by_cases hcb : c = b
      · rw [if_pos ⟨.inr (by omega), .inr hcb⟩, hcb]; omega
      · rw [if_neg (by omega)]
  · rw [if_neg h1]
    by_cases h2 : D a + 0 < D b
    · rw [if_pos h2]
      by_cases hcb : c = b
      · rw [if_pos hcb, if_pos ⟨.inl (by omega), .inr hcb⟩]; omega
      · rw [if_neg hcb]
        by_cases hca : c = a
        · rw [if_pos ⟨.inl (by omega), .inl hca⟩, hca]; omega
        · rw [if_neg (by omega)]
    · rw [if_neg h2]
      by_cases h3 : (D a = 0 ∨ D b = 0) ∧ (c = a ∨ c = b)
      · rw [if_pos h3]
        rcases h3.2 with rfl | rfl <;> omega
      · rw [if_neg h3]
theorem BS.step {acc : Nat} {D : Nat → Nat} (h : BS acc D) {a b : Nat} (ha : a < 7) (hb : b < 7) : BS (if acc &&& (2 ^ a ||| 2 ^ b) = 0 then acc else acc ||| (2 ^ a ||| 2 ^ b)) (q_rx (q_rx D a b 0) b a 0) := by
  obtain ⟨h1, h2, h3⟩ := h
  have pa : 2 ^ a < 2 ^ 7 := Nat.pow_lt_pow_right (by decide) ha
  have pb : 2 ^ b < 2 ^ 7 := Nat.pow_lt_pow_right (by decide) hb
  have h3a := h3 a ha
  have h3b := h3 b hb
  refine ⟨?_, ?_, ?_⟩
  · split
    · exact h1
    · exact Nat.or_lt_two_pow h1 (Nat.or_lt_two_pow pa pb)
  · intro c; rw [q_rx0 h2]; split; exact .inl rfl; exact h2 c
  · intro c hc
    rw [q_rx0 h2]
    by_cases hz : acc &&& (2 ^ a ||| 2 ^ b) = 0
    · rw [if_pos hz]
      have := (and_2 acc a b).1 hz
      rw [if_neg (by rintro ⟨x | x, _⟩; exact this.1 (h3a.2 x); exact this.2 (h3b.2 x))]
      exact h3 c hc
    · rw [if_neg hz, bit_o, bit_o, bit_2, bit_2]
      have hz' : D a = 0 ∨ D b = 0 := by
        by_cases hx : D a = 0
        · exact .inl hx
        · by_cases hy : D b = 0
          · exact .inr hy
          · exact absurd ((and_2 acc a b).2 ⟨fun e => hx (h3a.1 e), fun e => hy (h3b.1 e)⟩) hz
      by_cases hcab : c = a ∨ c = b
      · rw [if_pos ⟨hz', hcab⟩]
        constructor
        · intro _; rfl
        · intro _; right; omega
      · rw [if_neg (fun x => hcab x.2)]
        constructor
        · rintro (x | x)
          · exact (h3 c hc).1 x
          · omega
        · intro x; exact .inl ((h3 c hc).2 x)
theorem c_rch_round {T : PT} {Z : XZ} {t d wo f : Nat} {a1 a2 a4 : Int} (hC : CT Z t T) (hT : TOK T) (hwo : ∀ l : Nat, l < T 1 0 → (cn a2 = (l : Int) ↔ l = wo)) {D : Nat → Nat} : ∀ (n l acc : Nat) (o6 : Option XV), l + n = T 1 0 → BS acc (g_ro (g_e0 T wo l) D) → ∃ (acc' : Nat) (p5 p6 : Option XV), x_EX d 65 19 [some (.inr (.inr (some (7, t)))), some (.inl a1), some (.inl a2), some (.inl ((acc : Int))), some (.inl a4), some (.inl ((l : Int))), o6] [] (x_S Z t) = x_EX d 65 7 [some (.inr (.inr (some (7, t)))), some (.inl a1), some (.inl a2), some (.inl ((acc' : Int))), some (.inl (a4 + 1)), p5, p6] [] (x_S Z t) ∧ BS acc' (g_ro (g_e0 T wo (T 1 0)) D) := by
  have t0 : T 0 0 ≤ 7 := hT.1
  have t1 : T 1 0 ≤ 10 := hT.2.1
  intro n
  induction n with
  | zero =>
    intro l acc o6 hl hB
    obtain rfl : l = T 1 0 := by omega
    rw [B65_19, hC.1 1 (by omega), if_neg (Int.lt_irrefl _)]
    exact ⟨acc, _, _, rfl, hB⟩
  | succ n ih =>
    intro l acc o6 hl hB
    have hlt : l < T 1 0 := by omega
    obtain ⟨b1, b2, b3, b4, b5⟩ := hT.2.2.2.2.1 l hlt
    obtain ⟨r1, r2, r3⟩ := hC.2.2.1 l hlt
    have bl : 0 ≤ (l : Int) ∧ (l : Int) < 10 := by omega
    have pa : 2 ^ T 4 l < 2 ^ 7 := Nat.pow_lt_pow_right (by decide) (by omega)
    have pb : 2 ^ T 5 l < 2 ^ 7 := Nat.pow_lt_pow_right (by decide) (by omega)
    have pab : 2 ^ T 4 l ||| 2 ^ T 5 l < 2 ^ 7 := Nat.or_lt_two_pow pa pb
    have hacc := hB.1
    have hand : acc &&& (2 ^ T 4 l ||| 2 ^ T 5 l) ≤ acc := Nat.and_le_left
    rw [B65_19, hC.1 1 (by omega), cn_nt (z := (l : Int)) rfl (by omega), cn_nt (z := (T 1 0 : Int)) rfl (by omega), if_pos (by omega), if_pos bl, if_pos bl, Int.toNat_natCast, r1, r2, x_shl_1 (by omega), x_shl_1 (by omega), x_or_nat (by omega) (by omega), x_and_nat (by omega) (by omega), x_or_nat (by omega) (by omega), cn_nt (z := ((acc &&& (2 ^ T 4 l ||| 2 ^ T 5 l) : Nat) : Int)) rfl (by omega)]
    by_cases hw : l = wo
    · have he : g_e0 T wo (l + 1) = g_e0 T wo l := by rw [g_e0, if_pos hw, List.append_nil]
      rw [if_pos (((hwo l hlt).2 hw).symm)]
      exact ih (l + 1) acc _ (by omega) (by rw [he]; exact hB)
    · have he : g_ro (g_e0 T wo (l + 1)) D = q_rx (q_rx (g_ro (g_e0 T wo l) D) (T 4 l) (T 5 l) 0) (T 5 l) (T 4 l) 0 := by rw [g_e0, if_neg hw, g_ro_app]; rfl
      have hB' := hB.step (a := T 4 l) (b := T 5 l) (by omega) (by omega)
      rw [← he] at hB'
      rw [if_neg (fun x => hw ((hwo l hlt).1 x.symm))]
      by_cases hz : acc &&& (2 ^ T 4 l ||| 2 ^ T 5 l) = 0
      · rw [if_pos hz] at hB'
        rw [if_pos (by omega)]
        exact ih (l + 1) acc _ (by omega) hB'
      · rw [if_neg hz] at hB'
        rw [if_neg (by omega)]
        exact ih (l + 1) _ _ (by omega) hB'
theorem c_rch {T : PT} {Z : XZ} {t d wo f : Nat} {a2 : Int} (hC : CT Z t T) (hT : TOK T) (h0 : T 0 0 ≠ 0) (hf : f < T 0 0) (hwo : ∀ l : Nat, l < T 1 0 → (cn a2 = (l : Int) ↔ l = wo)) (hd : 1 ≤ d) : x_CALL d 65 [.inr (.inr (some (7, t))), .inl ((f : Int)), .inl a2] (x_S Z t) = some ((if q_ds T wo f < 1000 then 1 else 0), x_S Z t) := by
  have t0 : T 0 0 ≤ 7 := hT.1
  have h10 := hT.2.2.2.2.2.2.1 (by omega)
  have loop : ∀ (n k acc : Nat) (o5 o6 : Option XV), k + n = T 0 0 → BS acc (g_rs (g_e0 T wo (T 1 0)) k (q_df f)) → x_EX (d - 1) 65 7 [some (.inr (.inr (some (7, t)))), some (.inl ((f : Int))), some (.inl a2), some (.inl ((acc : Int))), some (.inl ((k : Int))), o5, o6] [] (x_S Z t) = some ((if q_ds T wo f < 1000 then 1 else 0), x_S Z t) := by
    intro n
    induction n with
    | zero =>
      intro k acc o5 o6 hk hB
      obtain rfl : k = T 0 0 := by omega
      have hacc := hB.1
      have hbit := hB.2.2 (T 10 0) (by omega)
      have hri := reach_iff hT h0 wo f
      rw [B65_7, hC.1 0 (by omega), if_neg (Int.lt_irrefl _), hC.1 10 (by omega), x_shl_1 (by omega)]
      by_cases hx : acc / 2 ^ T 10 0 % 2 = 1
      · rw [if_neg (fun e => (bit_c (by omega) (by omega)).1 e hx), if_pos (hri.1 (hbit.1 hx))]
      · rw [if_pos ((bit_c (by omega) (by omega)).2 hx), if_neg (fun e => hx (hbit.2 (hri.2 e)))]
    | succ n ih =>
      intro k acc o5 o6 hk hB
      rw [B65_7, hC.1 0 (by omega), cn_nt (z := (k : Int)) rfl (by omega), cn_nt (z := (T 0 0 : Int)) rfl (by omega), if_pos (by omega)]
      obtain ⟨acc', p5, p6, e1, e2⟩ := c_rch_round (d := d - 1) (f := f) (a1 := (f : Int)) (a4 := (k : Int)) hC hT hwo (T 1 0) 0 acc o6 (by omega) hB
      exact e1.trans (ih (k + 1) acc' p5 p6 (by omega) e2)
  rw [C65 _ _ _ _ _ _ (by omega), x_shl_1 (by omega)]
  refine loop (T 0 0) 0 (2 ^ f) none none (by omega) ⟨Nat.pow_lt_pow_right (by decide) (by omega), fun c => ?_, fun c hc => ?_⟩
  · show q_df f c = 0 ∨ q_df f c = 1000
    unfold q_df; split
    · exact .inl rfl
    · exact .inr rfl
  · rw [bit_2]
    show f = c ↔ q_df f c = 0
    unfold q_df
    by_cases h : c = f
    · rw [if_pos h]; exact ⟨fun _ => rfl, fun _ => h.symm⟩
    · rw [if_neg h]; exact ⟨fun e => absurd e.symm h, fun e => absurd e (by decide)⟩
def q_nd (T : PT) (f l : Nat) : Bool := decide (¬ q_ds T l f < 1000)
theorem s28_ok : p_s28 PI := by
  intro a ha Z t ⟨T, F, N, H, K, v, u, nx, h⟩
  obtain ⟨ht, hT, hC, hM, hL, hML, hS, hR, hN, hH, _⟩ := id h
  have t0 : T 0 0 ≤ 7 := hT.1
  have t1 : T 1 0 ≤ 10 := hT.2.1
  have t2 : T 2 0 ≤ 5 := hT.2.2.1
  have c1 := C114 60 Z t a (by decide)
  rw [c_hasS hC hT (by decide), Option.bind_some, B114_8, cn_id ha.1 ha.2] at c1
  have m1 : ∀ Z1, MT Z1 v T → x_CALL 60 230 [.inr (.inr (some (56, 0))), .inl a] (x_S Z1 t) = _ := fun Z1 hM1 => by rw [C230 60 Z1 t a (by decide), m_isS hM1 hT (by decide), Option.bind_some, B230_5, cn_id ha.1 ha.2]
  by_cases h1 : 0 ≤ a ∧ a < (T 2 0 : Int)
  case neg =>
    have m2 := m1 Z hM
    rw [if_pos (ite_00 _ h1)] at c1 m2; exact p_fin h c1 keepQ.rfl' m2 keepQ.rfl' rfl
  obtain ⟨s, rfl⟩ := Int.eq_ofNat_of_zero_le h1.1
  have hs : s < T 2 0 := by omega
  have h8 := (hT.2.2.2.2.2.1 s hs).2
  have w99 : ∀ l : Nat, l < T 1 0 → (cn (-1) = (l : Int) ↔ l = 99) := fun l hl => by rw [cn_id (by decide) (by decide)]; omega
  refine q_one h (X := if q_ds T 99 (T 8 s) < 1000 then cn (q_bs (q_nd T (T 8 s)) (T 1 0) : Int) else 0) ?_ (fun Z1 hI => ?_)
  · rw [if_neg (ite_01 _ h1), if_pos (by omega), Int.toNat_natCast, (hC.2.2.2.1 s hs).2, c_rch (wo := 99) hC hT (by omega) h8 w99 (by decide), Option.bind_some, B114_34] at c1
    by_cases hr : q_ds T 99 (T 8 s) < 1000
    · have loop : ∀ (n l : Nat), l + n = T 1 0 → x_EX 59 114 40 [some (.inr (.inr (some (0, 0)))), some (.inl ((s : Int))), some (.inl ((T 8 s : Int))), some (.inl ((q_bs (q_nd T (T 8 s)) l : Int))), some (.inl ((l : Int)))] [] (x_S Z t) = some ((q_bs (q_nd T (T 8 s)) (T 1 0) : Int), x_S Z t) := by
        intro n
        induction n with
        | zero =>
          intro l hl
          obtain rfl : l = T 1 0 := by omega
          rw [B114_40, hC.1 1 (by omega), if_neg (Int.lt_irrefl _)]
        | succ n ih =>
          intro l hl
          have ih' := ih (l + 1) (by omega)
          rw [q_bs] at ih'
          rw [B114_40, hC.1 1 (by omega), cn_nt (z := (l : Int)) rfl (by omega), cn_nt (z := (T 1 0 : Int)) rfl (by omega), if_pos (by omega), c_rch (wo := l) hC hT (by omega) h8 (fun q hq => by rw [cn_nt rfl (by omega)]; omega) (by decide), Option.bind_some, B114_62]
          by_cases hx : q_ds T l (T 8 s) < 1000
          · rw [if_neg (by unfold q_nd; simp; omega)] at ih'
            rw [if_neg (ite_01 _ hx)]; exact ih'
          · rw [if_pos (by unfold q_nd; simp; omega)] at ih'
            rw [if_pos (ite_00 _ hx), q_bs_or (by omega)]; exact ih'
      rw [if_neg (ite_01 _ hr)] at c1
      exact ⟨_, Z, c1.trans (loop (T 1 0) 0 (by omega)), by rw [if_pos hr], keepQ.rfl'⟩
    · rw [if_pos (ite_00 _ hr)] at c1
      exact ⟨_, Z, c1, by rw [if_neg hr]; exact cn_0, keepQ.rfl'⟩
  · have m2 := m1 Z1 hI.1
    obtain ⟨Z2, e1, e2, e3⟩ := m_miles (d := 59) (a1 := -1) (wo := 99) hI.1 hT (by decide) t w99
    have hM2 : MT Z2 v T := hI.1.congr (fun g i a b => e3 _ _ _ (by omega)) (e3 _ _ _ (by omega))
    have hds := q_ds_le T 99 (T 8 s)
    rw [if_neg (ite_01 _ h1), e1, Option.bind_some, B230_15, m_start hM2 hT (by decide) t hs, Option.bind_some, B230_24, cn_nt (z := (T 8 s : Int)) rfl (by omega), if_pos (by omega), Int.toNat_natCast, e2 _ (by omega), cn_nt (z := (q_ds T 99 (T 8 s) : Int)) rfl (by omega)] at m2
    have hq : keepQ Z1 Z2 := fun g m i hs => e3 g m i (by unfold scr at hs; omega)
    by_cases hr : q_ds T 99 (T 8 s) < 1000
    · have loop : ∀ (n l : Nat) (Z : XZ), l + n = T 1 0 → MT Z v T → ∃ Z' : XZ, x_EX 59 230 37 [some (.inr (.inr (some (56, 0)))), some (.inl ((s : Int))), some (.inl ((q_bs (q_nd T (T 8 s)) l : Int))), some (.inl ((l : Int)))] [] (x_S Z t) = some ((q_bs (q_nd T (T 8 s)) (T 1 0) : Int), x_S Z' t) ∧ ∀ g m i, g ≠ 95 → Z' g m i = Z g m i := by
        intro n
        induction n with
        | zero =>
          intro l Z hl hM
          obtain ⟨hv, h18, ⟨_, v1, _⟩, _⟩ := id hM
          obtain rfl : l = T 1 0 := by omega
          rw [B230_37, h18, cn_nt (z := (v : Int)) rfl (by omega), Int.toNat_natCast, v1, if_pos (by omega), if_neg (Int.lt_irrefl _)]
          exact ⟨Z, rfl, fun _ _ _ _ => rfl⟩
        | succ n ih =>
          intro l Z hl hM
          obtain ⟨hv, h18, ⟨_, v1, _⟩, _⟩ := id hM
          obtain ⟨Z1, e1, e2, e3⟩ := m_miles (d := 59) (a1 := (l : Int)) (wo := l) hM hT (by decide) t (fun q hq => by rw [cn_nt rfl (by omega)]; omega)
          have hM1 : MT Z1 v T := hM.congr (fun g i a b => e3 _ _ _ (by omega)) (e3 _ _ _ (by omega))
          obtain ⟨Z', f1, f2⟩ := ih (l + 1) Z1 (by omega) hM1
          have hds := q_ds_le T l (T 8 s)
          rw [q_bs] at f1
          rw [B230_37, h18, cn_nt (z := (v : Int)) rfl (by omega), Int.toNat_natCast, v1, if_pos (by omega), cn_nt (z := (l : Int)) rfl (by omega), cn_nt (z := (T 1 0 : Int)) rfl (by omega), if_pos (by omega), e1, Option.bind_some, B230_55, m_start hM1 hT (by decide) t hs, Option.bind_some, B230_64, cn_nt (z := (T 8 s : Int)) rfl (by omega), if_pos (by omega), Int.toNat_natCast, e2 _ (by omega), cn_nt (z := (q_ds T l (T 8 s) : Int)) rfl (by omega)]
          by_cases hx : q_ds T l (T 8 s) < 1000
          · rw [if_neg (by unfold q_nd; simp; omega)] at f1
            rw [if_pos (by omega)]
            exact ⟨Z', f1, fun g m i hg => (f2 g m i hg).trans (e3 g m i hg)⟩
          · rw [if_pos (by unfold q_nd; simp; omega)] at f1
            rw [if_neg (by omega), q_bs_or (by omega)]
            exact ⟨Z', f1, fun g m i hg => (f2 g m i hg).trans (e3 g m i hg)⟩
      obtain ⟨Z', f1, f2⟩ := loop (T 1 0) 0 Z2 (by omega) hM2
      rw [if_pos (by omega)] at m2
      exact ⟨_, Z', m2.trans f1, by rw [if_pos hr], fun g m i hs => (f2 g m i (by unfold scr at hs; omega)).trans (hq g m i hs)⟩
    · rw [if_neg (by omega)] at m2
      exact ⟨_, Z2, m2, by rw [if_neg hr]; exact cn_0, hq⟩
