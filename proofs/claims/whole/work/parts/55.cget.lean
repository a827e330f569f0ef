/-! the class's small methods; how the invariant is built anew -/
theorem TI.congr {Z Z' : XZ} (h : TI Z) (hk : ∀ g m i, (g = 0 ∨ g = 1 ∨ g = 57 ∨ g = 63 ∨ (g = 56 ∧ (i = 2 ∨ i = 17))) → Z' g m i = Z g m i) : TI Z' := by
  have e (g : Nat) (hg : g = 0 ∨ g = 1 ∨ g = 57 ∨ g = 63) : ∀ m i, Z' g m i = Z g m i := fun m i => hk g m i (by omega)
  unfold TI at h ⊢
  simp only [e 0 (by decide), e 1 (by decide), e 57 (by decide), e 63 (by decide), hk 56 0 2 (by omega), hk 56 0 17 (by omega)]
  exact h
theorem NI.congr {Z Z' : XZ} (h : NI Z) (hk : ∀ g m i, ((35 ≤ g ∧ g ≤ 39) ∨ (102 ≤ g ∧ g ≤ 105) ∨ (g = 56 ∧ i = 70)) → Z' g m i = Z g m i) : NI Z' := by
  have e (g : Nat) (hg : (35 ≤ g ∧ g ≤ 39) ∨ (102 ≤ g ∧ g ≤ 105)) : ∀ m i, Z' g m i = Z g m i := fun m i => hk g m i (by omega)
  unfold NI at h ⊢
  simp only [e 35 (by decide), e 36 (by decide), e 37 (by decide), e 38 (by decide), e 39 (by decide), e 102 (by decide), e 103 (by decide), e 104 (by decide), e 105 (by decide), hk 56 0 70 (by omega)]
  exact h
theorem HI.congr {Z Z' : XZ} {u nx : Nat} {H : Nat → PN} (h : HI Z u nx H) (hk : ∀ g m i, (g = 31 ∨ (28 ≤ g ∧ g ≤ 30 ∧ 2 ≤ m ∧ m < 42) ∨ g = 100 ∨ (g = 56 ∧ i = 67)) → Z' g m i = Z g m i) : HI Z' u nx H := by
  unfold HI at h ⊢
  rw [hk 31 0 0 (by omega), hk 31 0 1 (by omega), hk 56 0 67 (by omega)]
  obtain ⟨a1, a2, a3, a4, a5, a6⟩ := h
  refine ⟨a1, a2, a3, a4, a5, fun j hj => ⟨(a6 j hj).1.congr (fun i => hk 28 _ i (by omega)) (fun i => hk 29 _ i (by omega)) (fun i => hk 30 _ i (by omega)), (a6 j hj).2.1.congr (fun i => hk 100 0 i (by omega)), (a6 j hj).2.2⟩⟩
theorem KI.congr {Z Z' : XZ} {K : Nat → PN} (h : KI Z K) (hk : ∀ g m i, (g = 34 ∨ g = 107 ∨ g = 108 ∨ (28 ≤ g ∧ g ≤ 30 ∧ 42 ≤ m)) → Z' g m i = Z g m i) : KI Z' K := by
  intro s hs
  obtain ⟨a1, a2⟩ := h s hs
  rw [hk 34 0 s (by omega), hk 107 0 s (by omega)]
  refine ⟨a1, ?_⟩
  rcases a2 with a2 | ⟨a2, a3, a4, a5⟩
  · exact .inl a2
  · exact .inr ⟨a2, a3.congr (fun i => hk 28 _ i (by omega)) (fun i => hk 29 _ i (by omega)) (fun i => hk 30 _ i (by omega)), a4.congr (fun i => hk 108 0 i (by omega)), a5⟩
/-- the cells of the town and the laws -/
def bsc (g i : Nat) : Prop := (7 ≤ g ∧ g ≤ 24 ∧ g ≠ 19 ∧ g ≠ 20) ∨ (66 ≤ g ∧ g ≤ 89) ∨ (g = 56 ∧ i = 18)
theorem PP.re {T : PT} {F : PF} {N N' : PN} {H K H' K' : Nat → PN} {v u nx u' nx' : Nat} {Z Z' : XZ} {t : Nat} (h : PP T F N H K v u nx Z t) (hk : ∀ g m i, bsc g i → Z' g m i = Z g m i) (h1 : CS Z' 0 N') (h2 : MR Z' 93 0 N') (h3 : NOK N') (h4 : HI Z' u' nx' H') (h5 : KI Z' K') (h6 : NI Z') (h7 : TI Z') : PP T F N' H' K' v u' nx' Z' t := by
  obtain ⟨a1, a2, a3, a4, a5, a6, _⟩ := h
  exact ⟨a1, a2, a3.congr (fun g i a b c d => hk g t i (by unfold bsc; omega)), a4.congr (fun g i a b => hk g 0 i (by unfold bsc; omega)) (hk 56 0 18 (by unfold bsc; omega)), a5.congr (fun g i a b => hk g t i (by unfold bsc; omega)), a6.congr (fun g a b => funext fun m => funext fun i => hk g m i (by unfold bsc; omega)), h1, h2, h3, h4, h5, h6, h7⟩
theorem p_fin {T : PT} {F : PF} {N : PN} {H K : Nat → PN} {v u nx : Nat} {Z : XZ} {t : Nat} (h : PP T F N H K v u nx Z t) {jc jm : Nat} {as : List XV} {r r' : Int} {Z1 Z2 : XZ} (hc : x_CALL 60 jc (.inr (.inr (some (0, 0))) :: as) (x_S Z t) = some (r, x_S Z1 t)) (k1 : keepQ Z Z1) (hm : x_CALL 60 jm (.inr (.inr (some (56, 0))) :: as) (x_S Z1 t) = some (r', x_S Z2 t)) (k2 : keepQ Z1 Z2) (e : cn r = cn r') : ∃ (r r' : Int) (Z1 Z2 : XZ) (t1 : Nat), x_CALL 60 jc (.inr (.inr (some (0, 0))) :: as) (x_S Z t) = some (r, x_S Z1 t1) ∧ (∀ g, 900 ≤ g → Z1 g = Z g) ∧ x_CALL 60 jm (.inr (.inr (some (56, 0))) :: as) (x_S Z1 t1) = some (r', x_S Z2 t1) ∧ (∀ g, 900 ≤ g → Z2 g = Z g) ∧ cn r = cn r' ∧ PI Z2 t1 := by
  refine ⟨r, r', Z1, Z2, t, hc, ?_, hm, ?_, e, ⟨T, F, N, H, K, v, u, nx, (h.q k1).q k2⟩⟩
  · intro g hg; funext m i; exact k1 g m i (by unfold scr; omega)
  · intro g hg; funext m i; exact (k1.trans k2) g m i (by unfold scr; omega)
section
variable {Z : XZ} {t : Nat} {T : PT} {d : Nat}
theorem c_hasC (hC : CT Z t T) (hT : TOK T) (hd : 1 ≤ d) (t' : Nat) (a : Int) : x_CALL d 53 [.inr (.inr (some (7, t))), .inl a] (x_S Z t') = some ((if 0 ≤ cn a ∧ cn a < (T 0 0 : Int) then 1 else 0), x_S Z t') := by
  have hc : T 0 0 ≤ 7 := hT.1
  rw [C53 _ _ _ _ _ (by omega), hC.1 0 (by omega), cn_nt (z := (T 0 0 : Int)) rfl (by omega)]
  by_cases h1 : cn a < 0
  · rw [if_pos h1, if_neg (by omega)]
  · rw [if_neg h1]
    by_cases h2 : cn a < (T 0 0 : Int)
    · rw [if_pos h2, if_pos (by omega)]
    · rw [if_neg h2, if_neg (by omega)]
theorem c_hasL (hC : CT Z t T) (hT : TOK T) (hd : 1 ≤ d) (t' : Nat) (a : Int) : x_CALL d 54 [.inr (.inr (some (7, t))), .inl a] (x_S Z t') = some ((if 0 ≤ cn a ∧ cn a < (T 1 0 : Int) then 1 else 0), x_S Z t') := by
  have hc : T 1 0 ≤ 10 := hT.2.1
  rw [C54 _ _ _ _ _ (by omega), hC.1 1 (by omega), cn_nt (z := (T 1 0 : Int)) rfl (by omega)]
  by_cases h1 : cn a < 0
  · rw [if_pos h1, if_neg (by omega)]
  · rw [if_neg h1]
    by_cases h2 : cn a < (T 1 0 : Int)
    · rw [if_pos h2, if_pos (by omega)]
    · rw [if_neg h2, if_neg (by omega)]
theorem c_hasS (hC : CT Z t T) (hT : TOK T) (hd : 1 ≤ d) (t' : Nat) (a : Int) : x_CALL d 55 [.inr (.inr (some (7, t))), .inl a] (x_S Z t') = some ((if 0 ≤ cn a ∧ cn a < (T 2 0 : Int) then 1 else 0), x_S Z t') := by
  have hc : T 2 0 ≤ 5 := hT.2.2.1
  rw [C55 _ _ _ _ _ (by omega), hC.1 2 (by omega), cn_nt (z := (T 2 0 : Int)) rfl (by omega)]
  by_cases h1 : cn a < 0
  · rw [if_pos h1, if_neg (by omega)]
  · rw [if_neg h1]
    by_cases h2 : cn a < (T 2 0 : Int)
    · rw [if_pos h2, if_pos (by omega)]
    · rw [if_neg h2, if_neg (by omega)]
theorem c_laneAt (hC : CT Z t T) (hT : TOK T) (hd : 1 ≤ d) (t' : Nat) {c p : Nat} (hc : c < T 0 0) (hp : p < 1000) : x_CALL d 59 [.inr (.inr (some (7, t))), .inl ((c : Int)), .inl ((p : Int))] (x_S Z t') = some ((if q_dg T c = 0 then -1 else (q_at T c p : Int)), x_S Z t') := by
  have hc7 : T 0 0 ≤ 7 := hT.1
  have hdg := q_dg_le hT c
  obtain ⟨_, r1, _, _, r2⟩ := hC.2.1 c hc
  rw [C59 _ _ _ _ _ _ (by omega), cn_nt (z := (c : Int)) rfl (by omega), Int.toNat_natCast, r1, if_pos (by omega), cn_nt (z := (q_dg T c : Int)) rfl (by omega)]
  by_cases h0 : q_dg T c = 0
  · rw [if_pos (by omega), if_pos h0]
  · have hlt : p % q_dg T c < q_dg T c := Nat.mod_lt _ (by omega)
    rw [if_neg (by omega), if_neg h0, if_neg (by omega), x_rem_nat (by omega) (by omega), cn_nt (n := 10 * c + p % q_dg T c) (by omega) (by omega), Int.toNat_natCast, if_pos (by omega), r2 _ hlt]
    rfl
theorem c_farEnd (hC : CT Z t T) (hT : TOK T) (hd : 1 ≤ d) (t' : Nat) {l c : Nat} (hl : l < T 1 0) (hc : c < 1000) : x_CALL d 60 [.inr (.inr (some (7, t))), .inl ((l : Int)), .inl ((c : Int))] (x_S Z t') = some ((q_oe T l c : Int), x_S Z t') := by
  have hc7 : T 0 0 ≤ 7 := hT.1
  have hl10 : T 1 0 ≤ 10 := hT.2.1
  obtain ⟨b1, b2, _⟩ := hT.2.2.2.2.1 l hl
  obtain ⟨r1, r2, _⟩ := hC.2.2.1 l hl
  rw [C60 _ _ _ _ _ _ (by omega), cn_nt (z := (l : Int)) rfl (by omega), Int.toNat_natCast, r1, r2, if_pos (by omega), cn_nt (z := (T 4 l : Int)) rfl (by omega), cn_nt (z := (c : Int)) rfl (by omega)]
  unfold q_oe
  by_cases h : T 4 l = c
  · rw [if_pos (by omega), if_pos (by omega), if_pos h]
  · rw [if_neg (by omega), if_pos (by omega), if_neg h]
end
/-! the calls that are done in a few instructions -/
theorem ite_01 (c : Prop) [Decidable c] (hc : c) : ¬ cn (if c then 1 else 0) = 0 := by rw [if_pos hc]; exact cn_1n
theorem ite_00 (c : Prop) [Decidable c] (hc : ¬ c) : cn (if c then 1 else 0) = 0 := by rw [if_neg hc]; exact cn_0
theorem s3_ok : p_s3 PI := by
  intro Z t ⟨T, F, N, H, K, v, u, nx, h⟩
  have hTI := h.2.2.2.2.2.2.2.2.2.2.2.2
  obtain ⟨n, h1, h2, h3, h4, _⟩ := hTI
  exact p_fin h (C87 60 Z t (by decide)) keepQ.rfl' (C151 60 Z t (by decide)) keepQ.rfl' (by rw [h4])
theorem s5_ok : p_s5 PI := by
  intro a b ha hb Z t ⟨T, F, N, H, K, v, u, nx, h⟩
  have hh := h
  obtain ⟨ht, hT, hC, hM, _⟩ := hh
  have l10 : T 1 0 ≤ 10 := hT.2.1
  have c1 : x_CALL 60 89 [.inr (.inr (some (0, 0))), .inl a, .inl b] (x_S Z t) = x_EX 59 89 8 [some (.inr (.inr (some (0, 0)))), some (.inl a), some (.inl b)] [.inl (if 0 ≤ cn a ∧ cn a < (T 1 0 : Int) then 1 else 0)] (x_S Z t) := by
    rw [C89 _ _ _ _ _ (by decide), c_hasL hC hT (by decide), Option.bind_some]
  have m1 : x_CALL 60 196 [.inr (.inr (some (56, 0))), .inl a, .inl b] (x_S Z t) = x_EX 59 196 5 [some (.inr (.inr (some (56, 0)))), some (.inl a), some (.inl b)] [.inl (if 0 ≤ cn a ∧ cn a < (T 1 0 : Int) then 1 else 0)] (x_S Z t) := by
    rw [C196 _ _ _ _ _ (by decide), m_isL hM hT (by decide), Option.bind_some]
  rw [B89_8] at c1
  rw [B196_5] at m1
  rw [cn_id ha.1 ha.2] at c1 m1
  by_cases hin : 0 ≤ a ∧ a < (T 1 0 : Int)
  · obtain ⟨l, rfl⟩ := Int.eq_ofNat_of_zero_le hin.1
    have hl : l < T 1 0 := by omega
    obtain ⟨r1, r2, r3⟩ := hC.2.2.1 l hl
    have hv := hM.1
    obtain ⟨q1, q2, q3⟩ := hM.2.2.2.2.1 l hl
    rw [if_neg (ite_01 _ hin)] at c1 m1
    have b1 : 0 ≤ (l : Int) ∧ (l : Int) < 10 := by omega
    have b2 : 0 ≤ ((10 * v + l : Nat) : Int) ∧ ((10 * v + l : Nat) : Int) < 20 := by omega
    simp only [Int.toNat_natCast, r1, r2, r3, if_pos b1] at c1
    rw [hM.2.1, cn_nt (z := 10 * (v : Int) + (l : Int)) (n := 10 * v + l) (by omega) (by omega)] at m1
    simp only [Int.toNat_natCast, q1, q2, q3, if_pos b2] at m1
    by_cases b0 : cn b = 0
    · rw [if_pos b0] at c1 m1; exact p_fin h c1 keepQ.rfl' m1 keepQ.rfl' rfl
    rw [if_neg b0] at c1 m1
    by_cases b1 : cn b = 1
    · rw [if_pos b1] at c1 m1; exact p_fin h c1 keepQ.rfl' m1 keepQ.rfl' rfl
    rw [if_neg b1] at c1 m1
    by_cases b2 : cn b = 2
    · rw [if_pos b2] at c1 m1; exact p_fin h c1 keepQ.rfl' m1 keepQ.rfl' rfl
    rw [if_neg b2] at c1 m1
    exact p_fin h c1 keepQ.rfl' m1 keepQ.rfl' rfl
  · rw [if_pos (ite_00 _ hin)] at c1 m1
    exact p_fin h c1 keepQ.rfl' m1 keepQ.rfl' rfl
