/-! tells: the class, small things -/
def q_tk (K : Nat → Int) (ks : List Int) (j : Nat) : Nat × Nat := match ks with
  | [] => (0, j)
  | k :: ks => if K j = k then (if j < 400 then q_tk K ks (j + 1) else (2, j)) else (1, j)
theorem q_tk_y {K : Nat → Int} {k : Int} {ks : List Int} {j : Nat} (h : K j = k) (hj : j < 400) : q_tk K (k :: ks) j = q_tk K ks (j + 1) := by rw [q_tk, if_pos h, if_pos hj]
theorem q_tk_r {K : Nat → Int} {k : Int} {ks : List Int} {j : Nat} (h : K j = k) (hj : ¬ j < 400) : q_tk K (k :: ks) j = (2, j) := by rw [q_tk, if_pos h, if_neg hj]
theorem q_tk_s {K : Nat → Int} {k : Int} {ks : List Int} {j : Nat} (h : ¬ K j = k) : q_tk K (k :: ks) j = (1, j) := by rw [q_tk, if_neg h]
theorem q_tk_len {K : Nat → Int} : ∀ (ks : List Int) (j : Nat), (q_tk K ks j).1 = 0 → (q_tk K ks j).2 = j + ks.length ∧ (ks ≠ [] → j + ks.length ≤ 400) ∧ ∀ i, i < ks.length → K (j + i) = ks.getD i 0 := by
  intro ks
  induction ks with
  | nil => intro j _; exact ⟨rfl, fun h => absurd rfl h, fun i hi => absurd hi (Nat.not_lt_zero _)⟩
  | cons k ks ih =>
    intro j h
    by_cases h1 : K j = k
    · by_cases h2 : j < 400
      · rw [q_tk_y h1 h2] at h ⊢
        obtain ⟨a, b, c⟩ := ih (j + 1) h
        refine ⟨by rw [a, List.length_cons]; omega, fun _ => ?_, fun i hi => ?_⟩
        · rw [List.length_cons]
          cases ks with
          | nil => simp; omega
          | cons x y => have := b (by simp); omega
        · cases i with
          | zero => exact h1
          | succ i =>
            have := c i (by rw [List.length_cons] at hi; omega)
            rw [show j + (i + 1) = j + 1 + i by omega, this]; rfl
      · rw [q_tk_r h1 h2] at h; exact absurd h (by simp)
    · rw [q_tk_s h1] at h; exact absurd h (by simp)
theorem q_tk_le {K : Nat → Int} : ∀ (ks : List Int) (j : Nat), j ≤ 400 → (∀ k, k ∈ ks → k ≠ 256 ∧ k ≠ 257) → j ≤ (q_tk K ks j).2 ∧ (q_tk K ks j).2 ≤ 400 ∧ LK K j (q_tk K ks j).2 ∧ ((q_tk K ks j).1 = 0 ∨ (q_tk K ks j).1 = 1 ∨ (q_tk K ks j).1 = 2) := by
  intro ks
  induction ks with
  | nil => intro j hj _; exact ⟨Nat.le_refl _, hj, LK.nil, .inl rfl⟩
  | cons k ks ih =>
    intro j hj hk
    by_cases h1 : K j = k
    · by_cases h2 : j < 400
      · rw [q_tk_y h1 h2]
        obtain ⟨a, b, c, e⟩ := ih (j + 1) (by omega) (fun x hx => hk x (List.mem_cons_of_mem _ hx))
        exact ⟨by omega, b, (LK.one (by rw [h1]; exact hk k (List.mem_cons_self ..))).trans c, e⟩
      · rw [q_tk_r h1 h2]; exact ⟨Nat.le_refl _, hj, LK.nil, .inr (.inr rfl)⟩
    · rw [q_tk_s h1]; exact ⟨Nat.le_refl _, hj, LK.nil, .inr (.inl rfl)⟩
def CH (d t : Nat) (L : XH → Option (Int × XH)) (ks : List Int) (E : Int → XH → Option (Int × XH)) : Prop := match ks with
  | [] => ∀ s Z, E s (x_S Z t) = if cn s = 0 then some (0, x_S Z t) else L (x_S Z t)
  | k :: ks => ∃ E' : Int → XH → Option (Int × XH), (∀ s Z, E s (x_S Z t) = if cn s = 0 then some (0, x_S Z t) else (x_CALL d 22 [.inr (.inr (some (2, 0))), .inl k] (x_S Z t)).bind fun q => E' q.1 q.2) ∧ CH d t L ks E'
theorem KB4.rfl' {Z : XZ} : KB4 Z Z := fun _ _ _ _ => rfl
theorem KB4.trans {Z Z' Z'' : XZ} (h : KB4 Z Z') (h' : KB4 Z' Z'') : KB4 Z Z'' := fun g m i a => (h' g m i a).trans (h g m i a)
theorem KB4.tk {Z Z' : XZ} {K P V : Nat → Int} (h : KB4 Z Z') (hT : TKc Z K P V) : TKc Z' K P V := hT.congr (fun g i a b => h g 0 i (by omega))
theorem c_chain {K P V : Nat → Int} {u d : Nat} {L : XH → Option (Int × XH)} (hB : KB K V) (hd : 1 ≤ d) (t : Nat) : ∀ (ks : List Int) (k : Int) (E : Int → XH → Option (Int × XH)) (Z : XZ) (j n : Nat), CH d t L ks E → TKc Z K P V → CXn Z K u j n → Z 2 0 4 = 1 → (∀ x, x ∈ k :: ks → 0 ≤ x ∧ x < 1000 ∧ x ≠ 256 ∧ x ≠ 257) → ((q_tk K (k :: ks) j).1 = 0 → ∃ Z' : XZ, ((x_CALL d 22 [.inr (.inr (some (2, 0))), .inl k] (x_S Z t)).bind fun q => E q.1 q.2) = L (x_S Z' t) ∧ KB4 Z Z' ∧ CXn Z' K u (q_tk K (k :: ks) j).2 n ∧ Z' 2 0 4 = 1) ∧ (¬ (q_tk K (k :: ks) j).1 = 0 → ∃ Z' : XZ, ((x_CALL d 22 [.inr (.inr (some (2, 0))), .inl k] (x_S Z t)).bind fun q => E q.1 q.2) = some (0, x_S Z' t) ∧ KB4 Z Z' ∧ Z' 2 0 3 = ((q_tk K (k :: ks) j).2 : Int) ∧ Z' 2 0 4 = ((q_tk K (k :: ks) j).1 : Int)) := by
  intro ks
  induction ks with
  | nil =>
    intro k E Z j n hE hT hX h4 hk
    have hk1 := hk k (List.mem_cons_self ..)
    rw [c_take hB hT hX.cx hd t k ⟨hk1.1, hk1.2.1⟩]
    obtain ⟨x1, x2, x3, x4, x5⟩ := hX
    by_cases h1 : K j = k
    · by_cases h2 : j < 400
      · rw [q_tk_y h1 h2, if_pos h1, if_pos h2, Option.bind_some]
        have e := hE 1 (x_u Z 2 0 3 ((j : Int) + 1))
        rw [if_neg cn_1n] at e
        refine ⟨fun _ => ⟨_, e, fun g m i a => x_u_ne (by omega), ⟨by show j + 1 ≤ 400; omega, x2.trans (LK.one (by omega)), by rw [x_u_eq]; show (j : Int) + 1 = ((j + 1 : Nat) : Int); omega, by rw [x_u_ne (by omega)]; exact x4, x5⟩, by rw [x_u_ne (by omega)]; exact h4⟩, fun h => absurd rfl h⟩
      · rw [q_tk_r h1 h2, if_pos h1, if_neg h2, Option.bind_some]
        have e := hE 0 (x_u Z 2 0 4 2)
        rw [if_pos cn_0] at e
        exact ⟨fun h => absurd h (by simp), fun _ => ⟨_, e, fun g m i a => x_u_ne (by omega), by rw [x_u_ne (by omega)]; exact x3, x_u_eq⟩⟩
    · rw [q_tk_s h1, if_neg h1, Option.bind_some]
      have e := hE 0 Z
      rw [if_pos cn_0] at e
      exact ⟨fun h => absurd h (by simp), fun _ => ⟨_, e, KB4.rfl', x3, h4⟩⟩
  | cons k2 ks ih =>
    intro k E Z j n hE hT hX h4 hk
    have hk1 := hk k (List.mem_cons_self ..)
    obtain ⟨E', hE1, hE2⟩ := hE
    rw [c_take hB hT hX.cx hd t k ⟨hk1.1, hk1.2.1⟩]
    obtain ⟨x1, x2, x3, x4, x5⟩ := hX
    by_cases h1 : K j = k
    · by_cases h2 : j < 400
      · have kz : KB4 Z (x_u Z 2 0 3 ((j : Int) + 1)) := fun g m i a => x_u_ne (by omega)
        have I := ih k2 E' (x_u Z 2 0 3 ((j : Int) + 1)) (j + 1) n hE2 (kz.tk hT) ⟨by omega, x2.trans (LK.one (by omega)), by rw [x_u_eq]; omega, by rw [x_u_ne (by omega)]; exact x4, x5⟩ (by rw [x_u_ne (by omega)]; exact h4) (fun x hx => hk x (List.mem_cons_of_mem _ hx))
        rw [q_tk_y h1 h2, if_pos h1, if_pos h2, Option.bind_some]
        have e := hE1 1 (x_u Z 2 0 3 ((j : Int) + 1))
        rw [if_neg cn_1n] at e
        rw [e]
        refine ⟨fun h => ?_, fun h => ?_⟩
        · obtain ⟨Z', a1, a2, a3⟩ := I.1 h
          exact ⟨Z', a1, kz.trans a2, a3⟩
        · obtain ⟨Z', a1, a2, a3⟩ := I.2 h
          exact ⟨Z', a1, kz.trans a2, a3⟩
      · rw [q_tk_r h1 h2, if_pos h1, if_neg h2, Option.bind_some]
        have e := hE1 0 (x_u Z 2 0 4 2)
        rw [if_pos cn_0] at e
        exact ⟨fun h => absurd h (by simp), fun _ => ⟨_, e, fun g m i a => x_u_ne (by omega), by rw [x_u_ne (by omega)]; exact x3, x_u_eq⟩⟩
    · rw [q_tk_s h1, if_neg h1, Option.bind_some]
      have e := hE1 0 Z
      rw [if_pos cn_0] at e
      exact ⟨fun h => absurd h (by simp), fun _ => ⟨_, e, KB4.rfl', x3, h4⟩⟩
/-! faults that wait -/
def q_nt (c : Bool) (f : Nat) (p : Int) (s : Nat × Int) : Nat × Int := if s.1 = 0 ∧ c = true then (f, p) else s
def CSo (Z : XZ) (s : Nat × Int) : Prop := Z 2 0 5 = (s.1 : Int) ∧ Z 2 0 6 = s.2 ∧ s.1 ≤ 5
def KN (Z Z' : XZ) : Prop := ∀ g m i, ¬ (g = 2 ∧ (i = 5 ∨ i = 6)) → Z' g m i = Z g m i
theorem KN.rfl' {Z : XZ} : KN Z Z := fun _ _ _ _ => rfl
theorem KN.trans {Z Z' Z'' : XZ} (h : KN Z Z') (h' : KN Z' Z'') : KN Z Z'' := fun g m i a => (h' g m i a).trans (h g m i a)
theorem KN.tk {Z Z' : XZ} {K P V : Nat → Int} (h : KN Z Z') (hT : TKc Z K P V) : TKc Z' K P V := hT.congr (fun g i a b => h g 0 i (by omega))
theorem c_note {Z : XZ} {K P V : Nat → Int} {tok d : Nat} {s : Nat × Int} (hT : TKc Z K P V) (hS : CSo Z s) (hk : tok ≤ 400) (hl : LK K 0 tok) (hd : 1 ≤ d) (t f : Nat) (fi ti : Int) (hfi : fi = (f : Int)) (hti : ti = (tok : Int)) (hf : f ≤ 5) : ∃ Z' : XZ, x_CALL d 34 [.inr (.inr (some (2, 0))), .inl fi, .inl ti] (x_S Z t) = some (0, x_S Z' t) ∧ CSo Z' (q_nt true f (P tok) s) ∧ KN Z Z' := by
  obtain ⟨s1, s2, s3⟩ := hS
  obtain ⟨k1, k2, k3⟩ := hT tok hk hl
  subst hti
  rw [C34 _ _ _ _ _ (by omega), s1, cn_nt (z := (s.1 : Int)) rfl (by omega)]
  unfold q_nt
  by_cases h0 : s.1 = 0
  · rw [if_pos (by omega), cn_nt (z := (tok : Int)) rfl (by omega), if_pos (by omega), Int.toNat_natCast, k2, if_pos ⟨h0, rfl⟩]
    exact ⟨_, rfl, ⟨by rw [x_u_ne (by omega), x_u_eq, hfi], x_u_eq, hf⟩, fun g m i a => by rw [x_u_ne (by omega), x_u_ne (by omega)]⟩
  · rw [if_neg (by omega), if_neg (fun e => h0 e.1)]
    exact ⟨Z, rfl, ⟨s1, s2, s3⟩, KN.rfl'⟩
theorem c_num {Z : XZ} {K P V : Nat → Int} {tok d : Nat} {s : Nat × Int} (hB : KB K V) (hT : TKc Z K P V) (hS : CSo Z s) (hk : tok ≤ 400) (hl : LK K 0 tok) (hK : K tok = 259) (hd : 2 ≤ d) (t : Nat) (ti lo hi : Int) (hti : ti = (tok : Int)) (hlo : 0 ≤ lo ∧ lo ≤ 9999) (hhi : 0 ≤ hi ∧ hi ≤ 9999) : ∃ Z' : XZ, x_CALL d 35 [.inr (.inr (some (2, 0))), .inl ti, .inl lo, .inl hi] (x_S Z t) = some (V tok, x_S Z' t) ∧ CSo Z' (q_nt (decide (V tok < lo ∨ hi < V tok)) 5 (P tok) s) ∧ KN Z Z' := by
  obtain ⟨k1, k2, k3⟩ := hT tok hk hl
  have hv := (hB tok).2.2.1 hK
  subst hti
  rw [C35 _ _ _ _ _ _ (by omega), cn_nt (z := (tok : Int)) rfl (by omega), if_pos (by omega), Int.toNat_natCast, k3 (by omega), cn_id (z := V tok) (by omega) (by omega), cn_id (z := lo) (by omega) (by omega), cn_id (z := hi) (by omega) (by omega)]
  by_cases h1 : V tok < lo
  · obtain ⟨Z1, e1, e2, e3⟩ := c_note (d := d - 1) hT hS hk hl (by omega) t 5 5 (tok : Int) rfl rfl (by omega)
    rw [if_pos h1, e1, Option.bind_some, B35_30, show decide (V tok < lo ∨ hi < V tok) = true from decide_eq_true (.inl h1)]
    exact ⟨Z1, rfl, e2, e3⟩
  · rw [if_neg h1]
    by_cases h2 : hi < V tok
    · obtain ⟨Z1, e1, e2, e3⟩ := c_note (d := d - 1) hT hS hk hl (by omega) t 5 5 (tok : Int) rfl rfl (by omega)
      rw [if_pos h2, e1, Option.bind_some, B35_30, show decide (V tok < lo ∨ hi < V tok) = true from decide_eq_true (.inr h2)]
      exact ⟨Z1, rfl, e2, e3⟩
    · rw [if_neg h2, B35_30, show decide (V tok < lo ∨ hi < V tok) = false from decide_eq_false (fun e => e.elim h1 h2)]
      exact ⟨Z, rfl, by unfold q_nt; rw [if_neg (fun e => absurd e.2 (by decide))]; exact hS, KN.rfl'⟩
/-! names -/
def q_fi (f : Nat → Int) (x : Int) (r i : Nat) : Nat := match r with
  | 0 => i
  | r + 1 => if f i = x then i else q_fi f x r (i + 1)
theorem q_fi_b {f : Nat → Int} {x : Int} : ∀ (r i : Nat), i ≤ q_fi f x r i ∧ q_fi f x r i ≤ i + r ∧ (q_fi f x r i < i + r → f (q_fi f x r i) = x) ∧ ∀ m, i ≤ m → m < q_fi f x r i → f m ≠ x := by
  intro r
  induction r with
  | zero => intro i; exact ⟨Nat.le_refl _, Nat.le_refl _, fun h => absurd h (Nat.lt_irrefl _), fun m a b => absurd (Nat.lt_of_le_of_lt a b) (Nat.lt_irrefl _)⟩
  | succ r ih =>
    intro i
    rw [q_fi]
    by_cases h : f i = x
    · rw [if_pos h]; exact ⟨Nat.le_refl _, by omega, fun _ => h, fun m a b => by omega⟩
    · rw [if_neg h]
      obtain ⟨a, b, c, e⟩ := ih (i + 1)
      refine ⟨by omega, by omega, fun hh => c (by omega), fun m p q => ?_⟩
      by_cases hm : m = i
      · rw [hm]; exact h
      · exact e m (by omega) q
theorem q_fi_congr {f g : Nat → Int} {x y : Int} : ∀ (r i : Nat), (∀ m, i ≤ m → m < i + r → (f m = x ↔ g m = y)) → q_fi f x r i = q_fi g y r i := by
  intro r
  induction r with
  | zero => intro i _; rfl
  | succ r ih =>
    intro i h
    rw [q_fi, q_fi]
    by_cases hx : f i = x
    · rw [if_pos hx, if_pos ((h i (Nat.le_refl _) (by omega)).1 hx)]
    · rw [if_neg hx, if_neg (fun e => hx ((h i (Nat.le_refl _) (by omega)).2 e))]
      exact ih (i + 1) (fun m a b => h m (by omega) (by omega))
