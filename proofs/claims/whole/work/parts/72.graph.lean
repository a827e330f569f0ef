/-! rounds of shortening come to rest -/
def g_rx (D : Nat → Nat) (e : Nat × Nat × Nat) : Nat → Nat := q_rx D e.1 e.2.1 e.2.2
def g_ro (E : List (Nat × Nat × Nat)) (D : Nat → Nat) : Nat → Nat := E.foldl g_rx D
def g_rs (E : List (Nat × Nat × Nat)) (k : Nat) (D : Nat → Nat) : Nat → Nat := match k with
  | 0 => D
  | k + 1 => g_ro E (g_rs E k D)
theorem g_ro_le (E : List (Nat × Nat × Nat)) : ∀ (D : Nat → Nat) (c : Nat), g_ro E D c ≤ D c := by
  induction E with
  | nil => intro D c; exact Nat.le_refl _
  | cons x E ih => intro D c; exact Nat.le_trans (ih (g_rx D x) c) (q_rx_le _ _ _ _ _)
theorem q_rx_at (D : Nat → Nat) (a b w : Nat) : q_rx D a b w a ≤ D b + w := by
  unfold q_rx
  split
  · unfold q_up; rw [if_pos rfl]; exact Nat.le_refl _
  · omega
theorem g_ro_ed (E : List (Nat × Nat × Nat)) : ∀ (D : Nat → Nat) (e : Nat × Nat × Nat), e ∈ E → g_ro E D e.1 ≤ D e.2.1 + e.2.2 := by
  induction E with
  | nil => intro D e h; cases h
  | cons x E ih =>
    intro D e h
    rcases List.mem_cons.1 h with rfl | h
    · exact Nat.le_trans (g_ro_le E (g_rx D e) e.1) (q_rx_at _ _ _ _)
    · have h1 := ih (g_rx D x) e h
      have h2 : g_rx D x e.2.1 ≤ D e.2.1 := q_rx_le _ _ _ _ _
      exact Nat.le_trans h1 (by omega)
def g_sta (E : List (Nat × Nat × Nat)) (G : Nat → Nat) : Prop := ∀ e, e ∈ E → G e.1 ≤ G e.2.1 + e.2.2
theorem g_ro_ge (E : List (Nat × Nat × Nat)) (G : Nat → Nat) : ∀ (D : Nat → Nat), g_sta E G → (∀ c, G c ≤ D c) → ∀ c, G c ≤ g_ro E D c := by
  induction E with
  | nil => intro D _ h; exact h
  | cons x E ih =>
    intro D hs h c
    refine ih (g_rx D x) (fun e he => hs e (List.mem_cons_of_mem _ he)) (fun c => ?_) c
    show G c ≤ q_rx D x.1 x.2.1 x.2.2 c
    unfold q_rx
    split
    · unfold q_up
      split
      · rename_i h1 h2; subst h2
        have a1 := hs x (List.mem_cons_self ..)
        have a2 := h x.2.1
        omega
      · exact h c
    · exact h c
theorem g_rs_ge {E : List (Nat × Nat × Nat)} {G D : Nat → Nat} (hs : g_sta E G) (h : ∀ c, G c ≤ D c) (k : Nat) : ∀ c, G c ≤ g_rs E k D c := by
  induction k with
  | zero => exact h
  | succ k ih => exact g_ro_ge E G _ hs ih
theorem g_rs_le (E : List (Nat × Nat × Nat)) (D : Nat → Nat) (k c : Nat) : g_rs E k D c ≤ D c := by
  induction k with
  | zero => exact Nat.le_refl _
  | succ k ih => exact Nat.le_trans (g_ro_le _ _ _) ih
/-- a round that looks at what was before it alone -/
def g_jr (E : List (Nat × Nat × Nat)) (D X : Nat → Nat) : Nat → Nat := match E with
  | [] => X
  | e :: E => g_jr E D (if D e.2.1 + e.2.2 < X e.1 then q_up X e.1 (D e.2.1 + e.2.2) else X)
def g_J (E : List (Nat × Nat × Nat)) (D : Nat → Nat) (k : Nat) : Nat → Nat := match k with
  | 0 => D
  | k + 1 => g_jr E (g_J E D k) (g_J E D k)
theorem g_up_le {X : Nat → Nat} {a v c : Nat} (h : v < X a) : q_up X a v c ≤ X c := by
  unfold q_up; split
  · rename_i h1; subst h1; omega
  · exact Nat.le_refl _
theorem g_jr_le (E : List (Nat × Nat × Nat)) (D : Nat → Nat) : ∀ (X : Nat → Nat) (c : Nat), g_jr E D X c ≤ X c := by
  induction E with
  | nil => intro X c; exact Nat.le_refl _
  | cons e E ih =>
    intro X c
    rw [g_jr]
    refine Nat.le_trans (ih _ c) ?_
    split
    · rename_i h; exact g_up_le h
    · exact Nat.le_refl _
theorem g_jr_ed (E : List (Nat × Nat × Nat)) (D : Nat → Nat) : ∀ (X : Nat → Nat) (e : Nat × Nat × Nat), e ∈ E → g_jr E D X e.1 ≤ D e.2.1 + e.2.2 := by
  induction E with
  | nil => intro X e h; cases h
  | cons x E ih =>
    intro X e h
    rw [g_jr]
    rcases List.mem_cons.1 h with rfl | h
    · refine Nat.le_trans (g_jr_le E D _ _) ?_
      split
      · unfold q_up; rw [if_pos rfl]; exact Nat.le_refl _
      · omega
    · exact ih _ e h
theorem g_jr_wit (E : List (Nat × Nat × Nat)) (D : Nat → Nat) : ∀ (X : Nat → Nat) (c : Nat), g_jr E D X c = X c ∨ ∃ e, e ∈ E ∧ e.1 = c ∧ g_jr E D X c = D e.2.1 + e.2.2 := by
  induction E with
  | nil => intro X c; exact .inl rfl
  | cons x E ih =>
    intro X c
    rw [g_jr]
    rcases ih (if D x.2.1 + x.2.2 < X x.1 then q_up X x.1 (D x.2.1 + x.2.2) else X) c with h | ⟨e, h1, h2, h3⟩
    · rw [h]
      split
      · unfold q_up
        split
        · rename_i h1 h2; exact .inr ⟨x, List.mem_cons_self .., h2.symm, rfl⟩
        · exact .inl rfl
      · exact .inl rfl
    · exact .inr ⟨e, List.mem_cons_of_mem _ h1, h2, h3⟩
theorem g_J_mono (E : List (Nat × Nat × Nat)) (D : Nat → Nat) (c : Nat) : ∀ (i j : Nat), g_J E D (i + j) c ≤ g_J E D i c := by
  intro i j
  induction j with
  | zero => exact Nat.le_refl _
  | succ j ih => exact Nat.le_trans (g_jr_le E _ _ c) ih
theorem g_rs_J (E : List (Nat × Nat × Nat)) (D : Nat → Nat) (k : Nat) : ∀ c, g_rs E k D c ≤ g_J E D k c := by
  induction k with
  | zero => intro c; exact Nat.le_refl _
  | succ k ih =>
    intro c
    rw [g_rs, g_J]
    rcases g_jr_wit E (g_J E D k) (g_J E D k) c with h | ⟨e, h1, h2, h3⟩
    · rw [h]; exact Nat.le_trans (g_ro_le E _ c) (ih c)
    · rw [h3, ← h2]
      have a1 := g_ro_ed E (g_rs E k D) e h1
      have a2 := ih e.2.1
      omega
theorem nodup_len : ∀ (n : Nat) (L : List Nat), L.Nodup → (∀ x, x ∈ L → x < n) → L.length ≤ n := by
  intro n
  induction n with
  | zero =>
    intro L _ h
    cases L with
    | nil => exact Nat.le_refl _
    | cons a L => exact absurd (h a (List.mem_cons_self ..)) (Nat.not_lt_zero _)
  | succ n ih =>
    intro L hN h
    by_cases hm : n ∈ L
    · have h1 := ih (L.erase n) (hN.erase n) (fun x hx => by
        have a1 := h x (List.mem_of_mem_erase hx)
        have a2 : x ≠ n := fun e => by rw [e] at hx; exact absurd hx (hN.not_mem_erase)
        omega)
      rw [List.length_erase_of_mem hm] at h1
      omega
    · have h1 := ih L hN (fun x hx => by
        have a1 := h x hx
        have a2 : x ≠ n := fun e => hm (e ▸ hx)
        omega)
      omega
theorem g_chain {E : List (Nat × Nat × Nat)} {D : Nat → Nat} {n : Nat} (hE : ∀ e, e ∈ E → e.1 < n) : ∀ (k c : Nat), g_J E D (k + 1) c < g_J E D k c → ∃ L : List Nat, L.Nodup ∧ L.length = k + 1 ∧ (∀ x, x ∈ L → x < n) ∧ ∀ x, x ∈ L → ∃ i, i ≤ k + 1 ∧ g_J E D i x ≤ g_J E D (k + 1) c := by
  intro k
  induction k with
  | zero =>
    intro c hc
    rcases g_jr_wit E (g_J E D 0) (g_J E D 0) c with h | ⟨e, h1, h2, h3⟩
    · have hc' : g_jr E (g_J E D 0) (g_J E D 0) c < g_J E D 0 c := hc
      rw [h] at hc'; exact absurd hc' (Nat.lt_irrefl _)
    · exact ⟨[c], by simp, rfl, fun x hx => by rw [List.mem_singleton.1 hx, ← h2]; exact hE e h1, fun x hx => ⟨1, by omega, by rw [List.mem_singleton.1 hx]; exact Nat.le_refl _⟩⟩
  | succ k ih =>
    intro c hc
    rcases g_jr_wit E (g_J E D (k + 1)) (g_J E D (k + 1)) c with h | ⟨e, h1, h2, h3⟩
    · rw [g_J, h] at hc; exact absurd hc (Nat.lt_irrefl _)
    · have h3' : g_J E D (k + 1 + 1) c = g_J E D (k + 1) e.2.1 + e.2.2 := h3
      have hb : g_J E D (k + 1) e.2.1 < g_J E D k e.2.1 := by
        have a1 : g_J E D (k + 1) e.1 ≤ g_J E D k e.2.1 + e.2.2 := g_jr_ed E (g_J E D k) (g_J E D k) e h1
        rw [h2] at a1
        omega
      obtain ⟨L, l1, l2, l3, l4⟩ := ih e.2.1 hb
      refine ⟨c :: L, List.nodup_cons.2 ⟨fun hm => ?_, l1⟩, by rw [List.length_cons, l2], ?_, ?_⟩
      · obtain ⟨i, i1, i2⟩ := l4 c hm
        have a1 := g_J_mono E D c i (k + 1 - i)
        rw [show i + (k + 1 - i) = k + 1 by omega] at a1
        omega
      · intro x hx
        rcases List.mem_cons.1 hx with rfl | hx
        · rw [← h2]; exact hE e h1
        · exact l3 x hx
      · intro x hx
        rcases List.mem_cons.1 hx with rfl | hx
        · exact ⟨k + 1 + 1, Nat.le_refl _, Nat.le_refl _⟩
        · obtain ⟨i, i1, i2⟩ := l4 x hx
          exact ⟨i, by omega, by omega⟩
theorem g_J_rest {E : List (Nat × Nat × Nat)} {D : Nat → Nat} {n : Nat} (hE : ∀ e, e ∈ E → e.1 < n) : g_sta E (g_J E D n) := by
  intro e he
  have a1 : g_J E D (n + 1) e.1 ≤ g_J E D n e.2.1 + e.2.2 := g_jr_ed E _ _ e he
  by_cases h : g_J E D (n + 1) e.1 < g_J E D n e.1
  · obtain ⟨L, l1, l2, l3, _⟩ := g_chain hE n e.1 h
    have := nodup_len n L l1 l3
    omega
  · omega
theorem g_rs_rest {E : List (Nat × Nat × Nat)} {D : Nat → Nat} {n k : Nat} (hE : ∀ e, e ∈ E → e.1 < n) (hk : n ≤ k) (c : Nat) : g_rs E k D c = g_J E D n c := by
  have h0 : ∀ c, g_J E D n c ≤ D c := fun c => by have := g_J_mono E D c 0 n; rwa [Nat.zero_add] at this
  have h1 := g_rs_ge (g_J_rest (D := D) hE) h0 k c
  have h2 := g_rs_J E D k c
  have h3 := g_J_mono E D c n (k - n)
  rw [show n + (k - n) = k by omega] at h3
  omega
theorem g_rs_eq {E E' : List (Nat × Nat × Nat)} {D : Nat → Nat} {n k k' : Nat} (hE : ∀ e, e ∈ E → e.1 < n) (hm : ∀ e, e ∈ E ↔ e ∈ E') (hk : n ≤ k) (hk' : n ≤ k') (c : Nat) : g_rs E k D c = g_rs E' k' D c := by
  have hE' : ∀ e, e ∈ E' → e.1 < n := fun e he => hE e ((hm e).2 he)
  rw [g_rs_rest hE hk, g_rs_rest hE' hk']
  have s1 : g_sta E' (g_J E D n) := fun e he => g_J_rest hE e ((hm e).2 he)
  have s2 : g_sta E (g_J E' D n) := fun e he => g_J_rest hE' e ((hm e).1 he)
  have m1 : ∀ c, g_J E D n c ≤ D c := fun c => by have := g_J_mono E D c 0 n; rwa [Nat.zero_add] at this
  have m2 : ∀ c, g_J E' D n c ≤ D c := fun c => by have := g_J_mono E' D c 0 n; rwa [Nat.zero_add] at this
  have a1 := g_rs_ge s1 m1 n c
  have a2 := g_rs_ge s2 m2 n c
  have b1 := g_rs_rest (D := D) hE' (Nat.le_refl n) c
  have b2 := g_rs_rest (D := D) hE (Nat.le_refl n) c
  omega
theorem g_rs_sta {E : List (Nat × Nat × Nat)} {D : Nat → Nat} {n k : Nat} (hE : ∀ e, e ∈ E → e.1 < n) (hk : n ≤ k) : g_sta E (g_rs E k D) := by
  intro e he
  rw [g_rs_rest hE hk, g_rs_rest hE hk]
  exact g_J_rest hE e he
/-- the lanes, both ways -/
def g_ed (T : PT) (wo n : Nat) : List (Nat × Nat × Nat) := match n with
  | 0 => []
  | n + 1 => g_ed T wo n ++ (if n = wo then [] else [(T 4 n, T 5 n, T 6 n), (T 5 n, T 4 n, T 6 n)])
theorem g_ed_ro (T : PT) (wo n : Nat) (D : Nat → Nat) : q_ro T wo n D = g_ro (g_ed T wo n) D := by
  induction n with
  | zero => rfl
  | succ n ih =>
    rw [q_ro, g_ed]
    unfold g_ro at ih ⊢
    rw [List.foldl_append, ← ih]
    by_cases h : n = wo
    · rw [if_pos h, if_pos h]; rfl
    · rw [if_neg h, if_neg h]; rfl
theorem g_ed_rs (T : PT) (wo k : Nat) (D : Nat → Nat) : q_rs T wo k D = g_rs (g_ed T wo (T 1 0)) k D := by
  induction k with
  | zero => rfl
  | succ k ih => rw [q_rs, g_rs, ih, g_ed_ro]
theorem g_ed_mem (T : PT) (wo n : Nat) (e : Nat × Nat × Nat) : e ∈ g_ed T wo n ↔ ∃ l, l < n ∧ l ≠ wo ∧ (e = (T 4 l, T 5 l, T 6 l) ∨ e = (T 5 l, T 4 l, T 6 l)) := by
  induction n with
  | zero => constructor
            · intro h; cases h
            · rintro ⟨l, h, _⟩; omega
  | succ n ih =>
    rw [g_ed, List.mem_append, ih]
    constructor
    · rintro (⟨l, h1, h2, h3⟩ | h)
      · exact ⟨l, by omega, h2, h3⟩
      · by_cases hw : n = wo
        · rw [if_pos hw] at h; cases h
        · rw [if_neg hw] at h
          simp only [List.mem_cons, List.not_mem_nil, or_false] at h
          exact ⟨n, by omega, hw, h⟩
    · rintro ⟨l, h1, h2, h3⟩
      by_cases hl : l = n
      · subst hl
        right
        rw [if_neg h2]
        simp only [List.mem_cons, List.not_mem_nil, or_false]
        exact h3
      · exact .inl ⟨l, by omega, h2, h3⟩
theorem g_ed_lt {T : PT} (hT : TOK T) (wo : Nat) : ∀ e, e ∈ g_ed T wo (T 1 0) → e.1 < T 0 0 := by
  intro e he
  obtain ⟨l, h1, h2, h3⟩ := (g_ed_mem T wo _ e).1 he
  obtain ⟨b1, b2, _⟩ := hT.2.2.2.2.1 l h1
  rcases h3 with rfl | rfl
  · exact b1
  · exact b2
theorem q_ds_sta {T : PT} (hT : TOK T) {wo l : Nat} (hl : l < T 1 0) (hw : l ≠ wo) : q_ds T wo (T 4 l) ≤ q_ds T wo (T 5 l) + T 6 l ∧ q_ds T wo (T 5 l) ≤ q_ds T wo (T 4 l) + T 6 l := by
  have t0 : T 0 0 ≤ 7 := hT.1
  have h := g_rs_sta (D := q_d0 T) (g_ed_lt hT wo) t0
  unfold q_ds
  rw [g_ed_rs]
  exact ⟨h _ ((g_ed_mem T wo _ _).2 ⟨l, hl, hw, .inl rfl⟩), h _ ((g_ed_mem T wo _ _).2 ⟨l, hl, hw, .inr rfl⟩)⟩
theorem q_ds_n {T : PT} (hT : TOK T) (wo c : Nat) : q_rs T wo (T 0 0) (q_d0 T) c = q_ds T wo c := by
  have t0 : T 0 0 ≤ 7 := hT.1
  unfold q_ds
  rw [g_ed_rs, g_ed_rs]
  exact g_rs_eq (g_ed_lt hT wo) (fun e => Iff.rfl) (Nat.le_refl _) t0 c
