/-! the model's small methods -/
theorem cn_nt {z : Int} {n : Nat} (h : z = (n : Int)) (hn : n < 2147483648) : cn z = (n : Int) := by
  subst h; exact cn_id (by omega) (by omega)
theorem cn_1n : ¬ cn 1 = 0 := by decide
theorem cn_cn (z : Int) : cn (cn z) = cn z := cn_id (cn_can z).1 (cn_can z).2
theorem x_rem_nat {a b : Nat} (ha : a < 2147483648) (hb : b < 2147483648) : x_rem (a : Int) (b : Int) = ((a % b : Nat) : Int) := by
  unfold x_rem; rw [cn_nt rfl ha, cn_nt rfl hb]; rfl
theorem x_u_eq {Z : XZ} {g m i : Nat} {v : Int} : x_u Z g m i v g m i = v := by
  unfold x_u; rw [if_pos ⟨rfl, rfl, rfl⟩]
theorem x_cp_ne {Z : XZ} {gs is sp gd id dp n g m i : Nat} (h : ¬ (g = gd ∧ m = id ∧ dp ≤ i ∧ i < dp + n)) : x_cp Z gs is sp gd id dp n g m i = Z g m i := by
  unfold x_cp; rw [if_neg h]
theorem x_cp_in {Z : XZ} {gs is sp gd id dp n k : Nat} (h : k < n) : x_cp Z gs is sp gd id dp n gd id (dp + k) = Z gs is (sp + k) := by
  unfold x_cp; rw [if_pos ⟨rfl, rfl, by omega, by omega⟩, show dp + k - dp = k by omega]
theorem x_cp_0 {Z : XZ} {gs is sp gd id dp : Nat} : x_cp Z gs is sp gd id dp 0 = Z := by
  funext g m i; unfold x_cp; rw [if_neg (by omega)]
theorem x_cp_succ {Z : XZ} {gs is sp gd id dp k : Nat} (h : gs ≠ gd ∨ is ≠ id) : x_u (x_cp Z gs is sp gd id dp k) gd id (dp + k) (x_cp Z gs is sp gd id dp k gs is (sp + k)) = x_cp Z gs is sp gd id dp (k + 1) := by
  funext g m i
  rw [x_cp_ne (by omega : ¬ (gs = gd ∧ is = id ∧ dp ≤ sp + k ∧ sp + k < dp + k))]
  unfold x_u
  by_cases h1 : g = gd ∧ m = id ∧ i = dp + k
  · rw [if_pos h1]
    obtain ⟨rfl, rfl, rfl⟩ := h1
    rw [x_cp_in (by omega)]
  · rw [if_neg h1]
    unfold x_cp
    by_cases h2 : g = gd ∧ m = id ∧ dp ≤ i ∧ i < dp + k
    · rw [if_pos h2, if_pos (by omega)]
    · rw [if_neg h2, if_neg (by omega)]
section
variable {Z : XZ} {v : Nat} {T : PT} {d : Nat}
theorem m_in (hd : 0 < d) (Z : XZ) (t : Nat) (a b c : Int) : x_CALL d 168 [.inl a, .inl b, .inl c] (x_S Z t) = some ((if cn b ≤ cn a ∧ cn a ≤ cn c then 1 else 0), x_S Z t) := by
  rw [C168 _ _ _ _ _ _ hd]
  by_cases h1 : cn a < cn b
  · rw [if_pos h1, if_neg (by omega)]
  · rw [if_neg h1]
    by_cases h2 : cn c < cn a
    · rw [if_pos h2, if_neg (by omega)]
    · rw [if_neg h2, if_pos (by omega)]
theorem m_isC (hM : MT Z v T) (hT : TOK T) (hd : 2 ≤ d) (t : Nat) (a : Int) : x_CALL d 170 [.inr (.inr (some (56, 0))), .inl a] (x_S Z t) = some ((if 0 ≤ cn a ∧ cn a < (T 0 0 : Int) then 1 else 0), x_S Z t) := by
  obtain ⟨hv, h18, ⟨h1, _, _, _, _, _, _⟩, _⟩ := hM
  have hc : T 0 0 ≤ 7 := hT.1
  have e (_ : True) : cn (v : Int) = v := cn_nt rfl (by omega)
  rw [C170 _ _ _ _ (by omega), h18, e trivial, Int.toNat_natCast, h1, if_pos (by omega), m_in (by omega), Option.bind_some, B170_16, if_pos (by split <;> simp)]
  rw [cn_id (z := 0) (by decide) (by decide), cn_id (z := (T 0 0 : Int) - 1) (by omega) (by omega)]
  by_cases h : 0 ≤ cn a ∧ cn a < (T 0 0 : Int)
  · rw [if_pos h, if_pos (by omega)]
  · rw [if_neg h, if_neg (by omega)]
theorem m_isL (hM : MT Z v T) (hT : TOK T) (hd : 2 ≤ d) (t : Nat) (a : Int) : x_CALL d 171 [.inr (.inr (some (56, 0))), .inl a] (x_S Z t) = some ((if 0 ≤ cn a ∧ cn a < (T 1 0 : Int) then 1 else 0), x_S Z t) := by
  obtain ⟨hv, h18, ⟨_, h1, _, _, _, _, _⟩, _⟩ := hM
  have hc : T 1 0 ≤ 10 := hT.2.1
  have e (_ : True) : cn (v : Int) = v := cn_nt rfl (by omega)
  rw [C171 _ _ _ _ (by omega), h18, e trivial, Int.toNat_natCast, h1, if_pos (by omega), m_in (by omega), Option.bind_some, B171_16, if_pos (by split <;> simp)]
  rw [cn_id (z := 0) (by decide) (by decide), cn_id (z := (T 1 0 : Int) - 1) (by omega) (by omega)]
  by_cases h : 0 ≤ cn a ∧ cn a < (T 1 0 : Int)
  · rw [if_pos h, if_pos (by omega)]
  · rw [if_neg h, if_neg (by omega)]
theorem m_isS (hM : MT Z v T) (hT : TOK T) (hd : 2 ≤ d) (t : Nat) (a : Int) : x_CALL d 172 [.inr (.inr (some (56, 0))), .inl a] (x_S Z t) = some ((if 0 ≤ cn a ∧ cn a < (T 2 0 : Int) then 1 else 0), x_S Z t) := by
  obtain ⟨hv, h18, ⟨_, _, h1, _, _, _, _⟩, _⟩ := hM
  have hc : T 2 0 ≤ 5 := hT.2.2.1
  have e (_ : True) : cn (v : Int) = v := cn_nt rfl (by omega)
  rw [C172 _ _ _ _ (by omega), h18, e trivial, Int.toNat_natCast, h1, if_pos (by omega), m_in (by omega), Option.bind_some, B172_16, if_pos (by split <;> simp)]
  rw [cn_id (z := 0) (by decide) (by decide), cn_id (z := (T 2 0 : Int) - 1) (by omega) (by omega)]
  by_cases h : 0 ≤ cn a ∧ cn a < (T 2 0 : Int)
  · rw [if_pos h, if_pos (by omega)]
  · rw [if_neg h, if_neg (by omega)]
def q_ho (T : PT) : Int := if T 0 0 = 0 then -2 else (T 10 0 : Int)
theorem m_house (hM : MT Z v T) (hT : TOK T) (hd : 1 ≤ d) (t : Nat) : x_CALL d 173 [.inr (.inr (some (56, 0)))] (x_S Z t) = some (q_ho T, x_S Z t) := by
  obtain ⟨hv, h18, ⟨h0, _, _, h1, _, _, _⟩, _⟩ := hM
  have hc : T 0 0 ≤ 7 := hT.1
  have e (_ : True) : cn (v : Int) = v := cn_nt rfl (by omega)
  have e0 (_ : True) : cn (T 0 0 : Int) = (T 0 0 : Int) := cn_nt rfl (by omega)
  rw [C173 _ _ _ (by omega), h18, e trivial, Int.toNat_natCast, h0, h1, if_pos (by omega), e0 trivial]
  unfold q_ho
  by_cases h : T 0 0 = 0
  · rw [if_pos h, if_pos (by omega)]
  · rw [if_neg h, if_neg (by omega), if_pos (by omega)]
theorem m_start (hM : MT Z v T) (hT : TOK T) (hd : 1 ≤ d) (t : Nat) {s : Nat} (hs : s < T 2 0) : x_CALL d 174 [.inr (.inr (some (56, 0))), .inl ((s : Int))] (x_S Z t) = some ((T 8 s : Int), x_S Z t) := by
  obtain ⟨hv, h18, _, _, _, h1, _⟩ := hM
  have hc : T 2 0 ≤ 5 := hT.2.2.1
  have e (_ : True) : cn (5 * (v : Int) + (s : Int)) = ((5 * v + s : Nat) : Int) := cn_nt (by omega) (by omega)
  rw [C174 _ _ _ _ (by omega), h18, e trivial, Int.toNat_natCast, if_pos (by omega), (h1 s hs).2]
theorem m_end (hM : MT Z v T) (hT : TOK T) (hd : 1 ≤ d) (t : Nat) {l c : Nat} (hl : l < T 1 0) (hc : c < 1000) : x_CALL d 180 [.inr (.inr (some (56, 0))), .inl ((l : Int)), .inl ((c : Int))] (x_S Z t) = some ((if q_e T c l = true then 1 else 0), x_S Z t) := by
  obtain ⟨hv, h18, _, _, h1, _, _⟩ := hM
  have hc7 : T 0 0 ≤ 7 := hT.1
  have hl10 : T 1 0 ≤ 10 := hT.2.1
  obtain ⟨b1, b2, _⟩ := hT.2.2.2.2.1 l hl
  obtain ⟨r1, r2, _⟩ := h1 l hl
  have e (_ : True) : cn (10 * (v : Int) + (l : Int)) = ((10 * v + l : Nat) : Int) := cn_nt (by omega) (by omega)
  rw [C180 _ _ _ _ _ (by omega), h18, e trivial, Int.toNat_natCast, if_pos (by omega), r1, r2, cn_nt (z := (T 4 l : Int)) rfl (by omega), cn_nt (z := (T 5 l : Int)) rfl (by omega), cn_nt (z := (c : Int)) rfl (by omega)]
  unfold q_e
  by_cases a1 : T 4 l = c
  · rw [if_pos (by omega), if_pos (by simp [a1])]
  · rw [if_neg (by omega), if_pos (by omega)]
    by_cases a2 : T 5 l = c
    · rw [if_pos (by omega), if_pos (by simp [a2])]
    · rw [if_neg (by omega), if_neg (by simp [a1, a2])]
def q_oe (T : PT) (l c : Nat) : Nat := if T 4 l = c then T 5 l else T 4 l
theorem m_oth (hM : MT Z v T) (hT : TOK T) (hd : 1 ≤ d) (t : Nat) {l c : Nat} (hl : l < T 1 0) (hc : q_e T c l = true) : x_CALL d 181 [.inr (.inr (some (56, 0))), .inl ((l : Int)), .inl ((c : Int))] (x_S Z t) = some ((q_oe T l c : Int), x_S Z t) := by
  obtain ⟨hv, h18, _, _, h1, _, _⟩ := hM
  have hl10 : T 1 0 ≤ 10 := hT.2.1
  obtain ⟨r1, r2, _⟩ := h1 l hl
  have e (_ : True) : cn (10 * (v : Int) + (l : Int)) = ((10 * v + l : Nat) : Int) := cn_nt (by omega) (by omega)
  rw [C181 _ _ _ _ _ (by omega), h18, e trivial, Int.toNat_natCast, if_pos (by omega), if_pos (by omega), r1, r2]
  have hc' : T 4 l = c ∨ T 5 l = c := by simpa [q_e] using hc
  unfold q_oe
  by_cases a1 : T 4 l = c
  · rw [if_pos a1]; congr 2; omega
  · rw [if_neg a1]; congr 2; omega
theorem q_lu_succ (T : PT) (c n : Nat) : q_lu T c (n + 1) = q_lu T c n ++ (if q_e T c n = true then [n] else []) := by
  unfold q_lu
  rw [List.range_succ, List.filter_append]
  congr 1
  by_cases h : q_e T c n = true
  · rw [if_pos h]; simp [h]
  · rw [if_neg h]; simp [h]
theorem q_lu_len (T : PT) (c n : Nat) : (q_lu T c n).length ≤ n := by
  unfold q_lu
  exact Nat.le_trans (List.length_filter_le _ _) (by simp)
theorem q_dg_le (hT : TOK T) (c : Nat) : q_dg T c ≤ 10 := Nat.le_trans (q_lu_len T c (T 1 0)) hT.2.1
theorem m_lan_loop (hM : MT Z v T) (hT : TOK T) (hd : 1 ≤ d) (t : Nat) {c : Nat} (hc : c < 1000) : ∀ (n l : Nat), l + n = T 1 0 → x_EX d 182 4 [some (.inr (.inr (some (56, 0)))), some (.inl ((c : Int))), some (.inl (((q_lu T c l).length : Int))), some (.inl ((l : Int)))] [] (x_S Z t) = some ((q_dg T c : Int), x_S Z t) := by
  have hM' := hM
  obtain ⟨hv, h18, ⟨_, h1, _, _, _, _, _⟩, _⟩ := hM'
  have hl10 : T 1 0 ≤ 10 := hT.2.1
  have e (_ : True) : cn (v : Int) = v := cn_nt rfl (by omega)
  have e1 (_ : True) : cn (T 1 0 : Int) = (T 1 0 : Int) := cn_nt rfl (by omega)
  intro n
  induction n with
  | zero =>
    intro l hl
    rw [B182_4, h18, e trivial, Int.toNat_natCast, h1, if_pos (by omega), e1 trivial, cn_nt (z := (l : Int)) rfl (by omega), if_neg (by omega)]
    rw [show l = T 1 0 by omega]
    rfl
  | succ n ih =>
    intro l hl
    rw [B182_4, h18, e trivial, Int.toNat_natCast, h1, if_pos (by omega), e1 trivial, cn_nt (z := (l : Int)) rfl (by omega), if_pos (by omega), m_end hM hT hd t (by omega) hc, Option.bind_some, B182_23]
    have := ih (l + 1) (by omega)
    rw [q_lu_succ] at this
    by_cases h : q_e T c l = true
    · rw [if_pos h] at this ⊢
      rw [if_neg cn_1n]
      rw [List.length_append] at this
      exact this
    · rw [if_neg h] at this ⊢
      rw [if_pos cn_0]
      rw [List.append_nil] at this
      exact this
theorem m_lan (hM : MT Z v T) (hT : TOK T) (hd : 2 ≤ d) (t : Nat) {c : Nat} (hc : c < 1000) : x_CALL d 182 [.inr (.inr (some (56, 0))), .inl ((c : Int))] (x_S Z t) = some ((q_dg T c : Int), x_S Z t) := by
  rw [C182 _ _ _ _ (by omega)]
  exact m_lan_loop hM hT (by omega) t hc (T 1 0) 0 (by omega)
theorem m_lnAt_loop (hM : MT Z v T) (hT : TOK T) (hd : 1 ≤ d) (t : Nat) {c : Nat} (hc : c < 1000) (p : Int) : ∀ (n l k : Nat), l + n = T 1 0 → k < ((List.range' l n).filter (q_e T c)).length → x_EX d 183 5 [some (.inr (.inr (some (56, 0)))), some (.inl ((c : Int))), some (.inl p), some (.inl ((k : Int))), some (.inl ((l : Int)))] [] (x_S Z t) = some (((((List.range' l n).filter (q_e T c)).getD k 0 : Nat) : Int), x_S Z t) := by
  have hl10 : T 1 0 ≤ 10 := hT.2.1
  intro n
  induction n with
  | zero => intro l k hl hk; simp at hk
  | succ n ih =>
    intro l k hl hk
    have hk10 : k < 1000 := by
      have := List.length_filter_le (q_e T c) (List.range' l (n + 1))
      rw [List.length_range'] at this
      omega
    rw [B183_5, m_end hM hT hd t (by omega) hc, Option.bind_some, B183_12]
    rw [List.range'_succ, List.filter_cons] at hk ⊢
    by_cases h : q_e T c l = true
    · rw [if_pos h] at hk ⊢
      rw [if_neg cn_1n, cn_nt (z := (k : Int)) rfl (by omega), if_pos h]
      cases k with
      | zero => rw [if_neg (by omega)]; rfl
      | succ k =>
        rw [if_pos (by omega), m_end hM hT hd t (by omega) hc, Option.bind_some, B183_26, if_pos h, if_neg cn_1n]
        have := ih (l + 1) k (by omega) (by simpa using hk)
        rw [show ((k + 1 : Nat) : Int) + (-1) = (k : Int) by omega]
        exact this
    · rw [if_neg h] at hk ⊢
      rw [if_pos cn_0, m_end hM hT hd t (by omega) hc, Option.bind_some, B183_26, if_neg h, if_pos cn_0, if_neg h]
      exact ih (l + 1) k (by omega) hk
theorem m_lnAt (hM : MT Z v T) (hT : TOK T) (hd : 2 ≤ d) (t : Nat) {c k : Nat} (hc : c < 1000) (hk : k < q_dg T c) : x_CALL d 183 [.inr (.inr (some (56, 0))), .inl ((c : Int)), .inl ((k : Int))] (x_S Z t) = some ((((q_ln T c).getD k 0 : Nat) : Int), x_S Z t) := by
  rw [C183 _ _ _ _ _ (by omega)]
  have e : q_ln T c = (List.range' 0 (T 1 0)).filter (q_e T c) := by
    unfold q_ln q_lu
    rw [List.range_eq_range']
  unfold q_dg at hk
  rw [e] at hk ⊢
  exact m_lnAt_loop hM hT (by omega) t hc _ (T 1 0) 0 k (by omega) hk
theorem m_lnBy (hM : MT Z v T) (hT : TOK T) {N : PN} (hR : MR Z 94 0 N) (hN : NOK N) (hd : 3 ≤ d) (t : Nat) {c b : Nat} (hc : c < 7) (hb : b < 1000) : x_CALL d 184 [.inr (.inr (some (56, 0))), .inl ((c : Int)), .inl ((b : Int))] (x_S Z t) = some ((if q_dg T c = 0 then -2 else (q_at T c (q_sg N c + b) : Int)), x_S Z t) := by
  have hdg := q_dg_le hT c
  have e (_ : True) : cn (5 + (c : Int)) = ((5 + c : Nat) : Int) := cn_nt (by omega) (by omega)
  have r := hR (5 + c) (by omega)
  rw [Nat.zero_add] at r
  obtain ⟨n1, n2⟩ := hN.2.1 c hc
  rw [C184 _ _ _ _ _ (by omega), m_lan hM hT (by omega) t (by omega), Option.bind_some, B184_5, cn_nt (z := (q_dg T c : Int)) rfl (by omega)]
  by_cases h0 : q_dg T c = 0
  · rw [if_pos (by omega), B184_47, if_pos h0]
  · have hlt : (q_sg N c + b) % q_dg T c < q_dg T c := Nat.mod_lt _ (by omega)
    rw [if_neg (by omega), if_neg h0, e trivial, Int.toNat_natCast, r, cn_id (z := N (5 + c)) (by omega) (by omega), if_pos (by omega)]
    by_cases hneg : N (5 + c) < 0
    · have hs : q_sg N c = 0 := by unfold q_sg; omega
      rw [if_pos hneg, if_neg (by omega), show (0 : Int) + (b : Int) = ((q_sg N c + b : Nat) : Int) by omega, x_rem_nat (by omega) (by omega), m_lnAt hM hT (by omega) t (by omega) hlt, Option.bind_some, B184_47]
      rfl
    · have hs : (q_sg N c : Int) = N (5 + c) := by unfold q_sg; omega
      rw [if_neg hneg, if_pos (by omega), if_neg (by omega), show N (5 + c) + (b : Int) = ((q_sg N c + b : Nat) : Int) by omega, x_rem_nat (by omega) (by omega), m_lnAt hM hT (by omega) t (by omega) hlt, Option.bind_some, B184_47]
      rfl
theorem m_copies_loop (t : Nat) : ∀ (n k : Nat), k + n = 16 → x_EX d 177 2 [some (.inr (.inr (some (56, 0)))), some (.inl ((k : Int)))] [] (x_S (x_cp Z 93 0 0 94 0 0 k) t) = x_EX d 177 2 [some (.inr (.inr (some (56, 0)))), some (.inl 16)] [] (x_S (x_cp Z 93 0 0 94 0 0 16) t) := by
  intro n
  induction n with
  | zero => intro k hk; rw [show k = 16 by omega]; rfl
  | succ n ih =>
    intro k hk
    rw [B177_2, cn_nt (z := (k : Int)) rfl (by omega), if_pos (by omega), if_pos (by omega), if_pos (by omega), Int.toNat_natCast]
    have := x_cp_succ (Z := Z) (gs := 93) (is := 0) (sp := 0) (gd := 94) (id := 0) (dp := 0) (k := k) (by decide)
    rw [Nat.zero_add] at this
    rw [this]
    exact ih (k + 1) (by omega)
theorem m_copies (hM : MT Z v T) (hT : TOK T) {N : PN} (hR : MR Z 93 0 N) (hd : 1 ≤ d) (t : Nat) : ∃ Z' : XZ, x_CALL d 177 [.inr (.inr (some (56, 0)))] (x_S Z t) = some (0, x_S Z' t) ∧ MR Z' 94 0 N ∧ Z' 56 0 56 = (T 13 0 : Int) ∧ ∀ g m i, g ≠ 94 → (g ≠ 56 ∨ i ≠ 56) → Z' g m i = Z g m i := by
  obtain ⟨hv, h18, ⟨_, _, _, _, _, _, h80⟩, _⟩ := hM
  have e (_ : True) : cn (v : Int) = v := cn_nt rfl (by omega)
  have := m_copies_loop (d := d - 1) (Z := Z) t 16 0 (by omega)
  rw [x_cp_0] at this
  rw [C177 _ _ _ (by omega)]
  refine ⟨x_u (x_cp Z 93 0 0 94 0 0 16) 56 0 56 (T 13 0 : Int), this.trans ?_, ?_⟩
  · rw [B177_2, if_neg (by decide)]
    rw [x_cp_ne (g := 56) (by omega), h18, e trivial, Int.toNat_natCast, if_pos (by omega), x_cp_ne (g := 80) (by omega), h80]
  · refine ⟨?_, x_u_eq, ?_⟩
    · intro k hk
      rw [x_u_ne (by omega), x_cp_in hk]
      exact hR k hk
    · intro g m i h1 h2
      rw [x_u_ne (by omega), x_cp_ne (by omega)]
end
