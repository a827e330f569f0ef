/-! a frame of ours and the machine's; what a step says -/
section
variable {st : List XV}
theorem x_1i_ff {f : Int → List XV → Prop} (h : x_1i False st f) : ∃ x r, st = .inl x :: r ∧ f x r := by
  unfold x_1i at h; split at h
  · exact ⟨_, _, rfl, h⟩
  · exact h.elim
theorem x_2i_ff {f : Int → Int → List XV → Prop} (h : x_2i False st f) : ∃ x y r, st = .inl y :: .inl x :: r ∧ f x y r := by
  unfold x_2i at h; split at h
  · exact ⟨_, _, _, rfl, h⟩
  · exact h.elim
theorem x_1l_ff {f : Int → List XV → Prop} (h : x_1l False st f) : ∃ x r, st = .inr (.inl x) :: r ∧ f x r := by
  unfold x_1l at h; split at h
  · exact ⟨_, _, rfl, h⟩
  · exact h.elim
theorem x_2l_ff {f : Int → Int → List XV → Prop} (h : x_2l False st f) : ∃ x y r, st = .inr (.inl y) :: .inr (.inl x) :: r ∧ f x y r := by
  unfold x_2l at h; split at h
  · exact ⟨_, _, _, rfl, h⟩
  · exact h.elim
theorem x_1r_ff {f : Nat → Nat → List XV → Prop} (h : x_1r False st f) : ∃ g i r, st = .inr (.inr (some (g, i))) :: r ∧ f g i r := by
  unfold x_1r at h; split at h
  · exact ⟨_, _, _, rfl, h⟩
  · exact h.elim
theorem x_1q_ff {f : Option (Nat × Nat) → List XV → Prop} (h : x_1q False st f) : ∃ q r, st = .inr (.inr q) :: r ∧ f q r := by
  unfold x_1q at h; split at h
  · exact ⟨_, _, rfl, h⟩
  · exact h.elim
theorem x_pop_ff : ∀ (n : Nat) (st acc : List XV) (f : List XV → List XV → Prop), x_pop False n st acc f → ∃ u r, st = u ++ r ∧ u.length = n ∧ f (u.reverse ++ acc) r
  | 0, st, acc, f, h => by unfold x_pop at h; exact ⟨[], st, rfl, rfl, h⟩
  | n + 1, [], acc, f, h => by unfold x_pop at h; exact h.elim
  | n + 1, v :: r, acc, f, h => by
    unfold x_pop at h
    obtain ⟨u, r', h1, h2, h3⟩ := x_pop_ff n r (v :: acc) f h
    refine ⟨v :: u, r', by rw [h1]; rfl, by simp [h2], ?_⟩
    simpa using h3
theorem x_ite_ff {P : Prop} {a : Prop} {inst : Decidable P} (h : @ite Prop P inst a False) : P ∧ a := by
  split at h
  · rename_i hp; exact ⟨hp, h⟩
  · exact h.elim
theorem x_ite_ff2 {P : Prop} {a : Prop} {inst : Decidable P} (h : @ite Prop P inst False a) : ¬ P ∧ a := by
  split at h
  · exact h.elim
  · rename_i hp; exact ⟨hp, h⟩
theorem x_bif_ff {P : Bool} {a : Prop} (h : bif P then a else False) : P = true ∧ a := by
  cases P with
  | true => exact ⟨rfl, h⟩
  | false => exact h.elim
theorem x_bif_ff2 {P : Bool} {a : Prop} (h : bif P then False else a) : P = false ∧ a := by
  cases P with
  | true => exact h.elim
  | false => exact ⟨rfl, h⟩
end
theorem x_tagok : ∀ q ∈ x_aol, (x_sh q.1).1 ≤ 5 ∧ ((x_sh q.1).1 = 0 → (x_sh q.1).2 < 10) := by decide +kernel
theorem x_tag {n : Nat} (h : n < x_NC) : (x_sh (x_q n).1).1 ≤ 5 ∧ ((x_sh (x_q n).1).1 = 0 → (x_sh (x_q n).1).2 < 10) := by
  have a := x_q_some h
  rw [x_nx_get] at a
  exact x_tagok _ (List.mem_of_getElem? a)
theorem x_vl_low {nC : Nat} {q : Nat × Nat} (h : x_vl nC q) (ht : (x_sh q.1).1 ≤ 5) : x_vh nC q := by
  rcases h with h | h | ⟨h, -⟩ | ⟨h, -⟩ | h
  · exact h
  · subst h; exact absurd ht (by decide +kernel)
  · rw [h] at ht; exact absurd ht (by decide +kernel)
  · rw [h] at ht; exact absurd ht (by decide +kernel)
  · subst h; exact absurd ht (by decide +kernel)
theorem x_vl_6 {nC : Nat} {q : Nat × Nat} (hN : nC ≤ x_NC) (h : x_vl nC q) (ht : (x_sh q.1).1 = 6) : q.1 = 901 ∧ q.2 < 2 := by
  rcases h with ⟨n, h1, h2⟩ | h | h | ⟨h, -⟩ | h
  · have := (x_tag (n := n) (by omega)).1
    rw [h2, ht] at this
    omega
  · subst h; exact absurd ht (by decide +kernel)
  · exact h
  · rw [h] at ht; exact absurd ht (by decide +kernel)
  · subst h; exact absurd ht (by decide +kernel)
theorem x_vl_7 {nC : Nat} {q : Nat × Nat} (hN : nC ≤ x_NC) (h : x_vl nC q) (ht : (x_sh q.1).1 = 7) : q.1 = 902 ∧ q.2 < 2 := by
  rcases h with ⟨n, h1, h2⟩ | h | ⟨h, -⟩ | h | h
  · have := (x_tag (n := n) (by omega)).1
    rw [h2, ht] at this
    omega
  · subst h; exact absurd ht (by decide +kernel)
  · rw [h] at ht; exact absurd ht (by decide +kernel)
  · exact h
  · subst h; exact absurd ht (by decide +kernel)
theorem x_vl_8 {nC : Nat} {q : Nat × Nat} (hN : nC ≤ x_NC) (h : x_vl nC q) (ht : (x_sh q.1).1 = 8) : q = (900, 0) := by
  rcases h with ⟨n, h1, h2⟩ | h | ⟨h, -⟩ | ⟨h, -⟩ | h
  · have := (x_tag (n := n) (by omega)).1
    rw [h2, ht] at this
    omega
  · exact h
  · rw [h] at ht; exact absurd ht (by decide +kernel)
  · rw [h] at ht; exact absurd ht (by decide +kernel)
  · subst h; exact absurd ht (by decide +kernel)
theorem x_vl_9 {nC : Nat} {q : Nat × Nat} (hN : nC ≤ x_NC) (h : x_vl nC q) (ht : (x_sh q.1).1 ≠ 9) : q.1 ≠ 903 := by
  intro he
  rw [he] at ht
  exact ht (by decide +kernel)
/-- sizes of the cells, summed -/
noncomputable def x_sz (n : Nat) : Nat := match n with
  | 0 => 0
  | n + 1 => x_sz n + x_s1 (x_q n)
theorem x_sz_mono {a b : Nat} (h : a ≤ b) : x_sz a ≤ x_sz b := by
  induction b with
  | zero => rw [show a = 0 by omega]; exact Nat.le_refl _
  | succ b ih =>
    by_cases he : a = b + 1
    · rw [he]; exact Nat.le_refl _
    · have := ih (by omega)
      show _ ≤ x_sz b + _
      omega
def x_Ls (nC : Nat) (A : XAd) (Fm : Value) (ls : XL) (rls : Array Slot) (nL : Nat) : Prop := ls.length = nL ∧ rls.size = nL ∧ lv_wf rls ∧ ∀ k v, x_nth ls k = some v → x_okv nC v ∧ rls[k]? = some (.val (x_re A Fm v))
def x_Sk (nC : Nat) (st : List XV) : Prop := ∀ v ∈ st, x_okv nC v
theorem x_Sk.tail {nC : Nat} {v : XV} {st : List XV} (h : x_Sk nC (v :: st)) : x_Sk nC st := fun w hw => h w (List.mem_cons_of_mem _ hw)
theorem x_Sk.head {nC : Nat} {v : XV} {st : List XV} (h : x_Sk nC (v :: st)) : x_okv nC v := h v List.mem_cons_self
theorem x_Sk.cons {nC : Nat} {v : XV} {st : List XV} (hv : x_okv nC v) (h : x_Sk nC st) : x_Sk nC (v :: st) := fun w hw => by
  rcases List.mem_cons.mp hw with rfl | h1
  · exact hv
  · exact h w h1
theorem x_Sk.i {nC : Nat} {z : Int} {st : List XV} (h : x_Sk nC st) : x_Sk nC (.inl z :: st) := .cons (x_okv_i nC z) h
theorem x_Sk.l {nC : Nat} {z : Int} {st : List XV} (h : x_Sk nC st) : x_Sk nC (.inr (.inl z) :: st) := .cons (x_okv_l nC z) h
theorem x_nth_put : ∀ (ls : XL) (k j : Nat) (v : Option XV), k < ls.length → x_nth (x_put ls k v) j = if j = k then v else x_nth ls j
  | [], k, j, v, h => by simp at h
  | a :: r, 0, 0, v, h => by simp [x_put, x_nth]
  | a :: r, 0, j + 1, v, h => by simp [x_put, x_nth]
  | a :: r, k + 1, 0, v, h => by simp [x_put, x_nth]
  | a :: r, k + 1, j + 1, v, h => by
    have := x_nth_put r k j v (by simpa using h)
    simp only [x_put, x_nth, this]
    by_cases e : j = k
    · rw [if_pos e, if_pos (by omega)]
    · rw [if_neg e, if_neg (by omega)]
theorem x_put_len : ∀ (ls : XL) (k : Nat) (v : Option XV), (x_put ls k v).length = ls.length
  | [], k, v => by simp [x_put]
  | a :: r, 0, v => by simp [x_put]
  | a :: r, k + 1, v => by simp [x_put, x_put_len r k v]
theorem x_nth_lt : ∀ (ls : XL) (k : Nat) (v : XV), x_nth ls k = some v → k < ls.length
  | [], k, v, h => by simp [x_nth] at h
  | a :: r, 0, v, h => by simp
  | a :: r, k + 1, v, h => by
    have := x_nth_lt r k v (by simpa [x_nth] using h)
    simp; omega
def x_lv (A : XAd) (Fm : Value) (ls : XL) : List (Nat × Value) := (List.range ls.length).filterMap fun i => (x_nth ls i).map fun v => (i, x_re A Fm v)
theorem x_Ls.has {nC : Nat} {A : XAd} {Fm : Value} {ls : XL} {rls : Array Slot} {nL : Nat} (h : x_Ls nC A Fm ls rls nL) : lv_has rls nL (x_lv A Fm ls) := by
  obtain ⟨h1, h2, h3, h4⟩ := h
  refine ⟨h2, h3, fun q hq => ?_⟩
  unfold x_lv at hq
  obtain ⟨i, -, hi⟩ := List.mem_filterMap.mp hq
  cases hv : x_nth ls i with
  | none => rw [hv] at hi; cases hi
  | some v =>
    rw [hv] at hi
    cases hi
    exact (h4 i v hv).2
theorem x_lv_mem {A : XAd} {Fm : Value} {ls : XL} {k : Nat} {v : XV} (h : x_nth ls k = some v) : (k, x_re A Fm v) ∈ x_lv A Fm ls := by
  unfold x_lv
  exact List.mem_filterMap.mpr ⟨k, List.mem_range.mpr (x_nth_lt ls k v h), by rw [h]; rfl⟩
theorem x_re_cat2 {A : XAd} {Fm : Value} {v : XV} (hF : Fm.category = 1) (h : (x_re A Fm v).category = 2) : ∃ z, v = .inr (.inl z) := by
  unfold x_re at h
  split at h
  · simp [Value.category] at h
  · exact ⟨_, rfl⟩
  · simp [Value.category] at h
  · split at h
    · omega
    · simp [Value.category] at h
theorem x_Ls.put1 {nC : Nat} {A : XAd} {Fm : Value} {ls : XL} {rls rls' : Array Slot} {nL k : Nat} {v : XV} (hF : Fm.category = 1) (h : x_Ls nC A Fm ls rls nL) (hk : k < nL) (hg : x_lng ls k = false) (hv : x_okv nC v)
    (h' : lv_has rls' nL ((k, x_re A Fm v) :: (x_lv A Fm ls).filter (fun q => !(q.1 == k) && !(q.1 + 1 == k && q.2.category == 2)))) : x_Ls nC A Fm (x_put ls k (some v)) rls' nL := by
  obtain ⟨h1, h2, h3, h4⟩ := h
  obtain ⟨g1, g2, g3⟩ := h'
  refine ⟨by rw [x_put_len]; exact h1, g1, g2, fun j w hw => ?_⟩
  rw [x_nth_put ls k j (some v) (by omega)] at hw
  by_cases e : j = k
  · rw [if_pos e] at hw
    cases hw
    subst e
    exact ⟨hv, g3 _ List.mem_cons_self⟩
  · rw [if_neg e] at hw
    refine ⟨(h4 j w hw).1, g3 (j, x_re A Fm w) (List.mem_cons_of_mem _ (List.mem_filter.mpr ⟨x_lv_mem hw, ?_⟩))⟩
    simp only [Bool.and_eq_true, Bool.not_eq_true', beq_eq_false_iff_ne, ne_eq]
    refine ⟨e, ?_⟩
    rw [Bool.and_eq_false_iff]
    by_cases e2 : j + 1 = k
    · right
      cases hc : (x_re A Fm w).category == 2 with
      | false => rfl
      | true =>
        obtain ⟨z, rfl⟩ := x_re_cat2 hF (by simpa using hc)
        subst e2
        simp [x_lng, hw] at hg
    · left
      simpa using e2
theorem x_Ls.put2 {nC : Nat} {A : XAd} {Fm : Value} {ls : XL} {rls rls' : Array Slot} {nL k : Nat} {z : Int} (hF : Fm.category = 1) (h : x_Ls nC A Fm ls rls nL) (hk : k + 1 < nL) (hg : x_lng ls k = false)
    (h' : lv_has rls' nL ((k, x_re A Fm (.inr (.inl z))) :: (x_lv A Fm ls).filter (fun q => !(q.1 == k) && (!(q.1 == k + 1) && !(q.1 + 1 == k && q.2.category == 2))))) : x_Ls nC A Fm (x_put (x_put ls k (some (.inr (.inl z)))) (k + 1) none) rls' nL := by
  obtain ⟨h1, h2, h3, h4⟩ := h
  obtain ⟨g1, g2, g3⟩ := h'
  refine ⟨by rw [x_put_len, x_put_len]; exact h1, g1, g2, fun j w hw => ?_⟩
  rw [x_nth_put _ (k + 1) j none (by rw [x_put_len]; omega)] at hw
  by_cases e1 : j = k + 1
  · rw [if_pos e1] at hw; cases hw
  rw [if_neg e1, x_nth_put ls k j _ (by omega)] at hw
  by_cases e : j = k
  · rw [if_pos e] at hw
    cases hw
    subst e
    exact ⟨x_okv_l _ _, g3 _ List.mem_cons_self⟩
  · rw [if_neg e] at hw
    refine ⟨(h4 j w hw).1, g3 (j, x_re A Fm w) (List.mem_cons_of_mem _ (List.mem_filter.mpr ⟨x_lv_mem hw, ?_⟩))⟩
    simp only [Bool.and_eq_true, Bool.not_eq_true', beq_eq_false_iff_ne, ne_eq]
    refine ⟨e, e1, ?_⟩
    rw [Bool.and_eq_false_iff]
    by_cases e2 : j + 1 = k
    · right
      cases hc : (x_re A Fm w).category == 2 with
      | false => rfl
      | true =>
        obtain ⟨z, rfl⟩ := x_re_cat2 hF (by simpa using hc)
        subst e2
        simp [x_lng, hw] at hg
    · left
      simpa using e2
theorem x_re_agree {nC : Nat} {A A' : XAd} {Fm : Value} {v : XV} (hv : x_okv nC v) (h : ∀ q, x_vl nC q → A' q = A q) : x_re A' Fm v = x_re A Fm v := by
  match v, hv with
  | .inl z, _ => rfl
  | .inr (.inl z), _ => rfl
  | .inr (.inr none), _ => rfl
  | .inr (.inr (some q)), hv =>
    unfold x_re
    simp only []
    rw [h q (hv q rfl)]
theorem x_Ls.agree {nC nC' : Nat} {A A' : XAd} {Fm : Value} {ls : XL} {rls : Array Slot} {nL : Nat} (h : x_Ls nC A Fm ls rls nL) (hn : nC ≤ nC') (ha : ∀ q, x_vl nC q → A' q = A q) : x_Ls nC' A' Fm ls rls nL := by
  obtain ⟨h1, h2, h3, h4⟩ := h
  refine ⟨h1, h2, h3, fun k v hv => ⟨((h4 k v hv).1).mono hn, ?_⟩⟩
  rw [x_re_agree (h4 k v hv).1 ha]
  exact (h4 k v hv).2
theorem x_map_agree {nC : Nat} {A A' : XAd} {Fm : Value} {st : List XV} (h : x_Sk nC st) (ha : ∀ q, x_vl nC q → A' q = A q) : st.map (x_re A' Fm) = st.map (x_re A Fm) := List.map_congr_left fun v hv => x_re_agree (h v hv) ha
