theorem x_code_good (y : MethodName) (b : ByteArray) (n : Nat) (r : Option FieldType) : goodWord (.code y b n r) = true := by rfl
theorem x_code_in {j : Nat} (h1 : 1 ≤ j) (h2 : j < 262) : Cond.code (x_y j) (x_b j) (x_mx j) (x_rt j) ∈ x_tbl := by
  have h := x_mwk_all j h1 h2
  unfold x_mwk at h
  have hb : x_b j = x_cb (lw_tbl[(x_mw.getD j (0, 0, 0, 0)).1]?) := by
    unfold x_b
    cases j with
    | zero => omega
    | succ k => rfl
  revert h hb
  obtain ⟨c, a, s, i⟩ := x_mw.getD j (0, 0, 0, 0)
  intro h hb
  simp only [Bool.and_eq_true] at h
  have h3 := h.1.1.1
  refine x_word (i := c) ?_ (x_code_good _ _ _ _)
  dsimp only at hb
  cases hw : lw_tbl[c]? with
  | none => rw [hw] at h3; simp [x_ck] at h3
  | some w =>
    rw [hw] at h3 hb
    unfold x_ck at h3
    split at h3
    · rename_i y b' n r heq
      cases heq
      simp only [Bool.and_eq_true, decide_eq_true_eq] at h3
      obtain ⟨⟨e1, e2⟩, e3⟩ := h3
      subst e1; subst e2; subst e3
      rw [hb]
      rfl
    · cases h3
