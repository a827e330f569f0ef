/-! the words of methods and links -/
theorem x_w_ini {j : Nat} (h1 : 1 ≤ j) (h2 : j < 262) : Cond.initialized (x_y j).cls ∈ x_tbl := by
  have h := x_mwk_all j h1 h2
  unfold x_mwk at h
  revert h
  obtain ⟨c, a, s, i⟩ := x_mw.getD j (0, 0, 0, 0)
  intro h
  simp only [Bool.and_eq_true, decide_eq_true_eq] at h
  exact x_word h.1.1.2 h.1.2
theorem x_w_st {j : Nat} (h1 : 1 ≤ j) (h2 : j < 262) (hq : x_mq j = 0) : Cond.static (x_y j) ∈ x_tbl := by
  have h := x_mwk_all j h1 h2
  unfold x_mwk at h
  revert h
  obtain ⟨c, a, s, i⟩ := x_mw.getD j (0, 0, 0, 0)
  intro h
  rw [hq] at h
  simp only [Bool.and_eq_true, decide_eq_true_eq] at h
  have h3 : (decide (lw_tbl[a]? = some (Cond.static (x_y j))) && goodWord (Cond.static (x_y j))) = true := h.2
  simp only [Bool.and_eq_true, decide_eq_true_eq] at h3
  exact x_word h3.1 h3.2
theorem x_w_im {j : Nat} (h1 : 1 ≤ j) (h2 : j < 262) (hq : x_mq j ≠ 0) : Cond.instanceMethod (x_y j) ∈ x_tbl := by
  have h := x_mwk_all j h1 h2
  unfold x_mwk at h
  revert h
  obtain ⟨c, a, s, i⟩ := x_mw.getD j (0, 0, 0, 0)
  intro h
  simp only [Bool.and_eq_true, decide_eq_true_eq] at h
  have h3 := h.2
  cases hb : Nat.beq (x_mq j) 0 with
  | true => exact absurd (Nat.eq_of_beq_eq_true hb) hq
  | false =>
    rw [hb] at h3
    have h4 : ((decide (lw_tbl[a]? = some (Cond.instanceMethod (x_y j))) && goodWord (Cond.instanceMethod (x_y j))) && _) = true := h3
    simp only [Bool.and_eq_true, decide_eq_true_eq] at h4
    exact x_word h4.1.1 h4.1.2
theorem x_w_se {j : Nat} (h1 : 1 ≤ j) (h2 : j < 262) (hq : x_mq j = 1) : Cond.selects (x_y j).cls (x_y j) (x_y j) ∈ x_tbl := by
  have h := x_mwk_all j h1 h2
  unfold x_mwk at h
  revert h
  obtain ⟨c, a, s, i⟩ := x_mw.getD j (0, 0, 0, 0)
  intro h
  rw [hq] at h
  simp only [Bool.and_eq_true, decide_eq_true_eq] at h
  have h3 : ((decide (lw_tbl[a]? = some (Cond.instanceMethod (x_y j))) && goodWord (Cond.instanceMethod (x_y j))) && (decide (lw_tbl[s]? = some (Cond.selects (x_y j).cls (x_y j) (x_y j))) && goodWord (Cond.selects (x_y j).cls (x_y j) (x_y j)))) = true := h.2
  simp only [Bool.and_eq_true, decide_eq_true_eq] at h3
  exact x_word h3.2.1 h3.2.2
theorem x_m_ok {j : Nat} (h2 : j < 262) : (x_me j).2.2.1 = x_mx j ∧ x_rt j = x_rf (x_mk j) ∧ (x_y j).cls = x_nm (x_mo j) ∧ x_mk j < 6 ∧ ((x_mq j = 2) = ((x_y j).name = "<init>")) ∧ ((x_mq j = 2) = (x_mi j = true)) ∧ plainFor (x_y j) = true ∧ (x_y j).cls ≠ "java/lang/invoke/MethodHandle" ∧ (x_y j).cls ≠ "java/lang/invoke/VarHandle" ∧ x_mo j < 16 ∧ x_mx j ≤ 20 ∧ (x_mq j = 2 → x_mk j = 0) := by
  have h := x_mok_all j (Nat.zero_le _) h2
  unfold x_mok at h
  simp only [Bool.and_eq_true, decide_eq_true_eq] at h
  obtain ⟨⟨⟨⟨⟨⟨⟨⟨⟨⟨⟨a1, a2⟩, a3⟩, a4⟩, a5⟩, a6⟩, a7⟩, a8⟩, a9⟩, a10⟩, a11⟩, a12⟩ := h
  exact ⟨a1, a2, a3, a4, a5, a6, a7, a8, a9, a10, a11, a12⟩
theorem x_good_link (o : String) (i : Nat) (y : MethodName) : goodWord (.methodLink o i y) = true := by rfl
theorem x_good_fl (o : String) (i : Nat) (a b c : String) : goodWord (.fieldLink o i a b c) = true := by rfl
theorem x_in {w : Cond} (h : w ∈ lw_tbl) (hg : goodWord w = true) : w ∈ x_tbl := by
  unfold x_tbl
  exact List.mem_filter.mpr ⟨h, hg⟩
/-- all words of a callee are its caller's -/
theorem x_goodIn {c : Nat} (h1 : 1 ≤ c) (h2 : c < 262) : GoodIn x_tbl (Cond.code (x_y c) (x_b c) (x_mx c) (x_rt c) :: x_tbl) := by
  intro w hw
  rcases List.mem_cons.mp hw with rfl | h
  · exact ⟨x_code_in h1 h2, good_of_word (x_code_good _ _ _ _)⟩
  · refine ⟨h, good_of_word ?_⟩
    unfold x_tbl at h
    exact (List.mem_filter.mp h).2
