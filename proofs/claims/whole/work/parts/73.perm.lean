/-! the rows are the sets whose walk can be -/
theorem s32_ok : p_s32 PI := by
  intro a ha Z t ⟨T, F, N, H, K, v, u, nx, h⟩
  obtain ⟨ht, hT, hC, hM, _⟩ := id h
  have t0 : T 0 0 ≤ 7 := hT.1
  have t1 : T 1 0 ≤ 10 := hT.2.1
  have c1 := C118 60 Z t a (by decide)
  have m1 := C234 60 Z t a (by decide)
  rw [c_hasC hC hT (by decide), Option.bind_some, B118_8, cn_id ha.1 ha.2] at c1
  rw [m_isC hM hT (by decide), Option.bind_some, B234_5, cn_id ha.1 ha.2] at m1
  by_cases hin : 0 ≤ a ∧ a < (T 0 0 : Int)
  case neg =>
    rw [if_pos (ite_00 _ hin)] at c1 m1; exact p_fin h c1 keepQ.rfl' m1 keepQ.rfl' rfl
  obtain ⟨c, rfl⟩ := Int.eq_ofNat_of_zero_le hin.1
  obtain ⟨Z1, e1, e2, e3⟩ := m_miles (d := 59) (a1 := -1) (wo := 99) hM hT (by decide) t (fun l hl => by rw [cn_id (by decide) (by decide)]; omega)
  have hds := q_ds_le T 99 c
  rw [if_neg (ite_01 _ hin), if_pos (by omega), Int.toNat_natCast, (hC.2.1 c (by omega)).2.2.2.1] at c1
  rw [if_neg (ite_01 _ hin), e1, Option.bind_some, B234_15, cn_id ha.1 ha.2, if_pos (by omega), Int.toNat_natCast, e2 c (by omega), cn_nt (z := (q_ds T 99 c : Int)) rfl (by omega)] at m1
  have kq : keepQ Z Z1 := fun g m i hs => e3 g m i (by unfold scr at hs; omega)
  unfold q_mi at c1
  by_cases h1 : q_ds T 99 c < 1000
  · rw [if_neg (by omega)] at c1
    rw [if_pos (by omega), if_pos (by omega)] at m1
    exact p_fin h c1 keepQ.rfl' m1 kq rfl
  · rw [if_pos (by omega)] at c1
    rw [if_neg (by omega)] at m1
    exact p_fin h c1 keepQ.rfl' m1 kq rfl
theorem q_ds_house {T : PT} (h : T 0 0 ≠ 0) (wo : Nat) : q_ds T wo (T 10 0) = 0 := by
  have h1 := q_rs_le T wo 7 (q_d0 T) (T 10 0)
  have h2 : q_d0 T (T 10 0) = 0 := by unfold q_d0; rw [if_pos ⟨rfl, h⟩]
  unfold q_ds; omega
theorem w_ds_step {T : PT} {N : PN} {s set : Nat} (hT : TOK T) (k : Nat) : q_ds T 99 (w_at T N s set k) ≤ q_ds T 99 (w_at T N s set (k + 1)) + 9 := by
  have t1 : T 1 0 ≤ 10 := hT.2.1
  rw [w_at]
  split
  · omega
  · rename_i h
    have hd := (w_e_dg h).1
    have hl : w_l T N (w_at T N s set k) (w_b set k) < T 1 0 := q_at_lt hd
    have he : q_e T (w_at T N s set k) (w_l T N (w_at T N s set k) (w_b set k)) = true := q_at_e hd
    obtain ⟨a1, a2⟩ := q_ds_sta hT (wo := 99) hl (by omega)
    have hw := (hT.2.2.2.2.1 _ hl).2.2.2.2
    unfold q_e at he
    simp at he
    unfold q_oe
    by_cases h4 : T 4 (w_l T N (w_at T N s set k) (w_b set k)) = w_at T N s set k
    · rw [if_pos h4]; rw [h4] at a1; omega
    · have h5 : T 5 (w_l T N (w_at T N s set k) (w_b set k)) = w_at T N s set k := by rcases he with he | he; exact absurd he h4; exact he
      rw [if_neg h4]; rw [h5] at a2; omega
theorem w_come_fin {T : PT} {N : PN} {s set : Nat} (hT : TOK T) (hs : s < T 2 0) (h : w_come T N s set = true) : q_ds T 99 (T 8 s) < 1000 := by
  have h8 := (hT.2.2.2.2.2.1 s hs).2
  have e : w_at T N s set 8 = T 10 0 := by unfold w_come at h; simpa using h
  have z := q_ds_house (T := T) (by omega) 99
  have a0 := w_ds_step (N := N) (s := s) (set := set) hT 0
  have a1 := w_ds_step (N := N) (s := s) (set := set) hT 1
  have a2 := w_ds_step (N := N) (s := s) (set := set) hT 2
  have a3 := w_ds_step (N := N) (s := s) (set := set) hT 3
  have a4 := w_ds_step (N := N) (s := s) (set := set) hT 4
  have a5 := w_ds_step (N := N) (s := s) (set := set) hT 5
  have a6 := w_ds_step (N := N) (s := s) (set := set) hT 6
  have a7 := w_ds_step (N := N) (s := s) (set := set) hT 7
  simp only [Nat.reduceAdd] at a0 a1 a2 a3 a4 a5 a6 a7
  rw [e, z] at a7
  have e0 : w_at T N s set 0 = T 8 s := rfl
  rw [e0] at a0
  omega
theorem perm_if (A : Nat → Bool) (g : Nat → Nat) (L : List Nat) : (L.map (fun m => if A m = true then m else g m)).Perm (L.filter A ++ (L.filter (fun m => !A m)).map g) := by
  induction L with
  | nil => exact List.Perm.refl _
  | cons a L ih =>
    by_cases h : A a = true
    · simp only [List.map_cons, if_pos h, List.filter_cons_of_pos h, List.filter_cons_of_neg (p := fun m => !A m) (a := a) (by simp [h]), List.cons_append]
      exact ih.cons a
    · simp only [List.map_cons, if_neg h, List.filter_cons_of_neg h, List.filter_cons_of_pos (p := fun m => !A m) (a := a) (by simp [h])]
      exact (ih.cons (g a)).trans List.perm_middle.symm
theorem perm_or (p q : Nat → Bool) (h : ∀ m, ¬ (p m = true ∧ q m = true)) (L : List Nat) : (L.filter p ++ L.filter q).Perm (L.filter (fun m => p m || q m)) := by
  induction L with
  | nil => exact List.Perm.refl _
  | cons a L ih =>
    by_cases hp : p a = true
    · have hq : ¬ q a = true := fun hq => h a ⟨hp, hq⟩
      rw [List.filter_cons_of_pos hp, List.filter_cons_of_neg hq, List.filter_cons_of_pos (p := fun m => p m || q m) (a := a) (by simp [hp])]
      exact ih.cons a
    · by_cases hq : q a = true
      · rw [List.filter_cons_of_neg hp, List.filter_cons_of_pos hq, List.filter_cons_of_pos (p := fun m => p m || q m) (a := a) (by simp [hq])]
        exact List.perm_middle.trans (ih.cons a)
      · rw [List.filter_cons_of_neg hp, List.filter_cons_of_neg hq, List.filter_cons_of_neg (p := fun m => p m || q m) (a := a) (by simp [hp, hq])]
        exact ih
def w_A (T : PT) (F : PF) (N : PN) (s k m : Nat) : Bool := w_e T (w_at T N s m k) || decide (w_q T F N s (w_at T N s m k) ≠ 4)
def w_ok (T : PT) (F : PF) (N : PN) (s k m : Nat) : Bool := decide (w_ca T F N s m k ≠ 0)
theorem w_nx_A (T : PT) (F : PF) (N : PN) (s k m : Nat) : w_nx T F N s k m = if w_A T F N s k m = true then m else m + 2 ^ k := by
  unfold w_nx w_A
  by_cases he : w_e T (w_at T N s m k) = true
  · rw [if_pos he, if_pos (by simp [he])]
  · rw [if_neg he]
    by_cases hq : w_q T F N s (w_at T N s m k) = 4
    · rw [if_pos hq, if_neg (by simp [he, hq])]
    · rw [if_neg hq, if_pos (by simp [hq])]
theorem w_ok_0 {T : PT} {F : PF} {N : PN} {s k m : Nat} (hm : m < 2 ^ k) : w_ok T F N s (k + 1) m = (w_A T F N s k m && w_ok T F N s k m) := by
  have hq := w_q_le T F N s (w_at T N s m k)
  unfold w_ok w_A
  rw [w_ca, w_fa, (w_b_top hm).1, if_neg (show ¬ (0 = 1) by decide), if_neg (show ¬ (0 = 1) by decide)]
  by_cases he : w_e T (w_at T N s m k) = true
  · rw [if_pos he, he]; simp [Nat.mul_eq_zero]
  · rw [if_neg he]
    simp only [Bool.not_eq_true] at he
    rw [he]
    by_cases h4 : w_q T F N s (w_at T N s m k) = 4
    · rw [h4]; simp
    · have : 4 - w_q T F N s (w_at T N s m k) ≠ 0 := by omega
      simp [h4, this, Nat.mul_eq_zero]
theorem w_ok_1 {T : PT} {F : PF} {N : PN} {s k m : Nat} (hm : m < 2 ^ k) : w_ok T F N s (k + 1) (m + 2 ^ k) = ((!w_A T F N s k m || w_sp T F N s k m) && w_ok T F N s k m) := by
  have hq := w_q_le T F N s (w_at T N s m k)
  have hb : ∀ j, j < k → w_b (m + 2 ^ k) j = w_b m j := fun j hj => w_b_add hj
  unfold w_ok w_A w_sp
  rw [w_ca, w_fa, (w_congr k hb).1, w_ca_congr k hb, (w_b_top hm).2, if_pos rfl, if_pos rfl]
  by_cases he : w_e T (w_at T N s m k) = true
  · rw [if_pos he, he]; simp
  · rw [if_neg he]
    simp only [Bool.not_eq_true] at he
    rw [he]
    by_cases h0 : w_q T F N s (w_at T N s m k) = 0
    · rw [h0]; simp
    · by_cases h4 : w_q T F N s (w_at T N s m k) = 4
      · rw [h4]; simp [Nat.mul_eq_zero]
      · have h1 : 0 < w_q T F N s (w_at T N s m k) := by omega
        have h2 : w_q T F N s (w_at T N s m k) < 4 := by omega
        simp [h0, h4, h1, h2, Nat.mul_eq_zero]
theorem w_rows_perm (T : PT) (F : PF) (N : PN) (s k : Nat) : (w_rows T F N s k).Perm ((List.range (2 ^ k)).filter (w_ok T F N s k)) := by
  induction k with
  | zero => exact List.Perm.refl _
  | succ k ih =>
    rw [w_rows]
    have hnx : w_nx T F N s k = fun m => if w_A T F N s k m = true then m else m + 2 ^ k := funext fun m => w_nx_A T F N s k m
    refine ((ih.map _).append ((ih.filter _).map _)).trans ?_
    rw [hnx]
    generalize hQ : (List.range (2 ^ k)).filter (w_ok T F N s k) = Q
    refine ((perm_if (w_A T F N s k) (fun m => m + 2 ^ k) Q).append_right _).trans ?_
    rw [List.append_assoc, ← List.map_append]
    refine (((perm_or (fun m => !w_A T F N s k m) (w_sp T F N s k) ?_ Q).map _).append_left _).trans ?_
    · intro m ⟨h1, h2⟩
      unfold w_A at h1
      unfold w_sp at h2
      simp at h1 h2
      omega
    · have e : (List.range (2 ^ (k + 1))).filter (w_ok T F N s (k + 1)) = Q.filter (w_A T F N s k) ++ (Q.filter (fun m => !w_A T F N s k m || w_sp T F N s k m)).map (fun m => m + 2 ^ k) := by
        rw [Nat.pow_succ, Nat.mul_two, List.range_add, List.filter_append, List.filter_map, ← hQ, List.filter_filter, List.filter_filter]
        congr 1
        · exact List.filter_congr (fun m hm => w_ok_0 (List.mem_range.1 hm))
        · have e1 : ((w_ok T F N s (k + 1)) ∘ fun x => 2 ^ k + x) = fun m => w_ok T F N s (k + 1) (m + 2 ^ k) := funext fun m => by show w_ok T F N s (k + 1) (2 ^ k + m) = _; rw [Nat.add_comm (2 ^ k) m]
          have e2 : (fun x => 2 ^ k + x) = fun m : Nat => m + 2 ^ k := funext fun m => Nat.add_comm _ _
          rw [e1, e2]
          congr 1
          exact List.filter_congr (fun m hm => w_ok_1 (List.mem_range.1 hm))
      rw [e]
/-- sums over rows, and over all sets -/
def q_sl (g : Nat → Nat) (L : List Nat) : Nat := match L with
  | [] => 0
  | a :: L => g a + q_sl g L
theorem q_sl_perm {g : Nat → Nat} {L M : List Nat} (h : L.Perm M) : q_sl g L = q_sl g M := by
  induction h with
  | nil => rfl
  | cons a _ ih => rw [q_sl, q_sl, ih]
  | swap a b L => rw [q_sl, q_sl, q_sl, q_sl]; omega
  | trans _ _ ih1 ih2 => exact ih1.trans ih2
theorem q_sl_app (g : Nat → Nat) (L M : List Nat) : q_sl g (L ++ M) = q_sl g L + q_sl g M := by
  induction L with
  | nil => rw [List.nil_append, q_sl, Nat.zero_add]
  | cons a L ih => rw [List.cons_append, q_sl, q_sl, ih]; omega
theorem q_sl_filter {g : Nat → Nat} {p : Nat → Bool} (h : ∀ m, ¬ p m = true → g m = 0) (L : List Nat) : q_sl g (L.filter p) = q_sl g L := by
  induction L with
  | nil => rfl
  | cons a L ih =>
    by_cases hp : p a = true
    · rw [List.filter_cons_of_pos hp, q_sl, q_sl, ih]
    · rw [List.filter_cons_of_neg hp, q_sl, ih, h a hp, Nat.zero_add]
theorem q_sl_rows {T : PT} {F : PF} {N : PN} {s : Nat} {g : Nat → Nat} (h : ∀ m, w_ca T F N s m 8 = 0 → g m = 0) : q_sl g (w_rows T F N s 8) = q_sl g (List.range 256) := by
  rw [q_sl_perm (w_rows_perm T F N s 8)]
  exact q_sl_filter (fun m hm => h m (by unfold w_ok at hm; simpa using hm)) _
