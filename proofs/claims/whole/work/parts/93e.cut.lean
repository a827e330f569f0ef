/-! the model cuts a text -/
theorem q_wx_spec {W : Nat → Int} {p len : Nat} : ∀ (ws : List (List Int)) (k : Int), (q_wx W p len ws k = -1 ∧ ∀ i, i < ws.length → ¬ (len = (ws.getD i []).length ∧ q_mt W p 0 (ws.getD i []) = true)) ∨ ∃ i, i < ws.length ∧ q_wx W p len ws k = k + (i : Int) ∧ len = (ws.getD i []).length ∧ q_mt W p 0 (ws.getD i []) = true := by
  intro ws
  induction ws with
  | nil => intro k; exact .inl ⟨rfl, fun i hi => absurd hi (Nat.not_lt_zero _)⟩
  | cons w ws ih =>
    intro k
    rw [q_wx]
    by_cases h : len = w.length ∧ q_mt W p 0 w = true
    · rw [if_pos h]
      exact .inr ⟨0, by simp, (Int.add_zero k).symm, h.1, h.2⟩
    · rw [if_neg h]
      rcases ih (k + 1) with ⟨h1, h2⟩ | ⟨i, h1, h2, h3, h4⟩
      · refine .inl ⟨h1, fun i hi => ?_⟩
        cases i with
        | zero => exact h
        | succ i => exact h2 i (by simpa using hi)
      · refine .inr ⟨i + 1, by simpa using h1, ?_, h3, h4⟩
        rw [h2, Int.add_assoc]; congr 1; omega
theorem wds_dist : ∀ i : Fin 24, ∀ j : Fin 24, q_wds.getD i.val [] = q_wds.getD j.val [] → i = j := by decide +kernel
theorem wds_mem {k : Nat} (hk : k < 24) : q_wds.getD k [] ∈ q_wds := by
  rw [List.getD_eq_getElem?_getD, List.getElem?_eq_getElem (show k < q_wds.length from hk)]; exact List.getElem_mem _
theorem t_w_x (W : Nat → Int) (n p : Nat) : t_w W n p = q_wx W p (q_run bL W n p - p) q_wds 0 := by
  unfold t_w; rw [tx0_wds]; exact q_wa_x q_wds 0 (fun w hw c hc => by have := wds_ok w hw c hc; omega)
theorem t_w_24 (W : Nat → Int) (n p : Nat) : t_w W n p = -1 ∨ (0 ≤ t_w W n p ∧ t_w W n p < 24) := by
  rw [t_w_x]
  rcases q_wx_spec (W := W) (p := p) (len := q_run bL W n p - p) q_wds 0 with ⟨h, _⟩ | ⟨i, h1, h2, _⟩
  · exact .inl h
  · have := wds_len; right; omega
theorem list_ext_getD {a b : List Int} (h1 : a.length = b.length) (h2 : ∀ i, i < a.length → a.getD i 0 = b.getD i 0) : a = b := by
  apply List.ext_getElem h1
  intro i x y
  have := h2 i x
  rw [List.getD_eq_getElem?_getD, List.getD_eq_getElem?_getD, List.getElem?_eq_getElem x, List.getElem?_eq_getElem y] at this
  exact this
theorem key_iff {W : Nat → Int} {n p k : Nat} (hp : p < n) (hk : k < 24) : x_Z0 63 0 k = v_27 (fun i => W (p + i) - 96) (q_run bL W n p - p) ↔ t_w W n p = (k : Int) := by
  obtain ⟨r1, r2, r3, r4⟩ := q_run_spec (P := bL) (W := W) (n := n) (n - p) p (by omega)
  have hlet : ∀ i, i < q_run bL W n p - p → 97 ≤ W (p + i) ∧ W (p + i) ≤ 122 := fun i hi => (bL_i _).1 (r3 (p + i) (by omega) (by omega))
  have hm : (x_Z0 63 0 k = v_27 (fun i => W (p + i) - 96) (q_run bL W n p - p)) ↔ (q_run bL W n p - p = (q_wds.getD k []).length ∧ q_mt W p 0 (q_wds.getD k []) = true) := by
    rw [wds_key ⟨k, hk⟩]
    have hw := wds_ok _ (wds_mem hk)
    have hinj := v_27_inj (f := fun i => (q_wds.getD k []).getD i 0 - 96) (g := fun i => W (p + i) - 96) (q_wds.getD k []).length (q_run bL W n p - p) (fun i hi => by
        have hmm : (q_wds.getD k []).getD i 0 ∈ q_wds.getD k [] := by rw [List.getD_eq_getElem?_getD (l := q_wds.getD k []), List.getElem?_eq_getElem hi]; exact List.getElem_mem _
        have := hw _ hmm; omega) (fun i hi => by have := hlet i hi; omega)
    rw [hinj, q_mt_i]
    constructor
    · rintro ⟨h1, h2⟩
      exact ⟨h1.symm, fun i hi => by have := h2 i hi; rw [Nat.zero_add]; omega⟩
    · rintro ⟨h1, h2⟩
      exact ⟨h1.symm, fun i hi => by have := h2 i hi; rw [Nat.zero_add] at this; omega⟩
  rw [hm, t_w_x]
  rcases q_wx_spec (W := W) (p := p) (len := q_run bL W n p - p) q_wds 0 with ⟨h, hno⟩ | ⟨i, h1, h2, h3, h4⟩
  · constructor
    · intro hx; exact absurd hx (hno k hk)
    · intro hx; omega
  · have hi24 : i < 24 := h1
    constructor
    · rintro ⟨g1, g2⟩
      have he : q_wds.getD i [] = q_wds.getD k [] := list_ext_getD (by omega) (fun x hx => by
        have a1 := (q_mt_i _ _).1 h4 x hx
        have a2 := (q_mt_i _ _).1 g2 x (by omega)
        omega)
      have := wds_dist ⟨i, hi24⟩ ⟨k, hk⟩ he
      have hik : i = k := by simpa using congrArg Fin.val this
      omega
    · intro hx
      have hik : i = k := by omega
      subst hik
      exact ⟨h3, h4⟩
noncomputable def t_m (k : Int) : Int := if k = 256 then 0 else if k = 257 then 3 else if k = 258 then 1 else if k = 259 then 2 else if 260 ≤ k then k - 240 else if k = 59 then 4 else if k = 61 then 5 else if k = 40 then 6 else if k = 41 then 7 else if k = 43 then 8 else if k = 45 then 9 else if k = 42 then 10 else if k = 47 then 15 else 13
theorem cL_id {z : Int} (h1 : -9223372036854775808 ≤ z) (h2 : z < 9223372036854775808) : cL z = z := by unfold cL; omega
theorem x_lcmp_0 {x y : Int} (hx : 0 ≤ x ∧ x < 9223372036854775808) (hy : 0 ≤ y ∧ y < 9223372036854775808) : cn (x_lcmp x y) = 0 ↔ x = y := by
  unfold x_lcmp
  rw [cL_id (by omega) (by omega), cL_id (by omega) (by omega)]
  by_cases h1 : x < y
  · rw [if_pos h1]; exact ⟨fun h => absurd h (by decide), fun h => by omega⟩
  · rw [if_neg h1]
    by_cases h2 : x = y
    · rw [if_pos h2]; exact ⟨fun _ => h2, fun _ => cn_0⟩
    · rw [if_neg h2]; exact ⟨fun h => absurd h (by decide), fun h => absurd h h2⟩
theorem v_27_lt {f : Nat → Int} : ∀ k, k ≤ 8 → (∀ i, i < k → 1 ≤ f i ∧ f i < 27) → v_27 f k < ((27 ^ k : Nat) : Int) := by
  intro k
  induction k with
  | zero => intro _ _; show (0 : Int) < ((1 : Nat) : Int); decide
  | succ k ih =>
    intro hk h
    have h1 := ih (by omega) (fun i hi => h i (by omega))
    have h2 := h k (by omega)
    rw [v_27, Nat.pow_succ]; omega
theorem m_byte {Z : XZ} {W : Nat → Int} {n i d : Nat} (hX : TX Z 58 W n) (h4 : Z 56 0 4 = (n : Int)) (hi : i < 5000) (hd : 1 ≤ d) (t : Nat) : x_CALL d 136 [.inr (.inr (some (56, 0))), .inl ((i : Int))] (x_S Z t) = some ((if i < n then W i % 256 else 0), x_S Z t) := by
  have hn := hX.1
  rw [C136 _ _ _ _ (by omega), h4, cn_nt (z := (i : Int)) rfl (by omega), cn_nt (z := (n : Int)) rfl (by omega)]
  by_cases h : i < n
  · obtain ⟨z1, z2, z3⟩ := hX.2 i h
    rw [if_pos (by omega), if_pos (by omega), if_pos h, Int.toNat_natCast, z1, x_and255 z2 z3]
  · rw [if_neg (by omega), if_neg h]
theorem m_letr {Z : XZ} {d : Nat} {w : Int} (h1 : -128 ≤ w) (h2 : w < 128) (hd : 1 ≤ d) (t : Nat) : x_CALL d 138 [.inl (w % 256)] (x_S Z t) = some ((if bL w = true then 1 else 0), x_S Z t) := by
  have hb := bL_i w
  rw [C138 _ _ _ _ (by omega), cn_id (z := w % 256) (by omega) (by omega)]
  by_cases h : bL w = true
  · have := hb.1 h
    rw [if_neg (by omega), if_neg (by omega), if_pos h]
  · have hn : ¬ (97 ≤ w ∧ w ≤ 122) := fun e => h (hb.2 e)
    rw [if_neg h]
    by_cases h3 : w % 256 < 97
    · rw [if_pos h3]
    · rw [if_neg h3, if_pos (by omega)]
theorem m_digt {Z : XZ} {d : Nat} {w : Int} (h1 : -128 ≤ w) (h2 : w < 128) (hd : 1 ≤ d) (t : Nat) : x_CALL d 137 [.inl (w % 256)] (x_S Z t) = some ((if bD w = true then 1 else 0), x_S Z t) := by
  have hb := bD_i w
  rw [C137 _ _ _ _ (by omega), cn_id (z := w % 256) (by omega) (by omega)]
  by_cases h : bD w = true
  · have := hb.1 h
    rw [if_neg (by omega), if_neg (by omega), if_pos h]
  · have hn : ¬ (48 ≤ w ∧ w ≤ 57) := fun e => h (hb.2 e)
    rw [if_neg h]
    by_cases h3 : w % 256 < 48
    · rw [if_pos h3]
    · rw [if_neg h3, if_pos (by omega)]
theorem m_token {Z : XZ} {d j : Nat} (hj : Z 56 0 10 = (j : Int)) (hj4 : j < 403) (hd : 1 ≤ d) (t : Nat) (k p v nm : Int) : ∃ Z' : XZ, x_CALL d 141 [.inr (.inr (some (56, 0))), .inl k, .inl p, .inl v, .inr (.inl nm)] (x_S Z t) = some (0, x_S Z' t) ∧ (Z' 59 0 j = k ∧ Z' 60 0 j = p ∧ Z' 61 0 j = v ∧ Z' 62 0 j = nm) ∧ Z' 56 0 10 = ((j + 1 : Nat) : Int) ∧ ∀ g m i, ¬ (59 ≤ g ∧ g ≤ 62 ∧ i = j) → ¬ (g = 56 ∧ i = 10) → Z' g m i = Z g m i := by
  have bj : 0 ≤ (j : Int) ∧ (j : Int) < 403 := by omega
  rw [C141 _ _ _ _ _ _ _ (by omega), hj, cn_nt (z := (j : Int)) rfl (by omega), Int.toNat_natCast]
  simp only [if_pos bj]
  refine ⟨_, rfl, ⟨?_, ?_, ?_, ?_⟩, x_u_eq, fun g m i a b => by rw [x_u_ne (by omega), x_u_ne (by omega), x_u_ne (by omega), x_u_ne (by omega), x_u_ne (by omega)]⟩
  · simp [x_u]
  · simp [x_u]
  · simp [x_u]
  · simp [x_u]
