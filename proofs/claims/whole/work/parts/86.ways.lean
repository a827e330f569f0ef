/-! ways -/
def q_lx (p : Int × Int) (w c : Int) : Int × Int := if p.2 < c ∨ (c = p.2 ∧ w < p.1) then (w, c) else p
theorem q_lx_comm (p : Int × Int) (x a y b : Int) : q_lx (q_lx p x a) y b = q_lx (q_lx p y b) x a := by
  unfold q_lx
  by_cases h1 : p.2 < a ∨ (a = p.2 ∧ x < p.1)
  · rw [if_pos h1]
    by_cases h2 : p.2 < b ∨ (b = p.2 ∧ y < p.1)
    · rw [if_pos h2]
      by_cases h3 : a < b ∨ (b = a ∧ y < x)
      · rw [if_pos h3, if_neg (show ¬ (b < a ∨ (a = b ∧ x < y)) by omega)]
      · rw [if_neg h3]
        by_cases h4 : b < a ∨ (a = b ∧ x < y)
        · rw [if_pos h4]
        · rw [if_neg h4, show x = y by omega, show a = b by omega]
    · rw [if_neg h2, if_pos h1]
      rw [if_neg (show ¬ (a < b ∨ (b = a ∧ y < x)) by omega)]
  · rw [if_neg h1]
    by_cases h2 : p.2 < b ∨ (b = p.2 ∧ y < p.1)
    · rw [if_pos h2, if_neg (show ¬ (b < a ∨ (a = b ∧ x < y)) by omega)]
    · rw [if_neg h2, if_neg h1]
def q_wf (A : Nat → Nat → Int) (T : PT) (F : PF) (N : PN) (s k : Nat) (W : (Int × Int) × (Int × Int)) (m : Nat) : (Int × Int) × (Int × Int) := if q_al A T N s m k 0 = true then ((W.1.1 + 1, W.1.2 + (w_ca T F N s m 8 : Int)), q_lx W.2 (m : Int) (w_ca T F N s m 8 : Int)) else W
theorem q_wf_comm (A : Nat → Nat → Int) (T : PT) (F : PF) (N : PN) (s k : Nat) (W : (Int × Int) × (Int × Int)) (x y : Nat) : q_wf A T F N s k (q_wf A T F N s k W x) y = q_wf A T F N s k (q_wf A T F N s k W y) x := by
  unfold q_wf
  by_cases hx : q_al A T N s x k 0 = true
  · rw [if_pos hx, if_pos hx]
    by_cases hy : q_al A T N s y k 0 = true
    · rw [if_pos hy, if_pos hy]
      simp only
      rw [q_lx_comm, Int.add_right_comm W.1.2]
    · rw [if_neg hy, if_neg hy]
  · rw [if_neg hx, if_neg hx]
def q_pk (a3 : Int) (W : (Int × Int) × (Int × Int)) : Int := if cn a3 = 0 then cn W.1.1 else if cn a3 = 1 then cn W.1.2 else cn W.2.1
theorem c_ways_loop {A : Nat → Nat → Int} {T : PT} {F : PF} {N : PN} {Z0 : XZ} {s k q : Nat} (hT : TOK T) (hs : s < T 2 0) (hG : GR T F N s 8 Z0) (hA : NA A q) (hq : q ≤ 20) (hk : k ≤ q) (h35 : Z0 35 0 0 = (q : Int)) (hZ : ∀ j, j < q → Z0 36 0 j = A 0 j ∧ Z0 37 0 j = A 1 j ∧ Z0 38 0 j = A 2 j ∧ Z0 39 0 j = A 3 j) (t : Nat) (a3 : Int) : ∀ (j n : Nat) (W : (Int × Int) × (Int × Int)) (ca mo : Int) (o9 : Option XV), n + j = (w_rows T F N s 8).length → cn ca = cn W.1.2 → cn mo = W.2.2 → (-2 ≤ W.2.1 ∧ W.2.1 < 256) → ∃ r : Int, x_EX 59 124 69 [some (.inr (.inr (some (0, 0)))), some (.inl ((k : Int))), some (.inl ((s : Int))), some (.inl a3), some (.inl W.1.1), some (.inl ca), some (.inl W.2.1), some (.inl mo), some (.inl ((n : Int))), o9] [] (x_S Z0 t) = some (r, x_S Z0 t) ∧ cn r = q_pk a3 (((w_rows T F N s 8).drop n).foldl (q_wf A T F N s k) W) := by
  have hr8 := w_rows_len T F N s 8
  intro j
  induction j with
  | zero =>
    intro n W ca mo o9 hn h1 h2 h3
    obtain rfl : n = (w_rows T F N s 8).length := by omega
    rw [B124_69, hG.2.1, if_neg (Int.lt_irrefl _), List.drop_length]
    unfold q_pk
    by_cases c0 : cn a3 = 0
    · rw [if_pos c0, if_pos c0]; exact ⟨_, rfl, rfl⟩
    · rw [if_neg c0, if_neg c0]
      by_cases c1 : cn a3 = 1
      · rw [if_pos c1, if_pos c1]; exact ⟨_, rfl, h1⟩
      · rw [if_neg c1, if_neg c1]; exact ⟨_, rfl, rfl⟩
  | succ j ih =>
    intro n W ca mo o9 hn h1 h2 h3
    have hnR : n < (w_rows T F N s 8).length := by omega
    have hRn := hG.2.2 n hnR
    have h6 := rows_lt T F N s hnR
    have hm := hRn.2.2
    have hcl := w_ca_le T F N s ((w_rows T F N s 8).getD n 0) 8
    have bn : 0 ≤ (n : Int) ∧ (n : Int) < 256 := by omega
    have ed : (w_rows T F N s 8).drop n = (w_rows T F N s 8).getD n 0 :: (w_rows T F N s 8).drop (n + 1) := by rw [List.drop_eq_getElem_cons hnR, List.getD_eq_getElem?_getD, List.getElem?_eq_getElem hnR]; rfl
    rw [ed, List.foldl_cons, B124_69, hG.2.1, cn_nt (z := (n : Int)) rfl (by omega), cn_nt (z := ((w_rows T F N s 8).length : Int)) rfl (by omega), if_pos (by omega), c_al hT hs hRn.1 h6 hA hq hk h35 hZ (by decide) t, Option.bind_some, B124_96]
    by_cases hb : q_al A T N s ((w_rows T F N s 8).getD n 0) k 0 = true
    · have hc46 : cn (Z0 46 0 n) = (w_ca T F N s ((w_rows T F N s 8).getD n 0) 8 : Int) := by rw [hRn.cas, cn_nt rfl (by omega)]
      have hwf : q_wf A T F N s k W ((w_rows T F N s 8).getD n 0) = ((W.1.1 + 1, W.1.2 + (w_ca T F N s ((w_rows T F N s 8).getD n 0) 8 : Int)), q_lx W.2 (((w_rows T F N s 8).getD n 0 : Nat) : Int) (w_ca T F N s ((w_rows T F N s 8).getD n 0) 8 : Int)) := by unfold q_wf; rw [if_pos hb]
      have e1 : cn (ca + Z0 46 0 n) = cn (W.1.2 + (w_ca T F N s ((w_rows T F N s 8).getD n 0) 8 : Int)) := by rw [cn_ac _ h1]; exact cn_ad hRn.cas
      rw [if_neg (ite_01 _ hb), cn_nt (z := (n : Int)) rfl (by omega), if_pos bn, Int.toNat_natCast, hc46, h2, hRn.1.2.2.2.1, cn_nt (z := (((w_rows T F N s 8).getD n 0 : Nat) : Int)) rfl (by omega), cn_id (z := W.2.1) (by omega) (by omega)]
      have yes : q_lx W.2 (((w_rows T F N s 8).getD n 0 : Nat) : Int) (w_ca T F N s ((w_rows T F N s 8).getD n 0) 8 : Int) = ((((w_rows T F N s 8).getD n 0 : Nat) : Int), (w_ca T F N s ((w_rows T F N s 8).getD n 0) 8 : Int)) → ∃ r : Int, x_EX 59 124 69 [some (.inr (.inr (some (0, 0)))), some (.inl ((k : Int))), some (.inl ((s : Int))), some (.inl a3), some (.inl (W.1.1 + 1)), some (.inl (ca + Z0 46 0 n)), some (.inl ((((w_rows T F N s 8).getD n 0 : Nat) : Int))), some (.inl (Z0 46 0 n)), some (.inl ((n : Int) + 1)), some (.inl (Z0 46 0 n))] [] (x_S Z0 t) = some (r, x_S Z0 t) ∧ cn r = q_pk a3 (((w_rows T F N s 8).drop (n + 1)).foldl (q_wf A T F N s k) (q_wf A T F N s k W ((w_rows T F N s 8).getD n 0))) := by
        intro hl
        rw [hwf, hl]
        exact ih (n + 1) ((W.1.1 + 1, W.1.2 + (w_ca T F N s ((w_rows T F N s 8).getD n 0) 8 : Int)), ((((w_rows T F N s 8).getD n 0 : Nat) : Int), (w_ca T F N s ((w_rows T F N s 8).getD n 0) 8 : Int))) _ _ _ (by omega) e1 hc46 (by simp only; omega)
      have no : q_lx W.2 (((w_rows T F N s 8).getD n 0 : Nat) : Int) (w_ca T F N s ((w_rows T F N s 8).getD n 0) 8 : Int) = W.2 → ∃ r : Int, x_EX 59 124 69 [some (.inr (.inr (some (0, 0)))), some (.inl ((k : Int))), some (.inl ((s : Int))), some (.inl a3), some (.inl (W.1.1 + 1)), some (.inl (ca + Z0 46 0 n)), some (.inl W.2.1), some (.inl mo), some (.inl ((n : Int) + 1)), some (.inl (Z0 46 0 n))] [] (x_S Z0 t) = some (r, x_S Z0 t) ∧ cn r = q_pk a3 (((w_rows T F N s 8).drop (n + 1)).foldl (q_wf A T F N s k) (q_wf A T F N s k W ((w_rows T F N s 8).getD n 0))) := by
        intro hl
        rw [hwf, hl]
        exact ih (n + 1) ((W.1.1 + 1, W.1.2 + (w_ca T F N s ((w_rows T F N s 8).getD n 0) 8 : Int)), W.2) _ _ _ (by omega) e1 h2 h3
      by_cases c1 : W.2.2 < (w_ca T F N s ((w_rows T F N s 8).getD n 0) 8 : Int)
      · rw [if_pos c1, if_pos bn]
        exact yes (by unfold q_lx; rw [if_pos (.inl c1)])
      · rw [if_neg c1]
        by_cases c2 : (w_ca T F N s ((w_rows T F N s 8).getD n 0) 8 : Int) = W.2.2
        · rw [if_pos c2, if_pos bn]
          by_cases c3 : (((w_rows T F N s 8).getD n 0 : Nat) : Int) < W.2.1
          · rw [if_pos c3, if_pos bn]
            exact yes (by unfold q_lx; rw [if_pos (.inr ⟨c2, c3⟩)])
          · rw [if_neg c3]
            exact no (by unfold q_lx; rw [if_neg (by omega)])
        · rw [if_neg c2]
          exact no (by unfold q_lx; rw [if_neg (by omega)])
    · have hwf : q_wf A T F N s k W ((w_rows T F N s 8).getD n 0) = W := by unfold q_wf; rw [if_neg hb]
      rw [if_pos (ite_00 _ hb), hwf]
      exact ih (n + 1) W ca mo o9 (by omega) h1 h2 h3
theorem m_ways_loop {A : Nat → Nat → Int} {T : PT} {F : PF} {N : PN} {v s k q : Nat} (hT : TOK T) (hs : s < T 2 0) (hA : NA A q) (hq : q ≤ 20) (hk : k ≤ q) (t : Nat) (a3 : Int) : ∀ (n set : Nat) (W : (Int × Int) × (Int × Int)) (ca mo : Int) (Z : XZ), set + n = 256 → ME T F N s v Z → (∀ j, j < q → Z 102 0 j = A 0 j ∧ Z 103 0 j = A 1 j ∧ Z 104 0 j = A 2 j ∧ Z 105 0 j = A 3 j) → cn ca = cn W.1.2 → cn mo = W.2.2 → (-2 ≤ W.2.1 ∧ W.2.1 < (set : Int)) → ∃ (r : Int) (Z' : XZ), x_EX 59 241 52 [some (.inr (.inr (some (56, 0)))), some (.inl ((k : Int))), some (.inl ((s : Int))), some (.inl a3), some (.inl W.1.1), some (.inl ca), some (.inl W.2.1), some (.inl mo), some (.inl ((set : Int)))] [] (x_S Z t) = some (r, x_S Z' t) ∧ cn r = q_pk a3 ((List.range' set n).foldl (fun W m => if w_ca T F N s m 8 = 0 then W else q_wf A T F N s k W m) W) ∧ kM Z Z' := by
  intro n
  induction n with
  | zero =>
    intro set W ca mo Z hn hE hZ h1 h2 h3
    obtain rfl : set = 256 := by omega
    rw [B241_52, if_neg (by decide)]
    show ∃ r Z', _ ∧ cn r = q_pk a3 W ∧ _
    unfold q_pk
    by_cases c0 : cn a3 = 0
    · rw [if_pos c0, if_pos c0]; exact ⟨_, Z, rfl, rfl, fun _ _ _ _ => rfl⟩
    · rw [if_neg c0, if_neg c0]
      by_cases c1 : cn a3 = 1
      · rw [if_pos c1, if_pos c1]; exact ⟨_, Z, rfl, h1, fun _ _ _ _ => rfl⟩
      · rw [if_neg c1, if_neg c1]; exact ⟨_, Z, rfl, rfl, fun _ _ _ _ => rfl⟩
  | succ n ih =>
    intro set W ca mo Z hn hE hZ h1 h2 h3
    obtain ⟨Z1, f1, hE1, hL1, k1⟩ := m_fit (d := 59) hT hs hE (m := set) (by omega) hA hq hk hZ (by decide) t
    have hZ1 : ∀ j, j < q → Z1 102 0 j = A 0 j ∧ Z1 103 0 j = A 1 j ∧ Z1 104 0 j = A 2 j ∧ Z1 105 0 j = A 3 j := fun j hj => by rw [k1 102 _ _ (by unfold wsc; omega), k1 103 _ _ (by unfold wsc; omega), k1 104 _ _ (by unfold wsc; omega), k1 105 _ _ (by unfold wsc; omega)]; exact hZ j hj
    have hcl := w_ca_le T F N s set 8
    rw [B241_52, cn_nt (z := (set : Int)) rfl (by omega), if_pos (by omega), f1, Option.bind_some, B241_68, List.range'_succ, List.foldl_cons]
    have trs : ∀ Z', kM Z1 Z' → kM Z Z' := fun Z' hk g m i hg => (hk g m i hg).trans (k1 g m i hg)
    by_cases hf : w_fit A T F N s k set = true
    · have hca : w_ca T F N s set 8 ≠ 0 := by unfold w_fit at hf; simp at hf; exact hf.1
      have hal : q_al A T N s set k 0 = true := by unfold w_fit at hf; simp at hf; exact hf.2
      have e1 : cn (ca + Z1 56 0 66) = cn (W.1.2 + (w_ca T F N s set 8 : Int)) := by rw [cn_ac _ h1]; exact cn_ad hL1.cas
      rw [if_neg (ite_01 _ hf), if_neg hca, hL1.2.2.2.2.1, h2]
      have hwf : q_wf A T F N s k W set = ((W.1.1 + 1, W.1.2 + (w_ca T F N s set 8 : Int)), q_lx W.2 (set : Int) (w_ca T F N s set 8 : Int)) := by unfold q_wf; rw [if_pos hal]
      by_cases c1 : W.2.2 < (w_ca T F N s set 8 : Int)
      · have hl : q_lx W.2 (set : Int) (w_ca T F N s set 8 : Int) = ((set : Int), (w_ca T F N s set 8 : Int)) := by unfold q_lx; rw [if_pos (.inl c1)]
        rw [if_pos c1, hwf, hl]
        obtain ⟨r, Z', g1, g2, g3⟩ := ih (set + 1) ((W.1.1 + 1, W.1.2 + (w_ca T F N s set 8 : Int)), ((set : Int), (w_ca T F N s set 8 : Int))) (ca + Z1 56 0 66) (Z1 56 0 66) Z1 (by omega) hE1 hZ1 e1 hL1.2.2.2.2.1 (by simp only; omega)
        exact ⟨r, Z', g1, g2, trs Z' g3⟩
      · have hl : q_lx W.2 (set : Int) (w_ca T F N s set 8 : Int) = W.2 := by unfold q_lx; rw [if_neg (by omega)]
        rw [if_neg c1, hwf, hl]
        obtain ⟨r, Z', g1, g2, g3⟩ := ih (set + 1) ((W.1.1 + 1, W.1.2 + (w_ca T F N s set 8 : Int)), W.2) (ca + Z1 56 0 66) mo Z1 (by omega) hE1 hZ1 e1 h2 (by simp only; omega)
        exact ⟨r, Z', g1, g2, trs Z' g3⟩
    · have hW : (if w_ca T F N s set 8 = 0 then W else q_wf A T F N s k W set) = W := by
        by_cases hca : w_ca T F N s set 8 = 0
        · rw [if_pos hca]
        · rw [if_neg hca]; unfold q_wf; rw [if_neg (fun hal => hf (by unfold w_fit; simp [hca, hal]))]
      rw [if_pos (ite_00 _ hf), hW]
      obtain ⟨r, Z', g1, g2, g3⟩ := ih (set + 1) W ca mo Z1 (by omega) hE1 hZ1 h1 h2 (by omega)
      exact ⟨r, Z', g1, g2, trs Z' g3⟩
theorem NI.na {Z : XZ} (h : NI Z) : ∃ (A : Nat → Nat → Int) (q : Nat), q ≤ 20 ∧ Z 35 0 0 = (q : Int) ∧ Z 56 0 70 = (q : Int) ∧ NA A q ∧ (∀ j, j < q → Z 36 0 j = A 0 j ∧ Z 37 0 j = A 1 j ∧ Z 38 0 j = A 2 j ∧ Z 39 0 j = A 3 j) ∧ ∀ j, j < q → Z 102 0 j = A 0 j ∧ Z 103 0 j = A 1 j ∧ Z 104 0 j = A 2 j ∧ Z 105 0 j = A 3 j := by
  obtain ⟨n, n1, n2, n3, n4⟩ := h
  refine ⟨fun f j => Z (36 + f) 0 j, n, n1, n2, n3, ?_, ?_, ?_⟩
  · intro j hj
    obtain ⟨_, _, _, _, a1, a2, a3, a4⟩ := n4 j hj
    exact ⟨a1, a2, a3, a4⟩
  · intro j hj; exact ⟨rfl, rfl, rfl, rfl⟩
  · intro j hj
    obtain ⟨b1, b2, b3, b4, _⟩ := n4 j hj
    exact ⟨b1.symm, b2.symm, b3.symm, b4.symm⟩
theorem s38_ok : p_s38 PI := by
  intro a b e ha hb he Z t ⟨T, F, N, H, K, v, u, nx, h⟩
  obtain ⟨ht, hT, hC, hM, hL, hML, hS, hR, hN, hH, hK, hNI, hTI⟩ := id h
  obtain ⟨A, q, q20, n2, n3, hA, hZc, hZm⟩ := hNI.na
  have c1 := C124 60 Z t a b e (by decide)
  rw [c_hasS hC hT (by decide), Option.bind_some, B124_23, cn_id ha.1 ha.2, cn_id hb.1 hb.2, cn_id he.1 he.2, n2, cn_nt (z := (q : Int)) rfl (by omega)] at c1
  have m1 : ∀ Z1 : XZ, Z1 56 0 70 = (q : Int) → x_CALL 60 241 [.inr (.inr (some (56, 0))), .inl a, .inl b, .inl e] (x_S Z1 t) = _ := fun Z1 y => by rw [C241 60 Z1 t a b e (by decide), y, m_in (by decide), Option.bind_some, B241_9, cn_id ha.1 ha.2, cn_id (z := 0) (by decide) (by decide), cn_nt (z := (q : Int)) rfl (by omega)]
  by_cases h0 : 0 ≤ a ∧ a ≤ (q : Int)
  case neg =>
    have m2 := m1 Z n3
    rw [if_pos (ite_00 _ h0)] at m2
    by_cases g : a < 0
    · rw [if_pos g] at c1; exact p_fin h c1 keepQ.rfl' m2 keepQ.rfl' rfl
    · rw [if_neg g, if_pos (by omega)] at c1; exact p_fin h c1 keepQ.rfl' m2 keepQ.rfl' rfl
  obtain ⟨k, rfl⟩ := Int.eq_ofNat_of_zero_le h0.1
  rw [if_neg (by omega), if_neg (by omega)] at c1
  have m3 : ∀ Z1 : XZ, Z1 56 0 70 = (q : Int) → MT Z1 v T → x_CALL 60 241 [.inr (.inr (some (56, 0))), .inl ((k : Int)), .inl b, .inl e] (x_S Z1 t) = _ := fun Z1 y hM1 => by rw [m1 Z1 y, if_neg (ite_01 _ h0), m_isS hM1 hT (by decide), Option.bind_some, B241_17, cn_id hb.1 hb.2]
  by_cases h1 : 0 ≤ b ∧ b < (T 2 0 : Int)
  case neg =>
    have m2 := m3 Z n3 hM
    rw [if_pos (ite_00 _ h1)] at c1 m2; exact p_fin h c1 keepQ.rfl' m2 keepQ.rfl' rfl
  obtain ⟨s, rfl⟩ := Int.eq_ofNat_of_zero_le h1.1
  have hs : s < T 2 0 := by omega
  rw [if_neg (ite_01 _ h1)] at c1
  have m4 : ∀ Z1 : XZ, Z1 56 0 70 = (q : Int) → MT Z1 v T → x_CALL 60 241 [.inr (.inr (some (56, 0))), .inl ((k : Int)), .inl ((s : Int)), .inl e] (x_S Z1 t) = _ := fun Z1 y hM1 => by rw [m3 Z1 y hM1, if_neg (ite_01 _ h1), m_in (by decide), Option.bind_some, B241_26, cn_id he.1 he.2, cn_id (z := 0) (by decide) (by decide), cn_id (z := 2) (by decide) (by decide)]
  by_cases h2 : 0 ≤ e ∧ e ≤ 2
  case neg =>
    have m2 := m4 Z n3 hM
    rw [if_pos (ite_00 _ h2)] at m2
    by_cases g : e < 0
    · rw [if_pos g] at c1; exact p_fin h c1 keepQ.rfl' m2 keepQ.rfl' rfl
    · rw [if_neg g, if_pos (by omega)] at c1; exact p_fin h c1 keepQ.rfl' m2 keepQ.rfl' rfl
  rw [if_neg (by omega), if_neg (by omega)] at c1
  obtain ⟨Z0, e1, hG, e3⟩ := c_all (d := 59) (m := 0) hC hT hL hS hN (by decide) hs
  obtain ⟨r, f1, f2⟩ := c_ways_loop (A := A) (k := k) (q := q) hT hs hG hA q20 (by omega) ((e3 _ _ _ (by omega)).trans n2) (fun j hj => by rw [e3 36 _ _ (by omega), e3 37 _ _ (by omega), e3 38 _ _ (by omega), e3 39 _ _ (by omega)]; exact hZc j hj) t e (w_rows T F N s 8).length 0 ((0, 0), (-2, 0)) 0 0 none (by omega) rfl (show cn 0 = 0 from cn_0) (by decide)
  rw [e1, Option.bind_some, B124_53] at c1
  have hq1 := kq_cw e3
  have hI := h.mi.congr (fun g m i _ _ hs => hq1 g m i hs)
  obtain ⟨Z2, g1, hE, g3⟩ := m_cps hI hT hN hH.2.2.1 (d := 59) (by decide) t (s := s) hs
  have hq2 := hq1.trans g3
  obtain ⟨r', Z', i1, i2, i3⟩ := m_ways_loop (A := A) (k := k) (q := q) hT hs hA q20 (by omega) t e 256 0 ((0, 0), (-2, 0)) 0 0 Z2 (by omega) hE (fun j hj => by rw [hq2 102 _ _ (by unfold scr; omega), hq2 103 _ _ (by unfold scr; omega), hq2 104 _ _ (by unfold scr; omega), hq2 105 _ _ (by unfold scr; omega)]; exact hZm j hj) rfl (show cn 0 = 0 from cn_0) (by decide)
  have m2 := m4 Z0 ((hq1 _ _ _ (by unfold scr; omega)).trans n3) hI.1
  rw [if_neg (ite_01 _ h2), g1, Option.bind_some, B241_36] at m2
  exact p_fin h (c1.trans f1) hq1 (m2.trans i1) (g3.trans (kq_kM i3)) (by rw [f2, i2, List.drop_zero, fold_rows (q_wf_comm A T F N s k), List.range_eq_range'])
