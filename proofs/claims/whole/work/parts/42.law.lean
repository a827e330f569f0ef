/-! from the law's entry to its loop -/
def x_Zi (zf : XZ) (xs : Nat → Int32) (L : Nat) : XZ := fun g i j => if g = 900 then (xs j).toInt else if g = 2000 then (if j = 0 then (L : Int) else if j = 1 then 1 else 0) else zf g i j
/-- what the constructors leave -/
def x_Ini (zf : XZ) : Prop := ∀ q ∈ x_fa ++ x_fb, zf q.1 q.2.1 q.2.2 = x_Z0 q.1 q.2.1 q.2.2
theorem x_chunk {l : List (Nat × Nat)} {f : Nat × Nat → Bool} {a m n : Nat} {q : Nat × Nat} (h : ((l.drop a).take m).all f = true) (hq : l[n]? = some q) (h1 : a ≤ n) (h2 : n < a + m) : f q = true := by
  refine List.all_eq_true.mp h q (List.mem_of_getElem? (i := n - a) ?_)
  rw [List.getElem?_take, if_pos (by omega), List.getElem?_drop, show a + (n - a) = n by omega]
  exact hq
theorem x_ctor : ∃ (z1 z2 : Int) (σ1 σ2 : XH), x_ev 60 3000 81 [.inr (.inr (some (0, 0)))] (1, (fun _ _ _ => 0, fun _ _ _ => none)) = some (z1, σ1) ∧ σ1.1 = 207 ∧ x_ev 60 3000 132 [.inr (.inr (some (56, 0)))] (σ1.1 + 1, σ1.2) = some (z2, σ2) ∧ σ2.1 = x_NC ∧ (∀ q ∈ x_aol, x_rck σ2.2.2 q = true) ∧ x_Ini σ2.2.1 := by
  have t1 := x_t1_ok
  have t2 := x_t2_ok
  have ta := x_t5_a
  have tb := x_t5_b
  have c0 := x_t4_0
  have c1 := x_t4_52
  have c2 := x_t4_104
  have c3 := x_t4_156
  have c4 := x_t4_208
  unfold x_t1 at t1
  unfold x_t2 at t2
  unfold x_t5 at ta tb
  unfold x_t4 at c0 c1 c2 c3 c4
  cases h1 : x_r1 with
  | none => rw [h1] at t1; cases t1
  | some r1 =>
    obtain ⟨z1, σ1⟩ := r1
    have e2 : x_r2 = x_ev 60 3000 132 [.inr (.inr (some (56, 0)))] (σ1.1 + 1, σ1.2) := by unfold x_r2; rw [h1]
    rw [h1] at t1
    cases h2 : x_r2 with
    | none => rw [h2] at t2; cases t2
    | some r2 =>
      obtain ⟨z2, σ2⟩ := r2
      rw [h2] at t2 ta tb c0 c1 c2 c3 c4
      refine ⟨z1, z2, σ1, σ2, h1, of_decide_eq_true t1, by rw [← e2, h2], of_decide_eq_true t2, ?_, ?_⟩
      · intro q hq
        obtain ⟨n, hn⟩ := List.getElem?_of_mem hq
        have hlt : n < 260 := by
          have := (List.getElem?_eq_some_iff.mp hn).1
          rw [x_aol_len] at this
          exact this
        by_cases k0 : n < 52
        · exact x_chunk c0 hn (by omega) (by omega)
        by_cases k1 : n < 104
        · exact x_chunk c1 hn (by omega) (by omega)
        by_cases k2 : n < 156
        · exact x_chunk c2 hn (by omega) (by omega)
        by_cases k3 : n < 208
        · exact x_chunk c3 hn (by omega) (by omega)
        exact x_chunk c4 hn (by omega) (by omega)
      · intro q hq
        rcases List.mem_append.mp hq with h | h
        · exact of_decide_eq_true (List.all_eq_true.mp ta q h)
        · exact of_decide_eq_true (List.all_eq_true.mp tb q h)
noncomputable def x_nck (q : Nat × Nat) : Bool := bif Nat.beq (x_sh q.1).1 0 then (List.range (x_N (x_sh q.1).2)).all (fun f => x_isr (x_yt (x_sh q.1).2 f) || decide (x_RTn 1 q.1 q.2 f = none))
  else bif Nat.beq (x_sh q.1).1 5 then true else (List.range (x_sh q.1).2).all (fun f => decide (x_RTn 1 q.1 q.2 f = none))
theorem x_nck_0 : ∀ q ∈ x_aol.take 130, x_nck q = true := by decide +kernel
theorem x_nck_1 : ∀ q ∈ x_aol.drop 130, x_nck q = true := by decide +kernel
theorem x_nck_ok : ∀ q ∈ x_aol, x_nck q = true := by
  intro q hq
  rw [← List.take_append_drop 130 x_aol] at hq
  rcases List.mem_append.mp hq with h | h
  · exact x_nck_0 q h
  · exact x_nck_1 q h
theorem x_q_mem {n : Nat} (h : n < x_NC) : x_q n ∈ x_aol := by
  have a := x_q_some h
  rw [x_nx_get] at a
  exact List.mem_of_getElem? a
theorem x_Zi_lo {zf : XZ} {xs : Nat → Int32} {L g i j : Nat} (h : g < 900) : x_Zi zf xs L g i j = zf g i j := by
  unfold x_Zi
  rw [if_neg (by omega), if_neg (by omega)]
/-- the same references, where it matters -/
theorem x_same {R : XR} {q : Nat × Nat} (hq : q ∈ x_aol) (hr : x_rck R q = true) {j : Nat} (hj : j < x_s1 q) (hs : (x_sh q.1).1 = 5 ∨ ((x_sh q.1).1 = 0 ∧ x_isr (x_yt (x_sh q.1).2 j) = true)) : R q.1 q.2 j = x_RTn 1 q.1 q.2 j := by
  unfold x_rck at hr
  unfold x_s1 at hj
  rcases hs with hs | ⟨hs, hi⟩
  · rw [hs] at hr
    rw [if_neg (by omega)] at hj
    exact of_decide_eq_true (List.all_eq_true.mp hr j (List.mem_range.mpr hj))
  · rw [hs] at hr
    rw [if_pos hs] at hj
    have h9 := List.all_eq_true.mp hr j (List.mem_range.mpr hj)
    rw [hi] at h9
    exact of_decide_eq_true h9
theorem x_none {q : Nat × Nat} (hq : q ∈ x_aol) {j : Nat} (hj : j < x_s1 q) (hs : ¬ ((x_sh q.1).1 = 5 ∨ ((x_sh q.1).1 = 0 ∧ x_isr (x_yt (x_sh q.1).2 j) = true))) : x_RTn 1 q.1 q.2 j = none := by
  have hn := x_nck_ok q hq
  unfold x_nck at hn
  unfold x_s1 at hj
  by_cases h0 : (x_sh q.1).1 = 0
  · rw [h0] at hn
    rw [if_pos h0] at hj
    have h9 := List.all_eq_true.mp hn j (List.mem_range.mpr hj)
    cases hi : x_isr (x_yt (x_sh q.1).2 j) with
    | true => exact absurd (Or.inr ⟨h0, hi⟩) hs
    | false => rw [hi] at h9; exact of_decide_eq_true h9
  · rw [if_neg h0] at hj
    have b0 : Nat.beq (x_sh q.1).1 0 = false := by
      cases hb : Nat.beq (x_sh q.1).1 0 with
      | false => rfl
      | true => exact absurd (x_beq hb) h0
    have b5 : Nat.beq (x_sh q.1).1 5 = false := by
      cases hb : Nat.beq (x_sh q.1).1 5 with
      | false => rfl
      | true => exact absurd (Or.inl (x_beq hb)) hs
    rw [b0, b5] at hn
    exact of_decide_eq_true (List.all_eq_true.mp hn j (List.mem_range.mpr hj))
theorem x_arrV {cA : ClassId} {n : Nat} {f g : Nat → Value} (h : ∀ j, j < n → f j = g j) : arrV cA n f = arrV cA n g := by
  unfold arrV
  congr 2
  funext j
  exact h j.1 j.2
theorem x_Dy_swap {D : va_G} {S0 : Nat} {Fm : Value} {b : Nat} {adK adV : Nat → Nat} {xs : Nat → Int32} {L : Nat} {A : XAd} {C : XCd} {zf : XZ} {R : XR} {U : State} {H : Heap} (hR : ∀ q ∈ x_aol, x_rck R q = true)
    (h : x_Dy D S0 Fm b adK adV xs L A C (x_NC, (zf, R)) U H) : x_Dy D S0 Fm b adK adV xs L A C (x_S (x_Zi zf xs L) 1) U H := by
  obtain ⟨g1, g2, g3, g4, g5, g6, g7, g8⟩ := h
  refine ⟨g1, ?_, ?_, ?_, fun n h1 h2 => absurd h2 (Nat.not_lt.mpr h1), fun _ => ⟨by simp [x_Zi], fun j hj => by simp [x_Zi]⟩, g7, g8⟩
  · intro k p hp
    obtain ⟨hk, rfl⟩ := x_wl_of hp
    have hk : k < x_NC := hk
    have hold := g2 k _ (x_wl_get A Fm C (x_NC, (zf, R)) hk)
    have hlo := x_q_lt hk
    have hmem := x_q_mem hk
    have htag := (x_tag hk).1
    generalize x_q k = q at hold hlo hmem htag ⊢
    rcases (show (x_sh q.1).1 = 0 ∨ ((x_sh q.1).1 = 1 ∨ (x_sh q.1).1 = 2 ∨ (x_sh q.1).1 = 3) ∨ (x_sh q.1).1 = 4 ∨ (x_sh q.1).1 = 5 by omega) with ht | ht | ht | ht
    · rw [x_cell_obj ht rfl] at hold ⊢
      have e : x_fs A Fm (x_S (x_Zi zf xs L) 1) q (x_sh q.1).2 = x_fs A Fm (x_NC, (zf, R)) q (x_sh q.1).2 := by
        unfold x_fs
        refine List.map_congr_left fun f hf => ?_
        have hf := List.mem_range.mp hf
        unfold x_fv
        split
        · rename_i hi
          show x_re A Fm (.inr (.inr (x_RTn 1 q.1 q.2 f))) = x_re A Fm (.inr (.inr (R q.1 q.2 f)))
          rw [x_same hmem (hR q hmem) (by unfold x_s1; rw [if_pos ht]; exact hf) (Or.inr ⟨ht, hi⟩)]
        · show Value.int (Int32.ofInt (x_Zi zf xs L q.1 q.2 f)) = Value.int (Int32.ofInt (zf q.1 q.2 f))
          rw [x_Zi_lo hlo]
      rw [e]
      exact hold
    · rw [x_cell_i ht] at hold ⊢
      have e : (fun j => Int32.ofInt ((x_S (x_Zi zf xs L) 1).2.1 q.1 q.2 j)) = fun j => Int32.ofInt (zf q.1 q.2 j) := funext fun j => by
        show Int32.ofInt (x_Zi zf xs L q.1 q.2 j) = _
        rw [x_Zi_lo hlo]
      rw [e]
      exact hold
    · rw [x_cell_l ht] at hold ⊢
      have e : (fun j => Int64.ofInt ((x_S (x_Zi zf xs L) 1).2.1 q.1 q.2 j)) = fun j => Int64.ofInt (zf q.1 q.2 j) := funext fun j => by
        show Int64.ofInt (x_Zi zf xs L q.1 q.2 j) = _
        rw [x_Zi_lo hlo]
      rw [e]
      exact hold
    · rw [x_cell_q ht] at hold ⊢
      have hold : H[A q]? = some (vp_cell (C q) ((x_sh q.1).2, .inr (.inr (.inr (.inr fun j => (R q.1 q.2 j).map A))))) := hold
      show H[A q]? = some (vp_cell (C q) ((x_sh q.1).2, .inr (.inr (.inr (.inr fun j => (x_RTn 1 q.1 q.2 j).map A)))))
      rw [hold, vp_cell_q, vp_cell_q]
      congr 1
      refine x_arrV fun j hj => ?_
      rw [x_same hmem (hR q hmem) (by unfold x_s1; rw [if_neg (by omega)]; exact hj) (Or.inl ht)]
  · refine ⟨fun i j p q hi hj hpq => ?_, fun k q hk => ?_⟩
    · obtain ⟨i1, rfl⟩ := x_wl_of hi
      obtain ⟨j1, rfl⟩ := x_wl_of hj
      exact g3.1 i j _ _ (x_wl_get A Fm C (x_NC, (zf, R)) i1) (x_wl_get A Fm C (x_NC, (zf, R)) j1) hpq
    · obtain ⟨k1, rfl⟩ := x_wl_of hk
      have h9 := g3.2 k _ (x_wl_get A Fm C (x_NC, (zf, R)) k1)
      exact h9
  · intro n hn j q hq
    have hn : n < x_NC := hn
    have hq : x_RTn 1 (x_q n).1 (x_q n).2 j = some q := hq
    by_cases hj : j < x_s1 (x_q n)
    · left
      have hmem := x_q_mem hn
      by_cases hs : (x_sh (x_q n).1).1 = 5 ∨ ((x_sh (x_q n).1).1 = 0 ∧ x_isr (x_yt (x_sh (x_q n).1).2 j) = true)
      · rw [← x_same hmem (hR _ hmem) hj hs] at hq
        rcases g4 n hn j q hq with h9 | ⟨-, h9⟩
        · exact h9
        · omega
      · rw [x_none hmem hj hs] at hq
        cases hq
    · right
      exact ⟨rfl, by omega⟩
