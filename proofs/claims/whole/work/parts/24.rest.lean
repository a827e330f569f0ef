/-! lengths, switches, constants, ends, new cells -/
section
variable {p : Program} {l : Launch} {e : Env} {R : Room} {s : State} {m : MethodId} {args : Array Value} {below : List Frame} {meth : Method} {c : Code} {Q : State → Prop} {D : va_G} {S0 : Nat} {Fm : Value} {b : Nat} {adK adV : Nat → Nat} {xs : Nat → Int32} {L : Nat} {A0 : XAd} {j n0 nM d : Nat}
variable {pc : Nat} {ls : XL} {st : List XV} {σ : XH} {A : XAd} {C : XCd} {H : Heap} {locs : List Loc} {rls : Array Slot}
theorem x_h_alen (cx : x_Cx p R s m args meth c D S0 Fm b adK adV xs L j d) (hI : x_In s D S0 Fm b adK adV xs L A0 j n0 ls st σ A C H locs rls) (hd : decode (x_b j) pc = .ok (.arraylength, 1)) (h : x_1r False st fun g i r => bif Nat.beq (x_sh g).1 0 || Nat.beq (x_sh g).1 6 || Nat.beq (x_sh g).1 9 then False else bif Nat.beq (x_sh g).1 8 then (if σ.2.1 2000 0 1 = 1 then x_KK p l e R s m args below meth c Q D S0 Fm b adK adV xs L A0 j n0 nM (pc + 1) ls (.inl (x_al σ.2.1 g i : Int) :: r) σ else False) else x_KK p l e R s m args below meth c Q D S0 Fm b adK adV xs L A0 j n0 nM (pc + 1) ls (.inl (x_al σ.2.1 g i : Int) :: r) σ) : x_WW p l e R s m args below meth c Q n0 H locs σ.1 (F0 m pc rls (st.map (x_re A Fm))) := by
  obtain ⟨hx, hb, hml, hown, hts, hSt, hj, hini, hfr, hlo, hF⟩ := cx
  obtain ⟨hn, hAg, hDy, hS, hLs, hSk⟩ := hI
  obtain ⟨g, i, r, hst9, h9⟩ := x_1r_ff h
  clear h
  subst hst9
  revert h9
  intro h
  obtain ⟨hg, hk⟩ := x_bif_ff2 h
  simp only [Bool.or_eq_false_iff] at hg
  obtain ⟨⟨hg0, hg6⟩, hg9⟩ := hg
  have hv := hSk.head (g, i) rfl
  have hfl : (x_sh g).1 = 8 → σ.2.1 2000 0 1 = 1 := fun q => by
    rw [q] at hk
    exact (x_ite_ff hk).1
  have hk : x_KK p l e R s m args below meth c Q D S0 Fm b adK adV xs L A0 j n0 nM (pc + 1) ls (.inl (x_al σ.2.1 g i : Int) :: r) σ := by
    cases hb8 : Nat.beq (x_sh g).1 8 with
    | true => rw [hb8] at hk; exact (x_ite_ff hk).2
    | false => rw [hb8] at hk; exact hk
  have h5 := hk.2 A C H locs rls hAg hDy hS hLs (x_Sk.i hSk.tail)
  by_cases h7 : (x_sh g).1 = 7
  · obtain ⟨h8, hi⟩ := x_vl_7 hDy.2.2.2.2.2.2.1 hv h7
    have h8 : g = 902 := h8
    have hi : i < 2 := hi
    subst h8
    obtain ⟨-, -, -, -, -, -, -, ⟨-, hA2⟩⟩ := id hDy
    obtain ⟨-, -, -, -, -, -, s7, -⟩ := hSt
    have hT := (s7.1 i hi).2.2.2
    rw [(x_txt hi).1] at hT
    show W _ _ _ _ _ _ _ _ _ _ _ _ _ _ _ (F0 m pc rls (.ref (A (902, i)) :: r.map (x_re A Fm)))
    rw [(hA2 i hi).2]
    exact va_tlen hx hb hT hS (n_nat _) hd h5
  by_cases h8 : (x_sh g).1 = 8
  · have h9 := x_vl_8 hDy.2.2.2.2.2.2.1 hv h8
    cases h9
    obtain ⟨-, -, -, -, -, hLL, -, ⟨hA1, -⟩⟩ := id hDy
    obtain ⟨hL1, hL2⟩ := hLL (hfl h8)
    obtain ⟨s1, -, -, -, -, -, -, -, -, s10, s11⟩ := hSt
    have hl : (x_al σ.2.1 900 0 : Int) = (L : Int) := by
      show (((σ.2.1 2000 0 0).toNat : Nat) : Int) = _
      rw [hL1]; rfl
    show W _ _ _ _ _ _ _ _ _ _ _ _ _ _ _ (F0 m pc rls (.ref (A (900, 0)) :: r.map (x_re A Fm)))
    rw [hA1]
    refine va_slen (A := x_F S0) hx hb s10 (by omega) (show ¬ S0 ≤ b by omega) hS hd ?_
    rw [n_nat, ← hl]
    exact h5
  have h0 : (x_sh g).1 ≠ 0 := fun q => by rw [q] at hg0; cases hg0
  have h6 : (x_sh g).1 ≠ 6 := fun q => by rw [q] at hg6; cases hg6
  have h99 : (x_sh g).1 ≠ 9 := fun q => by rw [q] at hg9; cases hg9
  have hlow : x_vh σ.1 (g, i) := by
    rcases hv with h | h | ⟨h, -⟩ | ⟨h, -⟩ | h
    · exact h
    · cases h; exact absurd (by decide +kernel) h8
    · have h : g = 901 := h
      subst h; exact absurd (by decide +kernel) h6
    · have h : g = 902 := h
      subst h; exact absurd (by decide +kernel) h7
    · cases h; exact absurd (by decide +kernel) h99
  have ht5 : (x_sh g).1 ≤ 5 := by
    obtain ⟨n, g1, g2⟩ := hlow
    have := (x_tag (n := n) (by have := hDy.2.2.2.2.2.2.1; omega)).1
    rw [g2] at this
    exact this
  obtain ⟨n, h1, h2, h3, h4⟩ := x_plc hDy hSk.head ht5
  have ha := hDy.1 n h1 (by rw [h2]; exact h0)
  rw [h2] at ha
  rw [x_alen ht5] at h5
  show W _ _ _ _ _ _ _ _ _ _ _ _ _ _ _ (F0 m pc rls (x_re A Fm (.inr (.inr (some (g, i)))) :: r.map (x_re A Fm)))
  rw [x_ref h4]
  rcases (show (x_sh g).1 = 1 ∨ (x_sh g).1 = 2 ∨ (x_sh g).1 = 3 ∨ (x_sh g).1 = 4 ∨ (x_sh g).1 = 5 by omega) with ht | ht | ht | ht | ht
  · rw [x_cell_i (Or.inl ht)] at h3; exact va_alen hx hb (x_K1 hSt.2.1 ha) hDy.2.1 n 0 h3 rfl (n_nat _) hd h5
  · rw [x_cell_i (Or.inr (Or.inl ht))] at h3; exact va_alen hx hb (x_K1 hSt.2.1 ha) hDy.2.1 n 0 h3 rfl (n_nat _) hd h5
  · rw [x_cell_i (Or.inr (Or.inr ht))] at h3; exact va_alen hx hb (x_K1 hSt.2.1 ha) hDy.2.1 n 0 h3 rfl (n_nat _) hd h5
  · rw [x_cell_l ht] at h3; exact va_alen hx hb (x_K1 hSt.2.1 ha) hDy.2.1 n 0 h3 rfl (n_nat _) hd h5
  · rw [x_cell_q ht] at h3; exact va_alen hx hb (x_K1 hSt.2.1 ha) hDy.2.1 n 0 h3 rfl (n_nat _) hd h5
theorem x_sw_ff (z d9 : Int) (f : Int → Prop) : ∀ (os : List Int) (lo : Int), x_sw z lo os d9 f → ((z < lo ∨ lo + os.length ≤ z) ∧ f d9) ∨ (lo ≤ z ∧ z < lo + os.length ∧ ∃ off, os[(z - lo).toNat]? = some off ∧ f off)
  | [], lo, h => by
    unfold x_sw at h
    left
    refine ⟨?_, h⟩
    simp
    omega
  | o :: r, lo, h => by
    unfold x_sw at h
    split at h
    · rename_i he
      right
      refine ⟨by omega, by simp; omega, o, ?_, h⟩
      rw [show (z - lo).toNat = 0 by omega]
      rfl
    · rename_i he
      rcases x_sw_ff z d9 f r (lo + 1) h with ⟨h1, h2⟩ | ⟨h1, h2, off, h3, h4⟩
      · left
        refine ⟨?_, h2⟩
        simp only [List.length_cons]
        omega
      · right
        refine ⟨by omega, by simp only [List.length_cons]; omega, off, ?_, h4⟩
        rw [show (z - lo).toNat = (z - (lo + 1)).toNat + 1 by omega]
        simpa using h3
theorem x_h_sw (cx : x_Cx p R s m args meth c D S0 Fm b adK adV xs L j d) (hI : x_In s D S0 Fm b adK adV xs L A0 j n0 ls st σ A C H locs rls) {d9 lo hi : Int} {os : Array Int} {n : Nat} (ho : x_iok pc (.tableswitch d9 lo hi os) n = true) (hd : decode (x_b j) pc = .ok (.tableswitch d9 lo hi os, n)) (h : x_1i False st fun x r => x_sw (cn x) lo os.toList d9 fun off => x_KK p l e R s m args below meth c Q D S0 Fm b adK adV xs L A0 j n0 nM (x_tg pc off) ls r σ) : x_WW p l e R s m args below meth c Q n0 H locs σ.1 (F0 m pc rls (st.map (x_re A Fm))) := by
  obtain ⟨hx, hb, hml, hown, hts, hSt, hj, hini, hfr, hlo, hF⟩ := cx
  obtain ⟨hn, hAg, hDy, hS, hLs, hSk⟩ := hI
  obtain ⟨x, r, hst9, h9⟩ := x_1i_ff h
  clear h
  subst hst9
  revert h9
  intro h
  simp only [x_iok, Bool.and_eq_true, decide_eq_true_eq, List.all_eq_true] at ho
  obtain ⟨⟨ho1, ho2⟩, ho3⟩ := ho
  rcases x_sw_ff _ _ _ _ _ h with ⟨h1, hk⟩ | ⟨h1, h2, off, h3, hk⟩
  · exact lv_tableOut (x := Int32.ofInt x) hx hb hd (by rw [cn_eq]; omega) (x_tg_eq ho1) (hk.2 A C H locs rls hAg hDy hS hLs hSk.tail)
  · refine lv_tableIn (x := Int32.ofInt x) (off := off) hx hb hd (by rw [cn_eq]; omega) (by rw [cn_eq]; omega) ?_ (x_tg_eq (ho2 off (List.mem_of_getElem? h3))) (hk.2 A C H locs rls hAg hDy hS hLs hSk.tail)
    rw [cn_eq, ← Array.getElem?_toList]
    exact h3
theorem x_good_c (o : String) (i : Nat) (v : Int32) : goodWord (.constant o i v) = true := by rfl
theorem x_good_cl (o : String) (i : Nat) (v : Int64) : goodWord (.constantLong o i v) = true := by rfl
theorem x_h_ldc (cx : x_Cx p R s m args meth c D S0 Fm b adK adV xs L j d) (hI : x_In s D S0 Fm b adK adV xs L A0 j n0 ls st σ A C H locs rls) {k : Nat} (hd : decode (x_b j) pc = .ok (.ldc k, 2)) (h : x_kd False (x_KK p l e R s m args below meth c Q D S0 Fm b adK adV xs L A0 j n0 nM) j pc 2 ls σ st (x_look (x_kl (x_mo j)) k)) (hq : ∀ t v q, x_look (x_kl (x_mo j)) k = some (t, v, q) → t ≠ 1) : x_WW p l e R s m args below meth c Q n0 H locs σ.1 (F0 m pc rls (st.map (x_re A Fm))) := by
  obtain ⟨hx, hb, hml, hown, hts, hSt, hj, hini, hfr, hlo, hF⟩ := cx
  obtain ⟨hn, hAg, hDy, hS, hLs, hSk⟩ := hI
  cases hlk : x_look (x_kl (x_mo j)) k with
  | none => rw [hlk] at h; exact h.elim
  | some ent =>
    obtain ⟨t, v, pp⟩ := ent
    rw [hlk] at h
    unfold x_kd at h
    simp only [] at h
    have hq := hq t v pp hlk
    have hok := List.all_eq_true.mp (x_kl_ok (x_mo j) (x_mo_lt hj)) _ (x_look_mem _ _ _ hlk)
    unfold x_klok at hok
    simp only [] at hok
    cases hb2 : Nat.beq t 2 with
    | true =>
      rw [hb2] at h hok
      have hok : (decide (x_mo j = 5) && (decide (k = 49 ∧ v = 0) || decide (k = 36 ∧ v = 1))) = true := hok
      simp only [Bool.and_eq_true, Bool.or_eq_true, decide_eq_true_eq] at hok
      obtain ⟨-, -, -, -, s5, s6, -⟩ := id hSt
      obtain ⟨-, -, -, -, -, -, -, ⟨-, hA2⟩⟩ := id hDy
      rw [hok.1] at hown
      rcases hok.2 with ⟨rfl, rfl⟩ | ⟨rfl, rfl⟩
      · have h9 := h.2 A C H locs rls hAg hDy hS hLs (x_Sk.cons (fun q e => by cases e; exact Or.inr (Or.inr (Or.inl ⟨rfl, by decide⟩))) hSk)
        refine va_ldcS hx hb hown s5 hd ?_
        rw [← (hA2 0 (by decide)).1]
        exact h9
      · have h9 := h.2 A C H locs rls hAg hDy hS hLs (x_Sk.cons (fun q e => by cases e; exact Or.inr (Or.inr (Or.inl ⟨rfl, by decide⟩))) hSk)
        refine va_ldcS hx hb hown s6 hd ?_
        rw [← (hA2 1 (by decide)).1]
        exact h9
    | false =>
      rw [hb2] at h hok
      cases hb1 : Nat.beq t 1 with
      | true =>
        rw [hb1] at h hok
        have := x_beq hb1
        omega
      | false =>
        rw [hb1] at h hok
        have hok : decide (lw_tbl[pp]? = some (.constant (x_nm (x_mo j)) k (Int32.ofInt v))) = true := hok
        simp only [decide_eq_true_eq] at hok
        exact lv_ldc hx hb hown (hts _ (x_word hok (x_good_c _ _ _))) hd (h.2 A C H locs rls hAg hDy hS hLs (x_Sk.i hSk))
theorem x_h_ldcw (cx : x_Cx p R s m args meth c D S0 Fm b adK adV xs L j d) (hI : x_In s D S0 Fm b adK adV xs L A0 j n0 ls st σ A C H locs rls) {k : Nat} (hd : decode (x_b j) pc = .ok (.ldc_w k, 3)) (h : x_kd False (x_KK p l e R s m args below meth c Q D S0 Fm b adK adV xs L A0 j n0 nM) j pc 3 ls σ st (x_look (x_kl (x_mo j)) k)) (hq : ∀ t v q, x_look (x_kl (x_mo j)) k = some (t, v, q) → t ≠ 1 ∧ t ≠ 2) : x_WW p l e R s m args below meth c Q n0 H locs σ.1 (F0 m pc rls (st.map (x_re A Fm))) := by
  obtain ⟨hx, hb, hml, hown, hts, hSt, hj, hini, hfr, hlo, hF⟩ := cx
  obtain ⟨hn, hAg, hDy, hS, hLs, hSk⟩ := hI
  cases hlk : x_look (x_kl (x_mo j)) k with
  | none => rw [hlk] at h; exact h.elim
  | some ent =>
    obtain ⟨t, v, pp⟩ := ent
    rw [hlk] at h
    unfold x_kd at h
    simp only [] at h
    have hq := hq t v pp hlk
    have hok := List.all_eq_true.mp (x_kl_ok (x_mo j) (x_mo_lt hj)) _ (x_look_mem _ _ _ hlk)
    unfold x_klok at hok
    simp only [] at hok
    cases hb2 : Nat.beq t 2 with
    | true =>
      rw [hb2] at h hok
      have := x_beq hb2
      omega
    | false =>
      rw [hb2] at h hok
      cases hb1 : Nat.beq t 1 with
      | true =>
        rw [hb1] at h hok
        have := x_beq hb1
        omega
      | false =>
        rw [hb1] at h hok
        have hok : decide (lw_tbl[pp]? = some (.constant (x_nm (x_mo j)) k (Int32.ofInt v))) = true := hok
        simp only [decide_eq_true_eq] at hok
        exact lv_ldcw hx hb hown (hts _ (x_word hok (x_good_c _ _ _))) hd (h.2 A C H locs rls hAg hDy hS hLs (x_Sk.i hSk))
theorem x_h_ldc2 (cx : x_Cx p R s m args meth c D S0 Fm b adK adV xs L j d) (hI : x_In s D S0 Fm b adK adV xs L A0 j n0 ls st σ A C H locs rls) {k : Nat} (hd : decode (x_b j) pc = .ok (.ldc2_w k, 3)) (h : x_kd False (x_KK p l e R s m args below meth c Q D S0 Fm b adK adV xs L A0 j n0 nM) j pc 3 ls σ st (x_look (x_kl (x_mo j)) k)) (hq : ∀ t v q, x_look (x_kl (x_mo j)) k = some (t, v, q) → t = 1) : x_WW p l e R s m args below meth c Q n0 H locs σ.1 (F0 m pc rls (st.map (x_re A Fm))) := by
  obtain ⟨hx, hb, hml, hown, hts, hSt, hj, hini, hfr, hlo, hF⟩ := cx
  obtain ⟨hn, hAg, hDy, hS, hLs, hSk⟩ := hI
  cases hlk : x_look (x_kl (x_mo j)) k with
  | none => rw [hlk] at h; exact h.elim
  | some ent =>
    obtain ⟨t, v, pp⟩ := ent
    rw [hlk] at h
    unfold x_kd at h
    simp only [] at h
    have hq := hq t v pp hlk
    have hok := List.all_eq_true.mp (x_kl_ok (x_mo j) (x_mo_lt hj)) _ (x_look_mem _ _ _ hlk)
    unfold x_klok at hok
    simp only [] at hok
    cases hb2 : Nat.beq t 2 with
    | true =>
      rw [hb2] at h hok
      have := x_beq hb2
      omega
    | false =>
      rw [hb2] at h hok
      cases hb1 : Nat.beq t 1 with
      | true =>
        rw [hb1] at h hok
        have hok : decide (lw_tbl[pp]? = some (.constantLong (x_nm (x_mo j)) k (Int64.ofInt v))) = true := hok
        simp only [decide_eq_true_eq] at hok
        exact lv_ldc2 hx hb hown (hts _ (x_word hok (x_good_cl _ _ _))) hd (h.2 A C H locs rls hAg hDy hS hLs (x_Sk.l hSk))
      | false =>
        rw [hb1] at h hok
        rw [hq] at hb1
        cases hb1
theorem x_h_gets (cx : x_Cx p R s m args meth c D S0 Fm b adK adV xs L j d) (hI : x_In s D S0 Fm b adK adV xs L A0 j n0 ls st σ A C H locs rls) {k : Nat} (hd : decode (x_b j) pc = .ok (.getstatic k, 3)) (h : bif Nat.beq (x_mo j) 12 then (bif Nat.beq k 38 then x_KK p l e R s m args below meth c Q D S0 Fm b adK adV xs L A0 j n0 nM (pc + 3) ls (.inl 1 :: st) σ else bif Nat.beq k 1053 then x_KK p l e R s m args below meth c Q D S0 Fm b adK adV xs L A0 j n0 nM (pc + 3) ls (.inr (.inr (some (903, 0))) :: st) σ else False) else False) : x_WW p l e R s m args below meth c Q n0 H locs σ.1 (F0 m pc rls (st.map (x_re A Fm))) := by
  obtain ⟨hx, hb, hml, hown, hts, hSt, hj, hini, hfr, hlo, hF⟩ := cx
  obtain ⟨hn, hAg, hDy, hS, hLs, hSk⟩ := hI
  obtain ⟨hb1, h⟩ := x_bif_ff h
  have e1 := x_beq hb1
  rw [e1] at hown
  obtain ⟨-, -, -, -, -, -, -, s8, s9, -⟩ := id hSt
  cases hb2 : Nat.beq k 38 with
  | true =>
    rw [hb2] at h
    have e2 := x_beq hb2
    subst e2
    exact va_gets hx hb s8 hS hown (hts _ (x_in x_g2.1 (x_good_fl _ _ _ _ _))) (fun _ h => h) hd (h.2 A C H locs rls hAg hDy hS hLs (x_Sk.i hSk))
  | false =>
    rw [hb2] at h
    obtain ⟨hb3, h⟩ := x_bif_ff h
    have e2 := x_beq hb3
    subst e2
    exact va_gets hx hb s9 hS hown (hts _ (x_in x_g2.2 (x_good_fl _ _ _ _ _))) (fun _ h => h) hd (h.2 A C H locs rls hAg hDy hS hLs (x_Sk.cons (fun q e => by cases e; exact Or.inr (Or.inr (Or.inr (Or.inr rfl)))) hSk))
theorem x_h_iret (cx : x_Cx p R s m args meth c D S0 Fm b adK adV xs L j d) (hI : x_In s D S0 Fm b adK adV xs L A0 j n0 ls st σ A C H locs rls) (hd : decode (x_b j) pc = .ok (.ireturn, 1)) (h : match (generalizing := false) st with | [.inl z] => (match x_mk j with | 1 => x_KR p l e R s m args below meth c Q D S0 Fm b adK adV xs L A0 j n0 z σ | 3 => if z = 0 ∨ z = 1 then x_KR p l e R s m args below meth c Q D S0 Fm b adK adV xs L A0 j n0 z σ else False | 4 => if -128 ≤ z ∧ z < 128 then x_KR p l e R s m args below meth c Q D S0 Fm b adK adV xs L A0 j n0 z σ else False | 5 => if 0 ≤ z ∧ z < 65536 then x_KR p l e R s m args below meth c Q D S0 Fm b adK adV xs L A0 j n0 z σ else False | _ => False) | _ => False) : x_WW p l e R s m args below meth c Q n0 H locs σ.1 (F0 m pc rls (st.map (x_re A Fm))) := by
  obtain ⟨hx, hb, hml, hown, hts, hSt, hj, hini, hfr, hlo, hF⟩ := cx
  obtain ⟨hn, hAg, hDy, hS, hLs, hSk⟩ := hI
  split at h
  · rename_i z
    split at h
    · rename_i hk
      have := h A C H locs rls pc hAg hDy hS (by rw [hk]; exact hd) (by rw [hk]; exact trivial)
      rw [hk] at this
      exact this
    · rename_i hk
      obtain ⟨hz, h⟩ := x_ite_ff h
      have := h A C H locs rls pc hAg hDy hS (by rw [hk]; exact hd) (by rw [hk]; exact hz)
      rw [hk] at this
      exact this
    · rename_i hk
      obtain ⟨hz, h⟩ := x_ite_ff h
      have := h A C H locs rls pc hAg hDy hS (by rw [hk]; exact hd) (by rw [hk]; exact hz)
      rw [hk] at this
      exact this
    · rename_i hk
      obtain ⟨hz, h⟩ := x_ite_ff h
      have := h A C H locs rls pc hAg hDy hS (by rw [hk]; exact hd) (by rw [hk]; exact hz)
      rw [hk] at this
      exact this
    · exact h.elim
  · exact h.elim
theorem x_h_lret (cx : x_Cx p R s m args meth c D S0 Fm b adK adV xs L j d) (hI : x_In s D S0 Fm b adK adV xs L A0 j n0 ls st σ A C H locs rls) (hd : decode (x_b j) pc = .ok (.lreturn, 1)) (h : match (generalizing := false) st with | [.inr (.inl z)] => (bif Nat.beq (x_mk j) 2 then x_KR p l e R s m args below meth c Q D S0 Fm b adK adV xs L A0 j n0 z σ else False) | _ => False) : x_WW p l e R s m args below meth c Q n0 H locs σ.1 (F0 m pc rls (st.map (x_re A Fm))) := by
  obtain ⟨hx, hb, hml, hown, hts, hSt, hj, hini, hfr, hlo, hF⟩ := cx
  obtain ⟨hn, hAg, hDy, hS, hLs, hSk⟩ := hI
  split at h
  · rename_i z
    obtain ⟨hk, h⟩ := x_bif_ff h
    have hk := x_beq hk
    have := h A C H locs rls pc hAg hDy hS (by rw [hk]; exact hd) (by rw [hk]; exact trivial)
    rw [hk] at this
    exact this
  · exact h.elim
theorem x_h_vret (cx : x_Cx p R s m args meth c D S0 Fm b adK adV xs L j d) (hI : x_In s D S0 Fm b adK adV xs L A0 j n0 ls st σ A C H locs rls) (hd : decode (x_b j) pc = .ok (.return_, 1)) (h : match (generalizing := false) st with | [] => (bif Nat.beq (x_mk j) 0 then x_KR p l e R s m args below meth c Q D S0 Fm b adK adV xs L A0 j n0 0 σ else False) | _ => False) : x_WW p l e R s m args below meth c Q n0 H locs σ.1 (F0 m pc rls (st.map (x_re A Fm))) := by
  obtain ⟨hx, hb, hml, hown, hts, hSt, hj, hini, hfr, hlo, hF⟩ := cx
  obtain ⟨hn, hAg, hDy, hS, hLs, hSk⟩ := hI
  split at h
  · obtain ⟨hk, h⟩ := x_bif_ff h
    have hk := x_beq hk
    have := h A C H locs rls pc hAg hDy hS (by rw [hk]; exact hd) (by rw [hk]; exact trivial)
    rw [hk] at this
    exact this
  · exact h.elim
end
