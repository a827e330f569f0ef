/-! new cells and calls -/
theorem x_ytok : ∀ ci, ci < 10 → ∀ f, f < x_N ci → x_isr (x_yt ci f) = true ∨ x_yt ci f = .int ∨ x_yt ci f = .boolean := by decide +kernel
theorem x_lenok : ∀ q ∈ x_aol, (x_sh q.1).2 ≤ 2000 := by decide +kernel
theorem x_sm_ok {A : XAd} {Fm : Value} (hF : Fm.category = 1) {r : List XV} (h : x_sm r = true) : ((r.map (x_re A Fm)).map fun v => v.category).sum ≤ 8 := by
  have c1 : ∀ v : XV, (x_re A Fm v).category ≤ 2 := by
    intro v
    rcases lv_cat (x_re A Fm v) with h | h <;> omega
  match r, h with
  | [], _ => simp
  | [a], _ => have := c1 a; simp; omega
  | [a, b], _ => have := c1 a; have := c1 b; simp; omega
  | [a, b, c], _ => have := c1 a; have := c1 b; have := c1 c; simp; omega
  | [a, b, c, d], _ => have := c1 a; have := c1 b; have := c1 c; have := c1 d; simp; omega
theorem x_gi {X : List Cond} (h : ∀ w ∈ X, w ∈ x_tbl) : GoodIn x_tbl X := fun w hw => ⟨h w hw, good_of_word (by have := h w hw; unfold x_tbl at this; exact (List.mem_filter.mp this).2)⟩
section
variable {p : Program} {l : Launch} {e : Env} {R : Room} {s : State} {m : MethodId} {args : Array Value} {below : List Frame} {meth : Method} {c : Code} {Q : State → Prop} {D : va_G} {S0 : Nat} {Fm : Value} {b : Nat} {adK adV : Nat → Nat} {xs : Nat → Int32} {L : Nat} {A0 : XAd} {j n0 nM d : Nat}
variable {pc : Nat} {ls : XL} {st : List XV} {σ : XH} {A : XAd} {C : XCd} {H : Heap} {locs : List Loc} {rls : Array Slot}
theorem x_newA (hDy : x_Dy D S0 Fm b adK adV xs L A C σ s H) (hN : σ.1 < x_NC) (a : Nat) : ∀ q, x_vl σ.1 q → (if q = x_q σ.1 then a else A q) = A q := by
  intro q hq
  refine if_neg fun e => ?_
  rcases hq with ⟨n, h1, h2⟩ | h | ⟨h, -⟩ | ⟨h, -⟩ | h
  · have := x_q_inj (by omega) hN (h2.trans e)
    omega
  all_goals
    have h9 := x_q_lt hN
    rw [← e] at h9
    first
    | (rw [h] at h9; omega)
    | (subst h; have h9 : _ < 900 := h9; omega)
theorem x_room (hn : n0 ≤ σ.1) (hm : σ.1 + 1 ≤ nM) (hRc : nM - n0 ≤ R.cells) (hRs : x_sz nM - x_sz n0 ≤ R.slots) : σ.1 - n0 + 1 ≤ R.cells ∧ x_sz σ.1 - x_sz n0 + x_s1 (x_q σ.1) ≤ R.slots ∧ σ.1 - n0 + 1 = σ.1 + 1 - n0 ∧ x_sz σ.1 - x_sz n0 + x_s1 (x_q σ.1) = x_sz (σ.1 + 1) - x_sz n0 := by
  have h1 := x_sz_mono hn
  have h2 := x_sz_mono hm
  have h3 : x_sz (σ.1 + 1) = x_sz σ.1 + x_s1 (x_q σ.1) := rfl
  omega
theorem x_h_new (cx : x_Cx p R s m args meth c D S0 Fm b adK adV xs L j d) (hI : x_In s D S0 Fm b adK adV xs L A0 j n0 ls st σ A C H locs rls) (hRc : nM - n0 ≤ R.cells) (hRs : x_sz nM - x_sz n0 ≤ R.slots) {k : Nat} (hd : decode (x_b j) pc = .ok (.new k, 3))
    (h : x_nw False (x_KK p l e R s m args below meth c Q D S0 Fm b adK adV xs L A0 j n0 nM) j pc ls σ st (x_look (x_nl (x_mo j)) k)) : x_WW p l e R s m args below meth c Q n0 H locs σ.1 (F0 m pc rls (st.map (x_re A Fm))) := by
  obtain ⟨hx, hb, hml, hown, hts, hSt, hj, hini, hfr, hlo, hF⟩ := cx
  obtain ⟨hn, hAg, hDy, hS, hLs, hSk⟩ := hI
  cases hlk : x_look (x_nl (x_mo j)) k with
  | none => rw [hlk] at h; exact h.elim
  | some ent =>
    obtain ⟨ci, pp⟩ := ent
    rw [hlk] at h
    unfold x_nw at h
    simp only [] at h
    have hok := List.all_eq_true.mp (x_nl_ok (x_mo j) (x_mo_lt hj)) _ (x_look_mem _ _ _ hlk)
    unfold x_nlok at hok
    simp only [Bool.and_eq_true, decide_eq_true_eq] at hok
    obtain ⟨⟨⟨o1, o2⟩, o3⟩, o4⟩ := hok
    split at h
    · rename_i g i hq
      obtain ⟨hb1, hk⟩ := x_bif_ff h
      rw [Bool.and_eq_true] at hb1
      have t1 := x_beq hb1.1
      have t2 := x_beq hb1.2
      obtain ⟨hq1, hq2⟩ := x_q_of hq
      obtain ⟨r1, r2, r3, r4⟩ := x_room (R := R) hn hk.1 hRc hRs
      have hs1 : x_s1 (x_q σ.1) = x_N ci := by
        unfold x_s1
        rw [hq1]
        rw [if_pos t1, t2]
      have hfr9 := hDy.2.2.2.2.1 σ.1 (Nat.le_refl _) hq2
      rw [hq1] at hfr9
      have hfvA : ∀ (A' : XAd) f, x_fv A' Fm (σ.1 + 1, σ.2) (g, i) ci f = x_fv A Fm (σ.1 + 1, σ.2) (g, i) ci f := by
        intro A' f
        unfold x_fv
        show (if _ then x_re A' Fm (.inr (.inr (σ.2.2 g i f))) else _) = if _ then x_re A Fm (.inr (.inr (σ.2.2 g i f))) else _
        rw [(hfr9 f).2]
        rfl
      have hfs : ∀ f, f < x_N ci → defaultValue (x_yt ci f) = vp_V (x_fs A Fm (σ.1 + 1, σ.2) (g, i) ci) f := by
        intro f hf
        unfold vp_V
        rw [List.getD_eq_getElem?_getD, x_fs_get hf]
        show defaultValue (x_yt ci f) = x_fv A Fm (σ.1 + 1, σ.2) (g, i) ci f
        rcases x_ytok ci o1 f hf with q | q | q
        · rw [x_fv_r q]
          show _ = x_re A Fm (.inr (.inr (σ.2.2 g i f)))
          rw [(hfr9 f).2]
          revert q
          cases x_yt ci f <;> intro q <;> first | (cases q; done) | rfl
        · rw [x_fv_i (by rw [q]; decide)]
          show _ = Value.int (Int32.ofInt (σ.2.1 g i f))
          rw [(hfr9 f).1, q]
          rfl
        · rw [x_fv_i (by rw [q]; decide)]
          show _ = Value.int (Int32.ofInt (σ.2.1 g i f))
          rw [(hfr9 f).1, q]
          rfl
      refine va_new (ci := ci) (fs := x_fs A Fm (σ.1 + 1, σ.2) (g, i) ci) (C := x_nm ci) (T := x_Tf ci) (N := x_N ci) hx hb hts (x_lay o1) (x_yt ci) (x_tyok ci o1) hown (hts _ (x_word o2 (by rfl))) (hts _ (x_in o3 (by rfl))) (hts _ (x_in o4 (by rfl))) hSt.2.1 hDy.2.1 hDy.2.2.1 hS (fun q9 h9 => Nat.le_trans hSt.1 h9) (x_cl_get o1) hfs r1 (by rw [← hs1]; exact r2) hd (fun a H1 hP1 hD1 hS1 => ?_)
      have hD9 := hDy.new (a := a) (cA := C (x_q σ.1)) hq2 (fun h9 => absurd (by rw [hq1]; exact t1) h9) (ce := .inr (ci, x_fs A Fm (σ.1 + 1, σ.2) (g, i) ci)) (fun A' => by
        rw [hq1, x_cell_obj t1 t2]
        congr 2
        unfold x_fs
        exact List.map_congr_left fun f _ => (hfvA A' f).symm) hP1 hD1
      have h9 := hk.2 _ _ H1 locs rls (fun q hq => (x_newA hDy hq2 a q (hq.mono hn)).trans (hAg q hq)) hD9 hS1 (hLs.agree (Nat.le_succ _) (x_newA hDy hq2 a)) (x_Sk.cons (fun q e => by cases e; exact Or.inl ⟨σ.1, Nat.lt_succ_self _, hq1⟩) (fun v hv => (hSk v hv).mono (Nat.le_succ _)))
      rw [List.map_cons, x_map_agree hSk (x_newA hDy hq2 a), x_ref (by have := x_q_lt hq2; rw [hq1] at this; exact this)] at h9
      have e9 : (if (g, i) = x_q σ.1 then a else A (g, i)) = a := if_pos hq1.symm
      simp only [e9] at h9
      rw [hs1] at r4
      rw [r3, r4]
      exact h9
    · exact h.elim
theorem x_h_nai (cx : x_Cx p R s m args meth c D S0 Fm b adK adV xs L j d) (hI : x_In s D S0 Fm b adK adV xs L A0 j n0 ls st σ A C H locs rls) (hRc : nM - n0 ≤ R.cells) (hRs : x_sz nM - x_sz n0 ≤ R.slots) (hd : decode (x_b j) pc = .ok (.newarray .int, 2))
    (h : x_na False (x_KK p l e R s m args below meth c Q D S0 Fm b adK adV xs L A0 j n0 nM) pc 2 1 ls σ st) : x_WW p l e R s m args below meth c Q n0 H locs σ.1 (F0 m pc rls (st.map (x_re A Fm))) := by
  obtain ⟨hx, hb, hml, hown, hts, hSt, hj, hini, hfr, hlo, hF⟩ := cx
  obtain ⟨hn, hAg, hDy, hS, hLs, hSk⟩ := hI
  unfold x_na at h
  obtain ⟨mm, r, hst9, h9⟩ := x_1i_ff h
  clear h
  subst hst9
  revert h9
  intro h
  try simp only [] at h
  split at h
  · rename_i g i hq
    obtain ⟨hb1, h⟩ := x_bif_ff h
    have t1 := x_beq hb1
    obtain ⟨hmm, hk⟩ := x_ite_ff h
    obtain ⟨hq1, hq2⟩ := x_q_of hq
    obtain ⟨r1, r2, r3, r4⟩ := x_room (R := R) hn hk.1 hRc hRs
    have hs1 : x_s1 (x_q σ.1) = (x_sh g).2 := by
      unfold x_s1
      rw [hq1]
      rw [if_neg (by show (x_sh g).1 ≠ 0; omega)]
    have hln : (x_sh g).2 ≤ 2000 := by
      rw [x_nx_get] at hq
      exact x_lenok _ (List.mem_of_getElem? hq)
    have hfr9 := hDy.2.2.2.2.1 σ.1 (Nat.le_refl _) hq2
    rw [hq1] at hfr9
    refine va_newa (atype := .int) (ty := .int) (n := Int32.ofInt mm) (N' := (x_sh g).2) (a0 := ((x_sh g).2, .inl fun k => Int32.ofInt (σ.2.1 g i k))) hx hb (hts _ (x_in x_g1.2.2.2.2.1 (by rfl))) rfl hSt.2.1 hDy.2.1 hDy.2.2.1 hS (fun q9 h9 => Nat.le_trans hSt.1 h9) (fun cA => ?_) (fun q9 => by have := (n_l0 mm).mp q9; omega) (by rw [n_cl, hmm]; rfl) (by show (x_sh g).2 * 4 ≤ 536870912; omega) r1 (by rw [← hs1]; exact r2) hd (fun a cA H1 hK1 hP1 hD1 hS1 => ?_)
    · rw [vp_cell_i]
      congr 1
      funext k
      rw [(hfr9 k).1]
      rfl
    have hD9 := hDy.new (a := a) (cA := cA) hq2 (fun _ => by rw [hq1]; show ArrOfT s cA (x_ty (x_sh g).1) ∧ va_RA s cA (x_ty (x_sh g).1); rw [t1]; exact hK1.2 0 _ rfl) (ce := .inl (cA, (x_sh g).2, .inl fun k => Int32.ofInt (σ.2.1 g i k))) (fun A' => by
      rw [hq1, x_cell_i (Or.inl t1)]
      rw [show (if ((g, i) : Nat × Nat) = (g, i) then cA else C (g, i)) = cA from if_pos rfl]) hP1 hD1
    have h9 := hk.2 _ _ H1 locs rls (fun q hq => (x_newA hDy hq2 a q (hq.mono hn)).trans (hAg q hq)) hD9 hS1 (hLs.agree (Nat.le_succ _) (x_newA hDy hq2 a)) (x_Sk.cons (fun q e => by cases e; exact Or.inl ⟨σ.1, Nat.lt_succ_self _, hq1⟩) (fun v hv => (hSk.tail v hv).mono (Nat.le_succ _)))
    rw [List.map_cons, x_map_agree hSk.tail (x_newA hDy hq2 a), x_ref (by have := x_q_lt hq2; rw [hq1] at this; exact this)] at h9
    have e9 : (if (g, i) = x_q σ.1 then a else A (g, i)) = a := if_pos hq1.symm
    simp only [e9] at h9
    rw [hs1] at r4
    rw [r3, r4]
    exact h9
  · exact h.elim
theorem x_h_nab (cx : x_Cx p R s m args meth c D S0 Fm b adK adV xs L j d) (hI : x_In s D S0 Fm b adK adV xs L A0 j n0 ls st σ A C H locs rls) (hRc : nM - n0 ≤ R.cells) (hRs : x_sz nM - x_sz n0 ≤ R.slots) (hd : decode (x_b j) pc = .ok (.newarray .byte, 2))
    (h : x_na False (x_KK p l e R s m args below meth c Q D S0 Fm b adK adV xs L A0 j n0 nM) pc 2 2 ls σ st) : x_WW p l e R s m args below meth c Q n0 H locs σ.1 (F0 m pc rls (st.map (x_re A Fm))) := by
  obtain ⟨hx, hb, hml, hown, hts, hSt, hj, hini, hfr, hlo, hF⟩ := cx
  obtain ⟨hn, hAg, hDy, hS, hLs, hSk⟩ := hI
  unfold x_na at h
  obtain ⟨mm, r, hst9, h9⟩ := x_1i_ff h
  clear h
  subst hst9
  revert h9
  intro h
  try simp only [] at h
  split at h
  · rename_i g i hq
    obtain ⟨hb1, h⟩ := x_bif_ff h
    have t1 := x_beq hb1
    obtain ⟨hmm, hk⟩ := x_ite_ff h
    obtain ⟨hq1, hq2⟩ := x_q_of hq
    obtain ⟨r1, r2, r3, r4⟩ := x_room (R := R) hn hk.1 hRc hRs
    have hs1 : x_s1 (x_q σ.1) = (x_sh g).2 := by
      unfold x_s1
      rw [hq1]
      rw [if_neg (by show (x_sh g).1 ≠ 0; omega)]
    have hln : (x_sh g).2 ≤ 2000 := by
      rw [x_nx_get] at hq
      exact x_lenok _ (List.mem_of_getElem? hq)
    have hfr9 := hDy.2.2.2.2.1 σ.1 (Nat.le_refl _) hq2
    rw [hq1] at hfr9
    refine va_newa (atype := .byte) (ty := .byte) (n := Int32.ofInt mm) (N' := (x_sh g).2) (a0 := ((x_sh g).2, .inl fun k => Int32.ofInt (σ.2.1 g i k))) hx hb (hts _ (x_in x_g1.2.2.2.2.2.1 (by rfl))) rfl hSt.2.1 hDy.2.1 hDy.2.2.1 hS (fun q9 h9 => Nat.le_trans hSt.1 h9) (fun cA => ?_) (fun q9 => by have := (n_l0 mm).mp q9; omega) (by rw [n_cl, hmm]; rfl) (by show (x_sh g).2 * 1 ≤ 536870912; omega) r1 (by rw [← hs1]; exact r2) hd (fun a cA H1 hK1 hP1 hD1 hS1 => ?_)
    · rw [vp_cell_i]
      congr 1
      funext k
      rw [(hfr9 k).1]
      rfl
    have hD9 := hDy.new (a := a) (cA := cA) hq2 (fun _ => by rw [hq1]; show ArrOfT s cA (x_ty (x_sh g).1) ∧ va_RA s cA (x_ty (x_sh g).1); rw [t1]; exact hK1.2 0 _ rfl) (ce := .inl (cA, (x_sh g).2, .inl fun k => Int32.ofInt (σ.2.1 g i k))) (fun A' => by
      rw [hq1, x_cell_i (Or.inr (Or.inl t1))]
      rw [show (if ((g, i) : Nat × Nat) = (g, i) then cA else C (g, i)) = cA from if_pos rfl]) hP1 hD1
    have h9 := hk.2 _ _ H1 locs rls (fun q hq => (x_newA hDy hq2 a q (hq.mono hn)).trans (hAg q hq)) hD9 hS1 (hLs.agree (Nat.le_succ _) (x_newA hDy hq2 a)) (x_Sk.cons (fun q e => by cases e; exact Or.inl ⟨σ.1, Nat.lt_succ_self _, hq1⟩) (fun v hv => (hSk.tail v hv).mono (Nat.le_succ _)))
    rw [List.map_cons, x_map_agree hSk.tail (x_newA hDy hq2 a), x_ref (by have := x_q_lt hq2; rw [hq1] at this; exact this)] at h9
    have e9 : (if (g, i) = x_q σ.1 then a else A (g, i)) = a := if_pos hq1.symm
    simp only [e9] at h9
    rw [hs1] at r4
    rw [r3, r4]
    exact h9
  · exact h.elim
theorem x_h_naz (cx : x_Cx p R s m args meth c D S0 Fm b adK adV xs L j d) (hI : x_In s D S0 Fm b adK adV xs L A0 j n0 ls st σ A C H locs rls) (hRc : nM - n0 ≤ R.cells) (hRs : x_sz nM - x_sz n0 ≤ R.slots) (hd : decode (x_b j) pc = .ok (.newarray .boolean, 2))
    (h : x_na False (x_KK p l e R s m args below meth c Q D S0 Fm b adK adV xs L A0 j n0 nM) pc 2 3 ls σ st) : x_WW p l e R s m args below meth c Q n0 H locs σ.1 (F0 m pc rls (st.map (x_re A Fm))) := by
  obtain ⟨hx, hb, hml, hown, hts, hSt, hj, hini, hfr, hlo, hF⟩ := cx
  obtain ⟨hn, hAg, hDy, hS, hLs, hSk⟩ := hI
  unfold x_na at h
  obtain ⟨mm, r, hst9, h9⟩ := x_1i_ff h
  clear h
  subst hst9
  revert h9
  intro h
  try simp only [] at h
  split at h
  · rename_i g i hq
    obtain ⟨hb1, h⟩ := x_bif_ff h
    have t1 := x_beq hb1
    obtain ⟨hmm, hk⟩ := x_ite_ff h
    obtain ⟨hq1, hq2⟩ := x_q_of hq
    obtain ⟨r1, r2, r3, r4⟩ := x_room (R := R) hn hk.1 hRc hRs
    have hs1 : x_s1 (x_q σ.1) = (x_sh g).2 := by
      unfold x_s1
      rw [hq1]
      rw [if_neg (by show (x_sh g).1 ≠ 0; omega)]
    have hln : (x_sh g).2 ≤ 2000 := by
      rw [x_nx_get] at hq
      exact x_lenok _ (List.mem_of_getElem? hq)
    have hfr9 := hDy.2.2.2.2.1 σ.1 (Nat.le_refl _) hq2
    rw [hq1] at hfr9
    refine va_newa (atype := .boolean) (ty := .boolean) (n := Int32.ofInt mm) (N' := (x_sh g).2) (a0 := ((x_sh g).2, .inl fun k => Int32.ofInt (σ.2.1 g i k))) hx hb (hts _ (x_in x_g1.2.2.2.2.2.2.1 (by rfl))) rfl hSt.2.1 hDy.2.1 hDy.2.2.1 hS (fun q9 h9 => Nat.le_trans hSt.1 h9) (fun cA => ?_) (fun q9 => by have := (n_l0 mm).mp q9; omega) (by rw [n_cl, hmm]; rfl) (by show (x_sh g).2 * 1 ≤ 536870912; omega) r1 (by rw [← hs1]; exact r2) hd (fun a cA H1 hK1 hP1 hD1 hS1 => ?_)
    · rw [vp_cell_i]
      congr 1
      funext k
      rw [(hfr9 k).1]
      rfl
    have hD9 := hDy.new (a := a) (cA := cA) hq2 (fun _ => by rw [hq1]; show ArrOfT s cA (x_ty (x_sh g).1) ∧ va_RA s cA (x_ty (x_sh g).1); rw [t1]; exact hK1.2 0 _ rfl) (ce := .inl (cA, (x_sh g).2, .inl fun k => Int32.ofInt (σ.2.1 g i k))) (fun A' => by
      rw [hq1, x_cell_i (Or.inr (Or.inr t1))]
      rw [show (if ((g, i) : Nat × Nat) = (g, i) then cA else C (g, i)) = cA from if_pos rfl]) hP1 hD1
    have h9 := hk.2 _ _ H1 locs rls (fun q hq => (x_newA hDy hq2 a q (hq.mono hn)).trans (hAg q hq)) hD9 hS1 (hLs.agree (Nat.le_succ _) (x_newA hDy hq2 a)) (x_Sk.cons (fun q e => by cases e; exact Or.inl ⟨σ.1, Nat.lt_succ_self _, hq1⟩) (fun v hv => (hSk.tail v hv).mono (Nat.le_succ _)))
    rw [List.map_cons, x_map_agree hSk.tail (x_newA hDy hq2 a), x_ref (by have := x_q_lt hq2; rw [hq1] at this; exact this)] at h9
    have e9 : (if (g, i) = x_q σ.1 then a else A (g, i)) = a := if_pos hq1.symm
    simp only [e9] at h9
    rw [hs1] at r4
    rw [r3, r4]
    exact h9
  · exact h.elim
theorem x_h_nal (cx : x_Cx p R s m args meth c D S0 Fm b adK adV xs L j d) (hI : x_In s D S0 Fm b adK adV xs L A0 j n0 ls st σ A C H locs rls) (hRc : nM - n0 ≤ R.cells) (hRs : x_sz nM - x_sz n0 ≤ R.slots) (hd : decode (x_b j) pc = .ok (.newarray .long, 2))
    (h : x_na False (x_KK p l e R s m args below meth c Q D S0 Fm b adK adV xs L A0 j n0 nM) pc 2 4 ls σ st) : x_WW p l e R s m args below meth c Q n0 H locs σ.1 (F0 m pc rls (st.map (x_re A Fm))) := by
  obtain ⟨hx, hb, hml, hown, hts, hSt, hj, hini, hfr, hlo, hF⟩ := cx
  obtain ⟨hn, hAg, hDy, hS, hLs, hSk⟩ := hI
  unfold x_na at h
  obtain ⟨mm, r, hst9, h9⟩ := x_1i_ff h
  clear h
  subst hst9
  revert h9
  intro h
  try simp only [] at h
  split at h
  · rename_i g i hq
    obtain ⟨hb1, h⟩ := x_bif_ff h
    have t1 := x_beq hb1
    obtain ⟨hmm, hk⟩ := x_ite_ff h
    obtain ⟨hq1, hq2⟩ := x_q_of hq
    obtain ⟨r1, r2, r3, r4⟩ := x_room (R := R) hn hk.1 hRc hRs
    have hs1 : x_s1 (x_q σ.1) = (x_sh g).2 := by
      unfold x_s1
      rw [hq1]
      rw [if_neg (by show (x_sh g).1 ≠ 0; omega)]
    have hln : (x_sh g).2 ≤ 2000 := by
      rw [x_nx_get] at hq
      exact x_lenok _ (List.mem_of_getElem? hq)
    have hfr9 := hDy.2.2.2.2.1 σ.1 (Nat.le_refl _) hq2
    rw [hq1] at hfr9
    refine va_newa (atype := .long) (ty := .long) (n := Int32.ofInt mm) (N' := (x_sh g).2) (a0 := ((x_sh g).2, .inr (.inl fun k => Int64.ofInt (σ.2.1 g i k)))) hx hb (hts _ (x_in x_g1.2.2.2.2.2.2.2 (by rfl))) rfl hSt.2.1 hDy.2.1 hDy.2.2.1 hS (fun q9 h9 => Nat.le_trans hSt.1 h9) (fun cA => ?_) (fun q9 => by have := (n_l0 mm).mp q9; omega) (by rw [n_cl, hmm]; rfl) (by show (x_sh g).2 * 8 ≤ 536870912; omega) r1 (by rw [← hs1]; exact r2) hd (fun a cA H1 hK1 hP1 hD1 hS1 => ?_)
    · rw [vp_cell_l]
      congr 1
      funext k
      rw [(hfr9 k).1]
      rfl
    have hD9 := hDy.new (a := a) (cA := cA) hq2 (fun _ => by rw [hq1]; show ArrOfT s cA (x_ty (x_sh g).1) ∧ va_RA s cA (x_ty (x_sh g).1); rw [t1]; exact hK1.2 0 _ rfl) (ce := .inl (cA, (x_sh g).2, .inr (.inl fun k => Int64.ofInt (σ.2.1 g i k)))) (fun A' => by
      rw [hq1, x_cell_l t1]
      rw [show (if ((g, i) : Nat × Nat) = (g, i) then cA else C (g, i)) = cA from if_pos rfl]) hP1 hD1
    have h9 := hk.2 _ _ H1 locs rls (fun q hq => (x_newA hDy hq2 a q (hq.mono hn)).trans (hAg q hq)) hD9 hS1 (hLs.agree (Nat.le_succ _) (x_newA hDy hq2 a)) (x_Sk.cons (fun q e => by cases e; exact Or.inl ⟨σ.1, Nat.lt_succ_self _, hq1⟩) (fun v hv => (hSk.tail v hv).mono (Nat.le_succ _)))
    rw [List.map_cons, x_map_agree hSk.tail (x_newA hDy hq2 a), x_ref (by have := x_q_lt hq2; rw [hq1] at this; exact this)] at h9
    have e9 : (if (g, i) = x_q σ.1 then a else A (g, i)) = a := if_pos hq1.symm
    simp only [e9] at h9
    rw [hs1] at r4
    rw [r3, r4]
    exact h9
  · exact h.elim
theorem x_h_naq (cx : x_Cx p R s m args meth c D S0 Fm b adK adV xs L j d) (hI : x_In s D S0 Fm b adK adV xs L A0 j n0 ls st σ A C H locs rls) (hRc : nM - n0 ≤ R.cells) (hRs : x_sz nM - x_sz n0 ≤ R.slots) {k : Nat} (hcl : (Cond.classLink (x_nm (x_mo j)) k "LostBuyer$State").before args s = true) (hd : decode (x_b j) pc = .ok (.anewarray k, 3))
    (h : x_na False (x_KK p l e R s m args below meth c Q D S0 Fm b adK adV xs L A0 j n0 nM) pc 3 5 ls σ st) : x_WW p l e R s m args below meth c Q n0 H locs σ.1 (F0 m pc rls (st.map (x_re A Fm))) := by
  obtain ⟨hx, hb, hml, hown, hts, hSt, hj, hini, hfr, hlo, hF⟩ := cx
  obtain ⟨hn, hAg, hDy, hS, hLs, hSk⟩ := hI
  unfold x_na at h
  obtain ⟨mm, r, hst9, h9⟩ := x_1i_ff h
  clear h
  subst hst9
  revert h9
  intro h
  try simp only [] at h
  split at h
  · rename_i g i hq
    obtain ⟨hb1, h⟩ := x_bif_ff h
    have t1 := x_beq hb1
    obtain ⟨hmm, hk⟩ := x_ite_ff h
    obtain ⟨hq1, hq2⟩ := x_q_of hq
    obtain ⟨r1, r2, r3, r4⟩ := x_room (R := R) hn hk.1 hRc hRs
    have hs1 : x_s1 (x_q σ.1) = (x_sh g).2 := by
      unfold x_s1
      rw [hq1]
      rw [if_neg (by show (x_sh g).1 ≠ 0; omega)]
    have hln : (x_sh g).2 ≤ 2000 := by
      rw [x_nx_get] at hq
      exact x_lenok _ (List.mem_of_getElem? hq)
    have hfr9 := hDy.2.2.2.2.1 σ.1 (Nat.le_refl _) hq2
    rw [hq1] at hfr9
    refine va_newq (C := "LostBuyer$State") (n := Int32.ofInt mm) (N' := (x_sh g).2) hx hb hown hcl hSt.2.2.2.1 hSt.2.1 hDy.2.1 hDy.2.2.1 hS (fun q9 h9 => Nat.le_trans hSt.1 h9) (fun q9 => by have := (n_l0 mm).mp q9; omega) (by rw [n_cl, hmm]; rfl) (by omega) r1 (by rw [← hs1]; exact r2) hd (fun a cA H1 hK1 hP1 hD1 hS1 => ?_)
    have hD9 := hDy.new (a := a) (cA := cA) hq2 (fun _ => by rw [hq1]; show ArrOfT s cA (x_ty (x_sh g).1) ∧ va_RA s cA (x_ty (x_sh g).1); rw [t1]; exact hK1.2 0 _ rfl) (ce := .inl (cA, (x_sh g).2, .inr (.inr (.inr (.inr fun _ => none))))) (fun A' => by
      rw [hq1, x_cell_q t1]
      rw [show (if ((g, i) : Nat × Nat) = (g, i) then cA else C (g, i)) = cA from if_pos rfl]
      congr 7; funext k; show _ = (σ.2.2 g i k).map A'; rw [(hfr9 k).2]; rfl) hP1 hD1
    have h9 := hk.2 _ _ H1 locs rls (fun q hq => (x_newA hDy hq2 a q (hq.mono hn)).trans (hAg q hq)) hD9 hS1 (hLs.agree (Nat.le_succ _) (x_newA hDy hq2 a)) (x_Sk.cons (fun q e => by cases e; exact Or.inl ⟨σ.1, Nat.lt_succ_self _, hq1⟩) (fun v hv => (hSk.tail v hv).mono (Nat.le_succ _)))
    rw [List.map_cons, x_map_agree hSk.tail (x_newA hDy hq2 a), x_ref (by have := x_q_lt hq2; rw [hq1] at this; exact this)] at h9
    have e9 : (if (g, i) = x_q σ.1 then a else A (g, i)) = a := if_pos hq1.symm
    simp only [e9] at h9
    rw [hs1] at r4
    rw [r3, r4]
    exact h9
  · exact h.elim
end
