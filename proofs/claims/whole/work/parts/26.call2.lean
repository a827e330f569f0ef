/-! calls, rows of references, copies -/
section
variable {p : Program} {l : Launch} {e : Env} {R : Room} {s : State} {m : MethodId} {args : Array Value} {below : List Frame} {meth : Method} {c : Code} {Q : State → Prop} {D : va_G} {S0 : Nat} {Fm : Value} {b : Nat} {adK adV : Nat → Nat} {xs : Nat → Int32} {L : Nat} {A0 : XAd} {j n0 nM d : Nat}
variable {pc : Nat} {ls : XL} {st : List XV} {σ : XH} {A : XAd} {C : XCd} {H : Heap} {locs : List Loc} {rls : Array Slot}
def x_KC (p : Program) (l : Launch) (e : Env) (R : Room) (s : State) (m : MethodId) (args : Array Value) (below : List Frame) (meth : Method) (c : Code) (Q : State → Prop) (D : va_G) (S0 : Nat) (Fm : Value) (b : Nat) (adK adV : Nat → Nat) (xs : Nat → Int32) (L : Nat) (A0 : XAd) (j n0 nM d : Nat) (c9 : Nat) (as : List XV) (σ : XH) (k pc : Nat) (ls : XL) (st : List XV) : Prop :=
  ∃ (r : Int) (σ' : XH), x_CM l D S0 Fm b adK adV xs L d c9 as σ r σ' ∧ x_KK p l e R s m args below meth c Q D S0 Fm b adK adV xs L A0 j n0 nM pc ls (x_psh k r st) σ'
theorem x_pre_all (hSt : x_St D S0 Fm b adK adV xs L s) (hDy : x_Dy D S0 Fm b adK adV xs L A C σ s H) (hS : va_S (x_F S0) s.heap H locs) (as : List XV) : ∀ U : State, U.heap = H → s.WarmedH U.vm → x_Pc D S0 Fm b adK adV xs L A C as σ (as.map (x_re A Fm)).toArray U := by
  intro U hU hW
  refine ⟨rfl, hSt.to hS hU hW, ?_⟩
  rw [hU]
  exact hDy.moved hW.alike
theorem x_rooms {σ' : XH} (hn : n0 ≤ σ.1) (hle : σ.1 ≤ σ'.1) (hm : σ'.1 ≤ nM) (hRc : nM - n0 ≤ R.cells) (hRs : x_sz nM - x_sz n0 ≤ R.slots) : σ.1 - n0 + (σ'.1 - σ.1) ≤ R.cells ∧ x_sz σ.1 - x_sz n0 + (x_sz σ'.1 - x_sz σ.1) ≤ R.slots := by
  have h1 := x_sz_mono hn
  have h2 := x_sz_mono hle
  have h3 := x_sz_mono hm
  omega
theorem x_dlen {y : MethodName} {n : Nat} (h : (parseMethodDescriptor y.desc).map (fun d => d.parameters.length) = some n) : ∀ sig, parseMethodDescriptor y.desc = some sig → n = sig.parameters.length := by
  intro sig hs
  rw [hs] at h
  exact (Option.some.inj h).symm
theorem x_Sk_app {nC : Nat} {u r : List XV} (h : x_Sk nC (u ++ r)) : x_Sk nC u ∧ x_Sk nC r := ⟨fun v hv => h v (List.mem_append_left _ hv), fun v hv => h v (List.mem_append_right _ hv)⟩
theorem x_Sk_rev {nC : Nat} {u : List XV} (h : x_Sk nC u) : x_Sk nC u.reverse := fun v hv => h v (List.mem_reverse.mp hv)
theorem x_h_iv (cx : x_Cx p R s m args meth c D S0 Fm b adK adV xs L j d) (hI : x_In s D S0 Fm b adK adV xs L A0 j n0 ls st σ A C H locs rls) (hRc : nM - n0 ≤ R.cells) (hRs : x_sz nM - x_sz n0 ≤ R.slots) {k : Nat} (hd : decode (x_b j) pc = .ok (.invokevirtual k, 3))
    (h : x_iv False (x_KC p l e R s m args below meth c Q D S0 Fm b adK adV xs L A0 j n0 nM d) j pc ls σ (x_look (x_tl (x_mo j)) k) st) : x_WW p l e R s m args below meth c Q n0 H locs σ.1 (F0 m pc rls (st.map (x_re A Fm))) := by
  obtain ⟨hx, hb, hml, hown, hts, hSt, hj, hini, hfr, hlo, hF⟩ := cx
  obtain ⟨hn, hAg, hDy, hS, hLs, hSk⟩ := hI
  cases hlk : x_look (x_tl (x_mo j)) k with
  | none => rw [hlk] at h; exact h.elim
  | some ent =>
    obtain ⟨c9, na, pp⟩ := ent
    rw [hlk] at h
    unfold x_iv at h
    simp only [] at h
    have hok := List.all_eq_true.mp (x_tl_ok (x_mo j) (x_mo_lt hj)) _ (x_look_mem _ _ _ hlk)
    unfold x_tlok at hok
    simp only [] at hok
    obtain ⟨u, r, hst9, hu, h9⟩ := x_pop_ff _ _ _ _ h
    clear h
    subst hst9
    revert h9
    intro h
    obtain ⟨g, i, r, hst9, h9⟩ := x_1r_ff h
    clear h
    subst hst9
    revert h9
    intro h
    obtain ⟨hb1, h⟩ := x_bif_ff h
    simp only [Bool.and_eq_true, Bool.or_eq_true] at hb1
    obtain ⟨⟨ht, htc⟩, ⟨hc, hq⟩, hsm⟩ := hb1
    obtain ⟨rv, σ', hCM, hk⟩ := h
    rw [List.append_nil] at hCM
    rw [Nat.blt_eq] at hc
    have hq := x_beq hq
    have htc := x_beq htc
    rw [show Nat.blt c9 262 = true from by rw [Nat.blt_eq]; exact hc] at hok
    have hok : (decide ((parseMethodDescriptor (x_y c9).desc).map (fun d => d.parameters.length) = some na) && decide (1 ≤ c9) && (decide (lw_tbl[pp]? = some (.methodLink (x_nm (x_mo j)) k (x_y c9))) || (decide (x_mo j = 6) && decide (k = 122) && decide (x_y c9 = ⟨"LostBuyer", "within", "(II)I"⟩)))) = true := hok
    simp only [Bool.and_eq_true, Bool.or_eq_true, decide_eq_true_eq] at hok
    obtain ⟨⟨o1, o2⟩, o3⟩ := hok
    obtain ⟨-, m2, m3, m4, m5, m6, m7, m8, m9, m10, m11, m12⟩ := x_m_ok hc
    have hlink : Cond.methodLink (x_nm (x_mo j)) k (x_y c9) ∈ x_tbl := by
      rcases o3 with o3 | ⟨⟨-, -⟩, o5⟩
      · exact x_word o3 (x_good_link _ _ _)
      · exfalso
        have : x_mq c9 = 0 := x_within c9 hc o5
        omega
    have hv := (x_Sk_app hSk).2.head (g, i) rfl
    have hsk1 : x_Sk σ.1 (.inr (.inr (some (g, i))) :: u.reverse) := x_Sk.cons (x_Sk_app hSk).2.head (x_Sk_rev (x_Sk_app hSk).1)
    have hM := hCM.2 A C hsk1
    have hrr : x_re A Fm (.inr (.inr (some (g, i)))) = .ref (A (g, i)) := by
      refine if_neg fun q => ?_
      have q : g = 903 := q
      subst q
      rcases ht with h9 | h9 <;> revert h9 <;> decide +kernel
    have hrecv : ∃ cell : Cell, H[A (g, i)]? = some cell ∧ cell.vm.isStatics = false ∧ s.vm.findClass (x_y c9).cls = some cell.cls := by
      rw [m3]
      rcases ht with h9 | h9
      · have t1 := x_beq h9
        obtain ⟨n, h1, h2, h3, h4⟩ := x_plc hDy (x_Sk_app hSk).2.head (by omega)
        rw [x_cell_obj t1 htc] at h3
        have hci : x_mo c9 < 10 := by
          have := (x_tag (n := n) (by have := hDy.2.2.2.2.2.2.1; omega)).2
          rw [h2] at this
          rw [← htc]
          exact this t1
        exact va_recv hSt.2.1 hDy.2.1 (x_cl_get hci) h3
      · have t1 := x_beq h9
        obtain ⟨h8, hi⟩ := x_vl_6 hDy.2.2.2.2.2.2.1 hv t1
        have h8 : g = 901 := h8
        have hi : i < 2 := hi
        subst h8
        have h12 : x_mo c9 = 12 := htc.symm
        rw [h12, (hDy.2.2.2.2.2.2.2.2 i hi).1]
        exact vk_recv hSt.2.2.2.2.2.2.1 hi hS
    have hrun := va_runV (l := l) (e := e) (below := below) (meth := meth) (locs := locs) (cells := σ.1 - n0) (slots := x_sz σ.1 - x_sz n0) (R := R) (H := H) (C := (x_y c9).cls) (b := A (g, i)) (As := u.reverse.map (x_re A Fm)) (rest := r.map (x_re A Fm)) (g := F0 m pc rls ((u ++ .inr (.inr (some (g, i))) :: r).map (x_re A Fm))) ⟨hx, hb, hml, hown, hts⟩ hM
      (cwV na hts (x_gi (fun w hw => by
        rcases List.mem_append.mp hw with h9 | h9
        · rcases List.mem_cons.mp h9 with rfl | h9
          · exact hlink
          rcases List.mem_cons.mp h9 with rfl | h9
          · exact x_w_im o2 hc (by omega)
          rcases List.mem_cons.mp h9 with rfl | h9
          · exact x_w_se o2 hc hq
          rcases List.mem_cons.mp h9 with rfl | h9
          · exact x_w_ini o2 hc
          · cases h9
        · exact (x_goodIn o2 hc w h9).1)) rfl rfl rfl ⟨rfl, m8, m9, o1⟩ ⟨by show d + 1 ≤ R.frames; exact hfr, by show 8 + (x_mx c9 + 11) + 40 * d ≤ R.locals; omega⟩)
      ⟨x_Pc_blind A C _ σ, hrecv, fun U hU hW => by
        have := x_pre_all hSt hDy hS (.inr (.inr (some (g, i))) :: u.reverse) U hU hW
        rw [List.map_cons, hrr] at this
        exact this⟩
      rfl (by rw [List.length_map, List.length_reverse]; exact hu) hLs.2.1 (by show (u ++ .inr (.inr (some (g, i))) :: r).map (x_re A Fm) = _; rw [List.map_append, List.map_cons, hrr, List.map_reverse, List.reverse_reverse]) (by show 2 * 0 + _ ≤ 8; have := x_sm_ok (A := A) hF hsm; omega) hd (x_rooms hn hCM.1 hk.1 hRc hRs)
    exact x_after hn hAg hCM.1 hDy hS hLs (x_Sk_app hSk).2.tail hrun hk
theorem x_h_ip (cx : x_Cx p R s m args meth c D S0 Fm b adK adV xs L j d) (hI : x_In s D S0 Fm b adK adV xs L A0 j n0 ls st σ A C H locs rls) (hRc : nM - n0 ≤ R.cells) (hRs : x_sz nM - x_sz n0 ≤ R.slots) {k : Nat} (hd : decode (x_b j) pc = .ok (.invokespecial k, 3))
    (h : x_ip False (x_KK p l e R s m args below meth c Q D S0 Fm b adK adV xs L A0 j n0 nM) (x_KC p l e R s m args below meth c Q D S0 Fm b adK adV xs L A0 j n0 nM d) j pc ls σ (x_look (x_tl (x_mo j)) k) st) : x_WW p l e R s m args below meth c Q n0 H locs σ.1 (F0 m pc rls (st.map (x_re A Fm))) := by
  obtain ⟨hx, hb, hml, hown, hts, hSt, hj, hini, hfr, hlo, hF⟩ := cx
  obtain ⟨hn, hAg, hDy, hS, hLs, hSk⟩ := hI
  cases hlk : x_look (x_tl (x_mo j)) k with
  | none => rw [hlk] at h; exact h.elim
  | some ent =>
    obtain ⟨c9, na, pp⟩ := ent
    rw [hlk] at h
    unfold x_ip at h
    simp only [] at h
    have hok := List.all_eq_true.mp (x_tl_ok (x_mo j) (x_mo_lt hj)) _ (x_look_mem _ _ _ hlk)
    unfold x_tlok at hok
    simp only [] at hok
    cases hb0 : Nat.beq c9 1000 with
    | true =>
      rw [hb0] at h hok
      have e0 := x_beq hb0
      obtain ⟨g, i, r, hst9, h9⟩ := x_1r_ff h
      clear h
      subst hst9
      revert h9
      intro h
      obtain ⟨hb1, h⟩ := x_bif_ff h
      rw [Bool.and_eq_true] at hb1
      have hlow : g < 900 := by have := hb1.1; rw [Nat.blt_eq] at this; exact this
      subst e0
      have hok : decide (lw_tbl[pp]? = some (.methodLink (x_nm (x_mo j)) k objectInit)) = true := hok
      simp only [decide_eq_true_eq] at hok
      have hsm := x_sm_ok (A := A) hF hb1.2
      refine W.objInit (a := A (g, i)) (rest := r.map (x_re A Fm)) hx hb hown (hts _ (x_word hok (x_good_link _ _ _))) (hts _ (x_in x_g1.1 (by rfl))) (hts _ (x_word x_g3 (x_code_good _ _ _ _))) rfl (by rw [hml]; exact hLs.2.1) (by show (_ :: _).map _ = _; rw [List.map_cons, x_ref hlow]) hd (by omega) (by show 2 * 0 + _ + 12 ≤ R.locals; omega) ?_
      exact h.2 A C H locs rls hAg hDy hS hLs hSk.tail
    | false =>
      rw [hb0] at h hok
      obtain ⟨hb1, h⟩ := x_bif_ff h
      rw [Bool.and_eq_true] at hb1
      have hc : c9 < 262 := by have := hb1.1; rw [Nat.blt_eq] at this; exact this
      obtain ⟨u, r, hst9, hu, h9⟩ := x_pop_ff _ _ _ _ h
      clear h
      subst hst9
      revert h9
      intro h
      obtain ⟨g, i, r, hst9, h9⟩ := x_1r_ff h
      clear h
      subst hst9
      revert h9
      intro h
      obtain ⟨hb2, h⟩ := x_bif_ff h
      rw [Bool.and_eq_true] at hb2
      have hlow : g < 900 := by have := hb2.1; rw [Nat.blt_eq] at this; exact this
      obtain ⟨rv, σ', hCM, hk⟩ := h
      rw [List.append_nil] at hCM
      rw [show Nat.blt c9 262 = true from by rw [Nat.blt_eq]; exact hc] at hok
      have hok : (decide ((parseMethodDescriptor (x_y c9).desc).map (fun d => d.parameters.length) = some na) && decide (1 ≤ c9) && (decide (lw_tbl[pp]? = some (.methodLink (x_nm (x_mo j)) k (x_y c9))) || (decide (x_mo j = 6) && decide (k = 122) && decide (x_y c9 = ⟨"LostBuyer", "within", "(II)I"⟩)))) = true := hok
      simp only [Bool.and_eq_true, Bool.or_eq_true, decide_eq_true_eq] at hok
      obtain ⟨⟨o1, o2⟩, o3⟩ := hok
      obtain ⟨-, m2, m3, m4, m5, m6, m7, m8, m9, m10, m11, m12⟩ := x_m_ok hc
      have hq : x_mq c9 = 2 := by rw [m6]; exact hb1.2
      have hmk : x_mk c9 = 0 := m12 hq
      have hlink : Cond.methodLink (x_nm (x_mo j)) k (x_y c9) ∈ x_tbl := by
        rcases o3 with o3 | ⟨⟨-, -⟩, o5⟩
        · exact x_word o3 (x_good_link _ _ _)
        · exfalso
          have : x_mq c9 = 0 := x_within c9 hc o5
          omega
      have hsk1 : x_Sk σ.1 (.inr (.inr (some (g, i))) :: u.reverse) := x_Sk.cons (x_Sk_app hSk).2.head (x_Sk_rev (x_Sk_app hSk).1)
      have hM := hCM.2 A C hsk1
      rw [m2, hmk] at hM
      have hrr : x_re A Fm (.inr (.inr (some (g, i)))) = .ref (A (g, i)) := x_ref hlow
      have hrun := va_runI (l := l) (e := e) (below := below) (meth := meth) (locs := locs) (cells := σ.1 - n0) (slots := x_sz σ.1 - x_sz n0) (R := R) (H := H) (b := A (g, i)) (As := u.reverse.map (x_re A Fm)) (rest := r.map (x_re A Fm)) (g := F0 m pc rls ((u ++ .inr (.inr (some (g, i))) :: r).map (x_re A Fm))) ⟨hx, hb, hml, hown, hts⟩ hM
        (cwI na hts (x_gi (fun w hw => by
          have := (x_goodIn o2 hc w (by rw [m2, hmk]; exact hw)).1
          exact this)) rfl rfl rfl (hts _ (x_w_ini o2 hc)) (hts _ hlink) (hts _ (x_w_im o2 hc (by omega))) (by rw [← m5]; exact hq) ⟨m8, m9, o1⟩ ⟨by show d + 1 ≤ R.frames; exact hfr, by show 8 + (x_mx c9 + 11) + 40 * d ≤ R.locals; omega⟩)
        ⟨x_Pc_blind A C _ σ, fun U hU hW => by
          have := x_pre_all hSt hDy hS (.inr (.inr (some (g, i))) :: u.reverse) U hU hW
          rw [List.map_cons, hrr] at this
          exact this⟩
        rfl (by rw [List.length_map, List.length_reverse]; exact hu) hLs.2.1 (by show (u ++ .inr (.inr (some (g, i))) :: r).map (x_re A Fm) = _; rw [List.map_append, List.map_cons, hrr, List.map_reverse, List.reverse_reverse]) (by show 2 * 0 + _ ≤ 8; have := x_sm_ok (A := A) hF hb2.2; omega) hd (x_rooms hn hCM.1 hk.1 hRc hRs)
      exact x_after (k := 0) hn hAg hCM.1 hDy hS hLs (x_Sk_app hSk).2.tail hrun hk
theorem x_h_is (cx : x_Cx p R s m args meth c D S0 Fm b adK adV xs L j d) (hI : x_In s D S0 Fm b adK adV xs L A0 j n0 ls st σ A C H locs rls) (hRc : nM - n0 ≤ R.cells) (hRs : x_sz nM - x_sz n0 ≤ R.slots) {k : Nat} (hd : decode (x_b j) pc = .ok (.invokestatic k, 3))
    (h : x_is False (x_KK p l e R s m args below meth c Q D S0 Fm b adK adV xs L A0 j n0 nM) (x_KC p l e R s m args below meth c Q D S0 Fm b adK adV xs L A0 j n0 nM d) j pc ls σ (x_look (x_tl (x_mo j)) k) st) : x_WW p l e R s m args below meth c Q n0 H locs σ.1 (F0 m pc rls (st.map (x_re A Fm))) := by
  obtain ⟨hx, hb, hml, hown, hts, hSt, hj, hini, hfr, hlo, hF⟩ := cx
  obtain ⟨hn, hAg, hDy, hS, hLs, hSk⟩ := hI
  cases hlk : x_look (x_tl (x_mo j)) k with
  | none => rw [hlk] at h; exact h.elim
  | some ent =>
    obtain ⟨c9, na, pp⟩ := ent
    rw [hlk] at h
    unfold x_is at h
    simp only [] at h
    have hok := List.all_eq_true.mp (x_tl_ok (x_mo j) (x_mo_lt hj)) _ (x_look_mem _ _ _ hlk)
    unfold x_tlok at hok
    simp only [] at hok
    cases hb0 : Nat.beq c9 1001 with
    | true =>
      rw [hb0] at h
      have e0 := x_beq hb0
      subst e0
      have hok : ((true : Bool) && decide (na = 5) && decide (lw_tbl[pp]? = some (.methodLink (x_nm (x_mo j)) k arraycopyName))) = true := hok
      simp only [Bool.and_eq_true, decide_eq_true_eq] at hok
      obtain ⟨n, r, hst9, h9⟩ := x_1i_ff h
      clear h
      subst hst9
      revert h9
      intro h
      obtain ⟨dp, r, hst9, h9⟩ := x_1i_ff h
      clear h
      subst hst9
      revert h9
      intro h
      obtain ⟨gd, id9, r, hst9, h9⟩ := x_1r_ff h
      clear h
      subst hst9
      revert h9
      intro h
      obtain ⟨sp, r, hst9, h9⟩ := x_1i_ff h
      clear h
      subst hst9
      revert h9
      intro h
      obtain ⟨gs, is9, r, hst9, h9⟩ := x_1r_ff h
      clear h
      subst hst9
      revert h9
      intro h
      obtain ⟨hb1, h⟩ := x_bif_ff h
      simp only [Bool.and_eq_true] at hb1
      obtain ⟨⟨td, ts⟩, hsm⟩ := hb1
      have td := x_beq td
      have ts := x_beq ts
      obtain ⟨⟨g1, g2, g3, g4, g5⟩, hk⟩ := x_ite_ff h
      obtain ⟨nd, d1, d2, d3, d4⟩ := x_plc hDy hSk.tail.tail.head (by omega)
      obtain ⟨ns, s1, s2, s3, s4⟩ := x_plc hDy hSk.tail.tail.tail.tail.head (by omega)
      rw [x_cell_i (Or.inl td)] at d3
      rw [x_cell_i (Or.inl ts)] at s3
      have ad := hDy.1 nd d1 (by rw [d2]; show (x_sh gd).1 ≠ 0; omega)
      rw [d2, show (x_sh ((gd, id9) : Nat × Nat).1).1 = 1 from td] at ad
      have as9 := hDy.1 ns s1 (by rw [s2]; show (x_sh gs).1 ≠ 0; omega)
      rw [s2, show (x_sh ((gs, is9) : Nat × Nat).1).1 = 1 from ts] at as9
      have hK2 : va_K D x_cl [(C (gs, is9), .int), (C (gd, id9), .int)] s := (x_K1 hSt.2.1 as9).app (x_K1 hSt.2.1 ad)
      have hsm := x_sm_ok (A := A) hF hsm
      show W _ _ _ _ _ _ _ _ _ _ _ _ _ _ _ (F0 m pc rls (.int (Int32.ofInt n) :: .int (Int32.ofInt dp) :: x_re A Fm (.inr (.inr (some (gd, id9)))) :: .int (Int32.ofInt sp) :: x_re A Fm (.inr (.inr (some (gs, is9)))) :: r.map (x_re A Fm)))
      rw [x_ref (q := (gd, id9)) d4, x_ref (q := (gs, is9)) s4]
      refine va_copyi (ty := .int) hx hb (by rw [hml]; exact hLs.2.1.symm) hown (hts _ (x_word hok.2 (x_good_link _ _ _))) (hts _ (x_in x_g1.2.2.1 (by rfl))) (hts _ (x_in x_g1.2.1 (by rfl))) (hts _ (x_in x_g1.2.2.2.1 (by rfl))) hK2 hDy.2.1 hDy.2.2.1 hS ns nd 0 1 s3 d3 rfl rfl rfl (fun q => by have := (n_l0 sp).mp q; omega) (fun q => by have := (n_l0 dp).mp q; omega) (fun q => by have := (n_l0 n).mp q; omega) (by rw [n_cl, n_cl]; show _ ≤ (x_sh gs).2; omega) (by rw [n_cl, n_cl]; show _ ≤ (x_sh gd).2; omega) (fun _ _ => rfl) (by omega) (by show _ + (7 + 11) ≤ R.locals; omega) hd (fun H1 locs1 hP1 hD1 hS1 => ?_)
      rw [n_cl, n_cl, n_cl] at hP1 hD1
      have ec : x_cell A Fm C (σ.1, (x_cp σ.2.1 gs is9 (cn sp).toNat gd id9 (cn dp).toNat (cn n).toNat, σ.2.2)) (gd, id9) = .inl (C (gd, id9), (x_sh gd).2, .inl (va_cpy (fun k => Int32.ofInt (σ.2.1 gs is9 k)) (fun k => Int32.ofInt (σ.2.1 gd id9 k)) (cn sp).toNat (cn dp).toNat (cn n).toNat)) := by
        have ef : (fun k => Int32.ofInt (x_cp σ.2.1 gs is9 (cn sp).toNat gd id9 (cn dp).toNat (cn n).toNat gd id9 k)) = va_cpy (fun k => Int32.ofInt (σ.2.1 gs is9 k)) (fun k => Int32.ofInt (σ.2.1 gd id9 k)) (cn sp).toNat (cn dp).toNat (cn n).toNat := by
          funext k
          unfold x_cp va_cpy
          by_cases hq : (cn dp).toNat ≤ k ∧ k < (cn dp).toNat + (cn n).toNat
          · rw [if_pos ⟨rfl, rfl, hq⟩, if_pos hq]
          · rw [if_neg (fun w => hq w.2.2), if_neg hq]
        rw [x_cell_i (Or.inl td), ← ef]
      refine hk.2 A C H1 locs1 rls hAg (hDy.set (n0 := nd) d1 (fun q hq k9 => by
        rw [d2] at hq
        show x_cp _ _ _ _ _ _ _ _ q.1 q.2 k9 = _
        unfold x_cp
        exact if_neg (fun w => hq (Prod.ext w.1 w.2.1))) (fun _ _ _ => rfl) (fun k9 q hq => hDy.2.2.2.1 nd d1 k9 q hq) ?_ ?_) hS1 hLs hSk.tail.tail.tail.tail.tail
      · rw [d2, ec]; exact hP1
      · rw [d2, ec]; exact hD1
    | false =>
      rw [hb0] at h
      obtain ⟨hb1, h⟩ := x_bif_ff h
      rw [Bool.and_eq_true] at hb1
      have hc : c9 < 262 := by have := hb1.1; rw [Nat.blt_eq] at this; exact this
      have hq := x_beq hb1.2
      obtain ⟨u, r, hst9, hu, h9⟩ := x_pop_ff _ _ _ _ h
      clear h
      subst hst9
      revert h9
      intro h
      obtain ⟨hsm, h⟩ := x_bif_ff h
      obtain ⟨rv, σ', hCM, hk⟩ := h
      rw [List.append_nil] at hCM
      rw [show Nat.blt c9 262 = true from by rw [Nat.blt_eq]; exact hc] at hok
      have hok : (decide ((parseMethodDescriptor (x_y c9).desc).map (fun d => d.parameters.length) = some na) && decide (1 ≤ c9) && (decide (lw_tbl[pp]? = some (.methodLink (x_nm (x_mo j)) k (x_y c9))) || (decide (x_mo j = 6) && decide (k = 122) && decide (x_y c9 = ⟨"LostBuyer", "within", "(II)I"⟩)))) = true := hok
      simp only [Bool.and_eq_true, Bool.or_eq_true, decide_eq_true_eq] at hok
      obtain ⟨⟨o1, o2⟩, o3⟩ := hok
      obtain ⟨-, m2, m3, m4, m5, m6, m7, m8, m9, m10, m11, m12⟩ := x_m_ok hc
      have hM := hCM.2 A C (x_Sk_rev (x_Sk_app hSk).1)
      have hrm : 1 ≤ R.frames := by omega
      have hst9 : (u ++ r).map (x_re A Fm) = (u.reverse.map (x_re A Fm)).reverse ++ r.map (x_re A Fm) := by rw [List.map_append, List.map_reverse, List.reverse_reverse]
      have hw9 : 2 * (F0 m pc rls ((u ++ r).map (x_re A Fm))).monitorRoom + ((r.map (x_re A Fm)).map fun v => v.category).sum ≤ 8 := by show 2 * 0 + _ ≤ 8; have := x_sm_ok (A := A) hF hsm; omega
      rcases o3 with o3 | ⟨⟨o3, o4⟩, o5⟩
      · have hrun := va_runS (l := l) (e := e) (below := below) (meth := meth) (locs := locs) (cells := σ.1 - n0) (slots := x_sz σ.1 - x_sz n0) (R := R) (H := H) (As := u.reverse.map (x_re A Fm)) (rest := r.map (x_re A Fm)) (g := F0 m pc rls ((u ++ r).map (x_re A Fm))) ⟨hx, hb, hml, hown, hts⟩ hM
          ⟨callB_of na hts (x_goodIn o2 hc) rfl rfl rfl (hts _ (x_w_ini o2 hc)) (hts _ (x_word o3 (x_good_link _ _ _))) ⟨m8, m9, o1⟩ ⟨by show d + 1 ≤ R.frames; exact hfr, by show 8 + (x_mx c9 + 11) + 40 * d ≤ R.locals; omega⟩, hts _ (x_w_st o2 hc hq)⟩
          ⟨x_Pc_blind A C _ σ, x_pre_all hSt hDy hS u.reverse⟩
          rfl (by rw [List.length_map, List.length_reverse]; exact hu) hLs.2.1 hst9 hw9 hd (x_rooms hn hCM.1 hk.1 hRc hRs)
        exact x_after hn hAg hCM.1 hDy hS hLs (x_Sk_app hSk).2 hrun hk
      · subst o4
        rw [o3] at hown
        have hnest := hSt.2.2.1
        have hrun := va_runSN (l := l) (e := e) (below := below) (meth := meth) (locs := locs) (cells := σ.1 - n0) (slots := x_sz σ.1 - x_sz n0) (R := R) (H := H) (As := u.reverse.map (x_re A Fm)) (rest := r.map (x_re A Fm)) (g := F0 m pc rls ((u ++ r).map (x_re A Fm))) ⟨hx, hb, hml, hown, hts⟩ hM
          ⟨va_cnB na hts (x_goodIn o2 hc) rfl rfl rfl (by rw [o5]; exact hnest) (hts _ (x_w_ini o2 hc)) ⟨m8, m9, o1⟩ ⟨by show d + 1 ≤ R.frames; exact hfr, by show 8 + (x_mx c9 + 11) + 40 * d ≤ R.locals; omega⟩, hts _ (x_w_st o2 hc hq), trivial⟩
          ⟨x_Pc_blind A C _ σ, x_pre_all hSt hDy hS u.reverse⟩
          rfl (by rw [List.length_map, List.length_reverse]; exact hu) hLs.2.1 hst9 hw9 hd (x_rooms hn hCM.1 hk.1 hRc hRs)
        exact x_after hn hAg hCM.1 hDy hS hLs (x_Sk_app hSk).2 hrun hk
theorem x_h_aast (cx : x_Cx p R s m args meth c D S0 Fm b adK adV xs L j d) (hI : x_In s D S0 Fm b adK adV xs L A0 j n0 ls st σ A C H locs rls) (hd : decode (x_b j) pc = .ok (.aastore, 1))
    (h : x_1r False st fun g2 i2 r => x_1i False r fun z r => x_1r False r fun g i r => bif Nat.beq (x_sh g).1 5 && (Nat.beq (x_sh g2).1 0 && Nat.beq (x_sh g2).2 4) then
      (if 0 ≤ cn z ∧ cn z < (x_al σ.2.1 g i : Int) then x_KK p l e R s m args below meth c Q D S0 Fm b adK adV xs L A0 j n0 nM (pc + 1) ls r (σ.1, (σ.2.1, x_ur σ.2.2 g i (cn z).toNat (some (g2, i2)))) else False) else False) : x_WW p l e R s m args below meth c Q n0 H locs σ.1 (F0 m pc rls (st.map (x_re A Fm))) := by
  obtain ⟨hx, hb, hml, hown, hts, hSt, hj, hini, hfr, hlo, hF⟩ := cx
  obtain ⟨hn, hAg, hDy, hS, hLs, hSk⟩ := hI
  obtain ⟨g2, i2, r, hst9, h9⟩ := x_1r_ff h
  clear h
  subst hst9
  revert h9
  intro h
  obtain ⟨z, r, hst9, h9⟩ := x_1i_ff h
  clear h
  subst hst9
  revert h9
  intro h
  obtain ⟨g, i, r, hst9, h9⟩ := x_1r_ff h
  clear h
  subst hst9
  revert h9
  intro h
  obtain ⟨hb1, h⟩ := x_bif_ff h
  simp only [Bool.and_eq_true] at hb1
  obtain ⟨ht, ht2, ht3⟩ := hb1
  have ht := x_beq ht
  have ht2 := x_beq ht2
  have ht3 := x_beq ht3
  obtain ⟨hg, hk⟩ := x_ite_ff h
  obtain ⟨n, h1, h2, h3, h4⟩ := x_plc hDy hSk.tail.tail.head (by omega)
  obtain ⟨n2, k1, k2, k3, k4⟩ := x_plc hDy hSk.head (by omega)
  rw [x_alen (by omega)] at hg
  rw [x_cell_q ht] at h3
  rw [x_cell_obj ht2 ht3] at k3
  have ha := hDy.1 n h1 (by rw [h2]; show (x_sh g).1 ≠ 0; omega)
  rw [h2, show (x_sh ((g, i) : Nat × Nat).1).1 = 5 from ht] at ha
  show W _ _ _ _ _ _ _ _ _ _ _ _ _ _ _ (F0 m pc rls (x_re A Fm (.inr (.inr (some (g2, i2)))) :: .int (Int32.ofInt z) :: x_re A Fm (.inr (.inr (some (g, i)))) :: r.map (x_re A Fm)))
  rw [x_ref (q := (g, i)) h4, x_ref (q := (g2, i2)) k4]
  refine va_astq (ci := 4) (r := (x_nm 4, x_Tf 4, x_N 4)) hx hb (x_K1 hSt.2.1 ha) hDy.2.1 hDy.2.2.1 hS n 0 n2 (i := Int32.ofInt z) h3 rfl k3 (x_cl_get (by decide)) (n_in.mpr hg) hd (fun H1 locs1 hP1 hD1 hS1 => ?_)
  rw [n_cl] at hP1 hD1
  have ec : x_cell A Fm C (σ.1, (σ.2.1, x_ur σ.2.2 g i (cn z).toNat (some (g2, i2)))) (g, i) = .inl (C (g, i), (x_sh g).2, .inr (.inr (.inr (.inr (va_up (fun k => (σ.2.2 g i k).map A) (cn z).toNat (some (A (g2, i2)))))))) := by
    rw [x_cell_q ht]
    rw [x_upq (g := fun k => (x_ur σ.2.2 g i (cn z).toNat (some (g2, i2)) g i k).map A) (by rw [x_ur_at]; rfl) (fun k hk => by rw [x_ur_ne (fun q => hk q.2.2)])]
  refine hk.2 A C H1 locs1 rls hAg (hDy.set (n0 := n) h1 (fun _ _ _ => rfl) (fun q hq k => by rw [h2] at hq; exact x_ur_o hq k) (fun k q hq => ?_) ?_ ?_) hS1 hLs hSk.tail.tail.tail
  · rw [h2] at hq
    by_cases e9 : k = (cn z).toNat
    · subst e9
      have hq : x_ur σ.2.2 g i (cn z).toNat (some (g2, i2)) g i (cn z).toNat = some q := hq
      rw [x_ur_at] at hq
      cases hq
      exact Or.inl ⟨n2, k1, k2⟩
    · have hq : x_ur σ.2.2 g i (cn z).toNat (some (g2, i2)) g i k = some q := hq
      rw [x_ur_ne (fun w => e9 w.2.2)] at hq
      exact hDy.2.2.2.1 n h1 k q (by rw [h2]; exact hq)
  · rw [h2, ec]; exact hP1
  · rw [h2, ec]; exact hD1
end
