/-! fields, lengths, switches, ends -/
section
variable {p : Program} {l : Launch} {e : Env} {R : Room} {s : State} {m : MethodId} {args : Array Value} {below : List Frame} {meth : Method} {c : Code} {Q : State → Prop} {D : va_G} {S0 : Nat} {Fm : Value} {b : Nat} {adK adV : Nat → Nat} {xs : Nat → Int32} {L : Nat} {A0 : XAd} {j n0 nM d : Nat}
variable {pc : Nat} {ls : XL} {st : List XV} {σ : XH} {A : XAd} {C : XCd} {H : Heap} {locs : List Loc} {rls : Array Slot}
theorem x_mo_lt (hj : j < 262) : x_mo j < 16 := (x_m_ok hj).2.2.2.2.2.2.2.2.2.1
theorem x_fv_i {q : Nat × Nat} {ci f : Nat} (h : x_isr (x_yt ci f) ≠ true) : x_fv A Fm σ q ci f = .int (Int32.ofInt (σ.2.1 q.1 q.2 f)) := if_neg h
theorem x_fv_r {q : Nat × Nat} {ci f : Nat} (h : x_isr (x_yt ci f) = true) : x_fv A Fm σ q ci f = x_re A Fm (.inr (.inr (σ.2.2 q.1 q.2 f))) := if_pos h
theorem x_h_get (cx : x_Cx p R s m args meth c D S0 Fm b adK adV xs L j d) (hI : x_In s D S0 Fm b adK adV xs L A0 j n0 ls st σ A C H locs rls) {k : Nat} (hd : decode (x_b j) pc = .ok (.getfield k, 3)) (h : x_1r False st fun g i r => x_gf False (x_KK p l e R s m args below meth c Q D S0 Fm b adK adV xs L A0 j n0 nM) j pc ls σ (x_look (x_fl (x_mo j)) k) g i r) : x_WW p l e R s m args below meth c Q n0 H locs σ.1 (F0 m pc rls (st.map (x_re A Fm))) := by
  obtain ⟨hx, hb, hml, hown, hts, hSt, hj, hini, hfr, hlo, hF⟩ := cx
  obtain ⟨hn, hAg, hDy, hS, hLs, hSk⟩ := hI
  obtain ⟨g, i, r, hst9, h9⟩ := x_1r_ff h
  clear h
  subst hst9
  revert h9
  intro h
  cases hlk : x_look (x_fl (x_mo j)) k with
  | none => rw [hlk] at h; exact h.elim
  | some ent =>
    obtain ⟨ci, f, kd, pp⟩ := ent
    rw [hlk] at h
    unfold x_gf at h
    simp only [] at h
    have hok := List.all_eq_true.mp (x_fl_ok (x_mo j) (x_mo_lt hj)) _ (x_look_mem _ _ _ hlk)
    unfold x_flok at hok
    simp only [] at hok
    cases hb1 : (Nat.beq (x_sh g).1 0 && Nat.beq (x_sh g).2 ci) with
    | true =>
      rw [hb1] at h
      rw [Bool.and_eq_true] at hb1
      have t1 := x_beq hb1.1
      have t2 := x_beq hb1.2
      obtain ⟨n, h1, h2, h3, h4⟩ := x_plc hDy hSk.head (by omega)
      have hci : ci < 10 := by
        have := (x_tag (n := n) (by have := hDy.2.2.2.2.2.2.1; omega)).2
        rw [h2] at this
        rw [← t2]
        exact this t1
      rw [x_cell_obj t1 t2] at h3
      rw [show Nat.blt ci 10 = true from by rw [Nat.blt_eq]; exact hci] at hok
      have hok : (decide (f < x_N ci) && decide (lw_tbl[pp]? = some (.fieldLink (x_nm (x_mo j)) k (x_nm ci) (x_Tf ci f).2.1 (x_Tf ci f).2.2.1)) && decide ((kd = 2) = (x_isr (x_yt ci f) = true)) && decide ((kd = 1) = (x_yt ci f = .boolean)) && decide (kd = 2 ∨ x_yt ci f = .int ∨ x_yt ci f = .boolean)) = true := hok
      simp only [Bool.and_eq_true, decide_eq_true_eq] at hok
      obtain ⟨⟨⟨⟨f1, f2⟩, f3⟩, f4⟩, f5⟩ := hok
      have hlink := hts _ (x_word f2 (x_good_fl _ _ _ _ _))
      have hsame : ∀ x, s.fieldFound? (x_Tf ci f).1 (x_Tf ci f).2.1 (x_Tf ci f).2.2.1 = some x → s.fieldFound? (x_nm ci) (x_Tf ci f).2.1 (x_Tf ci f).2.2.1 = some x := by
        rw [(x_finok ci hci f f1).2]; exact fun _ h => h
      have key : ∀ v : XV, x_fv A Fm σ (g, i) ci f = x_re A Fm v → x_okv σ.1 v → x_KK p l e R s m args below meth c Q D S0 Fm b adK adV xs L A0 j n0 nM (pc + 3) ls (v :: r) σ → x_WW p l e R s m args below meth c Q n0 H locs σ.1 (F0 m pc rls ((.inr (.inr (some (g, i))) :: r).map (x_re A Fm))) := by
        intro v hv hok' hk
        show W _ _ _ _ _ _ _ _ _ _ _ _ _ _ _ (F0 m pc rls (x_re A Fm (.inr (.inr (some (g, i)))) :: r.map (x_re A Fm)))
        rw [x_ref h4]
        refine va_get (D := D) (C := x_nm ci) (T := x_Tf ci) (N := x_N ci) (v := x_re A Fm v) hx hb hts (x_lay hci) hown hSt.2.1 hDy.2.1 n h3 (x_cl_get hci) f f1 hlink hsame (by rw [x_fs_get f1, hv]) hd ?_
        exact hk.2 A C H locs rls hAg hDy hS hLs (x_Sk.cons hok' hSk.tail)
      cases hk2 : Nat.beq kd 2 with
      | true =>
        rw [hk2] at h
        have e2 := x_beq hk2
        have hr : x_isr (x_yt ci f) = true := by rw [← f3]; exact e2
        have ho := x_okq hDy h1 (k := f) (by unfold x_s1; rw [h2, if_pos t1]; show f < x_N (x_sh g).2; rw [t2]; exact f1)
        rw [h2] at ho
        exact key _ (x_fv_r hr) ho h
      | false =>
        rw [hk2] at h
        have hr : x_isr (x_yt ci f) ≠ true := by
          intro q
          rw [← f3] at q
          rw [q] at hk2
          cases hk2
        exact key _ (x_fv_i hr) (x_okv_i _ _) h
    | false =>
      rw [hb1] at h
      obtain ⟨hb2, h⟩ := x_bif_ff h
      rw [Bool.and_eq_true] at hb2
      have t1 := x_beq hb2.1
      have t2 : ci = 12 := (x_beq hb2.2).symm
      obtain ⟨h8, hi⟩ := x_vl_6 hDy.2.2.2.2.2.2.1 (hSk.head (g, i) rfl) t1
      have h8 : g = 901 := h8
      have hi : i < 2 := hi
      subst h8
      subst t2
      obtain ⟨-, -, -, -, -, -, -, ⟨-, hA2⟩⟩ := id hDy
      obtain ⟨-, -, -, -, -, -, s7, -⟩ := id hSt
      have hE := s7.1 i hi
      have hok : ((true : Bool) && (bif Nat.beq f 0 then decide (kd = 2) && decide (lw_tbl[pp]? = some (.fieldLink (x_nm (x_mo j)) k "java/lang/String" "value" "[B")) else decide (lw_tbl[pp]? = some (.fieldLink (x_nm (x_mo j)) k "java/lang/String" "coder" "B")))) = true := hok
      rw [Bool.true_and] at hok
      show W _ _ _ _ _ _ _ _ _ _ _ _ _ _ _ (F0 m pc rls (.ref (A (901, i)) :: r.map (x_re A Fm)))
      rw [(hA2 i hi).1]
      cases hf0 : Nat.beq f 0 with
      | true =>
        rw [hf0] at h hok
        have hok : (decide (kd = 2) && decide (lw_tbl[pp]? = some (.fieldLink (x_nm (x_mo j)) k "java/lang/String" "value" "[B"))) = true := hok
        simp only [Bool.and_eq_true, decide_eq_true_eq] at hok
        refine vk_getf hx hb hE.2.2.1 hS hown (hts _ (x_word hok.2 (x_good_fl _ _ _ _ _))) (fun _ h => h) hd ?_
        have h9 := h.2 A C H locs rls hAg hDy hS hLs (x_Sk.cons (fun q e => by cases e; exact Or.inr (Or.inr (Or.inr (Or.inl ⟨rfl, hi⟩)))) hSk.tail)
        rw [← (hA2 i hi).2]
        exact h9
      | false =>
        rw [hf0] at h hok
        have hok : decide (lw_tbl[pp]? = some (.fieldLink (x_nm (x_mo j)) k "java/lang/String" "coder" "B")) = true := hok
        simp only [decide_eq_true_eq] at hok
        refine vk_getf hx hb hE.2.1 hS hown (hts _ (x_word hok (x_good_fl _ _ _ _ _))) (fun _ h => h) hd ?_
        exact h.2 A C H locs rls hAg hDy hS hLs (x_Sk.i hSk.tail)
theorem x_h_put (cx : x_Cx p R s m args meth c D S0 Fm b adK adV xs L j d) (hI : x_In s D S0 Fm b adK adV xs L A0 j n0 ls st σ A C H locs rls) {k : Nat} (hd : decode (x_b j) pc = .ok (.putfield k, 3)) (h : x_pf False (x_KK p l e R s m args below meth c Q D S0 Fm b adK adV xs L A0 j n0 nM) j pc ls σ (x_look (x_fl (x_mo j)) k) st) : x_WW p l e R s m args below meth c Q n0 H locs σ.1 (F0 m pc rls (st.map (x_re A Fm))) := by
  obtain ⟨hx, hb, hml, hown, hts, hSt, hj, hini, hfr, hlo, hF⟩ := cx
  obtain ⟨hn, hAg, hDy, hS, hLs, hSk⟩ := hI
  cases hlk : x_look (x_fl (x_mo j)) k with
  | none => rw [hlk] at h; exact h.elim
  | some ent =>
    obtain ⟨ci, f, kd, pp⟩ := ent
    rw [hlk] at h
    unfold x_pf at h
    simp only [] at h
    have hok := List.all_eq_true.mp (x_fl_ok (x_mo j) (x_mo_lt hj)) _ (x_look_mem _ _ _ hlk)
    unfold x_flok at hok
    simp only [] at hok
    obtain ⟨hfin, h⟩ := x_bif_ff2 h
    have key : ∀ (v : XV) (g i : Nat) (r : List XV) (Z' : XZ) (R' : XR), st = v :: .inr (.inr (some (g, i))) :: r → (Nat.beq (x_sh g).1 0 && Nat.beq (x_sh g).2 ci) = true → narrow (x_yt ci f) (x_re A Fm v) = x_re A Fm v → fits (x_yt ci f) (x_re A Fm v) = true →
        (∀ q : Nat × Nat, q ≠ (g, i) → ∀ j, Z' q.1 q.2 j = σ.2.1 q.1 q.2 j) → (∀ q : Nat × Nat, q ≠ (g, i) → ∀ j, R' q.1 q.2 j = σ.2.2 q.1 q.2 j) → (∀ j q, R' g i j = some q → x_vh σ.1 q ∨ (σ.1 = x_NC ∧ x_s1 (g, i) ≤ j)) →
        x_fv A Fm (σ.1, (Z', R')) (g, i) ci f = x_re A Fm v → (∀ f', f' ≠ f → x_fv A Fm (σ.1, (Z', R')) (g, i) ci f' = x_fv A Fm σ (g, i) ci f') →
        x_KK p l e R s m args below meth c Q D S0 Fm b adK adV xs L A0 j n0 nM (pc + 3) ls r (σ.1, (Z', R')) → x_WW p l e R s m args below meth c Q n0 H locs σ.1 (F0 m pc rls (st.map (x_re A Fm))) := by
      intro v g i r Z' R' hst hb1 hnar hfit hZ hR hv hfv hfo hk
      subst hst
      rw [Bool.and_eq_true] at hb1
      have t1 := x_beq hb1.1
      have t2 := x_beq hb1.2
      obtain ⟨n, h1, h2, h3, h4⟩ := x_plc hDy hSk.tail.head (by omega)
      have hci : ci < 10 := by
        have := (x_tag (n := n) (by have := hDy.2.2.2.2.2.2.1; omega)).2
        rw [h2] at this
        rw [← t2]
        exact this t1
      rw [x_cell_obj t1 t2] at h3
      rw [show Nat.blt ci 10 = true from by rw [Nat.blt_eq]; exact hci] at hok
      have hok : (decide (f < x_N ci) && decide (lw_tbl[pp]? = some (.fieldLink (x_nm (x_mo j)) k (x_nm ci) (x_Tf ci f).2.1 (x_Tf ci f).2.2.1)) && decide ((kd = 2) = (x_isr (x_yt ci f) = true)) && decide ((kd = 1) = (x_yt ci f = .boolean)) && decide (kd = 2 ∨ x_yt ci f = .int ∨ x_yt ci f = .boolean)) = true := hok
      simp only [Bool.and_eq_true, decide_eq_true_eq] at hok
      obtain ⟨⟨⟨⟨f1, f2⟩, f3⟩, f4⟩, f5⟩ := hok
      have hlink := hts _ (x_word f2 (x_good_fl _ _ _ _ _))
      have hsame : ∀ x, s.fieldFound? (x_Tf ci f).1 (x_Tf ci f).2.1 (x_Tf ci f).2.2.1 = some x → s.fieldFound? (x_nm ci) (x_Tf ci f).2.1 (x_Tf ci f).2.2.1 = some x := by
        rw [(x_finok ci hci f f1).2]; exact fun _ h => h
      have ec : x_cell A Fm C (σ.1, (Z', R')) (x_q n) = .inr (ci, (x_fs A Fm σ (g, i) ci).set f (x_re A Fm v)) := by
        rw [h2, x_cell_obj t1 t2, x_fs_set f1 hfv hfo]
      have fin : ∀ (H1 : Heap) (locs1 : List Loc), va_P D x_cl ((x_wl A Fm C σ).set n (A (g, i), .inr (ci, (x_fs A Fm σ (g, i) ci).set f (x_re A Fm v)))) H1 → va_D (x_F S0) ((x_wl A Fm C σ).set n (A (g, i), .inr (ci, (x_fs A Fm σ (g, i) ci).set f (x_re A Fm v)))) → va_S (x_F S0) s.heap H1 locs1 → W p l e R s m args below meth c H1 locs1 (σ.1 - n0) (x_sz σ.1 - x_sz n0) Q (F0 m (pc + 3) rls (r.map (x_re A Fm))) := by
        intro H1 locs1 hP1 hD1 hS1
        refine hk.2 A C H1 locs1 rls hAg (hDy.set (n0 := n) h1 (fun q hq => hZ q (by rw [h2] at hq; exact hq)) (fun q hq => hR q (by rw [h2] at hq; exact hq)) (fun k q hq => by rw [h2] at hq ⊢; exact hv k q hq) ?_ ?_) hS1 hLs hSk.tail.tail
        · rw [ec, h2]; exact hP1
        · rw [ec, h2]; exact hD1
      show W _ _ _ _ _ _ _ _ _ _ _ _ _ _ _ (F0 m pc rls (x_re A Fm v :: x_re A Fm (.inr (.inr (some (g, i)))) :: r.map (x_re A Fm)))
      rw [x_ref h4]
      cases hfi : x_fin ci f with
      | false =>
        exact va_put (D := D) (C := x_nm ci) (T := x_Tf ci) (N := x_N ci) (v := x_re A Fm v) (ty := x_yt ci f) hx hb hts (x_lay hci) (x_yt ci) (x_tyok ci hci) (x_nmok ci hci) hown hSt.2.1 hDy.2.1 hDy.2.2.1 hS n h3 (x_cl_get hci) f f1 hlink hsame ((x_finok ci hci f f1).1.trans hfi) (x_tyok ci hci f f1) hnar hfit (by rw [x_fs_len]; exact f1) hd fin
      | true =>
        rw [hfi] at hfin
        have hfin : (x_mi j && Nat.beq (x_mo j) ci) = true := by
          cases hq : (x_mi j && Nat.beq (x_mo j) ci) with
          | true => rfl
          | false => rw [hq] at hfin; cases hfin
        rw [Bool.and_eq_true] at hfin
        have hmn : meth.name = "<init>" := hini (by rw [(x_m_ok hj).2.2.2.2.2.1]; exact hfin.1)
        have hmo := x_beq hfin.2
        exact va_putF (D := D) (C := x_nm ci) (T := x_Tf ci) (N := x_N ci) (v := x_re A Fm v) (ty := x_yt ci f) hx hb hts (x_lay hci) (x_yt ci) (x_tyok ci hci) (x_nmok ci hci) hown hSt.2.1 hDy.2.1 hDy.2.2.1 hS n h3 (x_cl_get hci) f f1 hlink hsame ((x_finok ci hci f f1).1.trans hfi) hmn (by rw [(x_finok ci hci f f1).2, hmo]) (x_tyok ci hci f f1) hnar hfit (by rw [x_fs_len]; exact f1) hd fin
    cases hk2 : Nat.beq kd 2 with
    | true =>
      rw [hk2] at h
      obtain ⟨q, r, hst, h⟩ := x_1q_ff h
      obtain ⟨g, i, r, hst9, h9⟩ := x_1r_ff h
      clear h
      subst hst9
      revert h9
      intro h
      obtain ⟨hb1, h⟩ := x_bif_ff h
      rw [Bool.and_eq_true] at hb1
      have hlow := hb1.2
      have e2 := x_beq hk2
      have hci : ci < 10 := by
        have hb2 := hb1.1
        rw [Bool.and_eq_true] at hb2
        subst hst
        obtain ⟨n, h1, h2, h3, h4⟩ := x_plc hDy hSk.tail.head (by rw [x_beq hb2.1]; omega)
        have := (x_tag (n := n) (by have := hDy.2.2.2.2.2.2.1; omega)).2
        rw [h2] at this
        rw [← x_beq hb2.2]
        exact this (x_beq hb2.1)
      have hr : x_isr (x_yt ci f) = true := by
        rw [show Nat.blt ci 10 = true from by rw [Nat.blt_eq]; exact hci] at hok
        have hok : (decide (f < x_N ci) && decide (lw_tbl[pp]? = some (.fieldLink (x_nm (x_mo j)) k (x_nm ci) (x_Tf ci f).2.1 (x_Tf ci f).2.2.1)) && decide ((kd = 2) = (x_isr (x_yt ci f) = true)) && decide ((kd = 1) = (x_yt ci f = .boolean)) && decide (kd = 2 ∨ x_yt ci f = .int ∨ x_yt ci f = .boolean)) = true := hok
        simp only [Bool.and_eq_true, decide_eq_true_eq] at hok
        rw [← hok.1.1.2]; exact e2
      have hvq : ∀ q', q = some q' → x_vh σ.1 q' := by
        intro q' hq
        subst hst
        have := hSk.head q' (by rw [hq])
        rcases this with h9 | h9
        · exact h9
        · rw [hq] at hlow
          obtain ⟨a9, b9⟩ := q'
          have : a9 < 900 := by
            have h0 : Nat.blt a9 900 = true := hlow
            rw [Nat.blt_eq] at h0
            exact h0
          rcases h9 with h9 | ⟨h9, -⟩ | ⟨h9, -⟩ | h9
          · cases h9; omega
          · have h9 : a9 = 901 := h9; omega
          · have h9 : a9 = 902 := h9; omega
          · cases h9; omega
      have hval : ∃ y : Option Nat, x_re A Fm (.inr (.inr q)) = va_rf y := by
        cases q with
        | none => exact ⟨none, rfl⟩
        | some q' => exact ⟨some (A q'), x_ref (x_refh hDy (hvq q' rfl))⟩
      obtain ⟨y, hy⟩ := hval
      refine key (.inr (.inr q)) g i r σ.2.1 (x_ur σ.2.2 g i f q) hst hb1.1 ?_ ?_ (fun _ _ _ => rfl) (fun q9 h9 k9 => x_ur_o h9 k9) ?_ ?_ ?_ h
      · rw [hy]
        revert hr
        cases x_yt ci f <;> intro hr <;> first | (cases hr; done) | (cases y <;> rfl)
      · rw [hy]
        revert hr
        cases x_yt ci f <;> intro hr <;> first | (cases hr; done) | (cases y <;> rfl)
      · intro k9 q9 h9
        by_cases e9 : k9 = f
        · subst e9
          rw [x_ur_at] at h9
          exact Or.inl (hvq q9 h9)
        · rw [x_ur_ne (fun w => e9 w.2.2)] at h9
          subst hst
          have hb2 := hb1.1
          rw [Bool.and_eq_true] at hb2
          obtain ⟨n, h1, h2, h3, h4⟩ := x_plc hDy hSk.tail.head (by rw [x_beq hb2.1]; omega)
          have h8 := hDy.2.2.2.1 n h1 k9 q9 (by rw [h2]; exact h9)
          rw [h2] at h8
          exact h8
      · rw [x_fv_r hr]
        show x_re A Fm (.inr (.inr (x_ur σ.2.2 g i f q g i f))) = _
        rw [x_ur_at]
      · intro f' hf'
        unfold x_fv
        show (if _ then x_re A Fm (.inr (.inr (x_ur σ.2.2 g i f q g i f'))) else _) = _
        rw [x_ur_ne (fun w => hf' w.2.2)]
    | false =>
      rw [hk2] at h
      obtain ⟨v, r, hst, h⟩ := x_1i_ff h
      obtain ⟨g, i, r, hst9, h9⟩ := x_1r_ff h
      clear h
      subst hst9
      revert h9
      intro h
      obtain ⟨hb1, h⟩ := x_bif_ff h
      have hci : ci < 10 := by
        have hb2 := hb1
        rw [Bool.and_eq_true] at hb2
        subst hst
        obtain ⟨n, h1, h2, h3, h4⟩ := x_plc hDy hSk.tail.head (by rw [x_beq hb2.1]; omega)
        have := (x_tag (n := n) (by have := hDy.2.2.2.2.2.2.1; omega)).2
        rw [h2] at this
        rw [← x_beq hb2.2]
        exact this (x_beq hb2.1)
      have hok2 := hok
      rw [show Nat.blt ci 10 = true from by rw [Nat.blt_eq]; exact hci] at hok2
      have hok2 : (decide (f < x_N ci) && decide (lw_tbl[pp]? = some (.fieldLink (x_nm (x_mo j)) k (x_nm ci) (x_Tf ci f).2.1 (x_Tf ci f).2.2.1)) && decide ((kd = 2) = (x_isr (x_yt ci f) = true)) && decide ((kd = 1) = (x_yt ci f = .boolean)) && decide (kd = 2 ∨ x_yt ci f = .int ∨ x_yt ci f = .boolean)) = true := hok2
      simp only [Bool.and_eq_true, decide_eq_true_eq] at hok2
      obtain ⟨⟨⟨⟨f1, f2⟩, f3⟩, f4⟩, f5⟩ := hok2
      have hkd : kd ≠ 2 := fun q => by rw [q] at hk2; cases hk2
      have hr : x_isr (x_yt ci f) ≠ true := fun q => hkd (by rw [f3]; exact q)
      have hv1 : x_yt ci f = .boolean → (v = 0 ∨ v = 1) ∧ x_KK p l e R s m args below meth c Q D S0 Fm b adK adV xs L A0 j n0 nM (pc + 3) ls r (σ.1, (x_u σ.2.1 g i f v, σ.2.2)) := by
        intro hty
        have e1 : kd = 1 := by rw [f4]; exact hty
        rw [e1] at h
        exact x_ite_ff h
      have hkk : x_KK p l e R s m args below meth c Q D S0 Fm b adK adV xs L A0 j n0 nM (pc + 3) ls r (σ.1, (x_u σ.2.1 g i f v, σ.2.2)) := by
        by_cases hty : x_yt ci f = .boolean
        · exact (hv1 hty).2
        · cases hq : Nat.beq kd 1 with
          | true => exact absurd (by rw [← f4]; exact x_beq hq) hty
          | false => rw [hq] at h; exact h
      refine key (.inl v) g i r (x_u σ.2.1 g i f v) σ.2.2 hst hb1 ?_ ?_ (fun q9 h9 k9 => x_u_o h9 k9) (fun _ _ _ => rfl) ?_ ?_ ?_ hkk
      · rcases f5 with q | q | q
        · exact absurd q hkd
        · rw [q]; rfl
        · rw [q]
          rcases (hv1 q).1 with rfl | rfl <;> rfl
      · rcases f5 with q | q | q
        · exact absurd q hkd
        · rw [q]; rfl
        · rw [q]
          rcases (hv1 q).1 with rfl | rfl <;> rfl
      · intro k9 q9 h9
        subst hst
        have hb2 := hb1
        rw [Bool.and_eq_true] at hb2
        obtain ⟨n, h1, h2, h3, h4⟩ := x_plc hDy hSk.tail.head (by rw [x_beq hb2.1]; omega)
        have h8 := hDy.2.2.2.1 n h1 k9 q9 (by rw [h2]; exact h9)
        rw [h2] at h8
        exact h8
      · rw [x_fv_i hr]
        show Value.int (Int32.ofInt (x_u σ.2.1 g i f v g i f)) = _
        rw [x_u_at]
        rfl
      · intro f' hf'
        unfold x_fv
        show (if _ then _ else Value.int (Int32.ofInt (x_u σ.2.1 g i f v g i f'))) = _
        rw [x_u_ne (fun w => hf' w.2.2)]
end
