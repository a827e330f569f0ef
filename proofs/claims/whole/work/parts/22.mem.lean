/-! loads and stores -/
section
variable {p : Program} {l : Launch} {e : Env} {R : Room} {s : State} {m : MethodId} {args : Array Value} {below : List Frame} {meth : Method} {c : Code} {Q : State → Prop} {D : va_G} {S0 : Nat} {Fm : Value} {b : Nat} {adK adV : Nat → Nat} {xs : Nat → Int32} {L : Nat} {A0 : XAd} {j n0 nM d : Nat}
variable {pc : Nat} {ls : XL} {st : List XV} {σ : XH} {A : XAd} {C : XCd} {H : Heap} {locs : List Loc} {rls : Array Slot}
theorem x_plc (hDy : x_Dy D S0 Fm b adK adV xs L A C σ s H) {g i : Nat} (hv : x_okv σ.1 (.inr (.inr (some (g, i))))) (ht : (x_sh g).1 ≤ 5) : ∃ n, n < σ.1 ∧ x_q n = (g, i) ∧ (x_wl A Fm C σ)[n]? = some (A (g, i), x_cell A Fm C σ (g, i)) ∧ g < 900 := by
  obtain ⟨n, h1, h2⟩ := x_vl_low (hv (g, i) rfl) ht
  refine ⟨n, h1, h2, ?_, ?_⟩
  · have := x_wl_get A Fm C σ h1
    rwa [h2] at this
  · have := x_q_lt (n := n) (by have := hDy.2.2.2.2.2.2.1; omega)
    rw [h2] at this
    exact this
theorem x_alen {Z : XZ} {g i : Nat} (h : (x_sh g).1 ≤ 5) : x_al Z g i = (x_sh g).2 := by
  unfold x_al
  have h1 : Nat.beq (x_sh g).1 8 = false := by
    cases hb : Nat.beq (x_sh g).1 8 with
    | false => rfl
    | true => have := x_beq hb; omega
  have h2 : Nat.beq (x_sh g).1 7 = false := by
    cases hb : Nat.beq (x_sh g).1 7 with
    | false => rfl
    | true => have := x_beq hb; omega
  rw [h1, h2]
  rfl
theorem x_h_iald (cx : x_Cx p R s m args meth c D S0 Fm b adK adV xs L j d) (hI : x_In s D S0 Fm b adK adV xs L A0 j n0 ls st σ A C H locs rls) (hd : decode (x_b j) pc = .ok (.iaload, 1)) {z : Int} {g i : Nat} {r : List XV} (hst : st = .inl z :: .inr (.inr (some (g, i))) :: r) (ht : (x_sh g).1 = 1) (h : if 0 ≤ cn z ∧ cn z < (x_al σ.2.1 g i : Int) then x_KK p l e R s m args below meth c Q D S0 Fm b adK adV xs L A0 j n0 nM (pc + 1) ls (.inl (σ.2.1 g i (cn z).toNat) :: r) σ else False) : x_WW p l e R s m args below meth c Q n0 H locs σ.1 (F0 m pc rls (st.map (x_re A Fm))) := by
  obtain ⟨hx, hb, hml, hown, hts, hSt, hj, hini, hfr, hlo, hF⟩ := cx
  obtain ⟨hn, hAg, hDy, hS, hLs, hSk⟩ := hI
  subst hst
  obtain ⟨hg, hk⟩ := x_ite_ff h
  obtain ⟨n, h1, h2, h3, h4⟩ := x_plc hDy hSk.tail.head (by omega)
  rw [x_alen (by omega)] at hg
  rw [x_cell_i (Or.inl ht)] at h3
  have ha := hDy.1 n h1 (by rw [h2]; show (x_sh g).1 ≠ 0; omega)
  rw [h2, show (x_sh ((g, i) : Nat × Nat).1).1 = 1 from ht] at ha
  have h5 := hk.2 A C H locs rls hAg hDy hS hLs (x_Sk.i hSk.tail.tail)
  have h6 := va_iald hx hb (x_K1 hSt.2.1 ha) hDy.2.1 n 0 h3 rfl (i := Int32.ofInt z) (n_in.mpr hg) hd (pc := pc) (ls := rls) (rest := r.map (x_re A Fm)) (p := p) (l := l) (e := e) (R := R) (m := m) (args := args) (below := below) (meth := meth) (locs := locs) (cells := σ.1 - n0) (slots := x_sz σ.1 - x_sz n0) (Q := Q)
  rw [n_cl] at h6
  show W _ _ _ _ _ _ _ _ _ _ _ _ _ _ _ (F0 m pc rls (.int (Int32.ofInt z) :: x_re A Fm (.inr (.inr (some (g, i)))) :: r.map (x_re A Fm)))
  rw [x_ref h4]
  exact h6 h5
theorem x_h_bald (cx : x_Cx p R s m args meth c D S0 Fm b adK adV xs L j d) (hI : x_In s D S0 Fm b adK adV xs L A0 j n0 ls st σ A C H locs rls) (hd : decode (x_b j) pc = .ok (.baload, 1)) {z : Int} {g i : Nat} {r : List XV} (hst : st = .inl z :: .inr (.inr (some (g, i))) :: r) (ht : (x_sh g).1 = 2) (h : if 0 ≤ cn z ∧ cn z < (x_al σ.2.1 g i : Int) then x_KK p l e R s m args below meth c Q D S0 Fm b adK adV xs L A0 j n0 nM (pc + 1) ls (.inl (σ.2.1 g i (cn z).toNat) :: r) σ else False) : x_WW p l e R s m args below meth c Q n0 H locs σ.1 (F0 m pc rls (st.map (x_re A Fm))) := by
  obtain ⟨hx, hb, hml, hown, hts, hSt, hj, hini, hfr, hlo, hF⟩ := cx
  obtain ⟨hn, hAg, hDy, hS, hLs, hSk⟩ := hI
  subst hst
  obtain ⟨hg, hk⟩ := x_ite_ff h
  obtain ⟨n, h1, h2, h3, h4⟩ := x_plc hDy hSk.tail.head (by omega)
  rw [x_alen (by omega)] at hg
  rw [x_cell_i (Or.inr (Or.inl ht))] at h3
  have ha := hDy.1 n h1 (by rw [h2]; show (x_sh g).1 ≠ 0; omega)
  rw [h2, show (x_sh ((g, i) : Nat × Nat).1).1 = 2 from ht] at ha
  have h5 := hk.2 A C H locs rls hAg hDy hS hLs (x_Sk.i hSk.tail.tail)
  have h6 := va_bald hx hb (x_K1 hSt.2.1 ha) hDy.2.1 n 0 h3 rfl (i := Int32.ofInt z) (n_in.mpr hg) hd (pc := pc) (ls := rls) (rest := r.map (x_re A Fm)) (p := p) (l := l) (e := e) (R := R) (m := m) (args := args) (below := below) (meth := meth) (locs := locs) (cells := σ.1 - n0) (slots := x_sz σ.1 - x_sz n0) (Q := Q)
  rw [n_cl] at h6
  show W _ _ _ _ _ _ _ _ _ _ _ _ _ _ _ (F0 m pc rls (.int (Int32.ofInt z) :: x_re A Fm (.inr (.inr (some (g, i)))) :: r.map (x_re A Fm)))
  rw [x_ref h4]
  exact h6 h5
theorem x_h_zald (cx : x_Cx p R s m args meth c D S0 Fm b adK adV xs L j d) (hI : x_In s D S0 Fm b adK adV xs L A0 j n0 ls st σ A C H locs rls) (hd : decode (x_b j) pc = .ok (.baload, 1)) {z : Int} {g i : Nat} {r : List XV} (hst : st = .inl z :: .inr (.inr (some (g, i))) :: r) (ht : (x_sh g).1 = 3) (h : if 0 ≤ cn z ∧ cn z < (x_al σ.2.1 g i : Int) then x_KK p l e R s m args below meth c Q D S0 Fm b adK adV xs L A0 j n0 nM (pc + 1) ls (.inl (σ.2.1 g i (cn z).toNat) :: r) σ else False) : x_WW p l e R s m args below meth c Q n0 H locs σ.1 (F0 m pc rls (st.map (x_re A Fm))) := by
  obtain ⟨hx, hb, hml, hown, hts, hSt, hj, hini, hfr, hlo, hF⟩ := cx
  obtain ⟨hn, hAg, hDy, hS, hLs, hSk⟩ := hI
  subst hst
  obtain ⟨hg, hk⟩ := x_ite_ff h
  obtain ⟨n, h1, h2, h3, h4⟩ := x_plc hDy hSk.tail.head (by omega)
  rw [x_alen (by omega)] at hg
  rw [x_cell_i (Or.inr (Or.inr ht))] at h3
  have ha := hDy.1 n h1 (by rw [h2]; show (x_sh g).1 ≠ 0; omega)
  rw [h2, show (x_sh ((g, i) : Nat × Nat).1).1 = 3 from ht] at ha
  have h5 := hk.2 A C H locs rls hAg hDy hS hLs (x_Sk.i hSk.tail.tail)
  have h6 := va_zald hx hb (x_K1 hSt.2.1 ha) hDy.2.1 n 0 h3 rfl (i := Int32.ofInt z) (n_in.mpr hg) hd (pc := pc) (ls := rls) (rest := r.map (x_re A Fm)) (p := p) (l := l) (e := e) (R := R) (m := m) (args := args) (below := below) (meth := meth) (locs := locs) (cells := σ.1 - n0) (slots := x_sz σ.1 - x_sz n0) (Q := Q)
  rw [n_cl] at h6
  show W _ _ _ _ _ _ _ _ _ _ _ _ _ _ _ (F0 m pc rls (.int (Int32.ofInt z) :: x_re A Fm (.inr (.inr (some (g, i)))) :: r.map (x_re A Fm)))
  rw [x_ref h4]
  exact h6 h5
theorem x_h_lald (cx : x_Cx p R s m args meth c D S0 Fm b adK adV xs L j d) (hI : x_In s D S0 Fm b adK adV xs L A0 j n0 ls st σ A C H locs rls) (hd : decode (x_b j) pc = .ok (.laload, 1)) {z : Int} {g i : Nat} {r : List XV} (hst : st = .inl z :: .inr (.inr (some (g, i))) :: r) (ht : (x_sh g).1 = 4) (h : if 0 ≤ cn z ∧ cn z < (x_al σ.2.1 g i : Int) then x_KK p l e R s m args below meth c Q D S0 Fm b adK adV xs L A0 j n0 nM (pc + 1) ls (.inr (.inl (σ.2.1 g i (cn z).toNat)) :: r) σ else False) : x_WW p l e R s m args below meth c Q n0 H locs σ.1 (F0 m pc rls (st.map (x_re A Fm))) := by
  obtain ⟨hx, hb, hml, hown, hts, hSt, hj, hini, hfr, hlo, hF⟩ := cx
  obtain ⟨hn, hAg, hDy, hS, hLs, hSk⟩ := hI
  subst hst
  obtain ⟨hg, hk⟩ := x_ite_ff h
  obtain ⟨n, h1, h2, h3, h4⟩ := x_plc hDy hSk.tail.head (by omega)
  rw [x_alen (by omega)] at hg
  rw [x_cell_l ht] at h3
  have ha := hDy.1 n h1 (by rw [h2]; show (x_sh g).1 ≠ 0; omega)
  rw [h2, show (x_sh ((g, i) : Nat × Nat).1).1 = 4 from ht] at ha
  have h5 := hk.2 A C H locs rls hAg hDy hS hLs (x_Sk.l hSk.tail.tail)
  have h6 := va_lald hx hb (x_K1 hSt.2.1 ha) hDy.2.1 n 0 h3 rfl (i := Int32.ofInt z) (n_in.mpr hg) hd (pc := pc) (ls := rls) (rest := r.map (x_re A Fm)) (p := p) (l := l) (e := e) (R := R) (m := m) (args := args) (below := below) (meth := meth) (locs := locs) (cells := σ.1 - n0) (slots := x_sz σ.1 - x_sz n0) (Q := Q)
  rw [n_cl] at h6
  show W _ _ _ _ _ _ _ _ _ _ _ _ _ _ _ (F0 m pc rls (.int (Int32.ofInt z) :: x_re A Fm (.inr (.inr (some (g, i)))) :: r.map (x_re A Fm)))
  rw [x_ref h4]
  exact h6 h5
theorem x_h_aald (cx : x_Cx p R s m args meth c D S0 Fm b adK adV xs L j d) (hI : x_In s D S0 Fm b adK adV xs L A0 j n0 ls st σ A C H locs rls) (hd : decode (x_b j) pc = .ok (.aaload, 1)) {z : Int} {g i : Nat} {r : List XV} (hst : st = .inl z :: .inr (.inr (some (g, i))) :: r) (ht : (x_sh g).1 = 5) (h : if 0 ≤ cn z ∧ cn z < (x_al σ.2.1 g i : Int) then x_KK p l e R s m args below meth c Q D S0 Fm b adK adV xs L A0 j n0 nM (pc + 1) ls (.inr (.inr (σ.2.2 g i (cn z).toNat)) :: r) σ else False) : x_WW p l e R s m args below meth c Q n0 H locs σ.1 (F0 m pc rls (st.map (x_re A Fm))) := by
  obtain ⟨hx, hb, hml, hown, hts, hSt, hj, hini, hfr, hlo, hF⟩ := cx
  obtain ⟨hn, hAg, hDy, hS, hLs, hSk⟩ := hI
  subst hst
  obtain ⟨hg, hk⟩ := x_ite_ff h
  obtain ⟨n, h1, h2, h3, h4⟩ := x_plc hDy hSk.tail.head (by omega)
  rw [x_alen (by omega)] at hg
  rw [x_cell_q ht] at h3
  have ha := hDy.1 n h1 (by rw [h2]; show (x_sh g).1 ≠ 0; omega)
  rw [h2, show (x_sh ((g, i) : Nat × Nat).1).1 = 5 from ht] at ha
  have hlt : (cn z).toNat < x_s1 (x_q n) := by
    unfold x_s1
    rw [h2, if_neg (by show (x_sh g).1 ≠ 0; omega)]
    show (cn z).toNat < (x_sh g).2
    omega
  have ho := x_okq hDy h1 hlt
  have hr := x_refq hDy h1 hlt
  rw [h2] at ho hr
  have h5 := hk.2 A C H locs rls hAg hDy hS hLs (x_Sk.cons ho hSk.tail.tail)
  rw [List.map_cons, ← hr] at h5
  have h6 := va_aldq (C := "LostBuyer$State") hx hb (x_K1 hSt.2.1 ha) hDy.2.1 n 0 h3 rfl (i := Int32.ofInt z) (n_in.mpr hg) hd (pc := pc) (ls := rls) (rest := r.map (x_re A Fm)) (p := p) (l := l) (e := e) (R := R) (m := m) (args := args) (below := below) (meth := meth) (locs := locs) (cells := σ.1 - n0) (slots := x_sz σ.1 - x_sz n0) (Q := Q)
  rw [n_cl] at h6
  show W _ _ _ _ _ _ _ _ _ _ _ _ _ _ _ (F0 m pc rls (.int (Int32.ofInt z) :: x_re A Fm (.inr (.inr (some (g, i)))) :: r.map (x_re A Fm)))
  rw [x_ref h4]
  exact h6 h5
theorem x_h_sald (cx : x_Cx p R s m args meth c D S0 Fm b adK adV xs L j d) (hI : x_In s D S0 Fm b adK adV xs L A0 j n0 ls st σ A C H locs rls) (hd : decode (x_b j) pc = .ok (.iaload, 1)) {z : Int} {g i : Nat} {r : List XV} (hst : st = .inl z :: .inr (.inr (some (g, i))) :: r) (ht : (x_sh g).1 = 8) (h : if σ.2.1 2000 0 1 = 1 then (if 0 ≤ cn z ∧ cn z < (x_al σ.2.1 g i : Int) then x_KK p l e R s m args below meth c Q D S0 Fm b adK adV xs L A0 j n0 nM (pc + 1) ls (.inl (σ.2.1 g i (cn z).toNat) :: r) σ else False) else False) : x_WW p l e R s m args below meth c Q n0 H locs σ.1 (F0 m pc rls (st.map (x_re A Fm))) := by
  obtain ⟨hx, hb, hml, hown, hts, hSt, hj, hini, hfr, hlo, hF⟩ := cx
  obtain ⟨hn, hAg, hDy, hS, hLs, hSk⟩ := hI
  subst hst
  obtain ⟨hfl, h⟩ := x_ite_ff h
  obtain ⟨hg, hk⟩ := x_ite_ff h
  have h8 := x_vl_8 hDy.2.2.2.2.2.2.1 (hSk.tail.head (g, i) rfl) ht
  cases h8
  obtain ⟨-, -, -, -, -, hLL, -, ⟨hA1, -⟩⟩ := id hDy
  obtain ⟨hL1, hL2⟩ := hLL hfl
  have hl : (x_al σ.2.1 900 0 : Int) = (L : Int) := by
    show (((σ.2.1 2000 0 0).toNat : Nat) : Int) = _
    rw [hL1]; rfl
  rw [hl] at hg
  have hz : (cn z).toNat < L := by omega
  have h5 := hk.2 A C H locs rls hAg hDy hS hLs (x_Sk.i hSk.tail.tail)
  obtain ⟨s1, -, -, -, -, -, -, -, -, s10, s11⟩ := hSt
  have h6 := va_sld (A := x_F S0) hx hb s10 (by omega) (show ¬ S0 ≤ b by omega) hS (i := Int32.ofInt z) (n_in.mpr hg) hd (pc := pc) (ls := rls) (rest := r.map (x_re A Fm)) (p := p) (l := l) (e := e) (R := R) (m := m) (args := args) (below := below) (meth := meth) (cells := σ.1 - n0) (slots := x_sz σ.1 - x_sz n0) (Q := Q)
  rw [n_cl, show xs (cn z).toNat = Int32.ofInt (σ.2.1 900 0 (cn z).toNat) by rw [hL2 _ hz, Int32.ofInt_toInt]] at h6
  show W _ _ _ _ _ _ _ _ _ _ _ _ _ _ _ (F0 m pc rls (.int (Int32.ofInt z) :: .ref (A (900, 0)) :: r.map (x_re A Fm)))
  rw [hA1]
  exact h6 h5
theorem x_txt {i : Nat} (hi : i < 2) : x_tn.getD i 0 = (x_tx i).length ∧ ∀ k, k < (x_tx i).length → (x_tb.getD i []).getD k 0 = Int32.ofInt ((x_tx i).getD k 0) := by
  rcases (show i = 0 ∨ i = 1 by omega) with rfl | rfl
  · refine ⟨rfl, fun k hk => ?_⟩
    show ((x_tx 0).map Int32.ofInt).getD k 0 = _
    simp [List.getD_eq_getElem?_getD, List.getElem?_map, List.getElem?_eq_getElem hk]
  · refine ⟨rfl, fun k hk => ?_⟩
    show ((x_tx 1).map Int32.ofInt).getD k 0 = _
    simp [List.getD_eq_getElem?_getD, List.getElem?_map, List.getElem?_eq_getElem hk]
theorem x_h_tald (cx : x_Cx p R s m args meth c D S0 Fm b adK adV xs L j d) (hI : x_In s D S0 Fm b adK adV xs L A0 j n0 ls st σ A C H locs rls) (hd : decode (x_b j) pc = .ok (.baload, 1)) {z : Int} {g i : Nat} {r : List XV} (hst : st = .inl z :: .inr (.inr (some (g, i))) :: r) (ht : (x_sh g).1 = 7) (h : if 0 ≤ cn z ∧ cn z < (x_al σ.2.1 g i : Int) then x_KK p l e R s m args below meth c Q D S0 Fm b adK adV xs L A0 j n0 nM (pc + 1) ls (.inl ((x_tx i).getD (cn z).toNat 0) :: r) σ else False) : x_WW p l e R s m args below meth c Q n0 H locs σ.1 (F0 m pc rls (st.map (x_re A Fm))) := by
  obtain ⟨hx, hb, hml, hown, hts, hSt, hj, hini, hfr, hlo, hF⟩ := cx
  obtain ⟨hn, hAg, hDy, hS, hLs, hSk⟩ := hI
  subst hst
  obtain ⟨hg, hk⟩ := x_ite_ff h
  obtain ⟨h8, hi⟩ := x_vl_7 hDy.2.2.2.2.2.2.1 (hSk.tail.head (g, i) rfl) ht
  have h8 : g = 902 := h8
  have hi : i < 2 := hi
  subst h8
  obtain ⟨-, -, -, -, -, -, -, ⟨-, hA2⟩⟩ := id hDy
  have hl : (x_al σ.2.1 902 i : Int) = ((x_tx i).length : Int) := rfl
  rw [hl] at hg
  have hz : (cn z).toNat < (x_tx i).length := by omega
  have h5 := hk.2 A C H locs rls hAg hDy hS hLs (x_Sk.i hSk.tail.tail)
  obtain ⟨-, -, -, -, -, -, s7, -⟩ := hSt
  have hT := (s7.1 i hi).2.2.2
  rw [(x_txt hi).1] at hT
  show W _ _ _ _ _ _ _ _ _ _ _ _ _ _ _ (F0 m pc rls (.int (Int32.ofInt z) :: .ref (A (902, i)) :: r.map (x_re A Fm)))
  rw [(hA2 i hi).2]
  refine va_tb hx hb hT hS (n_in.mpr hg) (v := .int (Int32.ofInt ((x_tx i).getD (cn z).toNat 0))) ?_ hd h5
  show Value.int ((x_tb.getD i []).getD (Int32.ofInt z).toNatClampNeg 0) = _
  rw [n_cl, (x_txt hi).2 _ hz]
theorem x_h_iast (cx : x_Cx p R s m args meth c D S0 Fm b adK adV xs L j d) (hI : x_In s D S0 Fm b adK adV xs L A0 j n0 ls st σ A C H locs rls) (hd : decode (x_b j) pc = .ok (.iastore, 1)) {v z : Int} {g i : Nat} {r : List XV} (hst : st = .inl v :: .inl z :: .inr (.inr (some (g, i))) :: r) (ht : (x_sh g).1 = 1) (h : if 0 ≤ cn z ∧ cn z < (x_al σ.2.1 g i : Int) then x_KK p l e R s m args below meth c Q D S0 Fm b adK adV xs L A0 j n0 nM (pc + 1) ls r (σ.1, (x_u σ.2.1 g i (cn z).toNat v, σ.2.2)) else False) : x_WW p l e R s m args below meth c Q n0 H locs σ.1 (F0 m pc rls (st.map (x_re A Fm))) := by
  obtain ⟨hx, hb, hml, hown, hts, hSt, hj, hini, hfr, hlo, hF⟩ := cx
  obtain ⟨hn, hAg, hDy, hS, hLs, hSk⟩ := hI
  subst hst
  obtain ⟨hg, hk⟩ := x_ite_ff h
  obtain ⟨n, h1, h2, h3, h4⟩ := x_plc hDy hSk.tail.tail.head (by omega)
  rw [x_alen (by omega)] at hg
  rw [x_cell_i (Or.inl ht)] at h3
  have ha := hDy.1 n h1 (by rw [h2]; show (x_sh g).1 ≠ 0; omega)
  rw [h2, show (x_sh ((g, i) : Nat × Nat).1).1 = 1 from ht] at ha
  have h6 := va_iast hx hb (x_K1 hSt.2.1 ha) hDy.2.1 hDy.2.2.1 hS n 0 h3 rfl (i := Int32.ofInt z) (x := Int32.ofInt v) (n_in.mpr hg) hd (pc := pc) (ls := rls) (rest := r.map (x_re A Fm)) (p := p) (l := l) (e := e) (R := R) (m := m) (args := args) (below := below) (meth := meth) (cells := σ.1 - n0) (slots := x_sz σ.1 - x_sz n0) (Q := Q)
  show W _ _ _ _ _ _ _ _ _ _ _ _ _ _ _ (F0 m pc rls (.int (Int32.ofInt v) :: .int (Int32.ofInt z) :: x_re A Fm (.inr (.inr (some (g, i)))) :: r.map (x_re A Fm)))
  rw [x_ref h4]
  refine h6 (fun H1 locs1 hP1 hD1 hS1 => ?_)
  rw [n_cl] at hP1 hD1
  have ec : x_cell A Fm C (σ.1, (x_u σ.2.1 g i (cn z).toNat v, σ.2.2)) (g, i) = .inl (C (g, i), (x_sh g).2, .inl (upd (fun k => Int32.ofInt (σ.2.1 g i k)) (cn z).toNat (Int32.ofInt v))) := by
    rw [x_cell_i (Or.inl ht)]
    rw [x_upd (g := fun k => Int32.ofInt (x_u σ.2.1 g i (cn z).toNat v g i k)) (by rw [x_u_at]) (fun k hk => by rw [x_u_ne (fun q => hk q.2.2)])]
  refine hk.2 A C H1 locs1 rls hAg (hDy.set (n0 := n) h1 (fun q hq k => by rw [h2] at hq; exact x_u_o hq k) (fun _ _ _ => rfl) (fun k q hq => hDy.2.2.2.1 n h1 k q hq) ?_ ?_) hS1 hLs hSk.tail.tail.tail
  · rw [h2, ec]; exact hP1
  · rw [h2, ec]; exact hD1
theorem x_h_bast (cx : x_Cx p R s m args meth c D S0 Fm b adK adV xs L j d) (hI : x_In s D S0 Fm b adK adV xs L A0 j n0 ls st σ A C H locs rls) (hd : decode (x_b j) pc = .ok (.bastore, 1)) {v z : Int} {g i : Nat} {r : List XV} (hst : st = .inl v :: .inl z :: .inr (.inr (some (g, i))) :: r) (ht : (x_sh g).1 = 2) (h : if 0 ≤ cn z ∧ cn z < (x_al σ.2.1 g i : Int) then x_KK p l e R s m args below meth c Q D S0 Fm b adK adV xs L A0 j n0 nM (pc + 1) ls r (σ.1, (x_u σ.2.1 g i (cn z).toNat (x_i2b v), σ.2.2)) else False) : x_WW p l e R s m args below meth c Q n0 H locs σ.1 (F0 m pc rls (st.map (x_re A Fm))) := by
  obtain ⟨hx, hb, hml, hown, hts, hSt, hj, hini, hfr, hlo, hF⟩ := cx
  obtain ⟨hn, hAg, hDy, hS, hLs, hSk⟩ := hI
  subst hst
  obtain ⟨hg, hk⟩ := x_ite_ff h
  obtain ⟨n, h1, h2, h3, h4⟩ := x_plc hDy hSk.tail.tail.head (by omega)
  rw [x_alen (by omega)] at hg
  rw [x_cell_i (Or.inr (Or.inl ht))] at h3
  have ha := hDy.1 n h1 (by rw [h2]; show (x_sh g).1 ≠ 0; omega)
  rw [h2, show (x_sh ((g, i) : Nat × Nat).1).1 = 2 from ht] at ha
  have h6 := va_bast hx hb (x_K1 hSt.2.1 ha) hDy.2.1 hDy.2.2.1 hS n 0 h3 rfl (i := Int32.ofInt z) (x := Int32.ofInt v) (n_in.mpr hg) hd (pc := pc) (ls := rls) (rest := r.map (x_re A Fm)) (p := p) (l := l) (e := e) (R := R) (m := m) (args := args) (below := below) (meth := meth) (cells := σ.1 - n0) (slots := x_sz σ.1 - x_sz n0) (Q := Q)
  show W _ _ _ _ _ _ _ _ _ _ _ _ _ _ _ (F0 m pc rls (.int (Int32.ofInt v) :: .int (Int32.ofInt z) :: x_re A Fm (.inr (.inr (some (g, i)))) :: r.map (x_re A Fm)))
  rw [x_ref h4]
  refine h6 (fun H1 locs1 hP1 hD1 hS1 => ?_)
  rw [n_cl, n_byte] at hP1 hD1
  have ec : x_cell A Fm C (σ.1, (x_u σ.2.1 g i (cn z).toNat (x_i2b v), σ.2.2)) (g, i) = .inl (C (g, i), (x_sh g).2, .inl (upd (fun k => Int32.ofInt (σ.2.1 g i k)) (cn z).toNat (Int32.ofInt (x_i2b v)))) := by
    rw [x_cell_i (Or.inr (Or.inl ht))]
    rw [x_upd (g := fun k => Int32.ofInt (x_u σ.2.1 g i (cn z).toNat (x_i2b v) g i k)) (by rw [x_u_at]) (fun k hk => by rw [x_u_ne (fun q => hk q.2.2)])]
  refine hk.2 A C H1 locs1 rls hAg (hDy.set (n0 := n) h1 (fun q hq k => by rw [h2] at hq; exact x_u_o hq k) (fun _ _ _ => rfl) (fun k q hq => hDy.2.2.2.1 n h1 k q hq) ?_ ?_) hS1 hLs hSk.tail.tail.tail
  · rw [h2, ec]; exact hP1
  · rw [h2, ec]; exact hD1
theorem x_h_zast (cx : x_Cx p R s m args meth c D S0 Fm b adK adV xs L j d) (hI : x_In s D S0 Fm b adK adV xs L A0 j n0 ls st σ A C H locs rls) (hd : decode (x_b j) pc = .ok (.bastore, 1)) {v z : Int} {g i : Nat} {r : List XV} (hst : st = .inl v :: .inl z :: .inr (.inr (some (g, i))) :: r) (ht : (x_sh g).1 = 3) (h : if 0 ≤ cn z ∧ cn z < (x_al σ.2.1 g i : Int) then x_KK p l e R s m args below meth c Q D S0 Fm b adK adV xs L A0 j n0 nM (pc + 1) ls r (σ.1, (x_u σ.2.1 g i (cn z).toNat (v % 2), σ.2.2)) else False) : x_WW p l e R s m args below meth c Q n0 H locs σ.1 (F0 m pc rls (st.map (x_re A Fm))) := by
  obtain ⟨hx, hb, hml, hown, hts, hSt, hj, hini, hfr, hlo, hF⟩ := cx
  obtain ⟨hn, hAg, hDy, hS, hLs, hSk⟩ := hI
  subst hst
  obtain ⟨hg, hk⟩ := x_ite_ff h
  obtain ⟨n, h1, h2, h3, h4⟩ := x_plc hDy hSk.tail.tail.head (by omega)
  rw [x_alen (by omega)] at hg
  rw [x_cell_i (Or.inr (Or.inr ht))] at h3
  have ha := hDy.1 n h1 (by rw [h2]; show (x_sh g).1 ≠ 0; omega)
  rw [h2, show (x_sh ((g, i) : Nat × Nat).1).1 = 3 from ht] at ha
  have h6 := va_zast hx hb (x_K1 hSt.2.1 ha) hDy.2.1 hDy.2.2.1 hS n 0 h3 rfl (i := Int32.ofInt z) (x := Int32.ofInt v) (n_in.mpr hg) hd (pc := pc) (ls := rls) (rest := r.map (x_re A Fm)) (p := p) (l := l) (e := e) (R := R) (m := m) (args := args) (below := below) (meth := meth) (cells := σ.1 - n0) (slots := x_sz σ.1 - x_sz n0) (Q := Q)
  show W _ _ _ _ _ _ _ _ _ _ _ _ _ _ _ (F0 m pc rls (.int (Int32.ofInt v) :: .int (Int32.ofInt z) :: x_re A Fm (.inr (.inr (some (g, i)))) :: r.map (x_re A Fm)))
  rw [x_ref h4]
  refine h6 (fun H1 locs1 hP1 hD1 hS1 => ?_)
  rw [n_cl, n_bool] at hP1 hD1
  have ec : x_cell A Fm C (σ.1, (x_u σ.2.1 g i (cn z).toNat (v % 2), σ.2.2)) (g, i) = .inl (C (g, i), (x_sh g).2, .inl (upd (fun k => Int32.ofInt (σ.2.1 g i k)) (cn z).toNat (Int32.ofInt (v % 2)))) := by
    rw [x_cell_i (Or.inr (Or.inr ht))]
    rw [x_upd (g := fun k => Int32.ofInt (x_u σ.2.1 g i (cn z).toNat (v % 2) g i k)) (by rw [x_u_at]) (fun k hk => by rw [x_u_ne (fun q => hk q.2.2)])]
  refine hk.2 A C H1 locs1 rls hAg (hDy.set (n0 := n) h1 (fun q hq k => by rw [h2] at hq; exact x_u_o hq k) (fun _ _ _ => rfl) (fun k q hq => hDy.2.2.2.1 n h1 k q hq) ?_ ?_) hS1 hLs hSk.tail.tail.tail
  · rw [h2, ec]; exact hP1
  · rw [h2, ec]; exact hD1
theorem x_h_last (cx : x_Cx p R s m args meth c D S0 Fm b adK adV xs L j d) (hI : x_In s D S0 Fm b adK adV xs L A0 j n0 ls st σ A C H locs rls) (hd : decode (x_b j) pc = .ok (.lastore, 1)) {v z : Int} {g i : Nat} {r : List XV} (hst : st = .inr (.inl v) :: .inl z :: .inr (.inr (some (g, i))) :: r) (ht : (x_sh g).1 = 4) (h : if 0 ≤ cn z ∧ cn z < (x_al σ.2.1 g i : Int) then x_KK p l e R s m args below meth c Q D S0 Fm b adK adV xs L A0 j n0 nM (pc + 1) ls r (σ.1, (x_u σ.2.1 g i (cn z).toNat v, σ.2.2)) else False) : x_WW p l e R s m args below meth c Q n0 H locs σ.1 (F0 m pc rls (st.map (x_re A Fm))) := by
  obtain ⟨hx, hb, hml, hown, hts, hSt, hj, hini, hfr, hlo, hF⟩ := cx
  obtain ⟨hn, hAg, hDy, hS, hLs, hSk⟩ := hI
  subst hst
  obtain ⟨hg, hk⟩ := x_ite_ff h
  obtain ⟨n, h1, h2, h3, h4⟩ := x_plc hDy hSk.tail.tail.head (by omega)
  rw [x_alen (by omega)] at hg
  rw [x_cell_l ht] at h3
  have ha := hDy.1 n h1 (by rw [h2]; show (x_sh g).1 ≠ 0; omega)
  rw [h2, show (x_sh ((g, i) : Nat × Nat).1).1 = 4 from ht] at ha
  have h6 := va_last hx hb (x_K1 hSt.2.1 ha) hDy.2.1 hDy.2.2.1 hS n 0 h3 rfl (i := Int32.ofInt z) (x := Int64.ofInt v) (n_in.mpr hg) hd (pc := pc) (ls := rls) (rest := r.map (x_re A Fm)) (p := p) (l := l) (e := e) (R := R) (m := m) (args := args) (below := below) (meth := meth) (cells := σ.1 - n0) (slots := x_sz σ.1 - x_sz n0) (Q := Q)
  show W _ _ _ _ _ _ _ _ _ _ _ _ _ _ _ (F0 m pc rls (.long (Int64.ofInt v) :: .int (Int32.ofInt z) :: x_re A Fm (.inr (.inr (some (g, i)))) :: r.map (x_re A Fm)))
  rw [x_ref h4]
  refine h6 (fun H1 locs1 hP1 hD1 hS1 => ?_)
  rw [n_cl] at hP1 hD1
  have ec : x_cell A Fm C (σ.1, (x_u σ.2.1 g i (cn z).toNat v, σ.2.2)) (g, i) = .inl (C (g, i), (x_sh g).2, .inr (.inl (vp_updL (fun k => Int64.ofInt (σ.2.1 g i k)) (cn z).toNat (Int64.ofInt v)))) := by
    rw [x_cell_l ht]
    rw [x_updL (g := fun k => Int64.ofInt (x_u σ.2.1 g i (cn z).toNat v g i k)) (by rw [x_u_at]) (fun k hk => by rw [x_u_ne (fun q => hk q.2.2)])]
  refine hk.2 A C H1 locs1 rls hAg (hDy.set (n0 := n) h1 (fun q hq k => by rw [h2] at hq; exact x_u_o hq k) (fun _ _ _ => rfl) (fun k q hq => hDy.2.2.2.1 n h1 k q hq) ?_ ?_) hS1 hLs hSk.tail.tail.tail
  · rw [h2, ec]; exact hP1
  · rw [h2, ec]; exact hD1
end
