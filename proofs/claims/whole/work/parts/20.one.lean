/-! the steps, one by one -/
def x_In (s : State) (D : va_G) (S0 : Nat) (Fm : Value) (b : Nat) (adK adV : Nat → Nat) (xs : Nat → Int32) (L : Nat) (A0 : XAd) (j n0 : Nat) (ls : XL) (st : List XV) (σ : XH) (A : XAd) (C : XCd) (H : Heap) (locs : List Loc) (rls : Array Slot) : Prop :=
  n0 ≤ σ.1 ∧ (∀ q, x_vl n0 q → A q = A0 q) ∧ x_Dy D S0 Fm b adK adV xs L A C σ s H ∧ va_S (x_F S0) s.heap H locs ∧ x_Ls σ.1 A Fm ls rls (x_mx j) ∧ x_Sk σ.1 st
section
variable {p : Program} {l : Launch} {e : Env} {R : Room} {s : State} {m : MethodId} {args : Array Value} {below : List Frame} {meth : Method} {c : Code} {Q : State → Prop} {D : va_G} {S0 : Nat} {Fm : Value} {b : Nat} {adK adV : Nat → Nat} {xs : Nat → Int32} {L : Nat} {A0 : XAd} {j n0 nM d : Nat}
variable {pc : Nat} {ls : XL} {st : List XV} {σ : XH} {A : XAd} {C : XCd} {H : Heap} {locs : List Loc} {rls : Array Slot}
theorem x_s_iadd (cx : x_Cx p R s m args meth c D S0 Fm b adK adV xs L j d) (hI : x_In s D S0 Fm b adK adV xs L A0 j n0 ls st σ A C H locs rls) (hd : decode (x_b j) pc = .ok (.iadd, 1)) (h : x_2i False st fun x y r => x_KK p l e R s m args below meth c Q D S0 Fm b adK adV xs L A0 j n0 nM (pc + 1) ls (.inl (x + y) :: r) σ) : x_WW p l e R s m args below meth c Q n0 H locs σ.1 (F0 m pc rls (st.map (x_re A Fm))) := by
  obtain ⟨hx, hb, -⟩ := cx
  obtain ⟨hn, hAg, hDy, hS, hLs, hSk⟩ := hI
  obtain ⟨x, y, r, rfl, hk⟩ := x_2i_ff h
  have h3 : x_WW p l e R s m args below meth c Q n0 H locs σ.1 (F0 m (pc + 1) rls (.int (Int32.ofInt (x + y)) :: r.map (x_re A Fm))) := hk.2 A C H locs rls hAg hDy hS hLs (x_Sk.i hSk.tail.tail)
  rw [Int32.ofInt_add] at h3
  exact lv_iadd (x := Int32.ofInt x) (y := Int32.ofInt y) hx hb hd h3
theorem x_s_isub (cx : x_Cx p R s m args meth c D S0 Fm b adK adV xs L j d) (hI : x_In s D S0 Fm b adK adV xs L A0 j n0 ls st σ A C H locs rls) (hd : decode (x_b j) pc = .ok (.isub, 1)) (h : x_2i False st fun x y r => x_KK p l e R s m args below meth c Q D S0 Fm b adK adV xs L A0 j n0 nM (pc + 1) ls (.inl (x - y) :: r) σ) : x_WW p l e R s m args below meth c Q n0 H locs σ.1 (F0 m pc rls (st.map (x_re A Fm))) := by
  obtain ⟨hx, hb, -⟩ := cx
  obtain ⟨hn, hAg, hDy, hS, hLs, hSk⟩ := hI
  obtain ⟨x, y, r, rfl, hk⟩ := x_2i_ff h
  have h3 : x_WW p l e R s m args below meth c Q n0 H locs σ.1 (F0 m (pc + 1) rls (.int (Int32.ofInt (x - y)) :: r.map (x_re A Fm))) := hk.2 A C H locs rls hAg hDy hS hLs (x_Sk.i hSk.tail.tail)
  rw [Int32.ofInt_sub] at h3
  exact lv_isub (x := Int32.ofInt x) (y := Int32.ofInt y) hx hb hd h3
theorem x_s_imul (cx : x_Cx p R s m args meth c D S0 Fm b adK adV xs L j d) (hI : x_In s D S0 Fm b adK adV xs L A0 j n0 ls st σ A C H locs rls) (hd : decode (x_b j) pc = .ok (.imul, 1)) (h : x_2i False st fun x y r => x_KK p l e R s m args below meth c Q D S0 Fm b adK adV xs L A0 j n0 nM (pc + 1) ls (.inl (x * y) :: r) σ) : x_WW p l e R s m args below meth c Q n0 H locs σ.1 (F0 m pc rls (st.map (x_re A Fm))) := by
  obtain ⟨hx, hb, -⟩ := cx
  obtain ⟨hn, hAg, hDy, hS, hLs, hSk⟩ := hI
  obtain ⟨x, y, r, rfl, hk⟩ := x_2i_ff h
  have h3 : x_WW p l e R s m args below meth c Q n0 H locs σ.1 (F0 m (pc + 1) rls (.int (Int32.ofInt (x * y)) :: r.map (x_re A Fm))) := hk.2 A C H locs rls hAg hDy hS hLs (x_Sk.i hSk.tail.tail)
  rw [Int32.ofInt_mul] at h3
  exact lv_imul (x := Int32.ofInt x) (y := Int32.ofInt y) hx hb hd h3
theorem x_s_iand (cx : x_Cx p R s m args meth c D S0 Fm b adK adV xs L j d) (hI : x_In s D S0 Fm b adK adV xs L A0 j n0 ls st σ A C H locs rls) (hd : decode (x_b j) pc = .ok (.iand, 1)) (h : x_2i False st fun x y r => x_KK p l e R s m args below meth c Q D S0 Fm b adK adV xs L A0 j n0 nM (pc + 1) ls (.inl (x_and x y) :: r) σ) : x_WW p l e R s m args below meth c Q n0 H locs σ.1 (F0 m pc rls (st.map (x_re A Fm))) := by
  obtain ⟨hx, hb, -⟩ := cx
  obtain ⟨hn, hAg, hDy, hS, hLs, hSk⟩ := hI
  obtain ⟨x, y, r, rfl, hk⟩ := x_2i_ff h
  have h3 : x_WW p l e R s m args below meth c Q n0 H locs σ.1 (F0 m (pc + 1) rls (.int (Int32.ofInt (x_and x y)) :: r.map (x_re A Fm))) := hk.2 A C H locs rls hAg hDy hS hLs (x_Sk.i hSk.tail.tail)
  rw [n_and] at h3
  exact lv_iand (x := Int32.ofInt x) (y := Int32.ofInt y) hx hb hd h3
theorem x_s_ior (cx : x_Cx p R s m args meth c D S0 Fm b adK adV xs L j d) (hI : x_In s D S0 Fm b adK adV xs L A0 j n0 ls st σ A C H locs rls) (hd : decode (x_b j) pc = .ok (.ior, 1)) (h : x_2i False st fun x y r => x_KK p l e R s m args below meth c Q D S0 Fm b adK adV xs L A0 j n0 nM (pc + 1) ls (.inl (x_or x y) :: r) σ) : x_WW p l e R s m args below meth c Q n0 H locs σ.1 (F0 m pc rls (st.map (x_re A Fm))) := by
  obtain ⟨hx, hb, -⟩ := cx
  obtain ⟨hn, hAg, hDy, hS, hLs, hSk⟩ := hI
  obtain ⟨x, y, r, rfl, hk⟩ := x_2i_ff h
  have h3 : x_WW p l e R s m args below meth c Q n0 H locs σ.1 (F0 m (pc + 1) rls (.int (Int32.ofInt (x_or x y)) :: r.map (x_re A Fm))) := hk.2 A C H locs rls hAg hDy hS hLs (x_Sk.i hSk.tail.tail)
  rw [n_or] at h3
  exact lv_ior (x := Int32.ofInt x) (y := Int32.ofInt y) hx hb hd h3
theorem x_s_ixor (cx : x_Cx p R s m args meth c D S0 Fm b adK adV xs L j d) (hI : x_In s D S0 Fm b adK adV xs L A0 j n0 ls st σ A C H locs rls) (hd : decode (x_b j) pc = .ok (.ixor, 1)) (h : x_2i False st fun x y r => x_KK p l e R s m args below meth c Q D S0 Fm b adK adV xs L A0 j n0 nM (pc + 1) ls (.inl (x_xor x y) :: r) σ) : x_WW p l e R s m args below meth c Q n0 H locs σ.1 (F0 m pc rls (st.map (x_re A Fm))) := by
  obtain ⟨hx, hb, -⟩ := cx
  obtain ⟨hn, hAg, hDy, hS, hLs, hSk⟩ := hI
  obtain ⟨x, y, r, rfl, hk⟩ := x_2i_ff h
  have h3 : x_WW p l e R s m args below meth c Q n0 H locs σ.1 (F0 m (pc + 1) rls (.int (Int32.ofInt (x_xor x y)) :: r.map (x_re A Fm))) := hk.2 A C H locs rls hAg hDy hS hLs (x_Sk.i hSk.tail.tail)
  rw [n_xor] at h3
  exact lv_ixor (x := Int32.ofInt x) (y := Int32.ofInt y) hx hb hd h3
theorem x_s_ishl (cx : x_Cx p R s m args meth c D S0 Fm b adK adV xs L j d) (hI : x_In s D S0 Fm b adK adV xs L A0 j n0 ls st σ A C H locs rls) (hd : decode (x_b j) pc = .ok (.ishl, 1)) (h : x_2i False st fun x y r => x_KK p l e R s m args below meth c Q D S0 Fm b adK adV xs L A0 j n0 nM (pc + 1) ls (.inl (x_shl x y) :: r) σ) : x_WW p l e R s m args below meth c Q n0 H locs σ.1 (F0 m pc rls (st.map (x_re A Fm))) := by
  obtain ⟨hx, hb, -⟩ := cx
  obtain ⟨hn, hAg, hDy, hS, hLs, hSk⟩ := hI
  obtain ⟨x, y, r, rfl, hk⟩ := x_2i_ff h
  have h3 : x_WW p l e R s m args below meth c Q n0 H locs σ.1 (F0 m (pc + 1) rls (.int (Int32.ofInt (x_shl x y)) :: r.map (x_re A Fm))) := hk.2 A C H locs rls hAg hDy hS hLs (x_Sk.i hSk.tail.tail)
  rw [n_shl] at h3
  exact lv_ishl (x := Int32.ofInt x) (y := Int32.ofInt y) hx hb hd h3
theorem x_s_ishr (cx : x_Cx p R s m args meth c D S0 Fm b adK adV xs L j d) (hI : x_In s D S0 Fm b adK adV xs L A0 j n0 ls st σ A C H locs rls) (hd : decode (x_b j) pc = .ok (.ishr, 1)) (h : x_2i False st fun x y r => x_KK p l e R s m args below meth c Q D S0 Fm b adK adV xs L A0 j n0 nM (pc + 1) ls (.inl (x_shr x y) :: r) σ) : x_WW p l e R s m args below meth c Q n0 H locs σ.1 (F0 m pc rls (st.map (x_re A Fm))) := by
  obtain ⟨hx, hb, -⟩ := cx
  obtain ⟨hn, hAg, hDy, hS, hLs, hSk⟩ := hI
  obtain ⟨x, y, r, rfl, hk⟩ := x_2i_ff h
  have h3 : x_WW p l e R s m args below meth c Q n0 H locs σ.1 (F0 m (pc + 1) rls (.int (Int32.ofInt (x_shr x y)) :: r.map (x_re A Fm))) := hk.2 A C H locs rls hAg hDy hS hLs (x_Sk.i hSk.tail.tail)
  rw [n_shr] at h3
  exact lv_ishr (x := Int32.ofInt x) (y := Int32.ofInt y) hx hb hd h3
theorem x_s_iushr (cx : x_Cx p R s m args meth c D S0 Fm b adK adV xs L j d) (hI : x_In s D S0 Fm b adK adV xs L A0 j n0 ls st σ A C H locs rls) (hd : decode (x_b j) pc = .ok (.iushr, 1)) (h : x_2i False st fun x y r => x_KK p l e R s m args below meth c Q D S0 Fm b adK adV xs L A0 j n0 nM (pc + 1) ls (.inl (x_ushr x y) :: r) σ) : x_WW p l e R s m args below meth c Q n0 H locs σ.1 (F0 m pc rls (st.map (x_re A Fm))) := by
  obtain ⟨hx, hb, -⟩ := cx
  obtain ⟨hn, hAg, hDy, hS, hLs, hSk⟩ := hI
  obtain ⟨x, y, r, rfl, hk⟩ := x_2i_ff h
  exact lv_iushr (x := Int32.ofInt x) (y := Int32.ofInt y) hx hb hd (n_ushr x y) (hk.2 A C H locs rls hAg hDy hS hLs (x_Sk.i hSk.tail.tail))
theorem x_s_idiv (cx : x_Cx p R s m args meth c D S0 Fm b adK adV xs L j d) (hI : x_In s D S0 Fm b adK adV xs L A0 j n0 ls st σ A C H locs rls) (hd : decode (x_b j) pc = .ok (.idiv, 1)) (h : x_2i False st fun x y r => if cn y = 0 then False else x_KK p l e R s m args below meth c Q D S0 Fm b adK adV xs L A0 j n0 nM (pc + 1) ls (.inl (x_div x y) :: r) σ) : x_WW p l e R s m args below meth c Q n0 H locs σ.1 (F0 m pc rls (st.map (x_re A Fm))) := by
  obtain ⟨hx, hb, -⟩ := cx
  obtain ⟨hn, hAg, hDy, hS, hLs, hSk⟩ := hI
  obtain ⟨x, y, r, rfl, hk⟩ := x_2i_ff h
  obtain ⟨h0, hk⟩ := x_ite_ff2 hk
  have h3 : x_WW p l e R s m args below meth c Q n0 H locs σ.1 (F0 m (pc + 1) rls (.int (Int32.ofInt (x_div x y)) :: r.map (x_re A Fm))) := hk.2 A C H locs rls hAg hDy hS hLs (x_Sk.i hSk.tail.tail)
  rw [n_div] at h3
  exact lv_idiv (x := Int32.ofInt x) (y := Int32.ofInt y) hx hb hd (fun q => h0 ((n_e0 y).mp q)) h3
theorem x_s_irem (cx : x_Cx p R s m args meth c D S0 Fm b adK adV xs L j d) (hI : x_In s D S0 Fm b adK adV xs L A0 j n0 ls st σ A C H locs rls) (hd : decode (x_b j) pc = .ok (.irem, 1)) (h : x_2i False st fun x y r => if cn y = 0 then False else x_KK p l e R s m args below meth c Q D S0 Fm b adK adV xs L A0 j n0 nM (pc + 1) ls (.inl (x_rem x y) :: r) σ) : x_WW p l e R s m args below meth c Q n0 H locs σ.1 (F0 m pc rls (st.map (x_re A Fm))) := by
  obtain ⟨hx, hb, -⟩ := cx
  obtain ⟨hn, hAg, hDy, hS, hLs, hSk⟩ := hI
  obtain ⟨x, y, r, rfl, hk⟩ := x_2i_ff h
  obtain ⟨h0, hk⟩ := x_ite_ff2 hk
  have h3 : x_WW p l e R s m args below meth c Q n0 H locs σ.1 (F0 m (pc + 1) rls (.int (Int32.ofInt (x_rem x y)) :: r.map (x_re A Fm))) := hk.2 A C H locs rls hAg hDy hS hLs (x_Sk.i hSk.tail.tail)
  rw [n_rem] at h3
  exact lv_irem (x := Int32.ofInt x) (y := Int32.ofInt y) hx hb hd (fun q => h0 ((n_e0 y).mp q)) h3
theorem x_s_ladd (cx : x_Cx p R s m args meth c D S0 Fm b adK adV xs L j d) (hI : x_In s D S0 Fm b adK adV xs L A0 j n0 ls st σ A C H locs rls) (hd : decode (x_b j) pc = .ok (.ladd, 1)) (h : x_2l False st fun x y r => x_KK p l e R s m args below meth c Q D S0 Fm b adK adV xs L A0 j n0 nM (pc + 1) ls (.inr (.inl (x + y)) :: r) σ) : x_WW p l e R s m args below meth c Q n0 H locs σ.1 (F0 m pc rls (st.map (x_re A Fm))) := by
  obtain ⟨hx, hb, -⟩ := cx
  obtain ⟨hn, hAg, hDy, hS, hLs, hSk⟩ := hI
  obtain ⟨x, y, r, rfl, hk⟩ := x_2l_ff h
  have h3 : x_WW p l e R s m args below meth c Q n0 H locs σ.1 (F0 m (pc + 1) rls (.long (Int64.ofInt (x + y)) :: r.map (x_re A Fm))) := hk.2 A C H locs rls hAg hDy hS hLs (x_Sk.l hSk.tail.tail)
  rw [Int64.ofInt_add] at h3
  exact lv_ladd (x := Int64.ofInt x) (y := Int64.ofInt y) hx hb hd h3
theorem x_s_lmul (cx : x_Cx p R s m args meth c D S0 Fm b adK adV xs L j d) (hI : x_In s D S0 Fm b adK adV xs L A0 j n0 ls st σ A C H locs rls) (hd : decode (x_b j) pc = .ok (.lmul, 1)) (h : x_2l False st fun x y r => x_KK p l e R s m args below meth c Q D S0 Fm b adK adV xs L A0 j n0 nM (pc + 1) ls (.inr (.inl (x * y)) :: r) σ) : x_WW p l e R s m args below meth c Q n0 H locs σ.1 (F0 m pc rls (st.map (x_re A Fm))) := by
  obtain ⟨hx, hb, -⟩ := cx
  obtain ⟨hn, hAg, hDy, hS, hLs, hSk⟩ := hI
  obtain ⟨x, y, r, rfl, hk⟩ := x_2l_ff h
  have h3 : x_WW p l e R s m args below meth c Q n0 H locs σ.1 (F0 m (pc + 1) rls (.long (Int64.ofInt (x * y)) :: r.map (x_re A Fm))) := hk.2 A C H locs rls hAg hDy hS hLs (x_Sk.l hSk.tail.tail)
  rw [Int64.ofInt_mul] at h3
  exact lv_lmul (x := Int64.ofInt x) (y := Int64.ofInt y) hx hb hd h3
theorem x_s_lor (cx : x_Cx p R s m args meth c D S0 Fm b adK adV xs L j d) (hI : x_In s D S0 Fm b adK adV xs L A0 j n0 ls st σ A C H locs rls) (hd : decode (x_b j) pc = .ok (.lor, 1)) (h : x_2l False st fun x y r => x_KK p l e R s m args below meth c Q D S0 Fm b adK adV xs L A0 j n0 nM (pc + 1) ls (.inr (.inl (x_lor x y)) :: r) σ) : x_WW p l e R s m args below meth c Q n0 H locs σ.1 (F0 m pc rls (st.map (x_re A Fm))) := by
  obtain ⟨hx, hb, -⟩ := cx
  obtain ⟨hn, hAg, hDy, hS, hLs, hSk⟩ := hI
  obtain ⟨x, y, r, rfl, hk⟩ := x_2l_ff h
  have h3 : x_WW p l e R s m args below meth c Q n0 H locs σ.1 (F0 m (pc + 1) rls (.long (Int64.ofInt (x_lor x y)) :: r.map (x_re A Fm))) := hk.2 A C H locs rls hAg hDy hS hLs (x_Sk.l hSk.tail.tail)
  rw [n_lor] at h3
  exact lv_lor (x := Int64.ofInt x) (y := Int64.ofInt y) hx hb hd h3
theorem x_s_lcmp (cx : x_Cx p R s m args meth c D S0 Fm b adK adV xs L j d) (hI : x_In s D S0 Fm b adK adV xs L A0 j n0 ls st σ A C H locs rls) (hd : decode (x_b j) pc = .ok (.lcmp, 1)) (h : x_2l False st fun x y r => x_KK p l e R s m args below meth c Q D S0 Fm b adK adV xs L A0 j n0 nM (pc + 1) ls (.inl (x_lcmp x y) :: r) σ) : x_WW p l e R s m args below meth c Q n0 H locs σ.1 (F0 m pc rls (st.map (x_re A Fm))) := by
  obtain ⟨hx, hb, -⟩ := cx
  obtain ⟨hn, hAg, hDy, hS, hLs, hSk⟩ := hI
  obtain ⟨x, y, r, rfl, hk⟩ := x_2l_ff h
  have h3 : x_WW p l e R s m args below meth c Q n0 H locs σ.1 (F0 m (pc + 1) rls (.int (Int32.ofInt (x_lcmp x y)) :: r.map (x_re A Fm))) := hk.2 A C H locs rls hAg hDy hS hLs (x_Sk.i hSk.tail.tail)
  rw [← n_lcmp] at h3
  exact W.lcmp (x := Int64.ofInt x) (y := Int64.ofInt y) hx hb hd h3
theorem x_s_lshl (cx : x_Cx p R s m args meth c D S0 Fm b adK adV xs L j d) (hI : x_In s D S0 Fm b adK adV xs L A0 j n0 ls st σ A C H locs rls) (hd : decode (x_b j) pc = .ok (.lshl, 1)) (h : x_1i False st fun y r => x_1l False r fun x r => x_KK p l e R s m args below meth c Q D S0 Fm b adK adV xs L A0 j n0 nM (pc + 1) ls (.inr (.inl (x_lshl x y)) :: r) σ) : x_WW p l e R s m args below meth c Q n0 H locs σ.1 (F0 m pc rls (st.map (x_re A Fm))) := by
  obtain ⟨hx, hb, -⟩ := cx
  obtain ⟨hn, hAg, hDy, hS, hLs, hSk⟩ := hI
  obtain ⟨y, r, rfl, h⟩ := x_1i_ff h
  obtain ⟨x, r, rfl, hk⟩ := x_1l_ff h
  exact lv_lshl (x := Int64.ofInt x) (y := Int32.ofInt y) hx hb hd (n_lshl x y) (hk.2 A C H locs rls hAg hDy hS hLs (x_Sk.l hSk.tail.tail))
theorem x_s_i2l (cx : x_Cx p R s m args meth c D S0 Fm b adK adV xs L j d) (hI : x_In s D S0 Fm b adK adV xs L A0 j n0 ls st σ A C H locs rls) (hd : decode (x_b j) pc = .ok (.i2l, 1)) (h : x_1i False st fun x r => x_KK p l e R s m args below meth c Q D S0 Fm b adK adV xs L A0 j n0 nM (pc + 1) ls (.inr (.inl (cn x)) :: r) σ) : x_WW p l e R s m args below meth c Q n0 H locs σ.1 (F0 m pc rls (st.map (x_re A Fm))) := by
  obtain ⟨hx, hb, -⟩ := cx
  obtain ⟨hn, hAg, hDy, hS, hLs, hSk⟩ := hI
  obtain ⟨x, r, rfl, hk⟩ := x_1i_ff h
  exact lv_i2l (x := Int32.ofInt x) hx hb hd (n_i2l x) (hk.2 A C H locs rls hAg hDy hS hLs (x_Sk.l hSk.tail))
theorem x_s_l2i (cx : x_Cx p R s m args meth c D S0 Fm b adK adV xs L j d) (hI : x_In s D S0 Fm b adK adV xs L A0 j n0 ls st σ A C H locs rls) (hd : decode (x_b j) pc = .ok (.l2i, 1)) (h : x_1l False st fun x r => x_KK p l e R s m args below meth c Q D S0 Fm b adK adV xs L A0 j n0 nM (pc + 1) ls (.inl x :: r) σ) : x_WW p l e R s m args below meth c Q n0 H locs σ.1 (F0 m pc rls (st.map (x_re A Fm))) := by
  obtain ⟨hx, hb, -⟩ := cx
  obtain ⟨hn, hAg, hDy, hS, hLs, hSk⟩ := hI
  obtain ⟨x, r, rfl, hk⟩ := x_1l_ff h
  exact lv_l2i (x := Int64.ofInt x) hx hb hd (n_l2i x) (hk.2 A C H locs rls hAg hDy hS hLs (x_Sk.i hSk.tail))
theorem x_s_i2b (cx : x_Cx p R s m args meth c D S0 Fm b adK adV xs L j d) (hI : x_In s D S0 Fm b adK adV xs L A0 j n0 ls st σ A C H locs rls) (hd : decode (x_b j) pc = .ok (.i2b, 1)) (h : x_1i False st fun x r => x_KK p l e R s m args below meth c Q D S0 Fm b adK adV xs L A0 j n0 nM (pc + 1) ls (.inl (x_i2b x) :: r) σ) : x_WW p l e R s m args below meth c Q n0 H locs σ.1 (F0 m pc rls (st.map (x_re A Fm))) := by
  obtain ⟨hx, hb, -⟩ := cx
  obtain ⟨hn, hAg, hDy, hS, hLs, hSk⟩ := hI
  obtain ⟨x, r, rfl, hk⟩ := x_1i_ff h
  exact lv_i2b (x := Int32.ofInt x) hx hb hd (n_i2b x) (hk.2 A C H locs rls hAg hDy hS hLs (x_Sk.i hSk.tail))
theorem x_s_i2c (cx : x_Cx p R s m args meth c D S0 Fm b adK adV xs L j d) (hI : x_In s D S0 Fm b adK adV xs L A0 j n0 ls st σ A C H locs rls) (hd : decode (x_b j) pc = .ok (.i2c, 1)) (h : x_1i False st fun x r => x_KK p l e R s m args below meth c Q D S0 Fm b adK adV xs L A0 j n0 nM (pc + 1) ls (.inl (x_i2c x) :: r) σ) : x_WW p l e R s m args below meth c Q n0 H locs σ.1 (F0 m pc rls (st.map (x_re A Fm))) := by
  obtain ⟨hx, hb, -⟩ := cx
  obtain ⟨hn, hAg, hDy, hS, hLs, hSk⟩ := hI
  obtain ⟨x, r, rfl, hk⟩ := x_1i_ff h
  exact lv_i2c (x := Int32.ofInt x) hx hb hd (n_i2c x) (hk.2 A C H locs rls hAg hDy hS hLs (x_Sk.i hSk.tail))
theorem x_s_iconst (cx : x_Cx p R s m args meth c D S0 Fm b adK adV xs L j d) (hI : x_In s D S0 Fm b adK adV xs L A0 j n0 ls st σ A C H locs rls) {v : Int} (hd : decode (x_b j) pc = .ok (.iconst v, 1)) (h : x_KK p l e R s m args below meth c Q D S0 Fm b adK adV xs L A0 j n0 nM (pc + 1) ls (.inl v :: st) σ) : x_WW p l e R s m args below meth c Q n0 H locs σ.1 (F0 m pc rls (st.map (x_re A Fm))) := by
  obtain ⟨hx, hb, -⟩ := cx
  obtain ⟨hn, hAg, hDy, hS, hLs, hSk⟩ := hI
  exact lv_iconst hx hb hd rfl (h.2 A C H locs rls hAg hDy hS hLs (x_Sk.i hSk))
theorem x_s_bipush (cx : x_Cx p R s m args meth c D S0 Fm b adK adV xs L j d) (hI : x_In s D S0 Fm b adK adV xs L A0 j n0 ls st σ A C H locs rls) {v : Int} (hv : -128 ≤ v ∧ v < 128) (hd : decode (x_b j) pc = .ok (.bipush v, 2)) (h : x_KK p l e R s m args below meth c Q D S0 Fm b adK adV xs L A0 j n0 nM (pc + 2) ls (.inl v :: st) σ) : x_WW p l e R s m args below meth c Q n0 H locs σ.1 (F0 m pc rls (st.map (x_re A Fm))) := by
  obtain ⟨hx, hb, -⟩ := cx
  obtain ⟨hn, hAg, hDy, hS, hLs, hSk⟩ := hI
  exact lv_bipush hx hb hd (n_bi v hv) (h.2 A C H locs rls hAg hDy hS hLs (x_Sk.i hSk))
theorem x_s_sipush (cx : x_Cx p R s m args meth c D S0 Fm b adK adV xs L j d) (hI : x_In s D S0 Fm b adK adV xs L A0 j n0 ls st σ A C H locs rls) {v : Int} (hv : -32768 ≤ v ∧ v < 32768) (hd : decode (x_b j) pc = .ok (.sipush v, 3)) (h : x_KK p l e R s m args below meth c Q D S0 Fm b adK adV xs L A0 j n0 nM (pc + 3) ls (.inl v :: st) σ) : x_WW p l e R s m args below meth c Q n0 H locs σ.1 (F0 m pc rls (st.map (x_re A Fm))) := by
  obtain ⟨hx, hb, -⟩ := cx
  obtain ⟨hn, hAg, hDy, hS, hLs, hSk⟩ := hI
  exact lv_sipush hx hb hd (n_si v hv) (h.2 A C H locs rls hAg hDy hS hLs (x_Sk.i hSk))
theorem x_s_lconst (cx : x_Cx p R s m args meth c D S0 Fm b adK adV xs L j d) (hI : x_In s D S0 Fm b adK adV xs L A0 j n0 ls st σ A C H locs rls) {v : Fin 2} (hd : decode (x_b j) pc = .ok (.lconst v, 1)) (h : x_KK p l e R s m args below meth c Q D S0 Fm b adK adV xs L A0 j n0 nM (pc + 1) ls (.inr (.inl ((v : Nat) : Int)) :: st) σ) : x_WW p l e R s m args below meth c Q n0 H locs σ.1 (F0 m pc rls (st.map (x_re A Fm))) := by
  obtain ⟨hx, hb, -⟩ := cx
  obtain ⟨hn, hAg, hDy, hS, hLs, hSk⟩ := hI
  exact lv_lconst hx hb hd (Int64.ofInt_eq_ofNat).symm (h.2 A C H locs rls hAg hDy hS hLs (x_Sk.l hSk))
theorem x_s_iload (cx : x_Cx p R s m args meth c D S0 Fm b adK adV xs L j d) (hI : x_In s D S0 Fm b adK adV xs L A0 j n0 ls st σ A C H locs rls) {k : Nat} (hd : decode (x_b j) pc = .ok (.iload k, 2)) (h : match (generalizing := false) x_nth ls k with | some (.inl z) => x_KK p l e R s m args below meth c Q D S0 Fm b adK adV xs L A0 j n0 nM (pc + 2) ls (.inl z :: st) σ | _ => False) : x_WW p l e R s m args below meth c Q n0 H locs σ.1 (F0 m pc rls (st.map (x_re A Fm))) := by
  obtain ⟨hx, hb, -⟩ := cx
  obtain ⟨hn, hAg, hDy, hS, hLs, hSk⟩ := hI
  split at h
  · rename_i z hz
    exact lv_iload hx hb hd (hLs.2.2.2 _ _ hz).2 (h.2 A C H locs rls hAg hDy hS hLs (x_Sk.i hSk))
  · exact h.elim
theorem x_s_iload_n (cx : x_Cx p R s m args meth c D S0 Fm b adK adV xs L j d) (hI : x_In s D S0 Fm b adK adV xs L A0 j n0 ls st σ A C H locs rls) {k : Fin 4} (hd : decode (x_b j) pc = .ok (.iload_n k, 1)) (h : match (generalizing := false) x_nth ls (k : Nat) with | some (.inl z) => x_KK p l e R s m args below meth c Q D S0 Fm b adK adV xs L A0 j n0 nM (pc + 1) ls (.inl z :: st) σ | _ => False) : x_WW p l e R s m args below meth c Q n0 H locs σ.1 (F0 m pc rls (st.map (x_re A Fm))) := by
  obtain ⟨hx, hb, -⟩ := cx
  obtain ⟨hn, hAg, hDy, hS, hLs, hSk⟩ := hI
  split at h
  · rename_i z hz
    exact lv_iload_n hx hb hd rfl (hLs.2.2.2 _ _ hz).2 (h.2 A C H locs rls hAg hDy hS hLs (x_Sk.i hSk))
  · exact h.elim
theorem x_s_lload (cx : x_Cx p R s m args meth c D S0 Fm b adK adV xs L j d) (hI : x_In s D S0 Fm b adK adV xs L A0 j n0 ls st σ A C H locs rls) {k : Nat} (hd : decode (x_b j) pc = .ok (.lload k, 2)) (h : match (generalizing := false) x_nth ls k with | some (.inr (.inl z)) => x_KK p l e R s m args below meth c Q D S0 Fm b adK adV xs L A0 j n0 nM (pc + 2) ls (.inr (.inl z) :: st) σ | _ => False) : x_WW p l e R s m args below meth c Q n0 H locs σ.1 (F0 m pc rls (st.map (x_re A Fm))) := by
  obtain ⟨hx, hb, -⟩ := cx
  obtain ⟨hn, hAg, hDy, hS, hLs, hSk⟩ := hI
  split at h
  · rename_i z hz
    exact lv_lload hx hb hd (hLs.2.2.2 _ _ hz).2 (h.2 A C H locs rls hAg hDy hS hLs (x_Sk.l hSk))
  · exact h.elim
theorem x_s_lload_n (cx : x_Cx p R s m args meth c D S0 Fm b adK adV xs L j d) (hI : x_In s D S0 Fm b adK adV xs L A0 j n0 ls st σ A C H locs rls) {k : Fin 4} (hd : decode (x_b j) pc = .ok (.lload_n k, 1)) (h : match (generalizing := false) x_nth ls (k : Nat) with | some (.inr (.inl z)) => x_KK p l e R s m args below meth c Q D S0 Fm b adK adV xs L A0 j n0 nM (pc + 1) ls (.inr (.inl z) :: st) σ | _ => False) : x_WW p l e R s m args below meth c Q n0 H locs σ.1 (F0 m pc rls (st.map (x_re A Fm))) := by
  obtain ⟨hx, hb, -⟩ := cx
  obtain ⟨hn, hAg, hDy, hS, hLs, hSk⟩ := hI
  split at h
  · rename_i z hz
    exact lv_lload_n hx hb hd rfl (hLs.2.2.2 _ _ hz).2 (h.2 A C H locs rls hAg hDy hS hLs (x_Sk.l hSk))
  · exact h.elim
theorem x_s_aload (cx : x_Cx p R s m args meth c D S0 Fm b adK adV xs L j d) (hI : x_In s D S0 Fm b adK adV xs L A0 j n0 ls st σ A C H locs rls) {k : Nat} (hd : decode (x_b j) pc = .ok (.aload k, 2)) (h : match (generalizing := false) x_nth ls k with | some (.inr (.inr (some q))) => bif Nat.blt q.1 903 then x_KK p l e R s m args below meth c Q D S0 Fm b adK adV xs L A0 j n0 nM (pc + 2) ls (.inr (.inr (some q)) :: st) σ else False | _ => False) : x_WW p l e R s m args below meth c Q n0 H locs σ.1 (F0 m pc rls (st.map (x_re A Fm))) := by
  obtain ⟨hx, hb, -⟩ := cx
  obtain ⟨hn, hAg, hDy, hS, hLs, hSk⟩ := hI
  split at h
  · rename_i q hq
    obtain ⟨h9, h⟩ := x_bif_ff h
    rw [Nat.blt_eq] at h9
    have h1 := hLs.2.2.2 _ _ hq
    have e1 : x_re A Fm (.inr (.inr (some q))) = .ref (A q) := if_neg (by omega)
    have h2 := h.2 A C H locs rls hAg hDy hS hLs (x_Sk.cons h1.1 hSk)
    rw [List.map_cons, e1] at h2
    rw [e1] at h1
    exact lv_aload hx hb hd h1.2 h2
  · exact h.elim
theorem x_s_aload_n (cx : x_Cx p R s m args meth c D S0 Fm b adK adV xs L j d) (hI : x_In s D S0 Fm b adK adV xs L A0 j n0 ls st σ A C H locs rls) {k : Fin 4} (hd : decode (x_b j) pc = .ok (.aload_n k, 1)) (h : match (generalizing := false) x_nth ls (k : Nat) with | some (.inr (.inr (some q))) => bif Nat.blt q.1 903 then x_KK p l e R s m args below meth c Q D S0 Fm b adK adV xs L A0 j n0 nM (pc + 1) ls (.inr (.inr (some q)) :: st) σ else False | _ => False) : x_WW p l e R s m args below meth c Q n0 H locs σ.1 (F0 m pc rls (st.map (x_re A Fm))) := by
  obtain ⟨hx, hb, -⟩ := cx
  obtain ⟨hn, hAg, hDy, hS, hLs, hSk⟩ := hI
  split at h
  · rename_i q hq
    obtain ⟨h9, h⟩ := x_bif_ff h
    rw [Nat.blt_eq] at h9
    have h1 := hLs.2.2.2 _ _ hq
    have e1 : x_re A Fm (.inr (.inr (some q))) = .ref (A q) := if_neg (by omega)
    have h2 := h.2 A C H locs rls hAg hDy hS hLs (x_Sk.cons h1.1 hSk)
    rw [List.map_cons, e1] at h2
    rw [e1] at h1
    exact lv_aload_n hx hb hd rfl h1.2 h2
  · exact h.elim
theorem x_s_istore (cx : x_Cx p R s m args meth c D S0 Fm b adK adV xs L j d) (hI : x_In s D S0 Fm b adK adV xs L A0 j n0 ls st σ A C H locs rls) {k : Nat} (hk9 : k < x_mx j) (hd : decode (x_b j) pc = .ok (.istore k, 2)) (h : bif x_lng ls k then False else x_1i False st fun z r => x_KK p l e R s m args below meth c Q D S0 Fm b adK adV xs L A0 j n0 nM (pc + 2) (x_put ls k (some (.inl z))) r σ) : x_WW p l e R s m args below meth c Q n0 H locs σ.1 (F0 m pc rls (st.map (x_re A Fm))) := by
  have hF := cx.2.2.2.2.2.2.2.2.2.2
  obtain ⟨hx, hb, -⟩ := cx
  obtain ⟨hn, hAg, hDy, hS, hLs, hSk⟩ := hI
  obtain ⟨hg, h⟩ := x_bif_ff2 h
  obtain ⟨z, r, rfl, h⟩ := x_1i_ff h
  exact lv_istore (x := Int32.ofInt z) hx hb hd hLs.has hk9 rfl (fun ls' h' => h.2 A C H locs ls' hAg hDy hS (hLs.put1 hF hk9 hg (x_okv_i _ _) h') hSk.tail)
theorem x_s_lstore (cx : x_Cx p R s m args meth c D S0 Fm b adK adV xs L j d) (hI : x_In s D S0 Fm b adK adV xs L A0 j n0 ls st σ A C H locs rls) {k : Nat} (hk9 : k + 1 < x_mx j) (hd : decode (x_b j) pc = .ok (.lstore k, 2)) (h : bif x_lng ls k then False else x_1l False st fun z r => x_KK p l e R s m args below meth c Q D S0 Fm b adK adV xs L A0 j n0 nM (pc + 2) (x_put (x_put ls k (some (.inr (.inl z)))) (k + 1) none) r σ) : x_WW p l e R s m args below meth c Q n0 H locs σ.1 (F0 m pc rls (st.map (x_re A Fm))) := by
  have hF := cx.2.2.2.2.2.2.2.2.2.2
  obtain ⟨hx, hb, -⟩ := cx
  obtain ⟨hn, hAg, hDy, hS, hLs, hSk⟩ := hI
  obtain ⟨hg, h⟩ := x_bif_ff2 h
  obtain ⟨z, r, rfl, h⟩ := x_1l_ff h
  exact lv_lstore (x := Int64.ofInt z) hx hb hd hLs.has hk9 rfl (fun ls' h' => h.2 A C H locs ls' hAg hDy hS (hLs.put2 hF hk9 hg h') hSk.tail)
theorem x_s_astore (cx : x_Cx p R s m args meth c D S0 Fm b adK adV xs L j d) (hI : x_In s D S0 Fm b adK adV xs L A0 j n0 ls st σ A C H locs rls) {k : Nat} (hk9 : k < x_mx j) (hd : decode (x_b j) pc = .ok (.astore k, 2)) (h : bif x_lng ls k then False else x_1r False st fun g i r => bif Nat.blt g 903 then x_KK p l e R s m args below meth c Q D S0 Fm b adK adV xs L A0 j n0 nM (pc + 2) (x_put ls k (some (.inr (.inr (some (g, i)))))) r σ else False) : x_WW p l e R s m args below meth c Q n0 H locs σ.1 (F0 m pc rls (st.map (x_re A Fm))) := by
  have hF := cx.2.2.2.2.2.2.2.2.2.2
  obtain ⟨hx, hb, -⟩ := cx
  obtain ⟨hn, hAg, hDy, hS, hLs, hSk⟩ := hI
  obtain ⟨hg, h⟩ := x_bif_ff2 h
  obtain ⟨g, i, r, rfl, h⟩ := x_1r_ff h
  obtain ⟨h9, h⟩ := x_bif_ff h
  rw [Nat.blt_eq] at h9
  have e1 : x_re A Fm (.inr (.inr (some (g, i)))) = .ref (A (g, i)) := if_neg (by show g ≠ 903; omega)
  rw [List.map_cons, e1]
  refine lv_astore (x := A (g, i)) hx hb hd hLs.has hk9 rfl (fun ls' h' => h.2 A C H locs ls' hAg hDy hS (hLs.put1 (v := .inr (.inr (some (g, i)))) hF hk9 hg hSk.head ?_) hSk.tail)
  rw [e1]
  exact h'
theorem x_s_istore_n (cx : x_Cx p R s m args meth c D S0 Fm b adK adV xs L j d) (hI : x_In s D S0 Fm b adK adV xs L A0 j n0 ls st σ A C H locs rls) {k : Fin 4} (hk9 : (k : Nat) < x_mx j) (hd : decode (x_b j) pc = .ok (.istore_n k, 1)) (h : bif x_lng ls (k : Nat) then False else x_1i False st fun z r => x_KK p l e R s m args below meth c Q D S0 Fm b adK adV xs L A0 j n0 nM (pc + 1) (x_put ls (k : Nat) (some (.inl z))) r σ) : x_WW p l e R s m args below meth c Q n0 H locs σ.1 (F0 m pc rls (st.map (x_re A Fm))) := by
  have hF := cx.2.2.2.2.2.2.2.2.2.2
  obtain ⟨hx, hb, -⟩ := cx
  obtain ⟨hn, hAg, hDy, hS, hLs, hSk⟩ := hI
  obtain ⟨hg, h⟩ := x_bif_ff2 h
  obtain ⟨z, r, rfl, h⟩ := x_1i_ff h
  exact lv_istore_n (x := Int32.ofInt z) hx hb hd rfl hLs.has hk9 rfl (fun ls' h' => h.2 A C H locs ls' hAg hDy hS (hLs.put1 hF hk9 hg (x_okv_i _ _) h') hSk.tail)
theorem x_s_lstore_n (cx : x_Cx p R s m args meth c D S0 Fm b adK adV xs L j d) (hI : x_In s D S0 Fm b adK adV xs L A0 j n0 ls st σ A C H locs rls) {k : Fin 4} (hk9 : (k : Nat) + 1 < x_mx j) (hd : decode (x_b j) pc = .ok (.lstore_n k, 1)) (h : bif x_lng ls (k : Nat) then False else x_1l False st fun z r => x_KK p l e R s m args below meth c Q D S0 Fm b adK adV xs L A0 j n0 nM (pc + 1) (x_put (x_put ls (k : Nat) (some (.inr (.inl z)))) ((k : Nat) + 1) none) r σ) : x_WW p l e R s m args below meth c Q n0 H locs σ.1 (F0 m pc rls (st.map (x_re A Fm))) := by
  have hF := cx.2.2.2.2.2.2.2.2.2.2
  obtain ⟨hx, hb, -⟩ := cx
  obtain ⟨hn, hAg, hDy, hS, hLs, hSk⟩ := hI
  obtain ⟨hg, h⟩ := x_bif_ff2 h
  obtain ⟨z, r, rfl, h⟩ := x_1l_ff h
  exact lv_lstore_n (x := Int64.ofInt z) hx hb hd rfl hLs.has hk9 rfl (fun ls' h' => h.2 A C H locs ls' hAg hDy hS (hLs.put2 hF hk9 hg h') hSk.tail)
theorem x_s_astore_n (cx : x_Cx p R s m args meth c D S0 Fm b adK adV xs L j d) (hI : x_In s D S0 Fm b adK adV xs L A0 j n0 ls st σ A C H locs rls) {k : Fin 4} (hk9 : (k : Nat) < x_mx j) (hd : decode (x_b j) pc = .ok (.astore_n k, 1)) (h : bif x_lng ls (k : Nat) then False else x_1r False st fun g i r => bif Nat.blt g 903 then x_KK p l e R s m args below meth c Q D S0 Fm b adK adV xs L A0 j n0 nM (pc + 1) (x_put ls (k : Nat) (some (.inr (.inr (some (g, i)))))) r σ else False) : x_WW p l e R s m args below meth c Q n0 H locs σ.1 (F0 m pc rls (st.map (x_re A Fm))) := by
  have hF := cx.2.2.2.2.2.2.2.2.2.2
  obtain ⟨hx, hb, -⟩ := cx
  obtain ⟨hn, hAg, hDy, hS, hLs, hSk⟩ := hI
  obtain ⟨hg, h⟩ := x_bif_ff2 h
  obtain ⟨g, i, r, rfl, h⟩ := x_1r_ff h
  obtain ⟨h9, h⟩ := x_bif_ff h
  rw [Nat.blt_eq] at h9
  have e1 : x_re A Fm (.inr (.inr (some (g, i)))) = .ref (A (g, i)) := if_neg (by show g ≠ 903; omega)
  rw [List.map_cons, e1]
  refine lv_astore_n (x := A (g, i)) hx hb hd rfl hLs.has hk9 rfl (fun ls' h' => h.2 A C H locs ls' hAg hDy hS (hLs.put1 (v := .inr (.inr (some (g, i)))) hF hk9 hg hSk.head ?_) hSk.tail)
  rw [e1]
  exact h'
theorem x_s_iinc (cx : x_Cx p R s m args meth c D S0 Fm b adK adV xs L j d) (hI : x_In s D S0 Fm b adK adV xs L A0 j n0 ls st σ A C H locs rls) {k : Nat} {v : Int} (hk9 : k < x_mx j) (hd : decode (x_b j) pc = .ok (.iinc k v, 3)) (h : match (generalizing := false) x_nth ls k with | some (.inl z) => bif x_lng ls k then False else x_KK p l e R s m args below meth c Q D S0 Fm b adK adV xs L A0 j n0 nM (pc + 3) (x_put ls k (some (.inl (z + v)))) st σ | _ => False) : x_WW p l e R s m args below meth c Q n0 H locs σ.1 (F0 m pc rls (st.map (x_re A Fm))) := by
  have hF := cx.2.2.2.2.2.2.2.2.2.2
  obtain ⟨hx, hb, -⟩ := cx
  obtain ⟨hn, hAg, hDy, hS, hLs, hSk⟩ := hI
  split at h
  · rename_i z hz
    obtain ⟨hg, h⟩ := x_bif_ff2 h
    obtain ⟨i9, hi9⟩ := List.getElem?_of_mem (x_lv_mem (A := A) (Fm := Fm) hz)
    exact lv_iinc (x := Int32.ofInt z) (v := Int32.ofInt (z + v)) hx hb hd hLs.has hi9 (Int32.ofInt_add z v).symm hk9 rfl (fun ls' h' => h.2 A C H locs ls' hAg hDy hS (hLs.put1 hF hk9 hg (x_okv_i _ _) h') hSk)
  · exact h.elim
theorem x_s_dup (cx : x_Cx p R s m args meth c D S0 Fm b adK adV xs L j d) (hI : x_In s D S0 Fm b adK adV xs L A0 j n0 ls st σ A C H locs rls) (hd : decode (x_b j) pc = .ok (.dup, 1)) (h : match (generalizing := false) st with | .inl z :: r => x_KK p l e R s m args below meth c Q D S0 Fm b adK adV xs L A0 j n0 nM (pc + 1) ls (.inl z :: .inl z :: r) σ | .inr (.inr q) :: r => x_KK p l e R s m args below meth c Q D S0 Fm b adK adV xs L A0 j n0 nM (pc + 1) ls (.inr (.inr q) :: .inr (.inr q) :: r) σ | _ => False) : x_WW p l e R s m args below meth c Q n0 H locs σ.1 (F0 m pc rls (st.map (x_re A Fm))) := by
  have hF := cx.2.2.2.2.2.2.2.2.2.2
  obtain ⟨hx, hb, -⟩ := cx
  obtain ⟨hn, hAg, hDy, hS, hLs, hSk⟩ := hI
  split at h
  · exact lv_dup hx hb hd rfl (h.2 A C H locs rls hAg hDy hS hLs (x_Sk.i hSk))
  · rename_i q r
    refine lv_dup hx hb hd ?_ (h.2 A C H locs rls hAg hDy hS hLs (x_Sk.cons hSk.head hSk))
    cases q with
    | none => rfl
    | some q =>
      show (if q.1 = 903 then Fm else Value.ref (A q)).category = 1
      split
      · exact hF
      · rfl
  · exact h.elim
theorem x_s_dup2 (cx : x_Cx p R s m args meth c D S0 Fm b adK adV xs L j d) (hI : x_In s D S0 Fm b adK adV xs L A0 j n0 ls st σ A C H locs rls) (hd : decode (x_b j) pc = .ok (.dup2, 1)) (h : match (generalizing := false) st with | .inl z :: .inr (.inr q) :: r => x_KK p l e R s m args below meth c Q D S0 Fm b adK adV xs L A0 j n0 nM (pc + 1) ls (.inl z :: .inr (.inr q) :: .inl z :: .inr (.inr q) :: r) σ | _ => False) : x_WW p l e R s m args below meth c Q n0 H locs σ.1 (F0 m pc rls (st.map (x_re A Fm))) := by
  have hF := cx.2.2.2.2.2.2.2.2.2.2
  obtain ⟨hx, hb, -⟩ := cx
  obtain ⟨hn, hAg, hDy, hS, hLs, hSk⟩ := hI
  split at h
  · rename_i z q r
    refine lv_dup2_11 hx hb hd rfl ?_ (h.2 A C H locs rls hAg hDy hS hLs (x_Sk.i (x_Sk.cons hSk.tail.head hSk)))
    cases q with
    | none => rfl
    | some q =>
      show (if q.1 = 903 then Fm else Value.ref (A q)).category = 1
      split
      · exact hF
      · rfl
  · exact h.elim
theorem x_s_pop (cx : x_Cx p R s m args meth c D S0 Fm b adK adV xs L j d) (hI : x_In s D S0 Fm b adK adV xs L A0 j n0 ls st σ A C H locs rls) (hd : decode (x_b j) pc = .ok (.pop, 1)) (h : x_1i False st fun _ r => x_KK p l e R s m args below meth c Q D S0 Fm b adK adV xs L A0 j n0 nM (pc + 1) ls r σ) : x_WW p l e R s m args below meth c Q n0 H locs σ.1 (F0 m pc rls (st.map (x_re A Fm))) := by
  obtain ⟨hx, hb, -⟩ := cx
  obtain ⟨hn, hAg, hDy, hS, hLs, hSk⟩ := hI
  obtain ⟨x, r, rfl, hk⟩ := x_1i_ff h
  exact lv_pop hx hb hd rfl (hk.2 A C H locs rls hAg hDy hS hLs hSk.tail)
theorem x_tg_eq {pc : Nat} {off : Int} (h : 0 ≤ (pc : Int) + off) : (pc : Int) + off = ((x_tg pc off : Nat) : Int) := by unfold x_tg; omega
theorem x_s_goto (cx : x_Cx p R s m args meth c D S0 Fm b adK adV xs L j d) (hI : x_In s D S0 Fm b adK adV xs L A0 j n0 ls st σ A C H locs rls) {off : Int} (ho : 0 ≤ (pc : Int) + off) (hd : decode (x_b j) pc = .ok (.goto off, 3)) (h : x_KK p l e R s m args below meth c Q D S0 Fm b adK adV xs L A0 j n0 nM (x_tg pc off) ls st σ) : x_WW p l e R s m args below meth c Q n0 H locs σ.1 (F0 m pc rls (st.map (x_re A Fm))) := by
  obtain ⟨hx, hb, -⟩ := cx
  obtain ⟨hn, hAg, hDy, hS, hLs, hSk⟩ := hI
  exact lv_goto hx hb hd (x_tg_eq ho) (h.2 A C H locs rls hAg hDy hS hLs hSk)
theorem x_s_if (cx : x_Cx p R s m args meth c D S0 Fm b adK adV xs L j d) (hI : x_In s D S0 Fm b adK adV xs L A0 j n0 ls st σ A C H locs rls) {k : ClassFile.Cond} {off : Int} (ho : 0 ≤ (pc : Int) + off) (hd : decode (x_b j) pc = .ok (.ifCond k off, 3)) (h : x_1i False st fun x r => x_if k x (x_KK p l e R s m args below meth c Q D S0 Fm b adK adV xs L A0 j n0 nM (x_tg pc off) ls r σ) (x_KK p l e R s m args below meth c Q D S0 Fm b adK adV xs L A0 j n0 nM (pc + 3) ls r σ)) : x_WW p l e R s m args below meth c Q n0 H locs σ.1 (F0 m pc rls (st.map (x_re A Fm))) := by
  obtain ⟨hx, hb, -⟩ := cx
  obtain ⟨hn, hAg, hDy, hS, hLs, hSk⟩ := hI
  obtain ⟨x, r, rfl, h1⟩ := x_1i_ff h
  clear h
  have ct : x_KK p l e R s m args below meth c Q D S0 Fm b adK adV xs L A0 j n0 nM (x_tg pc off) ls r σ → x_WW p l e R s m args below meth c Q n0 H locs σ.1 (F0 m (x_tg pc off) rls (r.map (x_re A Fm))) := fun h => h.2 A C H locs rls hAg hDy hS hLs hSk.tail
  have cf : x_KK p l e R s m args below meth c Q D S0 Fm b adK adV xs L A0 j n0 nM (pc + 3) ls r σ → x_WW p l e R s m args below meth c Q n0 H locs σ.1 (F0 m (pc + 3) rls (r.map (x_re A Fm))) := fun h => h.2 A C H locs rls hAg hDy hS hLs hSk.tail
  unfold x_if at h1
  cases k with
  | eq =>
    dsimp only at h1
    exact lv_if_eq (x := Int32.ofInt x) hx hb hd (x_tg_eq ho) (fun q => ct (by rw [if_pos ((n_e0 x).mp q)] at h1; exact h1)) (fun q => cf (by rw [if_neg (fun g => q ((n_e0 x).mpr g))] at h1; exact h1))
  | ne =>
    dsimp only at h1
    exact lv_if_ne (x := Int32.ofInt x) hx hb hd (x_tg_eq ho) (fun q => ct (by rw [if_neg (fun g => q ((n_e0 x).mpr g))] at h1; exact h1)) (fun q => cf (by rw [if_pos ((n_e0 x).mp q)] at h1; exact h1))
  | lt =>
    dsimp only at h1
    exact lv_if_lt (x := Int32.ofInt x) hx hb hd (x_tg_eq ho) (fun q => ct (by rw [if_pos ((n_l0 x).mp q)] at h1; exact h1)) (fun q => cf (by rw [if_neg (fun g => q ((n_l0 x).mpr g))] at h1; exact h1))
  | ge =>
    dsimp only at h1
    exact lv_if_ge (x := Int32.ofInt x) hx hb hd (x_tg_eq ho) (fun q => ct (by rw [if_neg (fun g => Int32.not_lt.mpr q ((n_l0 x).mpr g))] at h1; exact h1)) (fun q => cf (by rw [if_pos ((n_l0 x).mp (Int32.not_le.mp q))] at h1; exact h1))
  | gt =>
    dsimp only at h1
    exact lv_if_gt (x := Int32.ofInt x) hx hb hd (x_tg_eq ho) (fun q => ct (by rw [if_pos ((n_0l x).mp q)] at h1; exact h1)) (fun q => cf (by rw [if_neg (fun g => q ((n_0l x).mpr g))] at h1; exact h1))
  | le =>
    dsimp only at h1
    exact lv_if_le (x := Int32.ofInt x) hx hb hd (x_tg_eq ho) (fun q => ct (by rw [if_neg (fun g => Int32.not_lt.mpr q ((n_0l x).mpr g))] at h1; exact h1)) (fun q => cf (by rw [if_pos ((n_0l x).mp (Int32.not_le.mp q))] at h1; exact h1))
theorem x_s_icmp (cx : x_Cx p R s m args meth c D S0 Fm b adK adV xs L j d) (hI : x_In s D S0 Fm b adK adV xs L A0 j n0 ls st σ A C H locs rls) {k : ClassFile.Cond} {off : Int} (ho : 0 ≤ (pc : Int) + off) (hd : decode (x_b j) pc = .ok (.if_icmp k off, 3)) (h : x_2i False st fun x y r => x_ic k x y (x_KK p l e R s m args below meth c Q D S0 Fm b adK adV xs L A0 j n0 nM (x_tg pc off) ls r σ) (x_KK p l e R s m args below meth c Q D S0 Fm b adK adV xs L A0 j n0 nM (pc + 3) ls r σ)) : x_WW p l e R s m args below meth c Q n0 H locs σ.1 (F0 m pc rls (st.map (x_re A Fm))) := by
  obtain ⟨hx, hb, -⟩ := cx
  obtain ⟨hn, hAg, hDy, hS, hLs, hSk⟩ := hI
  obtain ⟨x, y, r, rfl, h1⟩ := x_2i_ff h
  clear h
  have ct : x_KK p l e R s m args below meth c Q D S0 Fm b adK adV xs L A0 j n0 nM (x_tg pc off) ls r σ → x_WW p l e R s m args below meth c Q n0 H locs σ.1 (F0 m (x_tg pc off) rls (r.map (x_re A Fm))) := fun h => h.2 A C H locs rls hAg hDy hS hLs hSk.tail.tail
  have cf : x_KK p l e R s m args below meth c Q D S0 Fm b adK adV xs L A0 j n0 nM (pc + 3) ls r σ → x_WW p l e R s m args below meth c Q n0 H locs σ.1 (F0 m (pc + 3) rls (r.map (x_re A Fm))) := fun h => h.2 A C H locs rls hAg hDy hS hLs hSk.tail.tail
  unfold x_ic at h1
  cases k with
  | eq =>
    dsimp only at h1
    exact lv_icmp_eq (x := Int32.ofInt x) (y := Int32.ofInt y) hx hb hd (x_tg_eq ho) (fun q => ct (by rw [if_pos ((n_eq x y).mp q)] at h1; exact h1)) (fun q => cf (by rw [if_neg (fun g => q ((n_eq x y).mpr g))] at h1; exact h1))
  | ne =>
    dsimp only at h1
    exact lv_icmp_ne (x := Int32.ofInt x) (y := Int32.ofInt y) hx hb hd (x_tg_eq ho) (fun q => ct (by rw [if_neg (fun g => q ((n_eq x y).mpr g))] at h1; exact h1)) (fun q => cf (by rw [if_pos ((n_eq x y).mp q)] at h1; exact h1))
  | lt =>
    dsimp only at h1
    exact lv_icmp_lt (x := Int32.ofInt x) (y := Int32.ofInt y) hx hb hd (x_tg_eq ho) (fun q => ct (by rw [if_pos ((n_lt x y).mp q)] at h1; exact h1)) (fun q => cf (by rw [if_neg (fun g => q ((n_lt x y).mpr g))] at h1; exact h1))
  | ge =>
    dsimp only at h1
    exact lv_icmp_ge (x := Int32.ofInt x) (y := Int32.ofInt y) hx hb hd (x_tg_eq ho) (fun q => ct (by rw [if_neg (fun g => Int32.not_lt.mpr q ((n_lt x y).mpr g))] at h1; exact h1)) (fun q => cf (by rw [if_pos ((n_lt x y).mp (Int32.not_le.mp q))] at h1; exact h1))
  | gt =>
    dsimp only at h1
    exact lv_icmp_gt (x := Int32.ofInt x) (y := Int32.ofInt y) hx hb hd (x_tg_eq ho) (fun q => ct (by rw [if_pos ((n_lt y x).mp q)] at h1; exact h1)) (fun q => cf (by rw [if_neg (fun g => q ((n_lt y x).mpr g))] at h1; exact h1))
  | le =>
    dsimp only at h1
    exact lv_icmp_le (x := Int32.ofInt x) (y := Int32.ofInt y) hx hb hd (x_tg_eq ho) (fun q => ct (by rw [if_neg (fun g => Int32.not_lt.mpr q ((n_lt y x).mpr g))] at h1; exact h1)) (fun q => cf (by rw [if_pos ((n_lt y x).mp (Int32.not_le.mp q))] at h1; exact h1))
end
