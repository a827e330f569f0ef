/-! all steps; the contract of every method -/
section
variable {p : Program} {l : Launch} {e : Env} {R : Room} {s : State} {m : MethodId} {args : Array Value} {below : List Frame} {meth : Method} {c : Code} {Q : State → Prop} {D : va_G} {S0 : Nat} {Fm : Value} {b : Nat} {adK adV : Nat → Nat} {xs : Nat → Int32} {L : Nat} {A0 : XAd} {j n0 nM d : Nat}
/-- a step of ours that is known: the machine comes along -/
theorem x_KK_of {pc : Nat} {ls : XL} {st : List XV} {σ : XH} (cx : x_Cx p R s m args meth c D S0 Fm b adK adV xs L j d) (hRc : nM - n0 ≤ R.cells) (hRs : x_sz nM - x_sz n0 ≤ R.slots) (hn : n0 ≤ σ.1) (hm : σ.1 ≤ nM)
    (h : x_el False (x_KR p l e R s m args below meth c Q D S0 Fm b adK adV xs L A0 j n0) (x_KK p l e R s m args below meth c Q D S0 Fm b adK adV xs L A0 j n0 nM) (x_KC p l e R s m args below meth c Q D S0 Fm b adK adV xs L A0 j n0 nM d) (x_A j pc ls st σ)) : x_KK p l e R s m args below meth c Q D S0 Fm b adK adV xs L A0 j n0 nM pc ls st σ := by
  refine ⟨hm, fun A C H locs rls hAg hDy hS hLs hSk => x_step cx ⟨hn, hAg, hDy, hS, hLs, hSk⟩ hRc hRs ?_⟩
  rw [x_act_el]
  exact h
theorem x_run {C9 : XC} {r : Int × XH} (cx : x_Cx p R s m args meth c D S0 Fm b adK adV xs L j d) (hRc : nM - n0 ≤ R.cells) (hRs : x_sz nM - x_sz n0 ≤ R.slots) (hC : ∀ c9 as σ r, C9 c9 as σ = some r → x_CM l D S0 Fm b adK adV xs L d c9 as σ r.1 r.2) (hKR : x_KR p l e R s m args below meth c Q D S0 Fm b adK adV xs L A0 j n0 r.1 r.2) (hM : r.2.1 = nM) :
    ∀ (n pc : Nat) (ls : XL) (st : List XV) (σ : XH), n0 ≤ σ.1 → x_ex C9 n j pc ls st σ = some r → x_KK p l e R s m args below meth c Q D S0 Fm b adK adV xs L A0 j n0 nM pc ls st σ := by
  have hle : ∀ c as σ r, C9 c as σ = some r → σ.1 ≤ r.2.1 := fun c as σ r h => (hC c as σ r h).1
  intro n
  induction n with
  | zero => intro pc ls st σ _ h; simp [x_ex] at h
  | succ n ih =>
    intro pc ls st σ hn h
    have hm := x_ex_le hle _ _ _ _ _ _ _ h
    rw [hM] at hm
    refine x_KK_of cx hRc hRs hn hm ?_
    unfold x_ex at h
    rw [x_act_el] at h
    have h0 := x_A_le j pc ls st σ
    revert h h0
    generalize x_A j pc ls st σ = a
    intro h h0
    match a, h, h0 with
    | some (.inl (z, σ1)), h, h0 =>
      have h : some (z, σ1) = some r := h
      cases h
      exact hKR
    | some (.inr (.inl (pc1, ls1, st1, σ1))), h, h0 => exact ih _ _ _ _ (Nat.le_trans hn h0) h
    | some (.inr (.inr (c, as, σ1, k, pc1, ls1, st1))), h, h0 =>
      simp only [x_el, Option.bind_eq_some_iff] at h
      obtain ⟨q, h1, h2⟩ := h
      exact ⟨q.1, q.2, hC _ _ _ _ h1, ih _ _ _ _ (Nat.le_trans hn (Nat.le_trans h0 (hle _ _ _ _ h1))) h2⟩
end
theorem x_sl_len : ∀ as : List XV, (x_sl as).length = x_sll as
  | [] => rfl
  | .inl z :: r => by simp [x_sl, x_sll, x_sl_len r]
  | .inr (.inl z) :: r => by simp [x_sl, x_sll, x_sl_len r]
  | .inr (.inr q) :: r => by simp [x_sl, x_sll, x_sl_len r]
theorem x_pad_len : ∀ (n : Nat) (l : XL), l.length ≤ n → (x_pad n l).length = n
  | 0, l, h => by unfold x_pad; omega
  | n + 1, [], h => by simp [x_pad, x_pad_len n []]
  | n + 1, a :: r, h => by simp [x_pad, x_pad_len n r (by simpa using h)]
theorem x_pad_nth : ∀ (n : Nat) (l : XL) (k : Nat) (v : XV), x_nth (x_pad n l) k = some v → x_nth l k = some v
  | 0, l, k, v, h => by unfold x_pad at h; exact h
  | n + 1, [], 0, v, h => by simp [x_pad, x_nth] at h
  | n + 1, [], k + 1, v, h => by
    have := x_pad_nth n [] k v (by simpa [x_pad, x_nth] using h)
    simp [x_nth] at this
  | n + 1, a :: r, 0, v, h => by simpa [x_pad, x_nth] using h
  | n + 1, a :: r, k + 1, v, h => by
    have := x_pad_nth n r k v (by simpa [x_pad, x_nth] using h)
    simpa [x_nth] using this
theorem x_cat1 {A : XAd} {Fm : Value} (hF : Fm.category = 1) (q : Option (Nat × Nat)) : (x_re A Fm (.inr (.inr q))).category = 1 := by
  cases q with
  | none => rfl
  | some q =>
    show (if q.1 = 903 then Fm else Value.ref (A q)).category = 1
    split
    · exact hF
    · rfl
theorem x_lgl {A : XAd} {Fm : Value} (hF : Fm.category = 1) : ∀ as : List XV, (lg_sl (as.map (x_re A Fm))).length = x_sll as
  | [] => rfl
  | .inl z :: r => by
    have := x_lgl (A := A) hF r
    unfold lg_sl at this ⊢
    rw [List.map_cons, List.flatMap_cons, List.length_append, this, if_neg (by show ¬ (1 = 2); decide)]
    simp [x_sll]; omega
  | .inr (.inl z) :: r => by
    have := x_lgl (A := A) hF r
    unfold lg_sl at this ⊢
    rw [List.map_cons, List.flatMap_cons, List.length_append, this, if_pos (show (x_re A Fm (.inr (.inl z))).category = 2 from rfl)]
    simp [x_sll]; omega
  | .inr (.inr q) :: r => by
    have := x_lgl (A := A) hF r
    unfold lg_sl at this ⊢
    rw [List.map_cons, List.flatMap_cons, List.length_append, this, if_neg (by rw [x_cat1 hF]; decide)]
    simp [x_sll]; omega
theorem x_slv {A : XAd} {Fm : Value} (hF : Fm.category = 1) : ∀ (as : List XV) (k : Nat) (v : XV), x_nth (x_sl as) k = some v → v ∈ as ∧ (lg_sl (as.map (x_re A Fm)))[k]? = some (.val (x_re A Fm v))
  | [], k, v, h => by simp [x_sl, x_nth] at h
  | .inl z :: r, 0, v, h => by
    have h : some (Sum.inl z) = some v := h
    cases h
    refine ⟨List.mem_cons_self, ?_⟩
    unfold lg_sl
    rw [List.map_cons, List.flatMap_cons, if_neg (by show ¬ (1 = 2); decide)]
    rfl
  | .inl z :: r, k + 1, v, h => by
    obtain ⟨h1, h2⟩ := x_slv (A := A) hF r k v (by simpa [x_sl, x_nth] using h)
    refine ⟨List.mem_cons_of_mem _ h1, ?_⟩
    unfold lg_sl at h2 ⊢
    rw [List.map_cons, List.flatMap_cons, if_neg (by show ¬ (1 = 2); decide)]
    simpa using h2
  | .inr (.inl z) :: r, 0, v, h => by
    have h : some (Sum.inr (Sum.inl z)) = some v := h
    cases h
    refine ⟨List.mem_cons_self, ?_⟩
    unfold lg_sl
    rw [List.map_cons, List.flatMap_cons, if_pos (show (x_re A Fm (.inr (.inl z))).category = 2 from rfl)]
    rfl
  | .inr (.inl z) :: r, 1, v, h => by simp [x_sl, x_nth] at h
  | .inr (.inl z) :: r, k + 2, v, h => by
    obtain ⟨h1, h2⟩ := x_slv (A := A) hF r k v (by simpa [x_sl, x_nth] using h)
    refine ⟨List.mem_cons_of_mem _ h1, ?_⟩
    unfold lg_sl at h2 ⊢
    rw [List.map_cons, List.flatMap_cons, if_pos (show (x_re A Fm (.inr (.inl z))).category = 2 from rfl)]
    simpa using h2
  | .inr (.inr q) :: r, 0, v, h => by
    have h : some (Sum.inr (Sum.inr q)) = some v := h
    cases h
    refine ⟨List.mem_cons_self, ?_⟩
    unfold lg_sl
    rw [List.map_cons, List.flatMap_cons, if_neg (by rw [x_cat1 hF]; decide)]
    rfl
  | .inr (.inr q) :: r, k + 1, v, h => by
    obtain ⟨h1, h2⟩ := x_slv (A := A) hF r k v (by simpa [x_sl, x_nth] using h)
    refine ⟨List.mem_cons_of_mem _ h1, ?_⟩
    unfold lg_sl at h2 ⊢
    rw [List.map_cons, List.flatMap_cons, if_neg (by rw [x_cat1 hF]; decide)]
    simpa using h2
theorem x_ent_Ls {A : XAd} {Fm : Value} {nC j : Nat} {as : List XV} (hF : Fm.category = 1) (hfit : x_sll as ≤ x_mx j) (hok : x_Sk nC as) :
    x_Ls nC A Fm (x_ent j as) ((lg_sl (as.map (x_re A Fm)) ++ List.replicate (x_mx j - (lg_sl (as.map (x_re A Fm))).length) Slot.unset).toArray) (x_mx j) := by
  have hl := lv_entry (as.map (x_re A Fm)) (n := x_mx j) (by rw [x_lgl hF]; exact hfit)
  refine ⟨by unfold x_ent; exact x_pad_len _ _ (by rw [x_sl_len]; exact hfit), hl.1, hl.2.1, fun k v hv => ?_⟩
  unfold x_ent at hv
  obtain ⟨h1, h2⟩ := x_slv (A := A) (Fm := Fm) hF as k v (x_pad_nth _ _ _ _ hv)
  refine ⟨hok v h1, ?_⟩
  have hk : k < (lg_sl (as.map (x_re A Fm))).length := (List.getElem?_eq_some_iff.mp h2).1
  simp only [List.getElem?_toArray]
  rw [List.getElem?_append_left hk]
  exact h2
theorem x_fit_ok {c : Nat} {as : List XV} (h : x_fit c as = true) : x_sll as ≤ x_mx c ∧ 1 ≤ c ∧ c < 262 := by
  unfold x_fit at h
  simp only [Bool.and_eq_true, Nat.blt_eq] at h
  exact ⟨Nat.le_of_ble_eq_true h.1, h.2.1, h.2.2⟩
theorem x_nar1 {z : Int} (h : z = 0 ∨ z = 1) : narrow .boolean (.int (Int32.ofInt z)) = .int (Int32.ofInt z) := by rcases h with rfl | rfl <;> rfl
theorem x_nar2 {z : Int} (h : -128 ≤ z ∧ z < 128) : narrow .byte (.int (Int32.ofInt z)) = .int (Int32.ofInt z) := by
  show Value.int ((Int32.ofInt z).toInt8.toInt32) = _
  rw [n_i2b]
  congr 2
  unfold x_i2b
  omega
theorem x_nar3 {z : Int} (h : 0 ≤ z ∧ z < 65536) : narrow .char (.int (Int32.ofInt z)) = .int (Int32.ofInt z) := by
  show Value.int ((Int32.ofInt z).toUInt32.toUInt16.toUInt32.toInt32) = _
  congr 1
  apply Int32.toBitVec.inj
  show ((BitVec.ofInt 32 z).setWidth 16).setWidth 32 = BitVec.ofInt 32 z
  apply BitVec.eq_of_toNat_eq
  rw [BitVec.toNat_setWidth, BitVec.toNat_setWidth, BitVec.toNat_ofInt]
  have e : ((2 ^ 32 : Nat) : Int) = 4294967296 := rfl
  rw [e]
  have : z % 4294967296 = z := by omega
  rw [this]
  omega
section
variable {l : Launch} {D : va_G} {S0 : Nat} {Fm : Value} {b : Nat} {adK adV : Nat → Nat} {xs : Nat → Int32} {L : Nat}
set_option maxHeartbeats 2000000 in
theorem x_met (hF : Fm.category = 1) : ∀ (d F c9 : Nat) (as : List XV) (σ : XH) (r : Int × XH), x_ev d F c9 as σ = some r → x_CM l D S0 Fm b adK adV xs L d c9 as σ r.1 r.2 := by
  intro d
  induction d with
  | zero => intro F c9 as σ r h; simp [x_ev] at h
  | succ d ih =>
    intro F c9 as σ r h
    refine ⟨x_ev_le _ _ _ _ _ _ h, fun A C hok => ?_⟩
    have hle := x_ev_le _ _ _ _ _ _ h
    unfold x_ev at h
    cases hf : x_fit c9 as with
    | false => rw [hf] at h; cases h
    | true =>
      rw [hf] at h
      have h : x_ex (x_ev d F) F c9 0 (x_ent c9 as) [] σ = some r := h
      obtain ⟨f1, f2, f3⟩ := x_fit_ok hf
      obtain ⟨-, m2, m3, m4, m5, m6, m7, m8, m9, m10, m11, m12⟩ := x_m_ok f3
      refine va_MetF (cc := x_b c9) (maxL := x_mx c9) (ret := x_rt c9) m7 rfl ?_
      intro p e s m args below meth c s₁ B hml hv
      obtain ⟨rfl, hSt, hDy⟩ := hv
      have hx := B.exec
      have hb := B.bytes
      have hr := B.returns
      have hts0 := atoms_spec (ws := Cond.code (x_y c9) (x_b c9) (x_mx c9) (x_rt c9) :: x_tbl) B.pre
      have hts : ∀ w ∈ x_tbl, w.before (as.map (x_re A Fm)).toArray s = true := fun w hw => hts0 w (List.mem_cons_of_mem _ hw)
      have hown : s.vm.findClass (x_nm (x_mo c9)) = some m.cls := by rw [← m3]; exact findClass_of_methodNamed B.named
      have hlocks := B.notSynchronized
      have hnm : meth.name = (x_y c9).name := (name_of_methodNamed B.named B.method).1
      have cx : x_Cx p (headSpec (Cond.code (x_y c9) (x_b c9) (x_mx c9) (x_rt c9) :: x_tbl) (x_rm (d + 1) (r.2.1 - σ.1) (x_sz r.2.1 - x_sz σ.1))).room s m (as.map (x_re A Fm)).toArray meth c D S0 Fm b adK adV xs L c9 d :=
        ⟨hx, hb, hml, hown, hts, hSt, f3, fun q => by rw [hnm, ← m5]; exact q, Nat.le_refl _, Nat.le_refl _, hF⟩
      have hKK := x_run (l := l) (e := e) (below := below) (C9 := x_ev d F) (r := r) (A0 := A) (n0 := σ.1) (nM := r.2.1) (Q := MQ below (x_Qc D S0 Fm b adK adV xs L (x_mk c9) σ.1 A r.1 r.2) (as.map (x_re A Fm)).toArray s (r.2.1 - σ.1) (x_sz r.2.1 - x_sz σ.1) (x_F S0)) cx (Nat.le_refl _) (Nat.le_refl _) (fun c8 as8 σ8 r8 h8 => ih F c8 as8 σ8 r8 h8) ?_ rfl F 0 (x_ent c9 as) [] σ (Nat.le_refl _) h
      · rw [lg_entry_eq]
        have := hKK.2 A C s.heap [] _ (fun _ _ => rfl) hDy va_S.rf (x_ent_Ls hF f1 hok) (fun _ h => by cases h)
        simp only [x_WW, Nat.sub_self] at this
        exact this
      · intro A' C' H' locs' rls' pc' hAg' hDy' hS' hdec hz
        have hq : ∀ t : State, t.heap = H' → s.WarmedH t.vm → x_Dy D S0 Fm b adK adV xs L A' C' r.2 t t.heap := fun t ht hW => by
          rw [ht]
          exact hDy'.moved hW.alike
        rw [m2] at hr
        unfold x_WW
        rcases (show x_mk c9 = 0 ∨ x_mk c9 = 1 ∨ x_mk c9 = 2 ∨ x_mk c9 = 3 ∨ x_mk c9 = 4 ∨ x_mk c9 = 5 by omega) with k | k | k | k | k | k
        · rw [k] at hr hdec hz ⊢
          exact W.vret hx hb hr (fun t ht hW => ⟨⟨(A', C'), rfl, hAg', hq t ht hW⟩, hS'.F ht⟩) hS'.2.2 hdec hlocks
        · rw [k] at hr hdec hz ⊢
          exact W.iret hx hb hr (fun t ht hW => ⟨⟨Int32.ofInt r.1, (A', C'), rfl, ⟨rfl, hAg'⟩, hq t ht hW⟩, hS'.F ht⟩) hS'.2.2 hdec hlocks
        · rw [k] at hr hdec hz ⊢
          exact W.lret hx hb hr (fun t ht hW => ⟨⟨Int64.ofInt r.1, (A', C'), rfl, ⟨rfl, hAg'⟩, hq t ht hW⟩, hS'.F ht⟩) hS'.2.2 hdec hlocks
        · rw [k] at hr hdec hz ⊢
          exact W.zret hx hb hr (x_nar1 hz) (fun t ht hW => ⟨⟨Int32.ofInt r.1, (A', C'), rfl, ⟨rfl, hAg'⟩, hq t ht hW⟩, hS'.F ht⟩) hS'.2.2 hdec hlocks
        · rw [k] at hr hdec hz ⊢
          exact W.zret hx hb hr (x_nar2 hz) (fun t ht hW => ⟨⟨Int32.ofInt r.1, (A', C'), rfl, ⟨rfl, hAg'⟩, hq t ht hW⟩, hS'.F ht⟩) hS'.2.2 hdec hlocks
        · rw [k] at hr hdec hz ⊢
          exact W.zret hx hb hr (x_nar3 hz) (fun t ht hW => ⟨⟨Int32.ofInt r.1, (A', C'), rfl, ⟨rfl, hAg'⟩, hq t ht hW⟩, hS'.F ht⟩) hS'.2.2 hdec hlocks
end
