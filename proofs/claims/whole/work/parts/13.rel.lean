/-! our heap and the machine's -/
abbrev XAd : Type := Nat × Nat → Nat
abbrev XCd : Type := Nat × Nat → ClassId
def x_re (A : XAd) (Fm : Value) (v : XV) : Value := match v with
  | .inl z => .int (Int32.ofInt z)
  | .inr (.inl z) => .long (Int64.ofInt z)
  | .inr (.inr none) => .null
  | .inr (.inr (some q)) => if q.1 = 903 then Fm else .ref (A q)
noncomputable def x_q (n : Nat) : Nat × Nat := (x_nx x_aol n).getD (0, 0)
theorem x_nx_get : ∀ (l : List (Nat × Nat)) (n : Nat), x_nx l n = l[n]?
  | [], n => by simp [x_nx]
  | a :: l, 0 => by simp [x_nx]
  | a :: l, n + 1 => by simp [x_nx, x_nx_get l n]
theorem x_aol_nd : x_aol.Nodup := by decide +kernel
theorem x_aol_len : x_aol.length = x_NC := by decide +kernel
theorem x_aol_lt : ∀ q ∈ x_aol, q.1 < 900 := by decide +kernel
theorem x_q_some {n : Nat} (h : n < x_NC) : x_nx x_aol n = some (x_q n) := by
  rw [← x_aol_len] at h
  unfold x_q
  rw [x_nx_get]
  simp [h]
theorem x_q_of {n : Nat} {q : Nat × Nat} (h : x_nx x_aol n = some q) : x_q n = q ∧ n < x_NC := by
  refine ⟨by unfold x_q; rw [h]; rfl, ?_⟩
  rw [x_nx_get] at h
  rw [← x_aol_len]
  exact (List.getElem?_eq_some_iff.mp h).1
theorem x_q_inj {n m : Nat} (hn : n < x_NC) (hm : m < x_NC) (h : x_q n = x_q m) : n = m := by
  have a := x_q_some hn
  have b := x_q_some hm
  rw [x_nx_get] at a b
  rw [h] at a
  rw [← x_aol_len] at hn hm
  exact (List.getElem?_inj hn x_aol_nd).mp (a.trans b.symm)
theorem x_q_lt {n : Nat} (h : n < x_NC) : (x_q n).1 < 900 := by
  have a := x_q_some h
  rw [x_nx_get] at a
  exact x_aol_lt _ (List.mem_of_getElem? a)
/-- a place that is there -/
def x_vh (nC : Nat) (q : Nat × Nat) : Prop := ∃ n, n < nC ∧ x_q n = q
def x_vl (nC : Nat) (q : Nat × Nat) : Prop := x_vh nC q ∨ q = (900, 0) ∨ (q.1 = 901 ∧ q.2 < 2) ∨ (q.1 = 902 ∧ q.2 < 2) ∨ q = (903, 0)
def x_okv (nC : Nat) (v : XV) : Prop := ∀ q, v = .inr (.inr (some q)) → x_vl nC q
theorem x_vh.mono {a b : Nat} {q : Nat × Nat} (h : a ≤ b) (hv : x_vh a q) : x_vh b q := by
  obtain ⟨n, h1, h2⟩ := hv
  exact ⟨n, by omega, h2⟩
theorem x_vl.mono {a b : Nat} {q : Nat × Nat} (h : a ≤ b) (hv : x_vl a q) : x_vl b q := by
  rcases hv with h1 | h1
  · exact Or.inl (h1.mono h)
  · exact Or.inr h1
theorem x_okv.mono {a b : Nat} {v : XV} (h : a ≤ b) (hv : x_okv a v) : x_okv b v := fun q e => (hv q e).mono h
theorem x_okv_i (n : Nat) (z : Int) : x_okv n (.inl z) := fun q h => by cases h
theorem x_okv_l (n : Nat) (z : Int) : x_okv n (.inr (.inl z)) := fun q h => by cases h
def x_ty (tag : Nat) : FieldType := match tag with
  | 1 => .int
  | 2 => .byte
  | 3 => .boolean
  | 4 => .long
  | _ => .object "LostBuyer$State"
noncomputable def x_fv (A : XAd) (Fm : Value) (σ : XH) (q : Nat × Nat) (ci f : Nat) : Value := if x_isr (x_yt ci f) = true then x_re A Fm (.inr (.inr (σ.2.2 q.1 q.2 f))) else .int (Int32.ofInt (σ.2.1 q.1 q.2 f))
noncomputable def x_fs (A : XAd) (Fm : Value) (σ : XH) (q : Nat × Nat) (ci : Nat) : List Value := (List.range (x_N ci)).map (x_fv A Fm σ q ci)
noncomputable def x_ce (A : XAd) (Fm : Value) (C : XCd) (σ : XH) (q : Nat × Nat) (tag n : Nat) : va_E := match tag with
  | 0 => .inr (n, x_fs A Fm σ q n)
  | 4 => .inl (C q, n, .inr (.inl fun j => Int64.ofInt (σ.2.1 q.1 q.2 j)))
  | 5 => .inl (C q, n, .inr (.inr (.inr (.inr fun j => (σ.2.2 q.1 q.2 j).map A))))
  | _ => .inl (C q, n, .inl fun j => Int32.ofInt (σ.2.1 q.1 q.2 j))
noncomputable def x_cell (A : XAd) (Fm : Value) (C : XCd) (σ : XH) (q : Nat × Nat) : va_E := x_ce A Fm C σ q (x_sh q.1).1 (x_sh q.1).2
noncomputable def x_wl (A : XAd) (Fm : Value) (C : XCd) (σ : XH) : va_W := (List.range σ.1).map fun n => (A (x_q n), x_cell A Fm C σ (x_q n))
theorem x_wl_get (A : XAd) (Fm : Value) (C : XCd) (σ : XH) {n : Nat} (h : n < σ.1) : (x_wl A Fm C σ)[n]? = some (A (x_q n), x_cell A Fm C σ (x_q n)) := by
  simp [x_wl, h]
theorem x_wl_of {A : XAd} {Fm : Value} {C : XCd} {σ : XH} {k : Nat} {p : Nat × va_E} (h : (x_wl A Fm C σ)[k]? = some p) : k < σ.1 ∧ p = (A (x_q k), x_cell A Fm C σ (x_q k)) := by
  have hk : k < σ.1 := by
    have := (List.getElem?_eq_some_iff.mp h).1
    simpa [x_wl] using this
  exact ⟨hk, Option.some.inj (h.symm.trans (x_wl_get A Fm C σ hk))⟩
theorem x_cell_congr {A A' : XAd} {Fm : Value} {C C' : XCd} {σ σ' : XH} {q : Nat × Nat} (hC : C q = C' q) (hZ : ∀ j, σ.2.1 q.1 q.2 j = σ'.2.1 q.1 q.2 j) (hR : ∀ j, σ.2.2 q.1 q.2 j = σ'.2.2 q.1 q.2 j) (hA : ∀ j p, σ.2.2 q.1 q.2 j = some p → A p = A' p) : x_cell A Fm C σ q = x_cell A' Fm C' σ' q := by
  have e1 : ∀ ci f, x_fv A Fm σ q ci f = x_fv A' Fm σ' q ci f := by
    intro ci f
    unfold x_fv
    rw [hZ f]
    split
    · have h1 := hR f
      have h2 := hA f
      rw [← h1]
      cases h3 : σ.2.2 q.1 q.2 f with
      | none => rfl
      | some p => unfold x_re; simp only []; rw [h2 p h3]
    · rfl
  have e2 : ∀ n, x_fs A Fm σ q n = x_fs A' Fm σ' q n := fun n => by unfold x_fs; exact List.map_congr_left fun f _ => e1 n f
  have e3 : (fun j => Int64.ofInt (σ.2.1 q.1 q.2 j)) = fun j => Int64.ofInt (σ'.2.1 q.1 q.2 j) := funext fun j => by rw [hZ j]
  have e4 : (fun j => Int32.ofInt (σ.2.1 q.1 q.2 j)) = fun j => Int32.ofInt (σ'.2.1 q.1 q.2 j) := funext fun j => by rw [hZ j]
  have e5 : (fun j => (σ.2.2 q.1 q.2 j).map A) = fun j => (σ'.2.2 q.1 q.2 j).map A' := funext fun j => by
    rw [← hR j]
    cases h3 : σ.2.2 q.1 q.2 j with
    | none => rfl
    | some p => simp [hA j p h3]
  unfold x_cell x_ce
  rw [hC, e2, e3, e4, e5]
theorem x_wl_set (A : XAd) (Fm : Value) (C : XCd) (σ σ' : XH) {n0 : Nat} (h0 : n0 < σ.1) (hN : σ.1 ≤ x_NC) (h1 : σ'.1 = σ.1) (hZ : ∀ q : Nat × Nat, q ≠ x_q n0 → ∀ j, σ'.2.1 q.1 q.2 j = σ.2.1 q.1 q.2 j) (hR : ∀ q : Nat × Nat, q ≠ x_q n0 → ∀ j, σ'.2.2 q.1 q.2 j = σ.2.2 q.1 q.2 j) :
    x_wl A Fm C σ' = (x_wl A Fm C σ).set n0 (A (x_q n0), x_cell A Fm C σ' (x_q n0)) := by
  apply List.ext_getElem?
  intro k
  by_cases hk : k < σ.1
  · rw [x_wl_get A Fm C σ' (by omega)]
    by_cases he : k = n0
    · subst he
      rw [List.getElem?_set_self (by simp [x_wl, h0])]
    · rw [List.getElem?_set_ne (Ne.symm he), x_wl_get A Fm C σ hk]
      have hne : x_q k ≠ x_q n0 := fun h => he (x_q_inj (by omega) (by omega) h)
      rw [x_cell_congr (σ := σ') (σ' := σ) rfl (hZ _ hne) (hR _ hne) (fun _ _ _ => rfl)]
  · rw [List.getElem?_eq_none (by simp [x_wl]; omega), List.getElem?_eq_none (by simp [x_wl]; omega)]
def x_F (S0 : Nat) : Nat → Prop := fun q => S0 ≤ q
noncomputable def x_s1 (q : Nat × Nat) : Nat := if (x_sh q.1).1 = 0 then x_N (x_sh q.1).2 else (x_sh q.1).2
/-- what of the heap our numbers tell -/
def x_Dy (D : va_G) (S0 : Nat) (Fm : Value) (b : Nat) (adK adV : Nat → Nat) (xs : Nat → Int32) (L : Nat) (A : XAd) (C : XCd) (σ : XH) (U : State) (H : Heap) : Prop :=
  (∀ n, n < σ.1 → (x_sh (x_q n).1).1 ≠ 0 → ArrOfT U (C (x_q n)) (x_ty (x_sh (x_q n).1).1) ∧ va_RA U (C (x_q n)) (x_ty (x_sh (x_q n).1).1)) ∧
  va_P D x_cl (x_wl A Fm C σ) H ∧ va_D (x_F S0) (x_wl A Fm C σ) ∧
  (∀ n, n < σ.1 → ∀ j q, σ.2.2 (x_q n).1 (x_q n).2 j = some q → x_vh σ.1 q ∨ (σ.1 = x_NC ∧ x_s1 (x_q n) ≤ j)) ∧
  (∀ n, σ.1 ≤ n → n < x_NC → ∀ j, σ.2.1 (x_q n).1 (x_q n).2 j = 0 ∧ σ.2.2 (x_q n).1 (x_q n).2 j = none) ∧
  (σ.2.1 2000 0 1 = 1 → σ.2.1 2000 0 0 = (L : Int) ∧ ∀ j, j < L → σ.2.1 900 0 j = (xs j).toInt) ∧ σ.1 ≤ x_NC ∧
  (A (900, 0) = b ∧ ∀ i, i < 2 → A (901, i) = adK i ∧ A (902, i) = adV i)
section
variable {D : va_G} {S0 : Nat} {Fm : Value} {b : Nat} {adK adV : Nat → Nat} {xs : Nat → Int32} {L : Nat}
theorem x_Dy.moved {A : XAd} {C : XCd} {σ : XH} {u U : State} {H : Heap} (hvm : u.vm.Alike U.vm) (h : x_Dy D S0 Fm b adK adV xs L A C σ u H) : x_Dy D S0 Fm b adK adV xs L A C σ U H := by
  obtain ⟨h1, h2⟩ := h
  exact ⟨fun n hn ht => ⟨arrOfT_moved hvm (h1 n hn ht).1, (h1 n hn ht).2.moved hvm⟩, h2⟩
theorem x_Dy.set {A : XAd} {C : XCd} {σ : XH} {U : State} {H : Heap} (h : x_Dy D S0 Fm b adK adV xs L A C σ U H) {n0 : Nat} (h0 : n0 < σ.1) {Z' : XZ} {R' : XR}
    (hZ : ∀ q : Nat × Nat, q ≠ x_q n0 → ∀ j, Z' q.1 q.2 j = σ.2.1 q.1 q.2 j) (hR : ∀ q : Nat × Nat, q ≠ x_q n0 → ∀ j, R' q.1 q.2 j = σ.2.2 q.1 q.2 j) (hv : ∀ j q, R' (x_q n0).1 (x_q n0).2 j = some q → x_vh σ.1 q ∨ (σ.1 = x_NC ∧ x_s1 (x_q n0) ≤ j))
    {H1 : Heap} (hP : va_P D x_cl ((x_wl A Fm C σ).set n0 (A (x_q n0), x_cell A Fm C (σ.1, (Z', R')) (x_q n0))) H1) (hD : va_D (x_F S0) ((x_wl A Fm C σ).set n0 (A (x_q n0), x_cell A Fm C (σ.1, (Z', R')) (x_q n0)))) :
    x_Dy D S0 Fm b adK adV xs L A C (σ.1, (Z', R')) U H1 := by
  obtain ⟨g1, -, -, g4, g5, g6, g7, g8⟩ := h
  have e := x_wl_set A Fm C σ (σ.1, (Z', R')) h0 g7 rfl hZ hR
  have ho : ∀ g, 900 ≤ g → ∀ i, ((g, i) : Nat × Nat) ≠ x_q n0 := fun g hg i h => by
    have := x_q_lt (n := n0) (by omega)
    rw [← h] at this
    simp only [] at this
    omega
  refine ⟨g1, by rw [e]; exact hP, by rw [e]; exact hD, ?_, ?_, ?_, g7, g8⟩
  · intro n hn j q hq
    by_cases he : x_q n = x_q n0
    · have hq' : R' (x_q n).1 (x_q n).2 j = some q := hq
      rw [he] at hq'
      rw [he]
      exact hv j q hq'
    · have hq' : R' (x_q n).1 (x_q n).2 j = some q := hq
      rw [hR _ he] at hq'
      exact g4 n hn j q hq'
  · intro n h1 h2 j
    have hne : x_q n ≠ x_q n0 := fun h => by
      have h1' : σ.1 ≤ n := h1
      have := x_q_inj h2 (by omega) h
      omega
    show Z' _ _ j = 0 ∧ R' _ _ j = none
    rw [hZ _ hne, hR _ hne]
    exact g5 n h1 h2 j
  · show Z' 2000 0 1 = 1 → Z' 2000 0 0 = _ ∧ ∀ j, j < L → Z' 900 0 j = _
    rw [hZ (2000, 0) (ho 2000 (by omega) 0), hZ (2000, 0) (ho 2000 (by omega) 0)]
    intro h9
    refine ⟨(g6 h9).1, fun j hj => ?_⟩
    rw [hZ (900, 0) (ho 900 (by omega) 0)]
    exact (g6 h9).2 j hj
theorem x_Dy.new {A : XAd} {C : XCd} {σ : XH} {U : State} {H : Heap} (h : x_Dy D S0 Fm b adK adV xs L A C σ U H) (hn : σ.1 < x_NC) {a : Nat} {cA : ClassId}
    (ht : (x_sh (x_q σ.1).1).1 ≠ 0 → ArrOfT U cA (x_ty (x_sh (x_q σ.1).1).1) ∧ va_RA U cA (x_ty (x_sh (x_q σ.1).1).1))
    {ce : va_E} (hce : ∀ A' : XAd, ce = x_cell A' Fm (fun q => if q = x_q σ.1 then cA else C q) (σ.1 + 1, σ.2) (x_q σ.1)) {H1 : Heap} (hP : va_P D x_cl (x_wl A Fm C σ ++ [(a, ce)]) H1) (hD : va_D (x_F S0) (x_wl A Fm C σ ++ [(a, ce)])) :
    x_Dy D S0 Fm b adK adV xs L (fun q => if q = x_q σ.1 then a else A q) (fun q => if q = x_q σ.1 then cA else C q) (σ.1 + 1, σ.2) U H1 := by
  obtain ⟨g1, -, -, g4, g5, g6, g7, g8⟩ := h
  have ne : ∀ n, n < σ.1 → x_q n ≠ x_q σ.1 := fun n h1 h2 => by
    have := x_q_inj (by omega) hn h2
    omega
  have e : x_wl (fun q => if q = x_q σ.1 then a else A q) Fm (fun q => if q = x_q σ.1 then cA else C q) (σ.1 + 1, σ.2) = x_wl A Fm C σ ++ [(a, ce)] := by
    apply List.ext_getElem?
    intro k
    by_cases hk : k < σ.1
    · rw [x_wl_get _ _ _ _ (show k < σ.1 + 1 by omega), List.getElem?_append_left (by simpa [x_wl] using hk), x_wl_get A Fm C σ hk]
      rw [if_neg (ne k hk)]
      rw [x_cell_congr (A := fun q => if q = x_q σ.1 then a else A q) (A' := A) (C := fun q => if q = x_q σ.1 then cA else C q) (C' := C) (σ := (σ.1 + 1, σ.2)) (σ' := σ) (if_neg (ne k hk)) (fun _ => rfl) (fun _ => rfl) ?_]
      intro j p hp
      obtain ⟨n', h1, h2⟩ : x_vh σ.1 p := (g4 k hk j p hp).elim id (fun h9 => by omega)
      subst h2
      exact if_neg (ne n' h1)
    · by_cases hk2 : k = σ.1
      · subst hk2
        rw [x_wl_get _ _ _ _ (show σ.1 < σ.1 + 1 by omega), List.getElem?_append_right (by simp [x_wl])]
        rw [if_pos rfl, ← hce]
        simp [x_wl]
      · rw [List.getElem?_eq_none (by simp [x_wl]; omega), List.getElem?_eq_none (by simp [x_wl]; omega)]
  have ho : ∀ g, 900 ≤ g → ∀ i, ((g, i) : Nat × Nat) ≠ x_q σ.1 := fun g hg i h => by
    have := x_q_lt (n := σ.1) hn
    rw [← h] at this
    simp only [] at this
    omega
  refine ⟨?_, by rw [e]; exact hP, by rw [e]; exact hD, ?_, ?_, g6, hn, ?_⟩
  · intro n h1 h2
    by_cases hk : n = σ.1
    · subst hk
      dsimp only
      rw [if_pos rfl]
      exact ht h2
    · have h1' : n < σ.1 + 1 := h1
      dsimp only
      rw [if_neg (ne n (by omega))]
      exact g1 n (by omega) h2
  · intro n h1 j q hq
    have h1' : n < σ.1 + 1 := h1
    by_cases hk : n = σ.1
    · subst hk
      rw [(g5 σ.1 (Nat.le_refl _) hn j).2] at hq
      cases hq
    · exact Or.inl (((g4 n (by omega) j q hq).elim id (fun h9 => by omega)).mono (Nat.le_succ _))
  · intro n h1 h2 j
    have h1' : σ.1 + 1 ≤ n := h1
    exact g5 n (by omega) h2 j
  · refine ⟨by dsimp only; rw [if_neg (ho 900 (by omega) 0)]; exact g8.1, fun i hi => ?_⟩
    dsimp only
    rw [if_neg (ho 901 (by omega) i), if_neg (ho 902 (by omega) i)]
    exact g8.2 i hi
end
