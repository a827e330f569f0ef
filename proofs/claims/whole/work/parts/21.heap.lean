/-! steps at the heap -/
theorem x_cell_obj {A : XAd} {Fm : Value} {C : XCd} {σ : XH} {q : Nat × Nat} {ci : Nat} (h1 : (x_sh q.1).1 = 0) (h2 : (x_sh q.1).2 = ci) : x_cell A Fm C σ q = .inr (ci, x_fs A Fm σ q ci) := by
  unfold x_cell x_ce
  rw [h1, h2]
  rfl
theorem x_cell_i {A : XAd} {Fm : Value} {C : XCd} {σ : XH} {q : Nat × Nat} (h : (x_sh q.1).1 = 1 ∨ (x_sh q.1).1 = 2 ∨ (x_sh q.1).1 = 3) : x_cell A Fm C σ q = .inl (C q, (x_sh q.1).2, .inl fun j => Int32.ofInt (σ.2.1 q.1 q.2 j)) := by
  unfold x_cell x_ce
  rcases h with h | h | h <;> rw [h] <;> rfl
theorem x_cell_l {A : XAd} {Fm : Value} {C : XCd} {σ : XH} {q : Nat × Nat} (h : (x_sh q.1).1 = 4) : x_cell A Fm C σ q = .inl (C q, (x_sh q.1).2, .inr (.inl fun j => Int64.ofInt (σ.2.1 q.1 q.2 j))) := by
  unfold x_cell x_ce
  rw [h]
  rfl
theorem x_cell_q {A : XAd} {Fm : Value} {C : XCd} {σ : XH} {q : Nat × Nat} (h : (x_sh q.1).1 = 5) : x_cell A Fm C σ q = .inl (C q, (x_sh q.1).2, .inr (.inr (.inr (.inr fun j => (σ.2.2 q.1 q.2 j).map A)))) := by
  unfold x_cell x_ce
  rw [h]
  rfl
theorem x_fs_len (A : XAd) (Fm : Value) (σ : XH) (q : Nat × Nat) (ci : Nat) : (x_fs A Fm σ q ci).length = x_N ci := by simp [x_fs]
theorem x_fs_get {A : XAd} {Fm : Value} {σ : XH} {q : Nat × Nat} {ci f : Nat} (h : f < x_N ci) : (x_fs A Fm σ q ci)[f]? = some (x_fv A Fm σ q ci f) := by
  simp [x_fs, h]
theorem x_fs_set {A : XAd} {Fm : Value} {σ σ' : XH} {q : Nat × Nat} {ci f : Nat} {v : Value} (h : f < x_N ci) (hv : x_fv A Fm σ' q ci f = v) (ho : ∀ f', f' ≠ f → x_fv A Fm σ' q ci f' = x_fv A Fm σ q ci f') : (x_fs A Fm σ q ci).set f v = x_fs A Fm σ' q ci := by
  apply List.ext_getElem?
  intro k
  by_cases hk : k < x_N ci
  · by_cases e : k = f
    · subst e
      rw [List.getElem?_set_self (by rw [x_fs_len]; exact hk), x_fs_get hk, hv]
    · rw [List.getElem?_set_ne (Ne.symm e), x_fs_get hk, x_fs_get hk, ho k e]
  · rw [List.getElem?_eq_none (by rw [List.length_set, x_fs_len]; omega), List.getElem?_eq_none (by rw [x_fs_len]; omega)]
theorem x_u_at (Z : XZ) (g i j : Nat) (v : Int) : x_u Z g i j v g i j = v := by simp [x_u]
theorem x_u_ne {Z : XZ} {g i j : Nat} {v : Int} {g' i' j' : Nat} (h : ¬ (g' = g ∧ i' = i ∧ j' = j)) : x_u Z g i j v g' i' j' = Z g' i' j' := by unfold x_u; rw [if_neg h]
theorem x_u_o {Z : XZ} {g i j : Nat} {v : Int} {q : Nat × Nat} (h : q ≠ (g, i)) (k : Nat) : x_u Z g i j v q.1 q.2 k = Z q.1 q.2 k := x_u_ne (fun e => h (Prod.ext e.1 e.2.1))
theorem x_ur_at (R : XR) (g i j : Nat) (v : Option (Nat × Nat)) : x_ur R g i j v g i j = v := by simp [x_ur]
theorem x_ur_ne {R : XR} {g i j : Nat} {v : Option (Nat × Nat)} {g' i' j' : Nat} (h : ¬ (g' = g ∧ i' = i ∧ j' = j)) : x_ur R g i j v g' i' j' = R g' i' j' := by unfold x_ur; rw [if_neg h]
theorem x_ur_o {R : XR} {g i j : Nat} {v : Option (Nat × Nat)} {q : Nat × Nat} (h : q ≠ (g, i)) (k : Nat) : x_ur R g i j v q.1 q.2 k = R q.1 q.2 k := x_ur_ne (fun e => h (Prod.ext e.1 e.2.1))
theorem x_K1 {D : va_G} {s : State} {cA : ClassId} {ty : FieldType} (h : va_K D x_cl [] s) (ha : ArrOfT s cA ty ∧ va_RA s cA ty) : va_K D x_cl [(cA, ty)] s := by
  refine ⟨h.1, fun k q hk => ?_⟩
  match k, hk with
  | 0, hk => cases hk; exact ha
theorem x_beq {a k : Nat} (h : Nat.beq a k = true) : a = k := Nat.eq_of_beq_eq_true h
theorem x_upd {f : Nat → Int32} {k : Nat} {x : Int32} {g : Nat → Int32} (h1 : g k = x) (h2 : ∀ j, j ≠ k → g j = f j) : upd f k x = g := by
  funext j
  by_cases e : j = k
  · subst e; simp [upd, h1]
  · simp [upd, e, h2 j e]
theorem x_updL {f : Nat → Int64} {k : Nat} {x : Int64} {g : Nat → Int64} (h1 : g k = x) (h2 : ∀ j, j ≠ k → g j = f j) : vp_updL f k x = g := by
  funext j
  by_cases e : j = k
  · subst e; simp [vp_updL, h1]
  · simp [vp_updL, e, h2 j e]
theorem x_upq {f : Nat → Option Nat} {k : Nat} {x : Option Nat} {g : Nat → Option Nat} (h1 : g k = x) (h2 : ∀ j, j ≠ k → g j = f j) : va_up f k x = g := by
  funext j
  by_cases e : j = k
  · subst e; simp [va_up, h1]
  · simp [va_up, e, h2 j e]
section
variable {p : Program} {l : Launch} {e : Env} {R : Room} {s : State} {m : MethodId} {args : Array Value} {below : List Frame} {meth : Method} {c : Code} {Q : State → Prop} {D : va_G} {S0 : Nat} {Fm : Value} {b : Nat} {adK adV : Nat → Nat} {xs : Nat → Int32} {L : Nat} {j n0 nM d : Nat}
variable {pc : Nat} {ls : XL} {st : List XV} {σ : XH} {A : XAd} {C : XCd} {H : Heap} {locs : List Loc} {rls : Array Slot}
theorem x_ref {q : Nat × Nat} (h : q.1 < 900) : x_re A Fm (.inr (.inr (some q))) = .ref (A q) := if_neg (by omega)
theorem x_refh (hDy : x_Dy D S0 Fm b adK adV xs L A C σ s H) {q : Nat × Nat} (h : x_vh σ.1 q) : q.1 < 900 := by
  obtain ⟨n, h1, rfl⟩ := h
  exact x_q_lt (by have := hDy.2.2.2.2.2.2.1; omega)
/-- a value of a row of references, as the machine has it -/
theorem x_refq (hDy : x_Dy D S0 Fm b adK adV xs L A C σ s H) {n : Nat} (hn : n < σ.1) {k : Nat} (hk : k < x_s1 (x_q n)) : va_rf ((σ.2.2 (x_q n).1 (x_q n).2 k).map A) = x_re A Fm (.inr (.inr (σ.2.2 (x_q n).1 (x_q n).2 k))) := by
  cases h : σ.2.2 (x_q n).1 (x_q n).2 k with
  | none => rfl
  | some q => rw [x_ref (x_refh hDy ((hDy.2.2.2.1 n hn k q h).elim id (fun h9 => by omega)))]; rfl
theorem x_okq (hDy : x_Dy D S0 Fm b adK adV xs L A C σ s H) {n : Nat} (hn : n < σ.1) {k : Nat} (hk : k < x_s1 (x_q n)) : x_okv σ.1 (.inr (.inr (σ.2.2 (x_q n).1 (x_q n).2 k))) := by
  intro q h
  cases h2 : σ.2.2 (x_q n).1 (x_q n).2 k with
  | none => rw [h2] at h; cases h
  | some q' =>
    rw [h2] at h
    cases h
    exact Or.inl ((hDy.2.2.2.1 n hn k q h2).elim id (fun h9 => by omega))
end
