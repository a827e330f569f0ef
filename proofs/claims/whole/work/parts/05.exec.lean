/-! runs of our machine, and their limit -/
section
variable {α β : Type}
theorem x_1i_map (φ : β → α) (kn : β) (st : List XV) (f : Int → List XV → β) : φ (x_1i kn st f) = x_1i (φ kn) st (fun x r => φ (f x r)) := by
  unfold x_1i; split <;> rfl
theorem x_2i_map (φ : β → α) (kn : β) (st : List XV) (f : Int → Int → List XV → β) : φ (x_2i kn st f) = x_2i (φ kn) st (fun x y r => φ (f x y r)) := by
  unfold x_2i; split <;> rfl
theorem x_1l_map (φ : β → α) (kn : β) (st : List XV) (f : Int → List XV → β) : φ (x_1l kn st f) = x_1l (φ kn) st (fun x r => φ (f x r)) := by
  unfold x_1l; split <;> rfl
theorem x_2l_map (φ : β → α) (kn : β) (st : List XV) (f : Int → Int → List XV → β) : φ (x_2l kn st f) = x_2l (φ kn) st (fun x y r => φ (f x y r)) := by
  unfold x_2l; split <;> rfl
theorem x_1r_map (φ : β → α) (kn : β) (st : List XV) (f : Nat → Nat → List XV → β) : φ (x_1r kn st f) = x_1r (φ kn) st (fun x y r => φ (f x y r)) := by
  unfold x_1r; split <;> rfl
theorem x_1q_map (φ : β → α) (kn : β) (st : List XV) (f : Option (Nat × Nat) → List XV → β) : φ (x_1q kn st f) = x_1q (φ kn) st (fun x r => φ (f x r)) := by
  unfold x_1q; split <;> rfl
theorem x_pop_map (φ : β → α) (kn : β) : ∀ (n : Nat) (st acc : List XV) (f : List XV → List XV → β), φ (x_pop kn n st acc f) = x_pop (φ kn) n st acc (fun a r => φ (f a r))
  | 0, st, acc, f => by unfold x_pop; rfl
  | n + 1, [], acc, f => by unfold x_pop; rfl
  | n + 1, v :: r, acc, f => by unfold x_pop; exact x_pop_map φ kn n r (v :: acc) f
theorem x_sw_map (φ : β → α) (z : Int) (d : Int) (f : Int → β) : ∀ (os : List Int) (lo : Int), φ (x_sw z lo os d f) = x_sw z lo os d (fun o => φ (f o))
  | [], lo => by unfold x_sw; rfl
  | o :: r, lo => by
    unfold x_sw
    rw [apply_ite φ, x_sw_map φ z d f r (lo + 1)]
theorem x_if_map (φ : β → α) (c : ClassFile.Cond) (x : Int) (a b : β) : φ (x_if c x a b) = x_if c x (φ a) (φ b) := by
  unfold x_if; cases c <;> exact apply_ite φ _ _ _
theorem x_ic_map (φ : β → α) (c : ClassFile.Cond) (x y : Int) (a b : β) : φ (x_ic c x y a b) = x_ic c x y (φ a) (φ b) := by
  unfold x_ic; cases c <;> exact apply_ite φ _ _ _
theorem x_cond_map (φ : β → α) (c : Bool) (a b : β) : φ (bif c then a else b) = bif c then φ a else φ b := by cases c <;> rfl
variable (φ : β → α) (kn : β) (kr : Int → XH → β) (kk : Nat → XL → List XV → XH → β) (kc : Nat → List XV → XH → Nat → Nat → XL → List XV → β)
theorem x_gf_map (j pc : Nat) (ls : XL) (σ : XH) (e : Option (Nat × Nat × Nat × Nat)) (g i : Nat) (r : List XV) : φ (x_gf kn kk j pc ls σ e g i r) = x_gf (φ kn) (fun a b c d => φ (kk a b c d)) j pc ls σ e g i r := by
  unfold x_gf; split <;> first | rfl | simp only [x_cond_map φ]
theorem x_pf_map (j pc : Nat) (ls : XL) (σ : XH) (e : Option (Nat × Nat × Nat × Nat)) (st : List XV) : φ (x_pf kn kk j pc ls σ e st) = x_pf (φ kn) (fun a b c d => φ (kk a b c d)) j pc ls σ e st := by
  unfold x_pf; split <;> first | rfl | simp only [x_cond_map φ, x_1q_map φ, x_1r_map φ, x_1i_map φ, apply_ite φ]
theorem x_iv_map (j pc : Nat) (ls : XL) (σ : XH) (e : Option (Nat × Nat × Nat)) (st : List XV) : φ (x_iv kn kc j pc ls σ e st) = x_iv (φ kn) (fun a b c d e f g => φ (kc a b c d e f g)) j pc ls σ e st := by
  unfold x_iv; split <;> first | rfl | simp only [x_cond_map φ, x_pop_map φ, x_1r_map φ]
theorem x_is_map (j pc : Nat) (ls : XL) (σ : XH) (e : Option (Nat × Nat × Nat)) (st : List XV) : φ (x_is kn kk kc j pc ls σ e st) = x_is (φ kn) (fun a b c d => φ (kk a b c d)) (fun a b c d e f g => φ (kc a b c d e f g)) j pc ls σ e st := by
  unfold x_is; split <;> first | rfl | simp only [x_cond_map φ, x_pop_map φ, x_1r_map φ, x_1i_map φ, apply_ite φ]
theorem x_ip_map (j pc : Nat) (ls : XL) (σ : XH) (e : Option (Nat × Nat × Nat)) (st : List XV) : φ (x_ip kn kk kc j pc ls σ e st) = x_ip (φ kn) (fun a b c d => φ (kk a b c d)) (fun a b c d e f g => φ (kc a b c d e f g)) j pc ls σ e st := by
  unfold x_ip; split <;> first | rfl | simp only [x_cond_map φ, x_pop_map φ, x_1r_map φ]
theorem x_kd_map (j pc n : Nat) (ls : XL) (σ : XH) (st : List XV) (e : Option (Nat × Int × Nat)) : φ (x_kd kn kk j pc n ls σ st e) = x_kd (φ kn) (fun a b c d => φ (kk a b c d)) j pc n ls σ st e := by
  unfold x_kd; split <;> first | rfl | simp only [x_cond_map φ]
theorem x_nw_map (j pc : Nat) (ls : XL) (σ : XH) (st : List XV) (e : Option (Nat × Nat)) : φ (x_nw kn kk j pc ls σ st e) = x_nw (φ kn) (fun a b c d => φ (kk a b c d)) j pc ls σ st e := by
  unfold x_nw
  split
  · rfl
  · split
    · simp only [x_cond_map φ]
    · rfl
theorem x_na_map (pc n tag : Nat) (ls : XL) (σ : XH) (st : List XV) : φ (x_na kn kk pc n tag ls σ st) = x_na (φ kn) (fun a b c d => φ (kk a b c d)) pc n tag ls σ st := by
  unfold x_na
  rw [x_1i_map φ]
  congr 1
  funext m r
  split
  · simp only [x_cond_map φ, apply_ite φ]
  · rfl
set_option maxHeartbeats 4000000 in
theorem x_one_map (j pc n : Nat) (ls : XL) (st : List XV) (σ : XH) (i : Instr) : φ (x_one kn kr kk kc j pc n ls st σ i) = x_one (φ kn) (fun a b => φ (kr a b)) (fun a b c d => φ (kk a b c d)) (fun a b c d e f g => φ (kc a b c d e f g)) j pc n ls st σ i := by
  cases i <;> unfold x_one <;> dsimp only <;>
    first
    | rfl
    | (simp only [x_cond_map φ, x_1i_map φ, x_2i_map φ, x_1l_map φ, x_2l_map φ, x_1r_map φ, x_1q_map φ, x_sw_map φ, x_if_map φ, x_ic_map φ, apply_ite φ, x_gf_map φ, x_pf_map φ, x_iv_map φ, x_is_map φ, x_ip_map φ, x_kd_map φ, x_nw_map φ, x_na_map φ]; done)
    | (split <;> first | rfl | (simp only [x_cond_map φ, apply_ite φ]; done) | (split <;> first | rfl | (simp only [x_cond_map φ, apply_ite φ]; done)))
theorem x_act_map (j pc : Nat) (ls : XL) (st : List XV) (σ : XH) : φ (x_act kn kr kk kc j pc ls st σ) = x_act (φ kn) (fun a b => φ (kr a b)) (fun a b c d => φ (kk a b c d)) (fun a b c d e f g => φ (kc a b c d e f g)) j pc ls st σ := by
  unfold x_act
  split
  · rfl
  · exact x_one_map φ kn kr kk kc j pc _ ls st σ _
end
abbrev XA : Type := Option ((Int × XH) ⊕ ((Nat × XL × List XV × XH) ⊕ (Nat × List XV × XH × Nat × Nat × XL × List XV)))
def x_el {α : Type} (kn : α) (kr : Int → XH → α) (kk : Nat → XL → List XV → XH → α) (kc : Nat → List XV → XH → Nat → Nat → XL → List XV → α) (a : XA) : α := match a with
  | none => kn
  | some (.inl (z, σ)) => kr z σ
  | some (.inr (.inl (pc, ls, st, σ))) => kk pc ls st σ
  | some (.inr (.inr (c, as, σ, k, pc, ls, st))) => kc c as σ k pc ls st
noncomputable def x_A (j pc : Nat) (ls : XL) (st : List XV) (σ : XH) : XA := x_act none (fun z σ => some (.inl (z, σ))) (fun pc ls st σ => some (.inr (.inl (pc, ls, st, σ)))) (fun c as σ k pc ls st => some (.inr (.inr (c, as, σ, k, pc, ls, st)))) j pc ls st σ
theorem x_act_el {α : Type} (kn : α) (kr : Int → XH → α) (kk : Nat → XL → List XV → XH → α) (kc : Nat → List XV → XH → Nat → Nat → XL → List XV → α) (j pc : Nat) (ls : XL) (st : List XV) (σ : XH) : x_act kn kr kk kc j pc ls st σ = x_el kn kr kk kc (x_A j pc ls st σ) := by
  unfold x_A
  rw [x_act_map (x_el kn kr kk kc)]
  rfl
abbrev XC : Type := Nat → List XV → XH → Option (Int × XH)
noncomputable def x_ex (C : XC) (n j pc : Nat) (ls : XL) (st : List XV) (σ : XH) : Option (Int × XH) := match n with
  | 0 => none
  | n + 1 => x_act none (fun z σ => some (z, σ)) (fun pc ls st σ => x_ex C n j pc ls st σ) (fun c as σ k pc ls st => (C c as σ).bind fun q => x_ex C n j pc ls (x_psh k q.1 st) q.2) j pc ls st σ
def x_sl : List XV → XL
  | [] => []
  | .inr (.inl z) :: r => some (.inr (.inl z)) :: none :: x_sl r
  | .inl z :: r => some (.inl z) :: x_sl r
  | .inr (.inr q) :: r => some (.inr (.inr q)) :: x_sl r
def x_pad (n : Nat) (l : XL) : XL := match n, l with
  | 0, l => l
  | n + 1, [] => none :: x_pad n []
  | n + 1, a :: r => a :: x_pad n r
noncomputable def x_ent (c : Nat) (as : List XV) : XL := x_pad (x_mx c) (x_sl as)
def x_sll (as : List XV) : Nat := match as with
  | [] => 0
  | .inr (.inl _) :: r => x_sll r + 2
  | _ :: r => x_sll r + 1
noncomputable def x_fit (c : Nat) (as : List XV) : Bool := Nat.ble (x_sll as) (x_mx c) && (Nat.blt 0 c && Nat.blt c 262)
noncomputable def x_ev (d F : Nat) : XC := match d with
  | 0 => fun _ _ _ => none
  | d + 1 => fun c as σ => bif x_fit c as then x_ex (x_ev d F) F c 0 (x_ent c as) [] σ else none
theorem x_ex_mono {C C' : XC} (hC : ∀ c as σ r, C c as σ = some r → C' c as σ = some r) : ∀ (n m : Nat), n ≤ m → ∀ (j pc : Nat) (ls : XL) (st : List XV) (σ : XH) (r : Int × XH), x_ex C n j pc ls st σ = some r → x_ex C' m j pc ls st σ = some r := by
  intro n
  induction n with
  | zero => intro m _ j pc ls st σ r h; simp [x_ex] at h
  | succ n ih =>
    intro m hm j pc ls st σ r h
    obtain ⟨m', rfl⟩ : ∃ m', m = m' + 1 := ⟨m - 1, by omega⟩
    unfold x_ex at h ⊢
    rw [x_act_el] at h ⊢
    revert h
    generalize x_A j pc ls st σ = a
    intro h
    match a, h with
    | some (.inl (z, σ)), h => exact h
    | some (.inr (.inl (pc, ls, st, σ))), h => exact ih m' (by omega) _ _ _ _ _ _ h
    | some (.inr (.inr (c, as, σ, k, pc, ls, st))), h =>
      simp only [x_el, Option.bind_eq_some_iff] at h ⊢
      obtain ⟨q, h1, h2⟩ := h
      exact ⟨q, hC _ _ _ _ h1, ih m' (by omega) _ _ _ _ _ _ h2⟩
theorem x_ev_mono : ∀ (d F G : Nat), F ≤ G → ∀ c as σ r, x_ev d F c as σ = some r → x_ev d G c as σ = some r := by
  intro d
  induction d with
  | zero => intro F G _ c as σ r h; simp [x_ev] at h
  | succ d ih =>
    intro F G hF c as σ r h
    unfold x_ev at h ⊢
    cases hf : x_fit c as with
    | false => rw [hf] at h; cases h
    | true => rw [hf] at h; exact x_ex_mono (ih F G hF) F G hF _ _ _ _ _ _ h
noncomputable def x_lim {α : Type} (f : Nat → Option α) : Option α := @dite (Option α) (∃ r, ∃ F, f F = some r) (Classical.propDecidable _) (fun h => some (Classical.choose h)) (fun _ => none)
theorem x_lim_iff {α : Type} {f : Nat → Option α} (hf : ∀ F G r, F ≤ G → f F = some r → f G = some r) (r : α) : x_lim f = some r ↔ ∃ F, f F = some r := by
  unfold x_lim
  constructor
  · intro h
    by_cases hx : ∃ r, ∃ F, f F = some r
    · rw [dif_pos hx] at h
      cases h
      exact Classical.choose_spec hx
    · rw [dif_neg hx] at h
      cases h
  · intro ⟨F, hF⟩
    have hx : ∃ r, ∃ F, f F = some r := ⟨r, F, hF⟩
    rw [dif_pos hx]
    obtain ⟨G, hG⟩ := Classical.choose_spec hx
    have h1 := hf F (max F G) r (by omega) hF
    have h2 := hf G (max F G) _ (by omega) hG
    rw [← h2, h1]
noncomputable def x_CALL (d : Nat) : XC := fun c as σ => x_lim fun F => x_ev d F c as σ
noncomputable def x_EX (d j pc : Nat) (ls : XL) (st : List XV) (σ : XH) : Option (Int × XH) := x_lim fun F => x_ex (x_ev d F) F j pc ls st σ

theorem x_CALL_iff {d c : Nat} {as : List XV} {σ : XH} (r : Int × XH) : x_CALL d c as σ = some r ↔ ∃ F, x_ev d F c as σ = some r := x_lim_iff (fun F G r h => x_ev_mono d F G h c as σ r) r
theorem x_EX_iff {d j pc : Nat} {ls : XL} {st : List XV} {σ : XH} (r : Int × XH) : x_EX d j pc ls st σ = some r ↔ ∃ F, x_ex (x_ev d F) F j pc ls st σ = some r := x_lim_iff (fun F G r h => x_ex_mono (x_ev_mono d F G h) F G h j pc ls st σ r) r
theorem x_CALL_succ {d c : Nat} {as : List XV} {σ : XH} (hf : x_fit c as = true) : x_CALL (d + 1) c as σ = x_EX d c 0 (x_ent c as) [] σ := by
  unfold x_CALL x_EX
  congr 1
  funext F
  show (bif x_fit c as then x_ex (x_ev d F) F c 0 (x_ent c as) [] σ else none) = _
  rw [hf]
  rfl
theorem x_oe {α : Type} {a b : Option α} (h : ∀ r, a = some r ↔ b = some r) : a = b := by
  cases a with
  | none => cases b with
    | none => rfl
    | some y => exact ((h y).mpr rfl)
  | some x => exact ((h x).mp rfl).symm
theorem x_EX_eq (d j pc : Nat) (ls : XL) (st : List XV) (σ : XH) : x_EX d j pc ls st σ = x_act none (fun z σ => some (z, σ)) (fun pc ls st σ => x_EX d j pc ls st σ) (fun c as σ k pc ls st => (x_CALL d c as σ).bind fun q => x_EX d j pc ls (x_psh k q.1 st) q.2) j pc ls st σ := by
  apply x_oe
  intro r
  rw [x_EX_iff, x_act_el]
  constructor
  · intro ⟨F, hF⟩
    cases F with
    | zero => simp [x_ex] at hF
    | succ F =>
      unfold x_ex at hF
      rw [x_act_el] at hF
      revert hF
      generalize x_A j pc ls st σ = a
      intro h
      match a, h with
      | some (.inl (z, σ)), h => exact h
      | some (.inr (.inl (pc, ls, st, σ))), h => exact (x_EX_iff r).mpr ⟨F + 1, x_ex_mono (fun _ _ _ _ h => h) F (F + 1) (by omega) _ _ _ _ _ _ h⟩
      | some (.inr (.inr (c, as, σ, k, pc, ls, st))), h =>
        simp only [x_el, Option.bind_eq_some_iff] at h ⊢
        obtain ⟨q, h1, h2⟩ := h
        exact ⟨q, (x_CALL_iff q).mpr ⟨_, h1⟩, (x_EX_iff r).mpr ⟨F + 1, x_ex_mono (fun _ _ _ _ h => h) F (F + 1) (by omega) _ _ _ _ _ _ h2⟩⟩
  · generalize hA : x_A j pc ls st σ = a
    intro h
    have key : ∀ F, x_ex (x_ev d F) (F + 1) j pc ls st σ = some r → ∃ F, x_ex (x_ev d F) F j pc ls st σ = some r := fun F h => ⟨F + 1, x_ex_mono (x_ev_mono d F (F + 1) (by omega)) _ _ (Nat.le_refl _) _ _ _ _ _ _ h⟩
    match a, hA, h with
    | some (.inl (z, σ)), hA, h => exact key 0 (by unfold x_ex; rw [x_act_el, hA]; exact h)
    | some (.inr (.inl (pc, ls, st, σ))), hA, h =>
      obtain ⟨F, hF⟩ := (x_EX_iff r).mp h
      exact key F (by unfold x_ex; rw [x_act_el, hA]; exact hF)
    | some (.inr (.inr (c, as, σ, k, pc, ls, st))), hA, h =>
      simp only [x_el, Option.bind_eq_some_iff] at h
      obtain ⟨q, h1, h2⟩ := h
      obtain ⟨F, hF⟩ := (x_CALL_iff q).mp h1
      obtain ⟨G, hG⟩ := (x_EX_iff r).mp h2
      refine key (max F G) ?_
      unfold x_ex
      rw [x_act_el, hA]
      simp only [x_el, Option.bind_eq_some_iff]
      exact ⟨q, x_ev_mono d F _ (by omega) _ _ _ _ hF, x_ex_mono (x_ev_mono d G _ (by omega)) _ _ (by omega) _ _ _ _ _ _ hG⟩
/-- many instructions at once, up to places where one stops -/
noncomputable def x_st (d : Nat) (cut : Nat → Bool) (n j pc : Nat) (ls : XL) (st : List XV) (σ : XH) : Option (Int × XH) := match n with
  | 0 => x_EX d j pc ls st σ
  | n + 1 => x_act none (fun z σ => some (z, σ)) (fun pc ls st σ => bif cut pc then x_EX d j pc ls st σ else x_st d cut n j pc ls st σ) (fun c as σ k pc ls st => (x_CALL d c as σ).bind fun q => bif cut pc then x_EX d j pc ls (x_psh k q.1 st) q.2 else x_st d cut n j pc ls (x_psh k q.1 st) q.2) j pc ls st σ
theorem x_EX_st (d : Nat) (cut : Nat → Bool) : ∀ (n j pc : Nat) (ls : XL) (st : List XV) (σ : XH), x_EX d j pc ls st σ = x_st d cut n j pc ls st σ := by
  intro n
  induction n with
  | zero => intro j pc ls st σ; rfl
  | succ n ih =>
    intro j pc ls st σ
    rw [x_EX_eq]
    unfold x_st
    have e : ∀ (pc : Nat) (ls : XL) (st : List XV) (σ : XH), x_EX d j pc ls st σ = bif cut pc then x_EX d j pc ls st σ else x_st d cut n j pc ls st σ := by
      intro pc ls st σ
      cases cut pc with
      | true => rfl
      | false => exact ih j pc ls st σ
    congr 1
    · funext pc ls st σ; exact e pc ls st σ
    · funext c as σ k pc ls st
      congr 1
      funext q
      exact e _ _ _ _
