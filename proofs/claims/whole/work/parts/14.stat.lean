/-! what stays the same all along -/
def x_w0 : String := "corner lane house post seeker strays asks fears thickens wrong mist seed if then else sense dark fog long day lanes which sold miles "
def x_w1 : String := ";=+-*/<()"
noncomputable def x_tn : List Nat := [(x_tx 0).length, (x_tx 1).length]
noncomputable def x_tb : List (List Int32) := [(x_tx 0).map Int32.ofInt, (x_tx 1).map Int32.ofInt]
def x_ny : Cond := .methodLinkNest "LostBuyer$Town" 122 ⟨"LostBuyer", "within", "(II)I"⟩ "LostBuyer"
def x_St (D : va_G) (S0 : Nat) (Fm : Value) (b : Nat) (adK adV : Nat → Nat) (xs : Nat → Int32) (L : Nat) (U : State) : Prop :=
  S0 ≤ U.heap.size ∧ va_K D x_cl [] U ∧ va_Nw x_ny U ∧ va_AO "LostBuyer$State" U ∧ vk_R "LostBuyer$Tokens" 49 x_w0 (adK 0) U ∧ vk_R "LostBuyer$Tokens" 36 x_w1 (adK 1) U ∧ vk_S 2 x_tn x_tb adK adV (x_F S0) U U.heap ∧
  va_Z "java/lang/String" "COMPACT_STRINGS" "Z" (.int 1) (x_F S0) U U.heap ∧ va_Z "jdk/internal/util/Preconditions" "SIOOBE_FORMATTER" "Ljava/util/function/BiFunction;" Fm (x_F S0) U U.heap ∧ va_X b L xs U U.heap ∧ b < S0
section
variable {D : va_G} {S0 : Nat} {Fm : Value} {b : Nat} {adK adV : Nat → Nat} {xs : Nat → Int32} {L : Nat}
theorem x_St.to {s U : State} {H : Heap} {locs : List Loc} (h : x_St D S0 Fm b adK adV xs L s) (hS : va_S (x_F S0) s.heap H locs) (hU : U.heap = H) (hW : s.WarmedH U.vm) : x_St D S0 Fm b adK adV xs L U := by
  obtain ⟨h1, h2, h3, h4, h5, h6, h7, h8, h9, h10, h11⟩ := h
  have hq : ∀ a : Nat, a < s.heap.size → ¬ x_F S0 a → U.heap[a]? = s.heap[a]? := fun a g1 g2 => by rw [hU]; exact hS.2.1 a g1 g2
  refine ⟨by rw [hU]; exact Nat.le_trans h1 hS.1, va_K.moved hW.alike h2, va_Nw.warmM hW h3, va_AO.moved hW.alike h4, h5.warm hW, h6.warm hW, (h7.moved hW.alike).kept hq, (h8.moved hW.alike).kept hq, (h9.moved hW.alike).kept hq, (h10.moved hW.alike).kept (hq b ?_ ?_), h11⟩
  · omega
  · show ¬ S0 ≤ b
    omega
theorem x_St.calling {U : State} (h : x_St D S0 Fm b adK adV xs L U) (g : JFrame) (mk : MethodId) (a : Array Value) : x_St D S0 Fm b adK adV xs L (U.calling g mk a) := by
  obtain ⟨h1, h2, h3, h4, h5, h6, h7, h8, h9, h10, h11⟩ := h
  exact ⟨h1, va_K.moved (u := U) (U := U.calling g mk a) (Vm.Alike.refl U.vm) h2, va_Nw.same (u := U) (U := U.calling g mk a) rfl rfl h3, va_AO.moved (u := U) (U := U.calling g mk a) (Vm.Alike.refl U.vm) h4, vk_R.same (u := U) (U := U.calling g mk a) rfl h5, vk_R.same (u := U) (U := U.calling g mk a) rfl h6, vk_S.moved (u := U) (U := U.calling g mk a) (Vm.Alike.refl U.vm) h7, va_Z.moved (u := U) (U := U.calling g mk a) (Vm.Alike.refl U.vm) h8, va_Z.moved (u := U) (U := U.calling g mk a) (Vm.Alike.refl U.vm) h9, va_X.moved (u := U) (U := U.calling g mk a) (Vm.Alike.refl U.vm) h10, h11⟩
end
/-! words, by their places -/
theorem x_word {i : Nat} {w : Cond} (h : lw_tbl[i]? = some w) (hg : goodWord w = true) : w ∈ x_tbl := by
  unfold x_tbl
  exact List.mem_filter.mpr ⟨List.mem_of_getElem? h, hg⟩
theorem x_look_mem {α : Type} : ∀ (l : List (Nat × α)) (k : Nat) (v : α), x_look l k = some v → (k, v) ∈ l
  | [], k, v, h => by simp [x_look] at h
  | (a, w) :: r, k, v, h => by
    unfold x_look at h
    cases hb : Nat.beq a k with
    | true =>
      rw [hb] at h
      have e : a = k := Nat.eq_of_beq_eq_true hb
      subst e
      cases h
      exact List.mem_cons_self
    | false =>
      rw [hb] at h
      exact List.mem_cons_of_mem _ (x_look_mem r k v h)
theorem x_lay {ci : Nat} (h : ci < 10) : ∀ w ∈ u_ws (x_nm ci) (x_Tf ci) (x_N ci), w ∈ x_tbl := by
  intro w hw
  unfold u_ws at hw
  obtain ⟨k, hk, rfl⟩ := List.mem_map.mp hw
  have := x_lay0 ci h k (List.mem_range.mp hk)
  unfold x_tbl
  exact List.mem_filter.mpr this
