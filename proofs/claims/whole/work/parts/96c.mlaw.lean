/-! laws: the model reads one -/
def KLm (v : Nat) (Y Y' : XZ) : Prop := ∀ g m i, ¬ (g = 56 ∧ (i = 11 ∨ i = 12 ∨ i = 13 ∨ i = 14 ∨ i = 40 ∨ i = 46 ∨ i = 50)) → ¬ mlh v g i → g ≠ 90 → Y' g m i = Y g m i
theorem KLm.rfl' {v : Nat} {Y : XZ} : KLm v Y Y := fun _ _ _ _ _ _ => rfl
theorem KLm.trans {v : Nat} {Y Y' Y'' : XZ} (h : KLm v Y Y') (h' : KLm v Y' Y'') : KLm v Y Y'' := fun g m i a b c => (h' g m i a b c).trans (h g m i a b c)
theorem KLm.tk {v : Nat} {Y Y' : XZ} {K P V Nm : Nat → Int} (h : KLm v Y Y') (hT : TKm Y K P V Nm) : TKm Y' K P V Nm := hT.congr (fun g i a b => h g 0 i (by omega) (by unfold mlh; omega) (by omega))
theorem KX.kl {v : Nat} {Y Y' : XZ} (h : KX (420 * v) Y Y') : KLm v Y Y' := fun g m i a b c => h g m i (by omega) (by unfold mlh at b; omega) c
theorem KF.kl {v : Nat} {Y Y' : XZ} (h : KF Y Y') : KLm v Y Y' := fun g m i a b c => h g m i (by omega)
theorem kd272 : KD 272 := by unfold KD; omega
theorem kd273 : KD 273 := by unfold KD; omega
theorem kd274 : KD 274 := by unfold KD; omega
theorem kd59 : KD 59 := by unfold KD; omega
theorem kd60 : KD 60 := by unfold KD; omega
theorem kd61 : KD 61 := by unfold KD; omega
theorem tm272 : t_m 272 = 32 := by simp [t_m]
theorem tm273 : t_m 273 = 33 := by simp [t_m]
theorem tm274 : t_m 274 = 34 := by simp [t_m]
theorem tm59 : t_m 59 = 4 := by simp [t_m]
theorem tm60 : t_m 60 = 13 := by simp [t_m]
theorem tm61 : t_m 61 = 5 := by simp [t_m]
theorem MC.kx {Y Y' : XZ} {c0 : Nat} {cl : CL} (h : MC Y c0 cl) (h46 : Y' 56 0 46 = Y 56 0 46) (h8 : ∀ i, Y' 88 0 i = Y 88 0 i ∧ Y' 89 0 i = Y 89 0 i) : MC Y' c0 cl := ⟨by rw [h46]; exact h.1, fun i hi => by rw [(h8 _).1, (h8 _).2]; exact h.2 i hi⟩
theorem MC.pre {Y Y' : XZ} {c0 : Nat} {cl c : CL} (h : MC Y c0 cl) (h' : MC Y' c0 (cl ++ c)) : ∀ i, i < cl.length → Y' 88 0 (c0 + i) = Y 88 0 (c0 + i) ∧ Y' 89 0 (c0 + i) = Y 89 0 (c0 + i) := fun i hi => by
  have a := h.2 i hi
  have b := h'.2 i (by rw [List.length_append]; omega)
  rw [getD_app, if_pos hi] at b
  rw [a.1, a.2, b.1, b.2]; exact ⟨rfl, rfl⟩
theorem MA.of {Y : XZ} : ∀ {c : CL} {i : Nat}, (∀ x, x < c.length → Y 88 0 (i + x) = m_o (c.getD x (0, 0)).1 ∧ Y 89 0 (i + x) = (c.getD x (0, 0)).2) → MA Y i c := by
  intro c
  induction c with
  | nil => intro i _; trivial
  | cons x r ih =>
    intro i h
    obtain ⟨k, v⟩ := x
    have h0 := h 0 (by simp)
    refine ⟨h0.1, h0.2, ih (fun y hy => ?_)⟩
    have := h (y + 1) (by simp; omega)
    rw [show i + (y + 1) = i + 1 + y by omega] at this
    exact this
theorem MC.ma {Y : XZ} {c0 : Nat} {cl c e : CL} (h : MC Y c0 (cl ++ (c ++ e))) : MA Y (c0 + cl.length) c := MA.of (fun x hx => by
  have b := h.2 (cl.length + x) (by rw [List.length_append, List.length_append]; omega)
  rw [getD_app, if_neg (by omega), show cl.length + x - cl.length = x by omega, getD_app, if_pos hx, ← Nat.add_assoc] at b
  exact b)
theorem m_exprG {Y : XZ} {K P V Nm : Nat → Int} {t c0 d : Nat} {s : Nat × Nat} {cl : CL} (hB : KB K V) (hc : c0 ≤ 420) (hT : TKm Y K P V Nm) (hQ : MQr Y K P s.1 s.2) (hs : s.1 = 0 → Y 56 0 12 = 0 ∧ MC Y c0 cl ∧ cl.length ≤ s.2) (hd : 4 ≤ d) : ∃ Y' : XZ, x_CALL d 165 [.inr (.inr (some (56, 0)))] (x_S Y t) = some (0, x_S Y' t) ∧ KX c0 Y Y' ∧ MQr Y' K P (q_xe K V s).1 (q_xe K V s).2 ∧ ((q_xe K V s).1 = 0 → Y' 56 0 12 = 0 ∧ MC Y' c0 (cl ++ (e_T K V s.2).2.2)) := by
  by_cases h0 : s.1 = 0
  · rw [h0] at hQ
    obtain ⟨a1, a2, a3⟩ := hs h0
    obtain ⟨Y', e1, e2, e3, e4⟩ := m_expr (t := t) (d := d) hB hc hT hQ a1 a2 a3 hd
    have hq : q_xe K V s = ((e_T K V s.2).1, (e_T K V s.2).2.1) := if_pos h0
    rw [hq]
    exact ⟨Y', e1, e2, e3, e4⟩
  · obtain ⟨Y', e1, e2, e3⟩ := m_exprF (t := t) (c0 := c0) (d := d) hQ h0 (by omega)
    rw [q_xe_f h0]
    exact ⟨Y', e1, e2, e3, fun h => absurd h h0⟩
