def x_isr (ty : FieldType) : Bool := match ty with
  | .array _ => true
  | .object _ => true
  | _ => false
def x_N (ci : Nat) : Nat := match ci with
  | 0 => 3
  | 1 => 6
  | 2 => 6
  | 3 => 10
  | 4 => 6
  | 5 => 3
  | 6 => 20
  | 7 => 17
  | 8 => 12
  | _ => 78
noncomputable def x_tbl : List Cond := lw_tbl.filter goodWord
/-- the class of a number -/
noncomputable def x_nm (o : Nat) : String := x_cn.getD o ""
noncomputable def x_Tf (ci : Nat) : u_T := match ci with
  | 0 => x_T0
  | 1 => x_T1
  | 2 => x_T2
  | 3 => x_T3
  | 4 => x_T4
  | 5 => x_T5
  | 6 => x_T6
  | 7 => x_T7
  | 8 => x_T8
  | _ => x_T9
theorem x_cl_get {ci : Nat} (h : ci < 10) : x_cl[ci]? = some (x_nm ci, x_Tf ci, x_N ci) := by
  rcases (show ci = 0 ∨ ci = 1 ∨ ci = 2 ∨ ci = 3 ∨ ci = 4 ∨ ci = 5 ∨ ci = 6 ∨ ci = 7 ∨ ci = 8 ∨ ci = 9 by omega) with h | h | h | h | h | h | h | h | h | h <;> subst h <;> rfl
theorem x_nmok : ∀ ci, ci < 10 → ∀ a, a < x_N ci → ∀ b, b < x_N ci → a ≠ b → (x_Tf ci a).2.1 ≠ (x_Tf ci b).2.1 := by decide +kernel
theorem x_tyok : ∀ ci, ci < 10 → ∀ k, k < x_N ci → parseFieldDescriptor (x_Tf ci k).2.2.1 = some (x_yt ci k) := by decide +kernel
theorem x_lay0 : ∀ ci, ci < 10 → ∀ k, k < x_N ci → u_lay (x_nm ci) (x_Tf ci) k ∈ lw_tbl ∧ goodWord (u_lay (x_nm ci) (x_Tf ci) k) = true := by decide +kernel
theorem x_finok : ∀ ci, ci < 10 → ∀ k, k < x_N ci → (x_Tf ci k).2.2.2 = x_fin ci k ∧ (x_Tf ci k).1 = x_nm ci := by decide +kernel
/-- the field links -/
noncomputable def x_flok (o : Nat) (e : Nat × (Nat × Nat × Nat × Nat)) : Bool := match e with
  | (idx, (ci, f, kd, p)) => (bif Nat.blt ci 10 then decide (f < x_N ci) && decide (lw_tbl[p]? = some (.fieldLink (x_nm o) idx (x_nm ci) (x_Tf ci f).2.1 (x_Tf ci f).2.2.1)) && decide ((kd = 2) = (x_isr (x_yt ci f) = true)) && decide ((kd = 1) = (x_yt ci f = .boolean)) && decide (kd = 2 ∨ x_yt ci f = .int ∨ x_yt ci f = .boolean)
      else decide (ci = 12) && (bif Nat.beq f 0 then decide (kd = 2) && decide (lw_tbl[p]? = some (.fieldLink (x_nm o) idx "java/lang/String" "value" "[B")) else decide (lw_tbl[p]? = some (.fieldLink (x_nm o) idx "java/lang/String" "coder" "B"))))
theorem x_fl_ok : ∀ o, o < 16 → (x_fl o).all (x_flok o) = true := by decide +kernel
