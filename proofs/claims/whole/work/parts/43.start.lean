/-! the start: what the Statement gives -/
theorem x_inst : ∀ ci, ci < 10 → Cond.instantiable (x_nm ci) (x_N ci) ∈ lw_tbl := by decide +kernel
theorem x_lay1 {ci : Nat} (h : ci < 10) : ∀ w ∈ u_ws (x_nm ci) (x_Tf ci) (x_N ci), w ∈ lw_tbl := by
  intro w hw
  unfold u_ws at hw
  obtain ⟨k, hk, rfl⟩ := List.mem_map.mp hw
  exact (x_lay0 ci h k (List.mem_range.mp hk)).1
theorem x_g4 : x_ny ∈ lw_tbl ∧ Cond.arrayOver (.object "LostBuyer$State") ∈ lw_tbl ∧ Cond.stringRef "LostBuyer$Tokens" 49 x_w0 ∈ lw_tbl ∧ Cond.stringRef "LostBuyer$Tokens" 36 x_w1 ∈ lw_tbl ∧ Cond.laysStatic "java/lang/String" "COMPACT_STRINGS" "Z" ∈ lw_tbl ∧ Cond.laysStatic "jdk/internal/util/Preconditions" "SIOOBE_FORMATTER" "Ljava/util/function/BiFunction;" ∈ lw_tbl ∧ Cond.initialized "java/lang/String" ∈ lw_tbl ∧ Cond.initialized "jdk/internal/util/Preconditions" ∈ lw_tbl := by decide +kernel
def x_tm (i : Nat) : Term := .string "LostBuyer$Tokens" (match i with | 0 => 49 | _ => 36)
noncomputable def x_fc : List Cond := flatC (Jvm.Cond.and given_1 narrow_1)
theorem x_n1 : ∀ i, i < 2 → Cond.exactly (x_tm i) "java/lang/String" ∈ x_fc ∧ Cond.eq (.field (x_tm i) "java/lang/String" "coder" "B") (.int 0) ∈ x_fc ∧ Cond.arrayOf (.field (x_tm i) "java/lang/String" "value" "[B") .byte ∈ x_fc ∧ Cond.eq (.length (.field (x_tm i) "java/lang/String" "value" "[B")) (.int (Int32.ofNat (x_tn.getD i 0))) ∈ x_fc := by decide +kernel
theorem x_n2 : ∀ i, i < 2 → ∀ k, k < x_tn.getD i 0 → Cond.eq (.elem (.field (x_tm i) "java/lang/String" "value" "[B") (.int (Int32.ofNat k))) (.int ((x_tb.getD i []).getD k 0)) ∈ x_fc := by decide +kernel
theorem x_n3 : Cond.not (Cond.eq (x_tm 0) (x_tm 1)) ∈ x_fc ∧ Cond.eq (.static "java/lang/String" "COMPACT_STRINGS" "Z") (.int 1) ∈ x_fc ∧ Cond.isRef (.static "jdk/internal/util/Preconditions" "SIOOBE_FORMATTER" "Ljava/util/function/BiFunction;") ∈ x_fc := by decide +kernel
theorem x_n4 : ∀ i, i < 2 → x_tn.getD i 0 < 2 ^ 31 := by decide +kernel
theorem x_start {s : State} {args : Array Value} {b L : Nat} {xs : Nat → Int32} (hts : ∀ w ∈ lw_tbl, w.before args s = true) (hgv : (Jvm.Cond.and given_1 narrow_1).before args s = true) (hX : va_X b L xs s s.heap) (hbl : b < s.heap.size) :
    ∃ (D : va_G) (Fm : Value) (adK adV : Nat → Nat), Fm.category = 1 ∧ x_St D s.heap.size Fm b adK adV xs L s := by
  have hs : ∀ c ∈ x_fc, c.before args s = true := flat_of_before _ hgv
  have hA : ∀ a : Nat, a < s.heap.size → ¬ x_F s.heap.size a := fun a h q => absurd (show s.heap.size ≤ a from q) (by omega)
  have hkn : ∀ ci : Nat, ∃ p : ClassId × (Nat → Nat), ci < 10 → u_Kn s (x_nm ci) (x_Tf ci) (x_N ci) p.1 p.2 := by
    intro ci
    by_cases h : ci < 10
    · obtain ⟨cC, iS, hk⟩ := u_known (n := x_N ci) hts (x_lay1 h) (hts _ (x_inst ci h))
      exact ⟨(cC, iS), fun _ => hk⟩
    · exact ⟨(0, fun _ => 0), fun q => absurd q h⟩
  obtain ⟨kf, hkf⟩ := Classical.axiomOfChoice hkn
  have hK : va_K (fun ci => (kf ci).1, fun ci => (kf ci).2) x_cl [] s := by
    refine ⟨fun ci q hq => ?_, fun k q h => by simp at h⟩
    have hlt : ci < 10 := by
      have := (List.getElem?_eq_some_iff.mp hq).1
      simpa using this
    rw [x_cl_get hlt] at hq
    cases hq
    exact hkf ci hlt
  obtain ⟨adK, adV, hV, hE⟩ := vk_Sof (args := args) (s := s) (N := 2) (tm := x_tm) (len := x_tn) (byt := x_tb) (A := x_F s.heap.size) x_n4 (fun i hi => hs _ (x_n1 i hi).1) (fun i hi => hs _ (x_n1 i hi).2.1) (fun i hi => hs _ (x_n1 i hi).2.2.1) (fun i hi => hs _ (x_n1 i hi).2.2.2) (fun i hi k hk => hs _ (x_n2 i hi k hk)) (fun i j hi hj hij => by
    rcases (show i = 0 ∧ j = 1 ∨ i = 1 ∧ j = 0 by omega) with ⟨rfl, rfl⟩ | ⟨rfl, rfl⟩
    · exact Or.inl (hs _ x_n3.1)
    · exact Or.inr (hs _ x_n3.1)) hA
  have hz1 : va_Z "java/lang/String" "COMPACT_STRINGS" "Z" (.int 1) (x_F s.heap.size) s s.heap := va_Zof (hts _ x_g4.2.2.2.2.1) (hts _ x_g4.2.2.2.2.2.2.1) (va_eqi (hs _ x_n3.2.1)) hA
  have hz2 := va_Zqof (A := x_F s.heap.size) (hts _ x_g4.2.2.2.2.2.1) (hts _ x_g4.2.2.2.2.2.2.2) (hs _ x_n3.2.2) hA
  have h5 : vk_R "LostBuyer$Tokens" 49 x_w0 (adK 0) s := ⟨by have := hts _ x_g4.2.2.1; first | exact va_tabs rfl rfl this | exact this, by have := hE 0 (by decide); first | exact this | (rw [Term.string_eval_of_vm (args := #[]) rfl]; exact this)⟩
  have h6 : vk_R "LostBuyer$Tokens" 36 x_w1 (adK 1) s := ⟨by have := hts _ x_g4.2.2.2.1; first | exact va_tabs rfl rfl this | exact this, by have := hE 1 (by decide); first | exact this | (rw [Term.string_eval_of_vm (args := #[]) rfl]; exact this)⟩
  have h3 : va_Nw x_ny s := va_Nw.of rfl (hts _ x_g4.1)
  have h4 : va_AO "LostBuyer$State" s := va_AO.of (hts _ x_g4.2.1)
  rcases hz2 with hz2 | ⟨t, hz2⟩
  · exact ⟨_, .null, adK, adV, rfl, Nat.le_refl _, hK, h3, h4, h5, h6, hV, hz1, hz2, hX, hbl⟩
  · exact ⟨_, .ref t, adK, adV, rfl, Nat.le_refl _, hK, h3, h4, h5, h6, hV, hz1, hz2, hX, hbl⟩
