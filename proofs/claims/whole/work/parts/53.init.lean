/-! the invariant at the start -/
set_option maxRecDepth 20000 in
theorem pi_init {zf : XZ} (hI : x_Ini zf) (xs : Nat → Int32) (L : Nat) : PI (x_Zi zf xs L) 1 := by
  have hq : ∀ q ∈ x_fa ++ x_fb, q.1 < 200 := by decide
  have c : ∀ g m i, (g, m, i) ∈ x_fa ++ x_fb → x_Zi zf xs L g m i = x_Z0 g m i := by
    intro g m i h
    have hg := hq _ h
    simp only at hg
    unfold x_Zi
    rw [if_neg (by omega), if_neg (by omega)]
    exact hI _ h
  refine ⟨fun a _ => if a = 11 then 1 else 0, fun _ => none, fun k => x_Z0 93 0 k, fun _ _ => 0, fun _ _ => 0, 0, 0, 0, by decide, ?_, ?_, ?_, ?_, ?_, ?_, ?_, ?_, ?_, ?_, ?_, ?_⟩
  · refine ⟨by decide, by decide, by decide, fun c h => absurd h (by simp), fun c h => absurd h (by simp), fun c h => absurd h (by simp), fun h => absurd h (by simp), by decide, by decide, by decide, fun c h => by simp⟩
  · refine ⟨?_, fun c h => absurd h (by simp), fun c h => absurd h (by simp), fun c h => absurd h (by simp), ?_⟩
    · intro k hk
      have hk : k = 0 ∨ k = 1 ∨ k = 2 ∨ k = 10 ∨ k = 11 ∨ k = 12 ∨ k = 13 := by omega
      rcases hk with rfl | rfl | rfl | rfl | rfl | rfl | rfl <;> exact (c _ _ _ (by decide)).trans rfl
    · intro k hk
      have hk : k = 0 ∨ k = 1 ∨ k = 2 ∨ k = 3 ∨ k = 4 ∨ k = 5 ∨ k = 6 := by omega
      rcases hk with rfl | rfl | rfl | rfl | rfl | rfl | rfl <;> exact (c _ _ _ (by decide)).trans rfl
  · refine ⟨by decide, (c _ _ _ (by decide)).trans rfl, ⟨(c _ _ _ (by decide)).trans rfl, (c _ _ _ (by decide)).trans rfl, (c _ _ _ (by decide)).trans rfl, (c _ _ _ (by decide)).trans rfl, (c _ _ _ (by decide)).trans rfl, (c _ _ _ (by decide)).trans rfl, (c _ _ _ (by decide)).trans rfl⟩, fun c h => absurd h (by simp), fun c h => absurd h (by simp), fun c h => absurd h (by simp), ?_⟩
    intro k hk
    have hk : k = 0 ∨ k = 1 ∨ k = 2 ∨ k = 3 ∨ k = 4 ∨ k = 5 ∨ k = 6 := by omega
    rcases hk with rfl | rfl | rfl | rfl | rfl | rfl | rfl <;> exact (c _ _ _ (by decide)).trans rfl
  · intro k hk
    refine ⟨fun _ => ?_, fun f hf => by cases hf⟩
    have hk : k = 0 ∨ k = 1 ∨ k = 2 ∨ k = 3 := by omega
    rcases hk with rfl | rfl | rfl | rfl <;> exact (c _ _ _ (by decide)).trans rfl
  · intro k hk
    refine ⟨fun _ => ?_, fun f hf => by cases hf⟩
    have hk : k = 0 ∨ k = 1 ∨ k = 2 ∨ k = 3 := by omega
    rcases hk with rfl | rfl | rfl | rfl <;> exact (c 81 0 _ (by decide)).trans (c 82 0 _ (by decide)).symm
  · refine ⟨?_, ?_, (c _ _ _ (by decide)).trans rfl, congrArg cn ((c _ _ _ (by decide)).trans rfl), (c _ _ _ (by decide)).trans rfl, congrArg cn ((c _ _ _ (by decide)).trans rfl)⟩
    · intro k hk
      have hk : k = 0 ∨ k = 1 ∨ k = 2 ∨ k = 3 ∨ k = 4 ∨ k = 5 ∨ k = 6 := by omega
      rcases hk with rfl | rfl | rfl | rfl | rfl | rfl | rfl <;> exact (c _ _ _ (by decide)).trans rfl
    · intro k hk
      have hk : k = 0 ∨ k = 1 ∨ k = 2 ∨ k = 3 ∨ k = 4 := by omega
      rcases hk with rfl | rfl | rfl | rfl | rfl <;> exact (c _ _ _ (by decide)).trans rfl
  · intro k hk
    have hk : k = 0 ∨ k = 1 ∨ k = 2 ∨ k = 3 ∨ k = 4 ∨ k = 5 ∨ k = 6 ∨ k = 7 ∨ k = 8 ∨ k = 9 ∨ k = 10 ∨ k = 11 ∨ k = 12 ∨ k = 13 ∨ k = 14 ∨ k = 15 := by omega
    rcases hk with rfl | rfl | rfl | rfl | rfl | rfl | rfl | rfl | rfl | rfl | rfl | rfl | rfl | rfl | rfl | rfl <;> exact (c _ _ _ (by decide)).trans rfl
  · refine ⟨?_, ?_, by decide, Or.inl (by decide)⟩
    · decide
    · decide
  · refine ⟨(c _ _ _ (by decide)).trans rfl, (c _ _ _ (by decide)).trans rfl, by decide, (c _ _ _ (by decide)).trans rfl, by decide, fun j hj => absurd hj (by omega)⟩
  · intro s hs
    have hk : s = 0 ∨ s = 1 ∨ s = 2 := by omega
    rcases hk with rfl | rfl | rfl <;> exact ⟨(c 34 0 _ (by decide)).trans (c 107 0 _ (by decide)).symm, Or.inl ((c _ _ _ (by decide)).trans rfl)⟩
  · exact ⟨0, by decide, (c _ _ _ (by decide)).trans rfl, (c _ _ _ (by decide)).trans rfl, fun j hj => absurd hj (by omega)⟩
  · refine ⟨0, by decide, (c _ _ _ (by decide)).trans rfl, (c _ _ _ (by decide)).trans rfl, (c 0 0 2 (by decide)).trans (c 56 0 17 (by decide)).symm, fun j hj => absurd hj (by omega), ?_⟩
    have h63 : ∀ k, k < 24 → (63, 0, k) ∈ x_fa ++ x_fb := by decide
    exact fun k hk => c _ _ _ (h63 k hk)
