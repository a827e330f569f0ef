/-! the tokens of a text -/
noncomputable def kK (W : Nat → Int) (n : Nat) : Nat → Int := fun j => t_k W n (t_p W n j)
noncomputable def kP (W : Nat → Int) (n : Nat) : Nat → Int := fun j => (t_p W n j : Int)
noncomputable def kV (W : Nat → Int) (n : Nat) : Nat → Int := fun j => t_v W n (t_p W n j)
noncomputable def kN (W : Nat → Int) (n : Nat) : Nat → Int := fun j => t_n W n (t_p W n j)
theorem q_dv_b {W : Nat → Int} {p : Nat} : ∀ k, (∀ i, i < k → 48 ≤ W (p + i) ∧ W (p + i) ≤ 57) → 0 ≤ q_dv W p k ∧ q_dv W p k < ((10 ^ k : Nat) : Int) := by
  intro k
  induction k with
  | zero => intro _; exact ⟨Int.le_refl 0, show (0 : Int) < ((1 : Nat) : Int) by decide⟩
  | succ k ih =>
    intro h
    have h1 := ih (fun i hi => h i (by omega))
    have h2 := h k (by omega)
    rw [q_dv, Nat.pow_succ]; omega
theorem t_kc (W : Nat → Int) (n p : Nat) : (t_k W n p = 256) ∨ (t_k W n p = 257) ∨ (p < n ∧ bL (W p) = true ∧ q_run bL W n p - p ≤ 8 ∧ (t_k W n p = 258 ∨ (260 ≤ t_k W n p ∧ t_k W n p < 284))) ∨ (p < n ∧ ¬ bL (W p) = true ∧ bD (W p) = true ∧ q_run bD W n p - p ≤ 4 ∧ t_k W n p = 259) ∨ (W p ∈ x_tx 1 ∧ t_k W n p = W p) := by
  by_cases h0 : n ≤ p
  · left; unfold t_k; rw [if_pos h0]
  · by_cases hL : bL (W p) = true
    · have e : t_k W n p = if 8 < q_run bL W n p - p then 257 else if t_w W n p = -1 then 258 else 260 + t_w W n p := by unfold t_k; rw [if_neg h0, if_pos hL]
      rw [e]
      by_cases h8 : 8 < q_run bL W n p - p
      · rw [if_pos h8]; exact .inr (.inl rfl)
      · rw [if_neg h8]
        right; right; left
        refine ⟨by omega, hL, by omega, ?_⟩
        rcases t_w_24 W n p with hw | hw
        · rw [if_pos hw]; exact .inl rfl
        · rw [if_neg (by omega)]; exact .inr (by omega)
    · by_cases hD : bD (W p) = true
      · have e : t_k W n p = if 4 < q_run bD W n p - p then 257 else 259 := by unfold t_k; rw [if_neg h0, if_neg hL, if_pos hD]
        rw [e]
        by_cases h8 : 4 < q_run bD W n p - p
        · rw [if_pos h8]; exact .inr (.inl rfl)
        · rw [if_neg h8]; exact .inr (.inr (.inr (.inl ⟨by omega, hL, hD, by omega, rfl⟩)))
      · have e : t_k W n p = if W p ∈ x_tx 1 then W p else 257 := by unfold t_k; rw [if_neg h0, if_neg hL, if_neg hD]
        rw [e]
        by_cases hm : W p ∈ x_tx 1
        · rw [if_pos hm]; exact .inr (.inr (.inr (.inr ⟨hm, rfl⟩)))
        · rw [if_neg hm]; exact .inr (.inl rfl)
theorem k_B (W : Nat → Int) (n : Nat) : KB (kK W n) (kV W n) := by
  intro j
  show 40 ≤ t_k W n (t_p W n j) ∧ t_k W n (t_p W n j) < 284 ∧ (t_k W n (t_p W n j) = 259 → 0 ≤ t_v W n (t_p W n j) ∧ t_v W n (t_p W n j) < 10000) ∧ KD (t_k W n (t_p W n j))
  generalize t_p W n j = p
  unfold KD
  rcases t_kc W n p with h | h | ⟨_, _, _, h⟩ | ⟨h1, h2, h3, h4, h⟩ | ⟨h1, h2⟩
  · omega
  · omega
  · omega
  · rw [h]
    refine ⟨by omega, by omega, fun _ => ?_, by omega⟩
    obtain ⟨r1, r2, r3, r4⟩ := q_run_spec (P := bD) (W := W) (n := n) (n - p) p (by omega)
    have hb := q_dv_b (W := W) (p := p) (q_run bD W n p - p) (fun i hi => (bD_i _).1 (r3 (p + i) (by omega) (by omega)))
    have hp : 10 ^ (q_run bD W n p - p) ≤ 10 ^ 4 := Nat.pow_le_pow_right (by decide) h4
    have hv : t_v W n p = q_dv W p (q_run bD W n p - p) := by unfold t_v; rw [if_neg h2]
    rw [hv]; omega
  · have hc := tx1_i.1 h1
    rw [← h2] at hc
    omega
theorem k_258 {W : Nat → Int} {n p : Nat} (h : t_k W n p = 258) : p < n ∧ bL (W p) = true ∧ q_run bL W n p - p ≤ 8 := by
  rcases t_kc W n p with h' | h' | ⟨a, b, c, _⟩ | ⟨_, _, _, _, h'⟩ | ⟨h1, h2⟩
  · omega
  · omega
  · exact ⟨a, b, c⟩
  · omega
  · have hc := tx1_i.1 h1
    omega
theorem k_let {W : Nat → Int} {n p : Nat} (h : t_k W n p = 258) : (∀ i, i < q_run bL W n p - p → 97 ≤ W (p + i) ∧ W (p + i) ≤ 122) ∧ t_v W n p = v_256 (fun i => W (p + i)) (q_run bL W n p - p) ∧ 0 ≤ t_v W n p ∧ t_v W n p < 9223372036854775808 := by
  obtain ⟨a, b, c⟩ := k_258 h
  obtain ⟨r1, r2, r3, r4⟩ := q_run_spec (P := bL) (W := W) (n := n) (n - p) p (by omega)
  have hl : ∀ i, i < q_run bL W n p - p → 97 ≤ W (p + i) ∧ W (p + i) ≤ 122 := fun i hi => (bL_i _).1 (r3 (p + i) (by omega) (by omega))
  obtain ⟨c1, c2, c3⟩ := c8_v (W := W) (p := p) (q_run bL W n p - p) c hl
  have hv : t_v W n p = q_c8 W p (q_run bL W n p - p) := by unfold t_v; rw [if_pos b]
  have hp : 256 ^ (q_run bL W n p - p - 1) ≤ 256 ^ 7 := Nat.pow_le_pow_right (by decide) (by omega)
  have h7 : (256 : Nat) ^ 7 = 72057594037927936 := by decide
  rw [hv, c1]
  exact ⟨hl, rfl, c2, by omega⟩
theorem k_VN (W : Nat → Int) (n : Nat) : VN (kK W n) (kV W n) := fun j h => (k_let h).2.2
theorem k_NV (W : Nat → Int) (n : Nat) : NV (kK W n) (kV W n) (kN W n) := by
  refine ⟨fun a b ha hb => ?_, fun a ha => ?_⟩
  · have ha' : t_k W n (t_p W n a) = 258 := ha
    have hb' : t_k W n (t_p W n b) = 258 := hb
    obtain ⟨a1, a2, _⟩ := k_let ha'
    obtain ⟨b1, b2, _⟩ := k_let hb'
    show t_v W n (t_p W n a) = t_v W n (t_p W n b) ↔ t_n W n (t_p W n a) = t_n W n (t_p W n b)
    rw [a2, b2]
    unfold t_n
    rw [v_256_inj _ _ (fun i hi => by have := a1 i hi; omega) (fun i hi => by have := b1 i hi; omega), v_27_inj _ _ (fun i hi => by have := a1 i hi; omega) (fun i hi => by have := b1 i hi; omega)]
    constructor
    · rintro ⟨h1, h2⟩; exact ⟨h1, fun i hi => by have := h2 i hi; omega⟩
    · rintro ⟨h1, h2⟩; exact ⟨h1, fun i hi => by have := h2 i hi; omega⟩
  · have ha' : t_k W n (t_p W n a) = 258 := ha
    obtain ⟨a1, _⟩ := k_let ha'
    obtain ⟨_, _, c⟩ := k_258 ha'
    show 0 ≤ t_n W n (t_p W n a) ∧ t_n W n (t_p W n a) < 9223372036854775808
    unfold t_n
    have hf : ∀ i, i < q_run bL W n (t_p W n a) - t_p W n a → 1 ≤ W (t_p W n a + i) - 96 ∧ W (t_p W n a + i) - 96 < 27 := fun i hi => by have := a1 i hi; omega
    have hv0 := (v_27_nn (f := fun i => W (t_p W n a + i) - 96) hf).1
    have hv1 := v_27_lt (f := fun i => W (t_p W n a + i) - 96) _ c hf
    have hv2 : 27 ^ (q_run bL W n (t_p W n a) - t_p W n a) ≤ 27 ^ 8 := Nat.pow_le_pow_right (by decide) c
    have hv3 : (27 : Nat) ^ 8 < 9223372036854775808 := by decide
    exact ⟨hv0, by omega⟩
theorem k_PM {W : Nat → Int} {n : Nat} (hn : n ≤ 2000) : PMo (kK W n) (kP W n) := by
  refine ⟨fun j => ?_, fun q j => ?_⟩
  · have := (t_b_le W n j).2
    show 0 ≤ (t_p W n j : Int) ∧ (t_p W n j : Int) ≤ 2000
    omega
  · have one : ∀ q, kK W n q ≠ 256 → t_p W n q < t_p W n (q + 1) := fun q hq => by
      have hp : t_p W n q < n := by
        by_cases h : t_p W n q < n
        · exact h
        · exact absurd (show t_k W n (t_p W n q) = 256 by unfold t_k; rw [if_pos (by omega)]) hq
      have hlt : t_p W n q < t_e W n (t_p W n q) := by
        unfold t_e
        rw [if_neg (by omega)]
        split
        · rename_i h; rw [q_run_go (by omega) h]; have := q_run_spec (P := bL) (W := W) (n := n) (n - (t_p W n q + 1)) (t_p W n q + 1) (by omega); omega
        · split
          · rename_i h; rw [q_run_go (by omega) h]; have := q_run_spec (P := bD) (W := W) (n := n) (n - (t_p W n q + 1)) (t_p W n q + 1) (by omega); omega
          · omega
      have hb : t_b W n (q + 1) = t_e W n (t_p W n q) := rfl
      have hle := (t_e_le (W := W) (n := n) (p := t_p W n q) (by omega)).2
      have hs := (q_run_spec (P := bB) (W := W) (n := n) (n - t_b W n (q + 1)) (t_b W n (q + 1)) (by omega)).1
      have hp' : t_p W n (q + 1) = q_run bB W n (t_b W n (q + 1)) := rfl
      omega
    induction j with
    | zero => intro h; omega
    | succ j ih =>
      intro h hl
      have h1 := one j (hl j (by omega) (by omega)).1
      show (t_p W n q : Int) < (t_p W n (j + 1) : Int)
      by_cases hqj : q = j
      · rw [hqj]; omega
      · have := ih (by omega) (fun i a b => hl i a (by omega))
        have this' : (t_p W n q : Int) < (t_p W n j : Int) := this
        omega
theorem k_TKc {Z : XZ} {W : Nat → Int} {n : Nat} (h : CK Z W n) : TKc Z (kK W n) (kP W n) (kV W n) := fun j hj hl => h j hj (fun i hi => hl i (Nat.zero_le _) hi)
theorem k_TKm {Y : XZ} {W : Nat → Int} {n : Nat} (h : MK Y W n) : TKm Y (kK W n) (kP W n) (kV W n) (kN W n) := fun j hj hl => h j hj (fun i hi => hl i (Nat.zero_le _) hi)
/-- a town of which nothing is told -/
def T00 : PT := fun a _ => if a = 11 then 1 else 0
theorem T00_ok : TOK T00 := by
  refine ⟨by decide, by decide, by decide, fun c h => absurd h (by show ¬ c < 0; omega), fun l h => absurd h (by show ¬ l < 0; omega), fun m h => absurd h (by show ¬ m < 0; omega), fun h => absurd h (by decide), by decide, by decide, by decide, fun c _ => by show 0 ≤ 10; omega⟩
theorem j_start {K P : Nat → Int} : JPu K P 0 0 (0, -1) T00 (fun _ => 0) (fun _ => 0) ∧ JH (0, -1) T00 ∧ JS (0, -1) := by
  refine ⟨⟨by decide, by decide, by decide, by omega, fun i h => absurd h (by show ¬ i < 0; omega), fun i h => absurd h (by show ¬ i < 0; omega), fun _ h => absurd rfl h, fun _ _ => T00_ok⟩, fun _ _ _ => rfl, fun _ _ => rfl⟩
