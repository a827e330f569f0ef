/-! names and words as numbers -/
def v_27 (f : Nat → Int) (k : Nat) : Int := match k with
  | 0 => 0
  | k + 1 => 27 * v_27 f k + f k
theorem v_27_nn {f : Nat → Int} {k : Nat} (h : ∀ i, i < k → 1 ≤ f i ∧ f i < 27) : 0 ≤ v_27 f k ∧ (0 < k → 1 ≤ v_27 f k) := by
  induction k with
  | zero => exact ⟨Int.le_refl 0, fun h => by omega⟩
  | succ k ih =>
    have := ih (fun i hi => h i (by omega))
    have h2 := h k (by omega)
    unfold v_27; omega
theorem v_27_inj {f g : Nat → Int} : ∀ (k m : Nat), (∀ i, i < k → 1 ≤ f i ∧ f i < 27) → (∀ i, i < m → 1 ≤ g i ∧ g i < 27) → (v_27 f k = v_27 g m ↔ (k = m ∧ ∀ i, i < k → f i = g i)) := by
  intro k
  induction k with
  | zero =>
    intro m hf hg
    constructor
    · intro h
      cases m with
      | zero => exact ⟨rfl, fun i hi => by omega⟩
      | succ m => have := (v_27_nn hg).2 (by omega); rw [← h] at this; exact absurd this (show ¬ (1 : Int) ≤ 0 by decide)
    · rintro ⟨rfl, _⟩; rfl
  | succ k ih =>
    intro m hf hg
    cases m with
    | zero =>
      constructor
      · intro h; have := (v_27_nn hf).2 (by omega); rw [h] at this; exact absurd this (show ¬ (1 : Int) ≤ 0 by decide)
      · rintro ⟨h, _⟩; omega
    | succ m =>
      have hk := hf k (by omega)
      have hm := hg m (by omega)
      have ih' := ih m (fun i hi => hf i (by omega)) (fun i hi => hg i (by omega))
      rw [v_27, v_27]
      constructor
      · intro h
        have e1 : v_27 f k = v_27 g m := by omega
        obtain ⟨e2, e3⟩ := ih'.1 e1
        subst e2
        refine ⟨rfl, fun i hi => ?_⟩
        by_cases hik : i = k
        · rw [hik]; omega
        · exact e3 i (by omega)
      · rintro ⟨e1, e2⟩
        obtain rfl : k = m := by omega
        rw [ih'.2 ⟨rfl, fun i hi => e2 i (by omega)⟩, e2 k (by omega)]
def v_256 (f : Nat → Int) (k : Nat) : Int := match k with
  | 0 => 0
  | k + 1 => 256 * v_256 f k + f k
theorem v_256_nn {f : Nat → Int} {k : Nat} (h : ∀ i, i < k → 1 ≤ f i ∧ f i < 256) : 0 ≤ v_256 f k ∧ (0 < k → 1 ≤ v_256 f k) := by
  induction k with
  | zero => exact ⟨Int.le_refl 0, fun h => by omega⟩
  | succ k ih =>
    have := ih (fun i hi => h i (by omega))
    have h2 := h k (by omega)
    unfold v_256; omega
theorem v_256_inj {f g : Nat → Int} : ∀ (k m : Nat), (∀ i, i < k → 1 ≤ f i ∧ f i < 256) → (∀ i, i < m → 1 ≤ g i ∧ g i < 256) → (v_256 f k = v_256 g m ↔ (k = m ∧ ∀ i, i < k → f i = g i)) := by
  intro k
  induction k with
  | zero =>
    intro m hf hg
    constructor
    · intro h
      cases m with
      | zero => exact ⟨rfl, fun i hi => by omega⟩
      | succ m => have := (v_256_nn hg).2 (by omega); rw [← h] at this; exact absurd this (show ¬ (1 : Int) ≤ 0 by decide)
    · rintro ⟨rfl, _⟩; rfl
  | succ k ih =>
    intro m hf hg
    cases m with
    | zero =>
      constructor
      · intro h; have := (v_256_nn hf).2 (by omega); rw [h] at this; exact absurd this (show ¬ (1 : Int) ≤ 0 by decide)
      · rintro ⟨h, _⟩; omega
    | succ m =>
      have hk := hf k (by omega)
      have hm := hg m (by omega)
      have ih' := ih m (fun i hi => hf i (by omega)) (fun i hi => hg i (by omega))
      rw [v_256, v_256]
      constructor
      · intro h
        have e1 : v_256 f k = v_256 g m := by omega
        obtain ⟨e2, e3⟩ := ih'.1 e1
        subst e2
        refine ⟨rfl, fun i hi => ?_⟩
        by_cases hik : i = k
        · rw [hik]; omega
        · exact e3 i (by omega)
      · rintro ⟨e1, e2⟩
        obtain rfl : k = m := by omega
        rw [ih'.2 ⟨rfl, fun i hi => e2 i (by omega)⟩, e2 k (by omega)]
theorem x_lor_nat {a b : Nat} (ha : a < 9223372036854775808) (hb : b < 9223372036854775808) : x_lor (a : Int) (b : Int) = ((a ||| b : Nat) : Int) := by
  have hlt : a ||| b < 2 ^ 63 := Nat.or_lt_two_pow ha hb
  have bn : ∀ x : Nat, x < 18446744073709551616 → (BitVec.ofInt 64 (x : Int)).toNat = x := fun x hx => by
    rw [BitVec.ofInt_natCast, BitVec.toNat_ofNat]; exact Nat.mod_eq_of_lt hx
  show (BitVec.ofInt 64 (a : Int) ||| BitVec.ofInt 64 (b : Int)).toInt = _
  have e : (BitVec.ofInt 64 (a : Int) ||| BitVec.ofInt 64 (b : Int)).toNat = a ||| b := by rw [BitVec.toNat_or, bn a (by omega), bn b (by omega)]
  rw [BitVec.toInt_eq_toNat_of_lt (by rw [e]; omega), e]
theorem c8_v {W : Nat → Int} {p : Nat} : ∀ k, k ≤ 8 → (∀ i, i < k → 97 ≤ W (p + i) ∧ W (p + i) ≤ 122) → q_c8 W p k = v_256 (fun i => W (p + i)) k ∧ 0 ≤ v_256 (fun i => W (p + i)) k ∧ v_256 (fun i => W (p + i)) k < 123 * ((256 ^ (k - 1) : Nat) : Int) := by
  intro k
  induction k with
  | zero => intro _ _; exact ⟨rfl, Int.le_refl 0, show (0 : Int) < 123 * ((1 : Nat) : Int) by decide⟩
  | succ k ih =>
    intro hk hl
    obtain ⟨h1, h2, h3⟩ := ih (by omega) (fun i hi => hl i (by omega))
    have hlk := hl k (by omega)
    have hp : (256 : Nat) ^ (k - 1) ≤ 281474976710656 := Nat.le_trans (Nat.pow_le_pow_right (by decide) (show k - 1 ≤ 6 by omega)) (by decide)
    have h4 : v_256 (fun i => W (p + i)) k < 123 * 281474976710656 := by omega
    have hnew : v_256 (fun i => W (p + i)) (k + 1) = 256 * v_256 (fun i => W (p + i)) k + W (p + k) := rfl
    refine ⟨?_, by rw [hnew]; omega, ?_⟩
    · rw [q_c8, h1, hnew]
      obtain ⟨x, hx⟩ := Int.eq_ofNat_of_zero_le h2
      obtain ⟨y, hy⟩ := Int.eq_ofNat_of_zero_le (show 0 ≤ W (p + k) by omega)
      rw [hx] at h4 ⊢
      rw [hy] at hlk ⊢
      have hshl : x_lshl (x : Int) 8 = ((x * 256 : Nat) : Int) := by unfold x_lshl; show (x : Int) * 2 ^ 8 = _; omega
      have hor : x * 256 ||| y = 256 * x + y := by
        have := Nat.two_pow_add_eq_or_of_lt (show y < 2 ^ 8 by omega) x
        rw [Nat.mul_comm x, ← this]
      rw [hshl, x_lor_nat (by omega) (by omega), hor]; omega
    · rw [hnew]
      rcases Nat.eq_zero_or_pos k with h0 | h0
      · subst h0
        show 256 * 0 + W (p + 0) < 123 * ((1 : Nat) : Int)
        have : W (p + 0) ≤ 122 := hlk.2
        omega
      · have hpk : (256 : Nat) ^ (k + 1 - 1) = 256 ^ (k - 1) * 256 := by
          rw [show k + 1 - 1 = (k - 1) + 1 by omega, Nat.pow_succ]
        rw [hpk]; omega
def q_wds : List (List Int) := [[99, 111, 114, 110, 101, 114], [108, 97, 110, 101], [104, 111, 117, 115, 101], [112, 111, 115, 116], [115, 101, 101, 107, 101, 114], [115, 116, 114, 97, 121, 115], [97, 115, 107, 115], [102, 101, 97, 114, 115], [116, 104, 105, 99, 107, 101, 110, 115], [119, 114, 111, 110, 103], [109, 105, 115, 116], [115, 101, 101, 100], [105, 102], [116, 104, 101, 110], [101, 108, 115, 101], [115, 101, 110, 115, 101], [100, 97, 114, 107], [102, 111, 103], [108, 111, 110, 103], [100, 97, 121], [108, 97, 110, 101, 115], [119, 104, 105, 99, 104], [115, 111, 108, 100], [109, 105, 108, 101, 115]]
theorem tx0_wds : x_tx 0 = q_wds.flatMap (fun w => w ++ [32]) := by decide +kernel
def q_mt (W : Nat → Int) (p al : Nat) (w : List Int) : Bool := match w with
  | [] => true
  | c :: w => decide (W (p + al) = c) && q_mt W p (al + 1) w
theorem q_wa_m {W : Nat → Int} {p len : Nat} (cs : List Int) : ∀ (w : List Int) (k : Int), (∀ c, c ∈ w → c ≠ 32) → q_wa (w ++ 32 :: cs) W p len k (-1) = q_wa cs W p len (k + 1) 0 := by
  intro w
  induction w with
  | nil => intro k _; rw [List.nil_append, q_wa, if_pos rfl, if_neg (by omega)]
  | cons c w ih =>
    intro k hc
    rw [List.cons_append, q_wa, if_neg (hc c (List.mem_cons_self ..)), if_pos (by decide)]
    exact ih k (fun x hx => hc x (List.mem_cons_of_mem _ hx))
theorem q_wa_w {W : Nat → Int} {p len : Nat} (cs : List Int) : ∀ (w : List Int) (k : Int) (al : Nat), (∀ c, c ∈ w → c ≠ 32) → q_wa (w ++ 32 :: cs) W p len k (al : Int) = if al + w.length = len ∧ q_mt W p al w = true then k else q_wa cs W p len (k + 1) 0 := by
  intro w
  induction w with
  | nil =>
    intro k al _
    rw [List.nil_append, q_wa, if_pos rfl]
    by_cases h : al = len
    · rw [if_pos (by omega), if_pos ⟨h, rfl⟩]
    · rw [if_neg (by omega), if_neg (fun x => h x.1)]
  | cons c w ih =>
    intro k al hc
    have hc' : ∀ x, x ∈ w → x ≠ 32 := fun x hx => hc x (List.mem_cons_of_mem _ hx)
    rw [List.cons_append, q_wa, if_neg (hc c (List.mem_cons_self ..)), if_neg (by omega), q_mt, List.length_cons]
    by_cases h1 : al < len
    · rw [if_pos (by omega), Int.toNat_natCast]
      by_cases h2 : W (p + al) = c
      · rw [if_pos h2, decide_eq_true h2, Bool.true_and]
        have := ih k (al + 1) hc'
        rw [show al + 1 + w.length = al + (w.length + 1) by omega] at this
        exact this
      · rw [if_neg h2, decide_eq_false h2, Bool.false_and, q_wa_m cs w k hc', if_neg (fun x => absurd x.2 (by decide))]
    · rw [if_neg (by omega), q_wa_m cs w k hc', if_neg (by omega)]
def q_wx (W : Nat → Int) (p len : Nat) (ws : List (List Int)) (k : Int) : Int := match ws with
  | [] => -1
  | w :: ws => if len = w.length ∧ q_mt W p 0 w = true then k else q_wx W p len ws (k + 1)
theorem q_wa_x {W : Nat → Int} {p len : Nat} : ∀ (ws : List (List Int)) (k : Int), (∀ w, w ∈ ws → ∀ c, c ∈ w → c ≠ 32) → q_wa (ws.flatMap (fun w => w ++ [32])) W p len k 0 = q_wx W p len ws k := by
  intro ws
  induction ws with
  | nil => intro k _; rfl
  | cons w ws ih =>
    intro k h
    have hw := q_wa_w (W := W) (p := p) (len := len) (ws.flatMap (fun w => w ++ [32])) w k 0 (h w (List.mem_cons_self ..))
    rw [List.flatMap_cons, List.append_assoc, List.singleton_append]
    rw [q_wx, ← ih (k + 1) (fun w' hw' => h w' (List.mem_cons_of_mem _ hw'))]
    refine hw.trans ?_
    rw [Nat.zero_add]
    by_cases hx : len = w.length ∧ q_mt W p 0 w = true
    · rw [if_pos ⟨hx.1.symm, hx.2⟩, if_pos hx]
    · rw [if_neg (fun y => hx ⟨y.1.symm, y.2⟩), if_neg hx]
theorem q_mt_i {W : Nat → Int} {p : Nat} : ∀ (w : List Int) (al : Nat), q_mt W p al w = true ↔ ∀ i, i < w.length → W (p + (al + i)) = w.getD i 0 := by
  intro w
  induction w with
  | nil => intro al; exact ⟨fun _ i hi => absurd hi (Nat.not_lt_zero _), fun _ => rfl⟩
  | cons c w ih =>
    intro al
    rw [q_mt, Bool.and_eq_true, decide_eq_true_iff, ih (al + 1)]
    constructor
    · rintro ⟨h1, h2⟩ i hi
      cases i with
      | zero => exact h1
      | succ i =>
        have := h2 i (by simpa using hi)
        rw [show al + (i + 1) = al + 1 + i by omega, this]; rfl
    · intro h
      refine ⟨h 0 (by simp), fun i hi => ?_⟩
      have := h (i + 1) (by simpa using hi)
      rw [show al + 1 + i = al + (i + 1) by omega, this]; rfl
theorem wds_ok : ∀ w, w ∈ q_wds → ∀ c, c ∈ w → 97 ≤ c ∧ c ≤ 122 := by decide +kernel
theorem wds_len : q_wds.length = 24 := rfl
theorem wds_key : ∀ k : Fin 24, x_Z0 63 0 k.val = v_27 (fun i => (q_wds.getD k.val []).getD i 0 - 96) (q_wds.getD k.val []).length := by decide +kernel
