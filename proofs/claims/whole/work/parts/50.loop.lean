/-! the law's loop, over what one step of it must keep -/
theorem cn_id {z : Int} (h1 : -2147483648 ≤ z) (h2 : z < 2147483648) : cn z = z := by unfold cn; omega
theorem cn_can (z : Int) : -2147483648 ≤ cn z ∧ cn z < 2147483648 := by unfold cn; omega
def p_can (z : Int) : Prop := -2147483648 ≤ z ∧ z < 2147483648
def p_step (P : XZ → Nat → Prop) (jc jm : Nat) (as : List XV) : Prop := ∀ (Z : XZ) (t : Nat), P Z t → ∃ (r r' : Int) (Z1 Z2 : XZ) (t1 : Nat), x_CALL 60 jc (.inr (.inr (some (0, 0))) :: as) (x_S Z t) = some (r, x_S Z1 t1) ∧ (∀ g, 900 ≤ g → Z1 g = Z g) ∧ x_CALL 60 jm (.inr (.inr (some (56, 0))) :: as) (x_S Z1 t1) = some (r', x_S Z2 t1) ∧ (∀ g, 900 ≤ g → Z2 g = Z g) ∧ cn r = cn r' ∧ P Z2 t1
def p_s0 (P : XZ → Nat → Prop) : Prop := ∀ a1 a2 a3 a4 a5 : Int, p_can a1 → p_can a2 → p_can a3 → p_can a4 → p_can a5 → p_step P 82 133 [.inl a1, .inl a2, .inl a3, .inl a4, .inl a5]
def p_s1 (P : XZ → Nat → Prop) : Prop := ∀ a1 : Int, p_can a1 → p_step P 84 135 [.inl a1]
def p_s2 (P : XZ → Nat → Prop) : Prop := p_step P 85 150 []
def p_s3 (P : XZ → Nat → Prop) : Prop := p_step P 87 151 []
def p_s4 (P : XZ → Nat → Prop) : Prop := ∀ a1 a2 : Int, p_can a1 → p_can a2 → p_step P 88 194 [.inl a1, .inl a2]
def p_s5 (P : XZ → Nat → Prop) : Prop := ∀ a1 a2 : Int, p_can a1 → p_can a2 → p_step P 89 196 [.inl a1, .inl a2]
def p_s6 (P : XZ → Nat → Prop) : Prop := ∀ a1 a2 : Int, p_can a1 → p_can a2 → p_step P 90 197 [.inl a1, .inl a2]
def p_s7 (P : XZ → Nat → Prop) : Prop := ∀ a1 a2 : Int, p_can a1 → p_can a2 → p_step P 91 198 [.inl a1, .inl a2]
def p_s8 (P : XZ → Nat → Prop) : Prop := ∀ a1 a2 a3 : Int, p_can a1 → p_can a2 → p_can a3 → p_step P 92 199 [.inl a1, .inl a2, .inl a3]
def p_s9 (P : XZ → Nat → Prop) : Prop := ∀ a1 : Int, p_can a1 → p_step P 93 206 [.inl a1]
def p_s10 (P : XZ → Nat → Prop) : Prop := ∀ a1 a2 : Int, p_can a1 → p_can a2 → p_step P 94 208 [.inl a1, .inl a2]
def p_s11 (P : XZ → Nat → Prop) : Prop := ∀ a1 : Int, (a1 = 0 ∨ a1 = 1) → p_step P 95 209 [.inl a1]
def p_s12 (P : XZ → Nat → Prop) : Prop := ∀ a1 : Int, p_can a1 → p_step P 96 210 [.inl a1]
def p_s13 (P : XZ → Nat → Prop) : Prop := ∀ a1 : Int, p_can a1 → p_step P 97 211 [.inl a1]
def p_s14 (P : XZ → Nat → Prop) : Prop := p_step P 98 212 []
def p_s15 (P : XZ → Nat → Prop) : Prop := ∀ a1 : Int, p_can a1 → p_step P 99 214 [.inl a1]
def p_s16 (P : XZ → Nat → Prop) : Prop := ∀ a1 : Int, p_can a1 → p_step P 100 216 [.inl a1]
def p_s17 (P : XZ → Nat → Prop) : Prop := ∀ a1 : Int, p_can a1 → p_step P 101 217 [.inl a1]
def p_s18 (P : XZ → Nat → Prop) : Prop := ∀ a1 : Int, p_can a1 → p_step P 102 218 [.inl a1]
def p_s19 (P : XZ → Nat → Prop) : Prop := ∀ a1 a2 : Int, p_can a1 → p_can a2 → p_step P 103 220 [.inl a1, .inl a2]
def p_s20 (P : XZ → Nat → Prop) : Prop := ∀ a1 : Int, p_can a1 → p_step P 104 221 [.inl a1]
def p_s21 (P : XZ → Nat → Prop) : Prop := ∀ a1 : Int, p_can a1 → p_step P 105 222 [.inl a1]
def p_s22 (P : XZ → Nat → Prop) : Prop := ∀ a1 a2 : Int, p_can a1 → p_can a2 → p_step P 106 223 [.inl a1, .inl a2]
def p_s23 (P : XZ → Nat → Prop) : Prop := ∀ a1 a2 : Int, p_can a1 → p_can a2 → p_step P 108 224 [.inl a1, .inl a2]
def p_s24 (P : XZ → Nat → Prop) : Prop := ∀ a1 a2 : Int, p_can a1 → p_can a2 → p_step P 109 225 [.inl a1, .inl a2]
def p_s25 (P : XZ → Nat → Prop) : Prop := ∀ a1 : Int, p_can a1 → p_step P 110 227 [.inl a1]
def p_s26 (P : XZ → Nat → Prop) : Prop := ∀ a1 a2 : Int, p_can a1 → p_can a2 → p_step P 112 228 [.inl a1, .inl a2]
def p_s27 (P : XZ → Nat → Prop) : Prop := ∀ a1 a2 a3 : Int, p_can a1 → p_can a2 → p_can a3 → p_step P 113 229 [.inl a1, .inl a2, .inl a3]
def p_s28 (P : XZ → Nat → Prop) : Prop := ∀ a1 : Int, p_can a1 → p_step P 114 230 [.inl a1]
def p_s29 (P : XZ → Nat → Prop) : Prop := ∀ a1 a2 a3 : Int, p_can a1 → (a2 = 0 ∨ a2 = 1) → p_can a3 → p_step P 115 231 [.inl a1, .inl a2, .inl a3]
def p_s30 (P : XZ → Nat → Prop) : Prop := ∀ a1 : Int, p_can a1 → p_step P 116 232 [.inl a1]
def p_s31 (P : XZ → Nat → Prop) : Prop := p_step P 117 233 []
def p_s32 (P : XZ → Nat → Prop) : Prop := ∀ a1 : Int, p_can a1 → p_step P 118 234 [.inl a1]
def p_s33 (P : XZ → Nat → Prop) : Prop := ∀ a1 a2 : Int, p_can a1 → p_can a2 → p_step P 119 235 [.inl a1, .inl a2]
def p_s34 (P : XZ → Nat → Prop) : Prop := ∀ a1 : Int, p_can a1 → p_step P 120 236 [.inl a1]
def p_s35 (P : XZ → Nat → Prop) : Prop := ∀ a1 a2 : Int, p_can a1 → p_can a2 → p_step P 121 237 [.inl a1, .inl a2]
def p_s36 (P : XZ → Nat → Prop) : Prop := ∀ a1 a2 a3 a4 : Int, p_can a1 → p_can a2 → p_can a3 → (a4 = 0 ∨ a4 = 1) → p_step P 122 238 [.inl a1, .inl a2, .inl a3, .inl a4]
def p_s37 (P : XZ → Nat → Prop) : Prop := p_step P 123 239 []
def p_s38 (P : XZ → Nat → Prop) : Prop := ∀ a1 a2 a3 : Int, p_can a1 → p_can a2 → p_can a3 → p_step P 124 241 [.inl a1, .inl a2, .inl a3]
def p_s39 (P : XZ → Nat → Prop) : Prop := ∀ a1 a2 : Int, p_can a1 → p_can a2 → p_step P 125 242 [.inl a1, .inl a2]
def p_s40 (P : XZ → Nat → Prop) : Prop := ∀ a1 : Int, p_can a1 → p_step P 126 243 [.inl a1]
def p_s41 (P : XZ → Nat → Prop) : Prop := ∀ a1 : Int, p_can a1 → p_step P 127 244 [.inl a1]
def p_s42 (P : XZ → Nat → Prop) : Prop := ∀ a1 : Int, p_can a1 → p_step P 128 246 [.inl a1]
def p_all (P : XZ → Nat → Prop) : Prop := p_s0 P ∧ p_s1 P ∧ p_s2 P ∧ p_s3 P ∧ p_s4 P ∧ p_s5 P ∧ p_s6 P ∧ p_s7 P ∧ p_s8 P ∧ p_s9 P ∧ p_s10 P ∧ p_s11 P ∧ p_s12 P ∧ p_s13 P ∧ p_s14 P ∧ p_s15 P ∧ p_s16 P ∧ p_s17 P ∧ p_s18 P ∧ p_s19 P ∧ p_s20 P ∧ p_s21 P ∧ p_s22 P ∧ p_s23 P ∧ p_s24 P ∧ p_s25 P ∧ p_s26 P ∧ p_s27 P ∧ p_s28 P ∧ p_s29 P ∧ p_s30 P ∧ p_s31 P ∧ p_s32 P ∧ p_s33 P ∧ p_s34 P ∧ p_s35 P ∧ p_s36 P ∧ p_s37 P ∧ p_s38 P ∧ p_s39 P ∧ p_s40 P ∧ p_s41 P ∧ p_s42 P
def p_scr (xs : Nat → Int32) (L : Nat) (Z : XZ) : Prop := Z 2000 0 1 = 1 ∧ Z 2000 0 0 = (L : Int) ∧ ∀ j, j < L → Z 900 0 j = (xs j).toInt
theorem p_scr.keep {xs : Nat → Int32} {L : Nat} {Z Z1 : XZ} (h : p_scr xs L Z) (hk : ∀ g, 900 ≤ g → Z1 g = Z g) : p_scr xs L Z1 := by
  unfold p_scr at h ⊢
  rw [hk 2000 (by decide), hk 900 (by decide)]
  exact h
theorem p_xc (x : Int32) : p_can x.toInt := ⟨Int32.le_toInt x, Int32.toInt_lt x⟩
set_option maxRecDepth 20000 in
set_option maxHeartbeats 4000000 in
theorem p_one (P : XZ → Nat → Prop) (hall : p_all P) {xs : Nat → Int32} {L : Nat} (hL : L ≤ 3072) {a : Nat} (ha : a + 6 ≤ L) {Z : XZ} {t : Nat} (hP : P Z t) (hs : p_scr xs L Z) : ∃ (Z2 : XZ) (t2 : Nat), P Z2 t2 ∧ p_scr xs L Z2 ∧ x_EX 60 0 18 [some (.inr (.inr (some (900, 0)))), some (.inr (.inr (some (0, 0)))), some (.inr (.inr (some (56, 0)))), some (.inl (a : Int))] [] (x_S Z t) = x_EX 60 0 1487 [some (.inr (.inr (some (900, 0)))), some (.inr (.inr (some (0, 0)))), some (.inr (.inr (some (56, 0)))), some (.inl (a : Int))] [] (x_S Z2 t2) := by
  obtain ⟨s0, s1, s2, s3, s4, s5, s6, s7, s8, s9, s10, s11, s12, s13, s14, s15, s16, s17, s18, s19, s20, s21, s22, s23, s24, s25, s26, s27, s28, s29, s30, s31, s32, s33, s34, s35, s36, s37, s38, s39, s40, s41, s42⟩ := hall
  have c0 : cn ((a : Nat) : Int) = ((a : Nat) : Int) := cn_id (by omega) (by omega)
  have c1 : cn (((a : Nat) : Int) + 1) = ((a + 1 : Nat) : Int) := by rw [cn_id (by omega) (by omega)]; omega
  have c2 : cn (((a : Nat) : Int) + 2) = ((a + 2 : Nat) : Int) := by rw [cn_id (by omega) (by omega)]; omega
  have c3 : cn (((a : Nat) : Int) + 3) = ((a + 3 : Nat) : Int) := by rw [cn_id (by omega) (by omega)]; omega
  have c4 : cn (((a : Nat) : Int) + 4) = ((a + 4 : Nat) : Int) := by rw [cn_id (by omega) (by omega)]; omega
  have c5 : cn (((a : Nat) : Int) + 5) = ((a + 5 : Nat) : Int) := by rw [cn_id (by omega) (by omega)]; omega
  have cl : ¬ (cn (((L : Nat) : Int) - 6) < ((a : Nat) : Int)) := by rw [cn_id (by omega) (by omega)]; omega
  have g0 : 0 ≤ ((a : Nat) : Int) ∧ ((a : Nat) : Int) < ((L : Nat) : Int) := by omega
  have g1 : 0 ≤ ((a + 1 : Nat) : Int) ∧ ((a + 1 : Nat) : Int) < ((L : Nat) : Int) := by omega
  have g2 : 0 ≤ ((a + 2 : Nat) : Int) ∧ ((a + 2 : Nat) : Int) < ((L : Nat) : Int) := by omega
  have g3 : 0 ≤ ((a + 3 : Nat) : Int) ∧ ((a + 3 : Nat) : Int) < ((L : Nat) : Int) := by omega
  have g4 : 0 ≤ ((a + 4 : Nat) : Int) ∧ ((a + 4 : Nat) : Int) < ((L : Nat) : Int) := by omega
  have g5 : 0 ≤ ((a + 5 : Nat) : Int) ∧ ((a + 5 : Nat) : Int) < ((L : Nat) : Int) := by omega
  have scr : ∀ Z : XZ, p_scr xs L Z → Z 2000 0 1 = 1 ∧ ((Z 2000 0 0).toNat : Int) = ((L : Nat) : Int) ∧ ∀ k, k < 6 → Z 900 0 (a + k) = (xs (a + k)).toInt := by
    intro Z h
    refine ⟨h.1, by rw [h.2.1]; rfl, fun k hk => h.2.2 _ (by omega)⟩
  obtain ⟨f1, f2, f3⟩ := scr Z hs
  have f30 := f3 0 (by decide)
  rw [Nat.add_zero] at f30
  rw [B0_18]
  rw [if_pos f1, f2, c0, if_neg cl, if_pos f1, if_pos g0, Int.toNat_natCast]
  generalize cn (x_and (Z 900 0 a) 63) = w9
  by_cases h0 : w9 = 0
  · rw [if_pos h0]
    simp only [f1, f2, c1, g1, f3 1 (by decide), c2, g2, f3 2 (by decide), c3, g3, f3 3 (by decide), c4, g4, f3 4 (by decide), c5, g5, f3 5 (by decide), if_true, Int.toNat_natCast]
    obtain ⟨r, r9, Z1, Z2, t1, e1, e2, e3, e4, e5, e6⟩ := s0 (xs (a + 1)).toInt (xs (a + 2)).toInt (xs (a + 3)).toInt (xs (a + 4)).toInt (xs (a + 5)).toInt (p_xc _) (p_xc _) (p_xc _) (p_xc _) (p_xc _) Z t hP
    obtain ⟨f1, f2, f3⟩ := scr Z1 (hs.keep e2)
    rw [e1, Option.bind_some, B0_249]
    simp only [f1, f2, c1, g1, f3 1 (by decide), c2, g2, f3 2 (by decide), c3, g3, f3 3 (by decide), c4, g4, f3 4 (by decide), c5, g5, f3 5 (by decide), if_true, Int.toNat_natCast]
    rw [e3, Option.bind_some, B0_278, if_pos e5]
    exact ⟨Z2, t1, e6, hs.keep e4, rfl⟩
  rw [if_neg h0]
  by_cases h1 : w9 = 1
  · rw [if_pos h1]
    simp only [f1, f2, c1, g1, f3 1 (by decide), if_true, Int.toNat_natCast]
    obtain ⟨r, r9, Z1, Z2, t1, e1, e2, e3, e4, e5, e6⟩ := s1 (xs (a + 1)).toInt (p_xc _) Z t hP
    obtain ⟨f1, f2, f3⟩ := scr Z1 (hs.keep e2)
    rw [e1, Option.bind_some, B0_292]
    simp only [f1, f2, c1, g1, f3 1 (by decide), if_true, Int.toNat_natCast]
    rw [e3, Option.bind_some, B0_301, if_pos e5]
    exact ⟨Z2, t1, e6, hs.keep e4, rfl⟩
  rw [if_neg h1]
  by_cases h2 : w9 = 2
  · rw [if_pos h2]
    obtain ⟨r, r9, Z1, Z2, t1, e1, e2, e3, e4, e5, e6⟩ := s2   Z t hP
    obtain ⟨f1, f2, f3⟩ := scr Z1 (hs.keep e2)
    rw [e1, Option.bind_some, B0_310]
    rw [e3, Option.bind_some, B0_314, if_pos e5]
    exact ⟨Z2, t1, e6, hs.keep e4, rfl⟩
  rw [if_neg h2]
  by_cases h3 : w9 = 3
  · rw [if_pos h3]
    obtain ⟨r, r9, Z1, Z2, t1, e1, e2, e3, e4, e5, e6⟩ := s3   Z t hP
    obtain ⟨f1, f2, f3⟩ := scr Z1 (hs.keep e2)
    rw [e1, Option.bind_some, B0_323]
    rw [e3, Option.bind_some, B0_327, if_pos e5]
    exact ⟨Z2, t1, e6, hs.keep e4, rfl⟩
  rw [if_neg h3]
  by_cases h4 : w9 = 4
  · rw [if_pos h4]
    simp only [f1, f2, c1, g1, f3 1 (by decide), c2, g2, f3 2 (by decide), if_true, Int.toNat_natCast]
    obtain ⟨r, r9, Z1, Z2, t1, e1, e2, e3, e4, e5, e6⟩ := s4 (xs (a + 1)).toInt (xs (a + 2)).toInt (p_xc _) (p_xc _) Z t hP
    obtain ⟨f1, f2, f3⟩ := scr Z1 (hs.keep e2)
    rw [e1, Option.bind_some, B0_346]
    simp only [f1, f2, c1, g1, f3 1 (by decide), c2, g2, f3 2 (by decide), if_true, Int.toNat_natCast]
    rw [e3, Option.bind_some, B0_360, if_pos e5]
    exact ⟨Z2, t1, e6, hs.keep e4, rfl⟩
  rw [if_neg h4]
  by_cases h5 : w9 = 5
  · rw [if_pos h5]
    simp only [f1, f2, c1, g1, f3 1 (by decide), c2, g2, f3 2 (by decide), if_true, Int.toNat_natCast]
    obtain ⟨r, r9, Z1, Z2, t1, e1, e2, e3, e4, e5, e6⟩ := s5 (xs (a + 1)).toInt (xs (a + 2)).toInt (p_xc _) (p_xc _) Z t hP
    obtain ⟨f1, f2, f3⟩ := scr Z1 (hs.keep e2)
    rw [e1, Option.bind_some, B0_379]
    simp only [f1, f2, c1, g1, f3 1 (by decide), c2, g2, f3 2 (by decide), if_true, Int.toNat_natCast]
    rw [e3, Option.bind_some, B0_393, if_pos e5]
    exact ⟨Z2, t1, e6, hs.keep e4, rfl⟩
  rw [if_neg h5]
  by_cases h6 : w9 = 6
  · rw [if_pos h6]
    simp only [f1, f2, c1, g1, f3 1 (by decide), c2, g2, f3 2 (by decide), if_true, Int.toNat_natCast]
    obtain ⟨r, r9, Z1, Z2, t1, e1, e2, e3, e4, e5, e6⟩ := s6 (xs (a + 1)).toInt (xs (a + 2)).toInt (p_xc _) (p_xc _) Z t hP
    obtain ⟨f1, f2, f3⟩ := scr Z1 (hs.keep e2)
    rw [e1, Option.bind_some, B0_412]
    simp only [f1, f2, c1, g1, f3 1 (by decide), c2, g2, f3 2 (by decide), if_true, Int.toNat_natCast]
    rw [e3, Option.bind_some, B0_426, if_pos e5]
    exact ⟨Z2, t1, e6, hs.keep e4, rfl⟩
  rw [if_neg h6]
  by_cases h7 : w9 = 7
  · rw [if_pos h7]
    simp only [f1, f2, c1, g1, f3 1 (by decide), c2, g2, f3 2 (by decide), if_true, Int.toNat_natCast]
    obtain ⟨r, r9, Z1, Z2, t1, e1, e2, e3, e4, e5, e6⟩ := s7 (xs (a + 1)).toInt (xs (a + 2)).toInt (p_xc _) (p_xc _) Z t hP
    obtain ⟨f1, f2, f3⟩ := scr Z1 (hs.keep e2)
    rw [e1, Option.bind_some, B0_445]
    simp only [f1, f2, c1, g1, f3 1 (by decide), c2, g2, f3 2 (by decide), if_true, Int.toNat_natCast]
    rw [e3, Option.bind_some, B0_459, if_pos e5]
    exact ⟨Z2, t1, e6, hs.keep e4, rfl⟩
  rw [if_neg h7]
  by_cases h8 : w9 = 8
  · rw [if_pos h8]
    simp only [f1, f2, c1, g1, f3 1 (by decide), c2, g2, f3 2 (by decide), c3, g3, f3 3 (by decide), if_true, Int.toNat_natCast]
    obtain ⟨r, r9, Z1, Z2, t1, e1, e2, e3, e4, e5, e6⟩ := s8 (xs (a + 1)).toInt (xs (a + 2)).toInt (xs (a + 3)).toInt (p_xc _) (p_xc _) (p_xc _) Z t hP
    obtain ⟨f1, f2, f3⟩ := scr Z1 (hs.keep e2)
    rw [e1, Option.bind_some, B0_483]
    simp only [f1, f2, c1, g1, f3 1 (by decide), c2, g2, f3 2 (by decide), c3, g3, f3 3 (by decide), if_true, Int.toNat_natCast]
    rw [e3, Option.bind_some, B0_502, if_pos e5]
    exact ⟨Z2, t1, e6, hs.keep e4, rfl⟩
  rw [if_neg h8]
  by_cases h9 : w9 = 9
  · rw [if_pos h9]
    simp only [f1, f2, c1, g1, f3 1 (by decide), if_true, Int.toNat_natCast]
    obtain ⟨r, r9, Z1, Z2, t1, e1, e2, e3, e4, e5, e6⟩ := s9 (xs (a + 1)).toInt (p_xc _) Z t hP
    obtain ⟨f1, f2, f3⟩ := scr Z1 (hs.keep e2)
    rw [e1, Option.bind_some, B0_516]
    simp only [f1, f2, c1, g1, f3 1 (by decide), if_true, Int.toNat_natCast]
    rw [e3, Option.bind_some, B0_525, if_pos e5]
    exact ⟨Z2, t1, e6, hs.keep e4, rfl⟩
  rw [if_neg h9]
  by_cases h10 : w9 = 10
  · rw [if_pos h10]
    simp only [f1, f2, c1, g1, f3 1 (by decide), c2, g2, f3 2 (by decide), if_true, Int.toNat_natCast]
    obtain ⟨r, r9, Z1, Z2, t1, e1, e2, e3, e4, e5, e6⟩ := s10 (xs (a + 1)).toInt (xs (a + 2)).toInt (p_xc _) (p_xc _) Z t hP
    obtain ⟨f1, f2, f3⟩ := scr Z1 (hs.keep e2)
    rw [e1, Option.bind_some, B0_544]
    simp only [f1, f2, c1, g1, f3 1 (by decide), c2, g2, f3 2 (by decide), if_true, Int.toNat_natCast]
    rw [e3, Option.bind_some, B0_558, if_pos e5]
    exact ⟨Z2, t1, e6, hs.keep e4, rfl⟩
  rw [if_neg h10]
  by_cases h11 : w9 = 11
  · rw [if_pos h11]
    simp only [f1, f2, c1, g1, f3 1 (by decide), if_true, Int.toNat_natCast]
    by_cases hb : cn (xs (a + 1)).toInt = 0
    · rw [if_pos hb, B0_577]
      obtain ⟨r, r9, Z1, Z2, t1, e1, e2, e3, e4, e5, e6⟩ := s11 0 (by simp) Z t hP
      obtain ⟨k1, k2, k3⟩ := scr Z1 (hs.keep e2)
      rw [e1, Option.bind_some, B0_580]
      simp only [k1, k2, c1, g1, k3 1 (by decide), if_true, Int.toNat_natCast]
      rw [if_pos hb, e3, Option.bind_some, B0_597, if_pos e5]
      exact ⟨Z2, t1, e6, hs.keep e4, rfl⟩
    · rw [if_neg hb, B0_577]
      obtain ⟨r, r9, Z1, Z2, t1, e1, e2, e3, e4, e5, e6⟩ := s11 1 (by simp) Z t hP
      obtain ⟨k1, k2, k3⟩ := scr Z1 (hs.keep e2)
      rw [e1, Option.bind_some, B0_580]
      simp only [k1, k2, c1, g1, k3 1 (by decide), if_true, Int.toNat_natCast]
      rw [if_neg hb, e3, Option.bind_some, B0_597, if_pos e5]
      exact ⟨Z2, t1, e6, hs.keep e4, rfl⟩
  rw [if_neg h11]
  by_cases h12 : w9 = 12
  · rw [if_pos h12]
    simp only [f1, f2, c1, g1, f3 1 (by decide), if_true, Int.toNat_natCast]
    obtain ⟨r, r9, Z1, Z2, t1, e1, e2, e3, e4, e5, e6⟩ := s12 (xs (a + 1)).toInt (p_xc _) Z t hP
    obtain ⟨f1, f2, f3⟩ := scr Z1 (hs.keep e2)
    rw [e1, Option.bind_some, B0_611]
    simp only [f1, f2, c1, g1, f3 1 (by decide), if_true, Int.toNat_natCast]
    rw [e3, Option.bind_some, B0_620, if_pos e5]
    exact ⟨Z2, t1, e6, hs.keep e4, rfl⟩
  rw [if_neg h12]
  by_cases h13 : w9 = 13
  · rw [if_pos h13]
    simp only [f1, f2, c1, g1, f3 1 (by decide), if_true, Int.toNat_natCast]
    obtain ⟨r, r9, Z1, Z2, t1, e1, e2, e3, e4, e5, e6⟩ := s13 (xs (a + 1)).toInt (p_xc _) Z t hP
    obtain ⟨f1, f2, f3⟩ := scr Z1 (hs.keep e2)
    rw [e1, Option.bind_some, B0_634]
    simp only [f1, f2, c1, g1, f3 1 (by decide), if_true, Int.toNat_natCast]
    rw [e3, Option.bind_some, B0_643, if_pos e5]
    exact ⟨Z2, t1, e6, hs.keep e4, rfl⟩
  rw [if_neg h13]
  by_cases h14 : w9 = 14
  · rw [if_pos h14]
    obtain ⟨r, r9, Z1, Z2, t1, e1, e2, e3, e4, e5, e6⟩ := s14   Z t hP
    obtain ⟨f1, f2, f3⟩ := scr Z1 (hs.keep e2)
    rw [e1, Option.bind_some, B0_652]
    rw [e3, Option.bind_some, B0_656, if_pos e5]
    exact ⟨Z2, t1, e6, hs.keep e4, rfl⟩
  rw [if_neg h14]
  by_cases h15 : w9 = 15
  · rw [if_pos h15]
    simp only [f1, f2, c1, g1, f3 1 (by decide), if_true, Int.toNat_natCast]
    obtain ⟨r, r9, Z1, Z2, t1, e1, e2, e3, e4, e5, e6⟩ := s15 (xs (a + 1)).toInt (p_xc _) Z t hP
    obtain ⟨f1, f2, f3⟩ := scr Z1 (hs.keep e2)
    rw [e1, Option.bind_some, B0_670]
    simp only [f1, f2, c1, g1, f3 1 (by decide), if_true, Int.toNat_natCast]
    rw [e3, Option.bind_some, B0_679, if_pos e5]
    exact ⟨Z2, t1, e6, hs.keep e4, rfl⟩
  rw [if_neg h15]
  by_cases h16 : w9 = 16
  · rw [if_pos h16]
    simp only [f1, f2, c1, g1, f3 1 (by decide), if_true, Int.toNat_natCast]
    obtain ⟨r, r9, Z1, Z2, t1, e1, e2, e3, e4, e5, e6⟩ := s16 (xs (a + 1)).toInt (p_xc _) Z t hP
    obtain ⟨f1, f2, f3⟩ := scr Z1 (hs.keep e2)
    rw [e1, Option.bind_some, B0_693]
    simp only [f1, f2, c1, g1, f3 1 (by decide), if_true, Int.toNat_natCast]
    rw [e3, Option.bind_some, B0_702, if_pos e5]
    exact ⟨Z2, t1, e6, hs.keep e4, rfl⟩
  rw [if_neg h16]
  by_cases h17 : w9 = 17
  · rw [if_pos h17]
    simp only [f1, f2, c1, g1, f3 1 (by decide), if_true, Int.toNat_natCast]
    obtain ⟨r, r9, Z1, Z2, t1, e1, e2, e3, e4, e5, e6⟩ := s17 (xs (a + 1)).toInt (p_xc _) Z t hP
    obtain ⟨f1, f2, f3⟩ := scr Z1 (hs.keep e2)
    rw [e1, Option.bind_some, B0_716]
    simp only [f1, f2, c1, g1, f3 1 (by decide), if_true, Int.toNat_natCast]
    rw [e3, Option.bind_some, B0_725, if_pos e5]
    exact ⟨Z2, t1, e6, hs.keep e4, rfl⟩
  rw [if_neg h17]
  by_cases h18 : w9 = 18
  · rw [if_pos h18]
    simp only [f1, f2, c1, g1, f3 1 (by decide), if_true, Int.toNat_natCast]
    obtain ⟨r, r9, Z1, Z2, t1, e1, e2, e3, e4, e5, e6⟩ := s18 (xs (a + 1)).toInt (p_xc _) Z t hP
    obtain ⟨f1, f2, f3⟩ := scr Z1 (hs.keep e2)
    rw [e1, Option.bind_some, B0_739]
    simp only [f1, f2, c1, g1, f3 1 (by decide), if_true, Int.toNat_natCast]
    rw [e3, Option.bind_some, B0_748, if_pos e5]
    exact ⟨Z2, t1, e6, hs.keep e4, rfl⟩
  rw [if_neg h18]
  by_cases h19 : w9 = 19
  · rw [if_pos h19]
    simp only [f1, f2, c1, g1, f3 1 (by decide), c2, g2, f3 2 (by decide), if_true, Int.toNat_natCast]
    obtain ⟨r, r9, Z1, Z2, t1, e1, e2, e3, e4, e5, e6⟩ := s19 (xs (a + 1)).toInt (xs (a + 2)).toInt (p_xc _) (p_xc _) Z t hP
    obtain ⟨f1, f2, f3⟩ := scr Z1 (hs.keep e2)
    rw [e1, Option.bind_some, B0_767]
    simp only [f1, f2, c1, g1, f3 1 (by decide), c2, g2, f3 2 (by decide), if_true, Int.toNat_natCast]
    rw [e3, Option.bind_some, B0_781, if_pos e5]
    exact ⟨Z2, t1, e6, hs.keep e4, rfl⟩
  rw [if_neg h19]
  by_cases h20 : w9 = 20
  · rw [if_pos h20]
    simp only [f1, f2, c1, g1, f3 1 (by decide), if_true, Int.toNat_natCast]
    obtain ⟨r, r9, Z1, Z2, t1, e1, e2, e3, e4, e5, e6⟩ := s20 (xs (a + 1)).toInt (p_xc _) Z t hP
    obtain ⟨f1, f2, f3⟩ := scr Z1 (hs.keep e2)
    rw [e1, Option.bind_some, B0_795]
    simp only [f1, f2, c1, g1, f3 1 (by decide), if_true, Int.toNat_natCast]
    rw [e3, Option.bind_some, B0_804, if_pos e5]
    exact ⟨Z2, t1, e6, hs.keep e4, rfl⟩
  rw [if_neg h20]
  by_cases h21 : w9 = 21
  · rw [if_pos h21]
    simp only [f1, f2, c1, g1, f3 1 (by decide), if_true, Int.toNat_natCast]
    obtain ⟨r, r9, Z1, Z2, t1, e1, e2, e3, e4, e5, e6⟩ := s21 (xs (a + 1)).toInt (p_xc _) Z t hP
    obtain ⟨f1, f2, f3⟩ := scr Z1 (hs.keep e2)
    rw [e1, Option.bind_some, B0_818]
    simp only [f1, f2, c1, g1, f3 1 (by decide), if_true, Int.toNat_natCast]
    rw [e3, Option.bind_some, B0_827, if_pos e5]
    exact ⟨Z2, t1, e6, hs.keep e4, rfl⟩
  rw [if_neg h21]
  by_cases h22 : w9 = 22
  · rw [if_pos h22]
    simp only [f1, f2, c1, g1, f3 1 (by decide), c2, g2, f3 2 (by decide), if_true, Int.toNat_natCast]
    obtain ⟨r, r9, Z1, Z2, t1, e1, e2, e3, e4, e5, e6⟩ := s22 (xs (a + 1)).toInt (xs (a + 2)).toInt (p_xc _) (p_xc _) Z t hP
    obtain ⟨f1, f2, f3⟩ := scr Z1 (hs.keep e2)
    rw [e1, Option.bind_some, B0_846]
    simp only [f1, f2, c1, g1, f3 1 (by decide), c2, g2, f3 2 (by decide), if_true, Int.toNat_natCast]
    rw [e3, Option.bind_some, B0_860, if_pos e5]
    exact ⟨Z2, t1, e6, hs.keep e4, rfl⟩
  rw [if_neg h22]
  by_cases h23 : w9 = 23
  · rw [if_pos h23]
    simp only [f1, f2, c1, g1, f3 1 (by decide), c2, g2, f3 2 (by decide), if_true, Int.toNat_natCast]
    obtain ⟨r, r9, Z1, Z2, t1, e1, e2, e3, e4, e5, e6⟩ := s23 (xs (a + 1)).toInt (xs (a + 2)).toInt (p_xc _) (p_xc _) Z t hP
    obtain ⟨f1, f2, f3⟩ := scr Z1 (hs.keep e2)
    rw [e1, Option.bind_some, B0_879]
    simp only [f1, f2, c1, g1, f3 1 (by decide), c2, g2, f3 2 (by decide), if_true, Int.toNat_natCast]
    rw [e3, Option.bind_some, B0_893, if_pos e5]
    exact ⟨Z2, t1, e6, hs.keep e4, rfl⟩
  rw [if_neg h23]
  by_cases h24 : w9 = 24
  · rw [if_pos h24]
    simp only [f1, f2, c1, g1, f3 1 (by decide), c2, g2, f3 2 (by decide), if_true, Int.toNat_natCast]
    obtain ⟨r, r9, Z1, Z2, t1, e1, e2, e3, e4, e5, e6⟩ := s24 (xs (a + 1)).toInt (xs (a + 2)).toInt (p_xc _) (p_xc _) Z t hP
    obtain ⟨f1, f2, f3⟩ := scr Z1 (hs.keep e2)
    rw [e1, Option.bind_some, B0_912]
    simp only [f1, f2, c1, g1, f3 1 (by decide), c2, g2, f3 2 (by decide), if_true, Int.toNat_natCast]
    rw [e3, Option.bind_some, B0_926, if_pos e5]
    exact ⟨Z2, t1, e6, hs.keep e4, rfl⟩
  rw [if_neg h24]
  by_cases h25 : w9 = 25
  · rw [if_pos h25]
    simp only [f1, f2, c1, g1, f3 1 (by decide), if_true, Int.toNat_natCast]
    obtain ⟨r, r9, Z1, Z2, t1, e1, e2, e3, e4, e5, e6⟩ := s25 (xs (a + 1)).toInt (p_xc _) Z t hP
    obtain ⟨f1, f2, f3⟩ := scr Z1 (hs.keep e2)
    rw [e1, Option.bind_some, B0_940]
    simp only [f1, f2, c1, g1, f3 1 (by decide), if_true, Int.toNat_natCast]
    rw [e3, Option.bind_some, B0_949, if_pos e5]
    exact ⟨Z2, t1, e6, hs.keep e4, rfl⟩
  rw [if_neg h25]
  by_cases h26 : w9 = 26
  · rw [if_pos h26]
    simp only [f1, f2, c1, g1, f3 1 (by decide), c2, g2, f3 2 (by decide), if_true, Int.toNat_natCast]
    obtain ⟨r, r9, Z1, Z2, t1, e1, e2, e3, e4, e5, e6⟩ := s26 (xs (a + 1)).toInt (xs (a + 2)).toInt (p_xc _) (p_xc _) Z t hP
    obtain ⟨f1, f2, f3⟩ := scr Z1 (hs.keep e2)
    rw [e1, Option.bind_some, B0_968]
    simp only [f1, f2, c1, g1, f3 1 (by decide), c2, g2, f3 2 (by decide), if_true, Int.toNat_natCast]
    rw [e3, Option.bind_some, B0_982, if_pos e5]
    exact ⟨Z2, t1, e6, hs.keep e4, rfl⟩
  rw [if_neg h26]
  by_cases h27 : w9 = 27
  · rw [if_pos h27]
    simp only [f1, f2, c1, g1, f3 1 (by decide), c2, g2, f3 2 (by decide), c3, g3, f3 3 (by decide), if_true, Int.toNat_natCast]
    obtain ⟨r, r9, Z1, Z2, t1, e1, e2, e3, e4, e5, e6⟩ := s27 (xs (a + 1)).toInt (xs (a + 2)).toInt (xs (a + 3)).toInt (p_xc _) (p_xc _) (p_xc _) Z t hP
    obtain ⟨f1, f2, f3⟩ := scr Z1 (hs.keep e2)
    rw [e1, Option.bind_some, B0_1006]
    simp only [f1, f2, c1, g1, f3 1 (by decide), c2, g2, f3 2 (by decide), c3, g3, f3 3 (by decide), if_true, Int.toNat_natCast]
    rw [e3, Option.bind_some, B0_1025, if_pos e5]
    exact ⟨Z2, t1, e6, hs.keep e4, rfl⟩
  rw [if_neg h27]
  by_cases h28 : w9 = 28
  · rw [if_pos h28]
    simp only [f1, f2, c1, g1, f3 1 (by decide), if_true, Int.toNat_natCast]
    obtain ⟨r, r9, Z1, Z2, t1, e1, e2, e3, e4, e5, e6⟩ := s28 (xs (a + 1)).toInt (p_xc _) Z t hP
    obtain ⟨f1, f2, f3⟩ := scr Z1 (hs.keep e2)
    rw [e1, Option.bind_some, B0_1039]
    simp only [f1, f2, c1, g1, f3 1 (by decide), if_true, Int.toNat_natCast]
    rw [e3, Option.bind_some, B0_1048, if_pos e5]
    exact ⟨Z2, t1, e6, hs.keep e4, rfl⟩
  rw [if_neg h28]
  by_cases h29 : w9 = 29
  · rw [if_pos h29]
    simp only [f1, f2, c1, g1, f3 1 (by decide), c2, g2, f3 2 (by decide), c3, g3, f3 3 (by decide), if_true, Int.toNat_natCast]
    by_cases hb : cn (xs (a + 2)).toInt = 0
    · rw [if_pos hb, B0_1072]
      obtain ⟨r, r9, Z1, Z2, t1, e1, e2, e3, e4, e5, e6⟩ := s29 (xs (a + 1)).toInt 0 (xs (a + 3)).toInt (p_xc _) (by simp) (p_xc _) Z t hP
      obtain ⟨k1, k2, k3⟩ := scr Z1 (hs.keep e2)
      simp only [f1, f2, c3, g3, f3 3 (by decide), if_true, Int.toNat_natCast]
      rw [e1, Option.bind_some, B0_1080]
      simp only [k1, k2, c1, g1, k3 1 (by decide), c2, g2, k3 2 (by decide), c3, g3, k3 3 (by decide), if_true, Int.toNat_natCast]
      rw [if_pos hb, e3, Option.bind_some, B0_1107, if_pos e5]
      exact ⟨Z2, t1, e6, hs.keep e4, rfl⟩
    · rw [if_neg hb, B0_1072]
      obtain ⟨r, r9, Z1, Z2, t1, e1, e2, e3, e4, e5, e6⟩ := s29 (xs (a + 1)).toInt 1 (xs (a + 3)).toInt (p_xc _) (by simp) (p_xc _) Z t hP
      obtain ⟨k1, k2, k3⟩ := scr Z1 (hs.keep e2)
      simp only [f1, f2, c3, g3, f3 3 (by decide), if_true, Int.toNat_natCast]
      rw [e1, Option.bind_some, B0_1080]
      simp only [k1, k2, c1, g1, k3 1 (by decide), c2, g2, k3 2 (by decide), c3, g3, k3 3 (by decide), if_true, Int.toNat_natCast]
      rw [if_neg hb, e3, Option.bind_some, B0_1107, if_pos e5]
      exact ⟨Z2, t1, e6, hs.keep e4, rfl⟩
  rw [if_neg h29]
  by_cases h30 : w9 = 30
  · rw [if_pos h30]
    simp only [f1, f2, c1, g1, f3 1 (by decide), if_true, Int.toNat_natCast]
    obtain ⟨r, r9, Z1, Z2, t1, e1, e2, e3, e4, e5, e6⟩ := s30 (xs (a + 1)).toInt (p_xc _) Z t hP
    obtain ⟨f1, f2, f3⟩ := scr Z1 (hs.keep e2)
    rw [e1, Option.bind_some, B0_1121]
    simp only [f1, f2, c1, g1, f3 1 (by decide), if_true, Int.toNat_natCast]
    rw [e3, Option.bind_some, B0_1130, if_pos e5]
    exact ⟨Z2, t1, e6, hs.keep e4, rfl⟩
  rw [if_neg h30]
  by_cases h31 : w9 = 31
  · rw [if_pos h31]
    obtain ⟨r, r9, Z1, Z2, t1, e1, e2, e3, e4, e5, e6⟩ := s31   Z t hP
    obtain ⟨f1, f2, f3⟩ := scr Z1 (hs.keep e2)
    rw [e1, Option.bind_some, B0_1139]
    rw [e3, Option.bind_some, B0_1143, if_pos e5]
    exact ⟨Z2, t1, e6, hs.keep e4, rfl⟩
  rw [if_neg h31]
  by_cases h32 : w9 = 32
  · rw [if_pos h32]
    simp only [f1, f2, c1, g1, f3 1 (by decide), if_true, Int.toNat_natCast]
    obtain ⟨r, r9, Z1, Z2, t1, e1, e2, e3, e4, e5, e6⟩ := s32 (xs (a + 1)).toInt (p_xc _) Z t hP
    obtain ⟨f1, f2, f3⟩ := scr Z1 (hs.keep e2)
    rw [e1, Option.bind_some, B0_1157]
    simp only [f1, f2, c1, g1, f3 1 (by decide), if_true, Int.toNat_natCast]
    rw [e3, Option.bind_some, B0_1166, if_pos e5]
    exact ⟨Z2, t1, e6, hs.keep e4, rfl⟩
  rw [if_neg h32]
  by_cases h33 : w9 = 33
  · rw [if_pos h33]
    simp only [f1, f2, c1, g1, f3 1 (by decide), c2, g2, f3 2 (by decide), if_true, Int.toNat_natCast]
    obtain ⟨r, r9, Z1, Z2, t1, e1, e2, e3, e4, e5, e6⟩ := s33 (xs (a + 1)).toInt (xs (a + 2)).toInt (p_xc _) (p_xc _) Z t hP
    obtain ⟨f1, f2, f3⟩ := scr Z1 (hs.keep e2)
    rw [e1, Option.bind_some, B0_1185]
    simp only [f1, f2, c1, g1, f3 1 (by decide), c2, g2, f3 2 (by decide), if_true, Int.toNat_natCast]
    rw [e3, Option.bind_some, B0_1199, if_pos e5]
    exact ⟨Z2, t1, e6, hs.keep e4, rfl⟩
  rw [if_neg h33]
  by_cases h34 : w9 = 34
  · rw [if_pos h34]
    simp only [f1, f2, c1, g1, f3 1 (by decide), if_true, Int.toNat_natCast]
    obtain ⟨r, r9, Z1, Z2, t1, e1, e2, e3, e4, e5, e6⟩ := s34 (xs (a + 1)).toInt (p_xc _) Z t hP
    obtain ⟨f1, f2, f3⟩ := scr Z1 (hs.keep e2)
    rw [e1, Option.bind_some, B0_1213]
    simp only [f1, f2, c1, g1, f3 1 (by decide), if_true, Int.toNat_natCast]
    rw [e3, Option.bind_some, B0_1222, if_pos e5]
    exact ⟨Z2, t1, e6, hs.keep e4, rfl⟩
  rw [if_neg h34]
  by_cases h35 : w9 = 35
  · rw [if_pos h35]
    simp only [f1, f2, c1, g1, f3 1 (by decide), c2, g2, f3 2 (by decide), if_true, Int.toNat_natCast]
    obtain ⟨r, r9, Z1, Z2, t1, e1, e2, e3, e4, e5, e6⟩ := s35 (xs (a + 1)).toInt (xs (a + 2)).toInt (p_xc _) (p_xc _) Z t hP
    obtain ⟨f1, f2, f3⟩ := scr Z1 (hs.keep e2)
    rw [e1, Option.bind_some, B0_1241]
    simp only [f1, f2, c1, g1, f3 1 (by decide), c2, g2, f3 2 (by decide), if_true, Int.toNat_natCast]
    rw [e3, Option.bind_some, B0_1255, if_pos e5]
    exact ⟨Z2, t1, e6, hs.keep e4, rfl⟩
  rw [if_neg h35]
  by_cases h36 : w9 = 36
  · rw [if_pos h36]
    simp only [f1, f2, c1, g1, f3 1 (by decide), c2, g2, f3 2 (by decide), c3, g3, f3 3 (by decide), c4, g4, f3 4 (by decide), if_true, Int.toNat_natCast]
    by_cases hb : cn (xs (a + 4)).toInt = 0
    · rw [if_pos hb, B0_1289]
      obtain ⟨r, r9, Z1, Z2, t1, e1, e2, e3, e4, e5, e6⟩ := s36 (xs (a + 1)).toInt (xs (a + 2)).toInt (xs (a + 3)).toInt 0 (p_xc _) (p_xc _) (p_xc _) (by simp) Z t hP
      obtain ⟨k1, k2, k3⟩ := scr Z1 (hs.keep e2)
      rw [e1, Option.bind_some, B0_1292]
      simp only [k1, k2, c1, g1, k3 1 (by decide), c2, g2, k3 2 (by decide), c3, g3, k3 3 (by decide), c4, g4, k3 4 (by decide), if_true, Int.toNat_natCast]
      rw [if_pos hb, e3, Option.bind_some, B0_1324, if_pos e5]
      exact ⟨Z2, t1, e6, hs.keep e4, rfl⟩
    · rw [if_neg hb, B0_1289]
      obtain ⟨r, r9, Z1, Z2, t1, e1, e2, e3, e4, e5, e6⟩ := s36 (xs (a + 1)).toInt (xs (a + 2)).toInt (xs (a + 3)).toInt 1 (p_xc _) (p_xc _) (p_xc _) (by simp) Z t hP
      obtain ⟨k1, k2, k3⟩ := scr Z1 (hs.keep e2)
      rw [e1, Option.bind_some, B0_1292]
      simp only [k1, k2, c1, g1, k3 1 (by decide), c2, g2, k3 2 (by decide), c3, g3, k3 3 (by decide), c4, g4, k3 4 (by decide), if_true, Int.toNat_natCast]
      rw [if_neg hb, e3, Option.bind_some, B0_1324, if_pos e5]
      exact ⟨Z2, t1, e6, hs.keep e4, rfl⟩
  rw [if_neg h36]
  by_cases h37 : w9 = 37
  · rw [if_pos h37]
    obtain ⟨r, r9, Z1, Z2, t1, e1, e2, e3, e4, e5, e6⟩ := s37   Z t hP
    obtain ⟨f1, f2, f3⟩ := scr Z1 (hs.keep e2)
    rw [e1, Option.bind_some, B0_1333]
    rw [e3, Option.bind_some, B0_1337, if_pos e5]
    exact ⟨Z2, t1, e6, hs.keep e4, rfl⟩
  rw [if_neg h37]
  by_cases h38 : w9 = 38
  · rw [if_pos h38]
    simp only [f1, f2, c1, g1, f3 1 (by decide), c2, g2, f3 2 (by decide), c3, g3, f3 3 (by decide), if_true, Int.toNat_natCast]
    obtain ⟨r, r9, Z1, Z2, t1, e1, e2, e3, e4, e5, e6⟩ := s38 (xs (a + 1)).toInt (xs (a + 2)).toInt (xs (a + 3)).toInt (p_xc _) (p_xc _) (p_xc _) Z t hP
    obtain ⟨f1, f2, f3⟩ := scr Z1 (hs.keep e2)
    rw [e1, Option.bind_some, B0_1361]
    simp only [f1, f2, c1, g1, f3 1 (by decide), c2, g2, f3 2 (by decide), c3, g3, f3 3 (by decide), if_true, Int.toNat_natCast]
    rw [e3, Option.bind_some, B0_1380, if_pos e5]
    exact ⟨Z2, t1, e6, hs.keep e4, rfl⟩
  rw [if_neg h38]
  by_cases h39 : w9 = 39
  · rw [if_pos h39]
    simp only [f1, f2, c1, g1, f3 1 (by decide), c2, g2, f3 2 (by decide), if_true, Int.toNat_natCast]
    obtain ⟨r, r9, Z1, Z2, t1, e1, e2, e3, e4, e5, e6⟩ := s39 (xs (a + 1)).toInt (xs (a + 2)).toInt (p_xc _) (p_xc _) Z t hP
    obtain ⟨f1, f2, f3⟩ := scr Z1 (hs.keep e2)
    rw [e1, Option.bind_some, B0_1399]
    simp only [f1, f2, c1, g1, f3 1 (by decide), c2, g2, f3 2 (by decide), if_true, Int.toNat_natCast]
    rw [e3, Option.bind_some, B0_1413, if_pos e5]
    exact ⟨Z2, t1, e6, hs.keep e4, rfl⟩
  rw [if_neg h39]
  by_cases h40 : w9 = 40
  · rw [if_pos h40]
    simp only [f1, f2, c1, g1, f3 1 (by decide), if_true, Int.toNat_natCast]
    obtain ⟨r, r9, Z1, Z2, t1, e1, e2, e3, e4, e5, e6⟩ := s40 (xs (a + 1)).toInt (p_xc _) Z t hP
    obtain ⟨f1, f2, f3⟩ := scr Z1 (hs.keep e2)
    rw [e1, Option.bind_some, B0_1427]
    simp only [f1, f2, c1, g1, f3 1 (by decide), if_true, Int.toNat_natCast]
    rw [e3, Option.bind_some, B0_1436, if_pos e5]
    exact ⟨Z2, t1, e6, hs.keep e4, rfl⟩
  rw [if_neg h40]
  by_cases h41 : w9 = 41
  · rw [if_pos h41]
    simp only [f1, f2, c1, g1, f3 1 (by decide), if_true, Int.toNat_natCast]
    obtain ⟨r, r9, Z1, Z2, t1, e1, e2, e3, e4, e5, e6⟩ := s41 (xs (a + 1)).toInt (p_xc _) Z t hP
    obtain ⟨f1, f2, f3⟩ := scr Z1 (hs.keep e2)
    rw [e1, Option.bind_some, B0_1450]
    simp only [f1, f2, c1, g1, f3 1 (by decide), if_true, Int.toNat_natCast]
    rw [e3, Option.bind_some, B0_1459, if_pos e5]
    exact ⟨Z2, t1, e6, hs.keep e4, rfl⟩
  rw [if_neg h41]
  by_cases h42 : w9 = 42
  · rw [if_pos h42]
    simp only [f1, f2, c1, g1, f3 1 (by decide), if_true, Int.toNat_natCast]
    obtain ⟨r, r9, Z1, Z2, t1, e1, e2, e3, e4, e5, e6⟩ := s42 (xs (a + 1)).toInt (p_xc _) Z t hP
    obtain ⟨f1, f2, f3⟩ := scr Z1 (hs.keep e2)
    rw [e1, Option.bind_some, B0_1473]
    simp only [f1, f2, c1, g1, f3 1 (by decide), if_true, Int.toNat_natCast]
    rw [e3, Option.bind_some, B0_1482, if_pos e5]
    exact ⟨Z2, t1, e6, hs.keep e4, rfl⟩
  rw [if_neg h42]
  exact ⟨Z, t, hP, hs, rfl⟩
theorem p_loop (P : XZ → Nat → Prop) (hall : p_all P) {xs : Nat → Int32} {L : Nat} (hL : L ≤ 3072) : ∀ (n a : Nat) (Z : XZ) (t : Nat), P Z t → p_scr xs L Z → a ≤ L + 6 → L + 1 ≤ a + n → ∃ (Zf : XZ) (tf : Nat), x_EX 60 0 18 [some (.inr (.inr (some (900, 0)))), some (.inr (.inr (some (0, 0)))), some (.inr (.inr (some (56, 0)))), some (.inl (a : Int))] [] (x_S Z t) = some (1, x_S Zf tf) := by
  intro n
  induction n with
  | zero =>
    intro a Z t hP hs h1 h2
    refine ⟨Z, t, ?_⟩
    rw [B0_18, if_pos hs.1, hs.2.1, cn_id (z := (a : Int)) (by omega) (by omega), if_pos]
    rw [show (((L : Int)).toNat : Int) = (L : Int) from rfl, cn_id (by omega) (by omega)]
    omega
  | succ n ih =>
    intro a Z t hP hs h1 h2
    by_cases ha : a + 6 ≤ L
    · obtain ⟨Z2, t2, k1, k2, k3⟩ := p_one P hall hL ha hP hs
      rw [k3, B0_1487]
      have := ih (a + 6) Z2 t2 k1 k2 (by omega) (by omega)
      exact this
    · refine ⟨Z, t, ?_⟩
      rw [B0_18, if_pos hs.1, hs.2.1, cn_id (z := (a : Int)) (by omega) (by omega), if_pos]
      rw [show (((L : Int)).toNat : Int) = (L : Int) from rfl, cn_id (by omega) (by omega)]
      omega
theorem p_done (P : XZ → Nat → Prop) (hall : p_all P) {xs : Nat → Int32} {L : Nat} (hL : L ≤ 3072) (h0 : ∀ zf : XZ, x_Ini zf → ∀ (xs : Nat → Int32) (L : Nat), P (x_Zi zf xs L) 1) (zf : XZ) (hI : x_Ini zf) : ∃ (Zf : XZ) (tf : Nat), x_EX 60 0 18 [some (.inr (.inr (some (900, 0)))), some (.inr (.inr (some (0, 0)))), some (.inr (.inr (some (56, 0)))), some (.inl 0)] [] (x_S (x_Zi zf xs L) 1) = some (1, x_S Zf tf) := by
  have := p_loop P hall hL (xs := xs) (L + 1) 0 (x_Zi zf xs L) 1 (h0 zf hI xs L) ⟨by simp [x_Zi], by simp [x_Zi], fun j _ => by simp [x_Zi]⟩ (by omega) (by omega)
  exact this
