/-! the town, the state, and what both sides hold of them -/
abbrev PT : Type := Nat → Nat → Nat
abbrev PN : Type := Nat → Int
abbrev PF : Type := Nat → Option ((Nat → Int) → Int)
def q_e (T : PT) (c l : Nat) : Bool := (T 4 l == c) || (T 5 l == c)
def q_lu (T : PT) (c n : Nat) : List Nat := (List.range n).filter (q_e T c)
def q_ln (T : PT) (c : Nat) : List Nat := q_lu T c (T 1 0)
def q_dg (T : PT) (c : Nat) : Nat := (q_ln T c).length
def q_at (T : PT) (c p : Nat) : Nat := (q_ln T c).getD (p % q_dg T c) 0
def q_bt (l : List Nat) : Nat := match l with
  | [] => 0
  | a :: r => 2 ^ a + q_bt r
def q_up (D : Nat → Nat) (a x : Nat) : Nat → Nat := fun c => if c = a then x else D c
def q_rx (D : Nat → Nat) (a b w : Nat) : Nat → Nat := if D b + w < D a then q_up D a (D b + w) else D
def q_ro (T : PT) (wo n : Nat) (D : Nat → Nat) : Nat → Nat := match n with
  | 0 => D
  | n + 1 => if n = wo then q_ro T wo n D else q_rx (q_rx (q_ro T wo n D) (T 4 n) (T 5 n) (T 6 n)) (T 5 n) (T 4 n) (T 6 n)
def q_rs (T : PT) (wo k : Nat) (D : Nat → Nat) : Nat → Nat := match k with
  | 0 => D
  | k + 1 => q_ro T wo (T 1 0) (q_rs T wo k D)
def q_d0 (T : PT) : Nat → Nat := fun c => if c = T 10 0 ∧ T 0 0 ≠ 0 then 0 else 1000
def q_ds (T : PT) (wo : Nat) : Nat → Nat := q_rs T wo 7 (q_d0 T)
def q_mi (T : PT) (c : Nat) : Int := if 1000 ≤ q_ds T 99 c then -2 else (q_ds T 99 c : Int)
def q_sg (N : PN) (c : Nat) : Nat := (N (5 + c)).toNat
def q_va (Z : XZ) (g m : Nat) : Nat → Int := fun i => if i < 9 then cn (Z g m i) else 0
def TOK (T : PT) : Prop := T 0 0 ≤ 7 ∧ T 1 0 ≤ 10 ∧ T 2 0 ≤ 5 ∧ (∀ c, c < T 0 0 → T 3 c ≤ 9) ∧ (∀ l, l < T 1 0 → T 4 l < T 0 0 ∧ T 5 l < T 0 0 ∧ T 4 l ≠ T 5 l ∧ 1 ≤ T 6 l ∧ T 6 l ≤ 9) ∧ (∀ s, s < T 2 0 → T 7 s ≤ 9 ∧ T 8 s < T 0 0) ∧ (0 < T 0 0 → T 10 0 < T 0 0) ∧ T 11 0 ≤ 99 ∧ T 12 0 ≤ 9 ∧ T 13 0 ≤ 9999 ∧ ∀ c, c < 7 → T 9 c ≤ 10
def CT (Z : XZ) (t : Nat) (T : PT) : Prop := (∀ k, (k < 3 ∨ (10 ≤ k ∧ k ≤ 13)) → Z 7 t k = (T k 0 : Int)) ∧ (∀ c, c < T 0 0 → Z 8 t c = (T 3 c : Int) ∧ Z 21 t c = (q_dg T c : Int) ∧ Z 22 t c = (q_bt (q_ln T c) : Int) ∧ Z 24 t c = q_mi T c ∧ ∀ j, j < q_dg T c → Z 23 t (10 * c + j) = ((q_ln T c).getD j 0 : Int)) ∧ (∀ l, l < T 1 0 → Z 9 t l = (T 4 l : Int) ∧ Z 10 t l = (T 5 l : Int) ∧ Z 11 t l = (T 6 l : Int)) ∧ (∀ s, s < T 2 0 → Z 12 t s = (T 7 s : Int) ∧ Z 13 t s = (T 8 s : Int)) ∧ (∀ c, c < 7 → Z 14 t c = ((T 9 c - 1 : Nat) : Int))
def MT (Z : XZ) (v : Nat) (T : PT) : Prop := v < 2 ∧ Z 56 0 18 = (v : Int) ∧ (Z 66 0 v = (T 0 0 : Int) ∧ Z 69 0 v = (T 1 0 : Int) ∧ Z 74 0 v = (T 2 0 : Int) ∧ Z 77 0 v = (T 10 0 : Int) ∧ Z 78 0 v = (T 11 0 : Int) ∧ Z 79 0 v = (T 12 0 : Int) ∧ Z 80 0 v = (T 13 0 : Int)) ∧ (∀ c, c < T 0 0 → Z 67 0 (7 * v + c) = (T 3 c : Int)) ∧ (∀ l, l < T 1 0 → Z 70 0 (10 * v + l) = (T 4 l : Int) ∧ Z 71 0 (10 * v + l) = (T 5 l : Int) ∧ Z 72 0 (10 * v + l) = (T 6 l : Int)) ∧ (∀ s, s < T 2 0 → Z 75 0 (5 * v + s) = (T 7 s : Int) ∧ Z 76 0 (5 * v + s) = (T 8 s : Int)) ∧ (∀ c, c < 7 → Z 68 0 (7 * v + c) = (T 9 c : Int) - 1)
def CLaw (Z : XZ) (t : Nat) (F : PF) : Prop := ∀ k, k < 4 → (F k = none → Z 16 t k = -1) ∧ ∀ f, F k = some f → cn (Z 16 t k) ≠ -1 ∧ ∀ (Z' : XZ) (t' d : Nat), 3 ≤ d → Z' 15 t = Z 15 t → Z' 16 t = Z 16 t → Z' 17 t = Z 17 t → Z' 18 t = Z 18 t → ∃ (r : Int) (Z'' : XZ), x_CALL d 12 [.inr (.inr (some (15, t))), .inl (k : Int)] (x_S Z' t') = some (r, x_S Z'' t') ∧ (∀ g m i, (g ≠ 19 ∨ m ≠ t) → Z'' g m i = Z' g m i) ∧ cn r = f (q_va Z' 20 t)
/-- the cells of one side's laws -/
def mlh (v g i : Nat) : Prop := (81 ≤ g ∧ g ≤ 82 ∧ 4 * v ≤ i ∧ i < 4 * v + 4) ∨ (83 ≤ g ∧ g ≤ 87 ∧ 130 * v ≤ i ∧ i < 130 * v + 130) ∨ (88 ≤ g ∧ g ≤ 89 ∧ 420 * v ≤ i ∧ i < 420 * v + 420)
def MLaw (Z : XZ) (v : Nat) (F : PF) : Prop := ∀ k, k < 4 → (F k = none → Z 81 0 (4 * v + k) = Z 82 0 (4 * v + k)) ∧ ∀ f, F k = some f → cn (Z 81 0 (4 * v + k)) ≠ cn (Z 82 0 (4 * v + k)) ∧ ∀ (Z' : XZ) (t' d : Nat) (p : Int), 3 ≤ d → (∀ g i, mlh v g i → Z' g 0 i = Z g 0 i) → Z' 56 0 18 = (v : Int) → ∃ (r : Int) (Z'' : XZ), x_CALL d 185 [.inr (.inr (some (56, 0))), .inl (k : Int), .inl p] (x_S Z' t') = some (r, x_S Z'' t') ∧ (∀ g m i, g ≠ 92 → (g ≠ 56 ∨ i ≠ 53) → Z'' g m i = Z' g m i) ∧ cn r = f (q_va Z' 91 0)
def CS (Z : XZ) (m : Nat) (N : PN) : Prop := (∀ c, c < 7 → Z 29 m c = (q_sg N c : Int)) ∧ (∀ s, s < 5 → Z 30 m s = N s) ∧ Z 28 m 0 = N 13 ∧ cn (Z 28 m 1) = cn (N 12) ∧ Z 28 m 2 = N 15 ∧ cn (Z 28 m 3) = cn (N 14)
def MR (Z : XZ) (g o : Nat) (N : PN) : Prop := ∀ k, k < 16 → Z g 0 (o + k) = N k
def NOK (N : PN) : Prop := (∀ s, s < 5 → 0 ≤ N s ∧ N s ≤ 2) ∧ (∀ c, c < 7 → -1 ≤ N (5 + c) ∧ N (5 + c) ≤ 9) ∧ (0 ≤ cn (N 12) ∧ cn (N 12) ≤ 9) ∧ (N 15 = -2 ∨ (0 ≤ N 15 ∧ N 15 < 5))
def HI (Z : XZ) (u nx : Nat) (H : Nat → PN) : Prop := Z 31 0 0 = (u : Int) ∧ Z 56 0 67 = (u : Int) ∧ u ≤ 40 ∧ Z 31 0 1 = (nx : Int) ∧ nx < 40 ∧ ∀ j, j < u → CS Z (2 + (nx + 40 - u + j) % 40) (H j) ∧ MR Z 100 (16 * j) (H j) ∧ NOK (H j)
def KI (Z : XZ) (K : Nat → PN) : Prop := ∀ s, s < 3 → Z 34 0 s = Z 107 0 s ∧ (Z 34 0 s = 0 ∨ (Z 34 0 s = 1 ∧ CS Z (42 + s) (K s) ∧ MR Z 108 (16 * s) (K s) ∧ NOK (K s)))
def NI (Z : XZ) : Prop := ∃ n : Nat, n ≤ 20 ∧ Z 35 0 0 = (n : Int) ∧ Z 56 0 70 = (n : Int) ∧ ∀ j, j < n → Z 36 0 j = Z 102 0 j ∧ Z 37 0 j = Z 103 0 j ∧ Z 38 0 j = Z 104 0 j ∧ Z 39 0 j = Z 105 0 j ∧ (0 ≤ Z 36 0 j ∧ Z 36 0 j < 5) ∧ (0 ≤ Z 37 0 j ∧ Z 37 0 j ≤ 8) ∧ (0 ≤ Z 38 0 j ∧ Z 38 0 j < 7) ∧ (Z 39 0 j = 0 ∨ Z 39 0 j = 1)
def TI (Z : XZ) : Prop := ∃ n : Nat, n ≤ 2000 ∧ Z 0 0 1 = (n : Int) ∧ Z 56 0 2 = (n : Int) ∧ Z 0 0 2 = Z 56 0 17 ∧ (∀ i, i < n → Z 1 0 i = Z 57 0 i ∧ -128 ≤ Z 1 0 i ∧ Z 1 0 i < 128) ∧ ∀ k, k < 24 → Z 63 0 k = x_Z0 63 0 k
def PP (T : PT) (F : PF) (N : PN) (H K : Nat → PN) (v u nx : Nat) (Z : XZ) (t : Nat) : Prop := t < 2 ∧ TOK T ∧ CT Z t T ∧ MT Z v T ∧ CLaw Z t F ∧ MLaw Z v F ∧ CS Z 0 N ∧ MR Z 93 0 N ∧ NOK N ∧ HI Z u nx H ∧ KI Z K ∧ NI Z ∧ TI Z
def PI (Z : XZ) (t : Nat) : Prop := ∃ (T : PT) (F : PF) (N : PN) (H K : Nat → PN) (v u nx : Nat), PP T F N H K v u nx Z t
/-- what a question may change -/
def scr (g m i : Nat) : Prop := g = 19 ∨ g = 20 ∨ g = 25 ∨ (28 ≤ g ∧ g ≤ 30 ∧ m = 1) ∨ (40 ≤ g ∧ g ≤ 55) ∨ g = 91 ∨ g = 92 ∨ (94 ≤ g ∧ g ≤ 99) ∨ g = 101 ∨ g = 106 ∨ (g = 56 ∧ (i = 53 ∨ i = 56 ∨ (62 ≤ i ∧ i ≤ 66)))
def keepQ (Z Z' : XZ) : Prop := ∀ g m i, ¬ scr g m i → Z' g m i = Z g m i
theorem keepQ.rfl' {Z : XZ} : keepQ Z Z := fun _ _ _ _ => rfl
theorem keepQ.trans {Z Z' Z'' : XZ} (h : keepQ Z Z') (h' : keepQ Z' Z'') : keepQ Z Z'' := fun g m i q => (h' g m i q).trans (h g m i q)
theorem CS.congr {Z Z' : XZ} {m : Nat} {N : PN} (h : CS Z m N) (h8 : ∀ i, Z' 28 m i = Z 28 m i) (h9 : ∀ i, Z' 29 m i = Z 29 m i) (h0 : ∀ i, Z' 30 m i = Z 30 m i) : CS Z' m N := by
  unfold CS at h ⊢
  simp only [h8, h9, h0]
  exact h
theorem CS.q {Z Z' : XZ} {m : Nat} {N : PN} (h : CS Z m N) (hm : m ≠ 1) (hk : keepQ Z Z') : CS Z' m N :=
  h.congr (fun i => hk 28 m i (by unfold scr; omega)) (fun i => hk 29 m i (by unfold scr; omega)) (fun i => hk 30 m i (by unfold scr; omega))
theorem MR.congr {Z Z' : XZ} {g o : Nat} {N : PN} (h : MR Z g o N) (hg : ∀ i, Z' g 0 i = Z g 0 i) : MR Z' g o N := fun k hk => (hg _).trans (h k hk)
theorem CT.congr {Z Z' : XZ} {t : Nat} {T : PT} (h : CT Z t T) (hk : ∀ g i, 7 ≤ g → g ≤ 24 → g ≠ 19 → g ≠ 20 → Z' g t i = Z g t i) : CT Z' t T := by
  have e (g : Nat) (a : 7 ≤ g) (b : g ≤ 24) (c : g ≠ 19) (d : g ≠ 20) : ∀ i, Z' g t i = Z g t i := fun i => hk g i a b c d
  unfold CT at h ⊢
  simp only [e 7 (by decide) (by decide) (by decide) (by decide), e 8 (by decide) (by decide) (by decide) (by decide), e 9 (by decide) (by decide) (by decide) (by decide), e 10 (by decide) (by decide) (by decide) (by decide), e 11 (by decide) (by decide) (by decide) (by decide), e 12 (by decide) (by decide) (by decide) (by decide), e 13 (by decide) (by decide) (by decide) (by decide), e 14 (by decide) (by decide) (by decide) (by decide), e 21 (by decide) (by decide) (by decide) (by decide), e 22 (by decide) (by decide) (by decide) (by decide), e 23 (by decide) (by decide) (by decide) (by decide), e 24 (by decide) (by decide) (by decide) (by decide)]
  exact h
theorem MT.congr {Z Z' : XZ} {v : Nat} {T : PT} (h : MT Z v T) (hk : ∀ g i, 66 ≤ g → g ≤ 80 → Z' g 0 i = Z g 0 i) (h6 : Z' 56 0 18 = Z 56 0 18) : MT Z' v T := by
  have e (g : Nat) (a : 66 ≤ g) (b : g ≤ 80) : ∀ i, Z' g 0 i = Z g 0 i := fun i => hk g i a b
  unfold MT at h ⊢
  simp only [h6, e 66 (by decide) (by decide), e 67 (by decide) (by decide), e 68 (by decide) (by decide), e 69 (by decide) (by decide), e 70 (by decide) (by decide), e 71 (by decide) (by decide), e 72 (by decide) (by decide), e 74 (by decide) (by decide), e 75 (by decide) (by decide), e 76 (by decide) (by decide), e 77 (by decide) (by decide), e 78 (by decide) (by decide), e 79 (by decide) (by decide), e 80 (by decide) (by decide)]
  exact h
theorem CLaw.congr {Z Z' : XZ} {t : Nat} {F : PF} (h : CLaw Z t F) (hk : ∀ g i, 15 ≤ g → g ≤ 18 → Z' g t i = Z g t i) : CLaw Z' t F := by
  have e (g : Nat) (a : 15 ≤ g) (b : g ≤ 18) : Z' g t = Z g t := funext fun i => hk g i a b
  unfold CLaw at h ⊢
  simp only [e 15 (by decide) (by decide), e 16 (by decide) (by decide), e 17 (by decide) (by decide), e 18 (by decide) (by decide)]
  exact h
theorem MLaw.half {Z Z' : XZ} {v : Nat} {F : PF} (h : MLaw Z v F) (hk : ∀ g i, mlh v g i → Z' g 0 i = Z g 0 i) : MLaw Z' v F := by
  intro k hk4
  obtain ⟨h1, h2⟩ := h k hk4
  rw [hk 81 (4 * v + k) (by unfold mlh; omega), hk 82 (4 * v + k) (by unfold mlh; omega)]
  refine ⟨h1, fun f hf => ⟨(h2 f hf).1, fun Z1 t' d p hd hg => (h2 f hf).2 Z1 t' d p hd (fun g i a => (hg g i a).trans (hk g i a))⟩⟩
theorem MLaw.congr {Z Z' : XZ} {v : Nat} {F : PF} (h : MLaw Z v F) (hk : ∀ g, 81 ≤ g → g ≤ 89 → Z' g = Z g) : MLaw Z' v F :=
  h.half (fun g i a => by rw [hk g (by unfold mlh at a; omega) (by unfold mlh at a; omega)])
theorem PP.q {T : PT} {F : PF} {N : PN} {H K : Nat → PN} {v u nx : Nat} {Z Z' : XZ} {t : Nat} (h : PP T F N H K v u nx Z t) (hk : keepQ Z Z') : PP T F N H K v u nx Z' t := by
  obtain ⟨h1, h2, h3, h4, h5, h6, h7, h8, h9, h10, h11, h12, h13⟩ := h
  have e (g : Nat) (hg : ∀ m i, ¬ scr g m i) : ∀ m i, Z' g m i = Z g m i := fun m i => hk g m i (hg m i)
  refine ⟨h1, h2, h3.congr (fun g i a b c d => hk g t i (by unfold scr; omega)), h4.congr (fun g i a b => hk g 0 i (by unfold scr; omega)) (hk 56 0 18 (by unfold scr; omega)), h5.congr (fun g i a b => hk g t i (by unfold scr; omega)), h6.congr (fun g a b => funext fun m => funext fun i => hk g m i (by unfold scr; omega)), h7.q (by decide) hk, h8.congr (fun i => hk 93 0 i (by unfold scr; omega)), h9, ?_, ?_, ?_, ?_⟩
  · unfold HI at h10 ⊢
    rw [hk 31 0 0 (by unfold scr; omega), hk 31 0 1 (by unfold scr; omega), hk 56 0 67 (by unfold scr; omega)]
    obtain ⟨a1, a2, a3, a4, a5, a6⟩ := h10
    refine ⟨a1, a2, a3, a4, a5, fun j hj => ⟨(a6 j hj).1.q (by omega) hk, (a6 j hj).2.1.congr (fun i => hk 100 0 i (by unfold scr; omega)), (a6 j hj).2.2⟩⟩
  · intro s hs
    obtain ⟨a1, a2⟩ := h11 s hs
    rw [hk 34 0 s (by unfold scr; omega), hk 107 0 s (by unfold scr; omega)]
    refine ⟨a1, ?_⟩
    rcases a2 with a2 | ⟨a2, a3, a4, a5⟩
    · exact .inl a2
    · exact .inr ⟨a2, a3.q (by omega) hk, a4.congr (fun i => hk 108 0 i (by unfold scr; omega)), a5⟩
  · unfold NI at h12 ⊢
    simp only [e 35 (by unfold scr; omega), e 36 (by unfold scr; omega), e 37 (by unfold scr; omega), e 38 (by unfold scr; omega), e 39 (by unfold scr; omega), e 102 (by unfold scr; omega), e 103 (by unfold scr; omega), e 104 (by unfold scr; omega), e 105 (by unfold scr; omega), hk 56 0 70 (by unfold scr; omega)]
    exact h12
  · unfold TI at h13 ⊢
    simp only [e 0 (by unfold scr; omega), e 1 (by unfold scr; omega), e 57 (by unfold scr; omega), e 63 (by unfold scr; omega), hk 56 0 2 (by unfold scr; omega), hk 56 0 17 (by unfold scr; omega)]
    exact h13
