/-! tells: the class, names and state -/
theorem c_idx26 {Z : XZ} {f : Nat → Int} {x : Int} {n d : Nat} (hf : ∀ i, i < n → Z 26 0 i = f i ∧ 0 ≤ f i ∧ f i < 9223372036854775808) (hx : 0 ≤ x ∧ x < 9223372036854775808) (hn : n ≤ 7) (hd : 1 ≤ d) (t : Nat) : x_CALL d 38 [.inr (.inl x), .inr (.inr (some (26, 0))), .inl (n : Int)] (x_S Z t) = some ((if q_fi f x n 0 < n then (q_fi f x n 0 : Int) else -1), x_S Z t) := by
  have loop : ∀ (r i : Nat), i + r = n → x_EX (d - 1) 38 3 [some (.inr (.inl x)), none, some (.inr (.inr (some (26, 0)))), some (.inl (n : Int)), some (.inl (i : Int))] [] (x_S Z t) = some ((if q_fi f x r i < n then (q_fi f x r i : Int) else -1), x_S Z t) := by
    intro r
    induction r with
    | zero =>
      intro i hi
      obtain rfl : i = n := by omega
      rw [B38_3_g26, if_neg (Int.lt_irrefl _), q_fi, if_neg (Nat.lt_irrefl _)]
    | succ r ih =>
      intro i hi
      obtain ⟨f1, f2, f3⟩ := hf i (by omega)
      rw [B38_3_g26, cn_nt (z := (i : Int)) rfl (by omega), cn_nt (z := (n : Int)) rfl (by omega), if_pos (by omega), B38_13_g26, cn_nt (z := (i : Int)) rfl (by omega), if_pos (show (i : Int) < cn 7 by rw [cn_id (by decide) (by decide)]; omega), if_pos (by omega), Int.toNat_natCast, f1, q_fi]
      by_cases h : f i = x
      · rw [if_pos ((x_lcmp_0 ⟨f2, f3⟩ hx).2 h), if_pos h, if_pos (by omega)]
      · rw [if_neg (fun e => h ((x_lcmp_0 ⟨f2, f3⟩ hx).1 e)), if_neg h]
        exact ih (i + 1) (by omega)
  rw [C38_g26 _ _ _ _ _ (by omega)]
  exact loop n 0 (by omega)
theorem c_idx27 {Z : XZ} {f : Nat → Int} {x : Int} {n d : Nat} (hf : ∀ i, i < n → Z 27 0 i = f i ∧ 0 ≤ f i ∧ f i < 9223372036854775808) (hx : 0 ≤ x ∧ x < 9223372036854775808) (hn : n ≤ 5) (hd : 1 ≤ d) (t : Nat) : x_CALL d 38 [.inr (.inl x), .inr (.inr (some (27, 0))), .inl (n : Int)] (x_S Z t) = some ((if q_fi f x n 0 < n then (q_fi f x n 0 : Int) else -1), x_S Z t) := by
  have loop : ∀ (r i : Nat), i + r = n → x_EX (d - 1) 38 3 [some (.inr (.inl x)), none, some (.inr (.inr (some (27, 0)))), some (.inl (n : Int)), some (.inl (i : Int))] [] (x_S Z t) = some ((if q_fi f x r i < n then (q_fi f x r i : Int) else -1), x_S Z t) := by
    intro r
    induction r with
    | zero =>
      intro i hi
      obtain rfl : i = n := by omega
      rw [B38_3_g27, if_neg (Int.lt_irrefl _), q_fi, if_neg (Nat.lt_irrefl _)]
    | succ r ih =>
      intro i hi
      obtain ⟨f1, f2, f3⟩ := hf i (by omega)
      rw [B38_3_g27, cn_nt (z := (i : Int)) rfl (by omega), cn_nt (z := (n : Int)) rfl (by omega), if_pos (by omega), B38_13_g27, cn_nt (z := (i : Int)) rfl (by omega), if_pos (show (i : Int) < cn 5 by rw [cn_id (by decide) (by decide)]; omega), if_pos (by omega), Int.toNat_natCast, f1, q_fi]
      by_cases h : f i = x
      · rw [if_pos ((x_lcmp_0 ⟨f2, f3⟩ hx).2 h), if_pos h, if_pos (by omega)]
      · rw [if_neg (fun e => h ((x_lcmp_0 ⟨f2, f3⟩ hx).1 e)), if_neg h]
        exact ih (i + 1) (by omega)
  rw [C38_g27 _ _ _ _ _ (by omega)]
  exact loop n 0 (by omega)
def tU (T : PT) (g i x : Nat) : PT := fun a b => if a = g ∧ b = i then x else T a b
theorem tU_eq {T : PT} {g i x : Nat} : tU T g i x g i = x := if_pos ⟨rfl, rfl⟩
theorem tU_ne {T : PT} {g i x a b : Nat} (h : ¬ (a = g ∧ b = i)) : tU T g i x a b = T a b := if_neg h
def JCn (Z : XZ) (V : Nat → Int) (nc ns : Nat) (ct st : Nat → Nat) : Prop := (∀ i, i < nc → Z 26 0 i = V (ct i)) ∧ ∀ i, i < ns → Z 27 0 i = V (st i)
def JCl (Z : XZ) (u n : Nat) (G : Nat → Option (BL × CL)) : Prop := ∀ k, k < 4 → (G k = none → Z 16 u k = -1) ∧ ∀ bs fin, G k = some (bs, fin) → GL bs fin ∧ ∃ i : Nat, Z 16 u k = (i : Int) ∧ CLw Z u n i bs fin
def RC (Z : XZ) (u : Nat) (T : PT) : Prop := Z 7 u 0 = (T 0 0 : Int) ∧ Z 7 u 1 = (T 1 0 : Int) ∧ Z 7 u 2 = (T 2 0 : Int)
def JC (Z : XZ) (K P V : Nat → Int) (t j n np : Nat) (s : Nat × Int) (T : PT) (ct st : Nat → Nat) (G : Nat → Option (BL × CL)) : Prop := TKc Z K P V ∧ CXn Z K (1 - t) j n ∧ n ≤ j ∧ Z 2 0 4 = 1 ∧ CSo Z s ∧ Z 2 0 9 = (np : Int) ∧ RC Z (1 - t) T ∧ JCn Z V (T 0 0) (T 2 0) ct st ∧ JCl Z (1 - t) n G ∧ ∀ _ : Nat, s.1 = 0 → RT Z (1 - t) T
def JPu (K P : Nat → Int) (j np : Nat) (s : Nat × Int) (T : PT) (ct st : Nat → Nat) : Prop := T 0 0 ≤ 7 ∧ T 1 0 ≤ 10 ∧ T 2 0 ≤ 5 ∧ np ≤ 7 ∧ (∀ i, i < T 0 0 → ct i < j ∧ K (ct i) = 258) ∧ (∀ i, i < T 2 0 → st i < j ∧ K (st i) = 258) ∧ (∀ _ : Nat, s.1 ≠ 0 → ∃ q, q < j ∧ s.2 = P q) ∧ ∀ _ : Nat, s.1 = 0 → TOK T
def VN (K V : Nat → Int) : Prop := ∀ j, K j = 258 → 0 ≤ V j ∧ V j < 9223372036854775808
def q_ax (V : Nat → Int) (T : PT) (ct : Nat → Nat) (tok : Nat) : Nat := q_fi (fun i => V (ct i)) (V tok) (T 0 0) 0
def q_bx (V : Nat → Int) (T : PT) (st : Nat → Nat) (tok : Nat) : Nat := q_fi (fun i => V (st i)) (V tok) (T 2 0) 0
def q_dup (V : Nat → Int) (T : PT) (ct st : Nat → Nat) (tok : Nat) : Bool := decide (q_ax V T ct tok < T 0 0 ∨ q_bx V T st tok < T 2 0)
def cal (u g m i : Nat) : Prop := (g = 2 ∧ 3 ≤ i) ∨ g = 26 ∨ g = 27 ∨ (m = u ∧ 7 ≤ g ∧ g ≤ 18)
def KPc (u : Nat) (Z Z' : XZ) : Prop := ∀ g m i, ¬ cal u g m i → Z' g m i = Z g m i
theorem KPc.rfl' {u : Nat} {Z : XZ} : KPc u Z Z := fun _ _ _ _ => rfl
theorem KPc.trans {u : Nat} {Z Z' Z'' : XZ} (h : KPc u Z Z') (h' : KPc u Z' Z'') : KPc u Z Z'' := fun g m i a => (h' g m i a).trans (h g m i a)
theorem KB4.kp {u : Nat} {Z Z' : XZ} (h : KB4 Z Z') : KPc u Z Z' := fun g m i a => h g m i (by unfold cal at a; omega)
theorem KN.kp {u : Nat} {Z Z' : XZ} (h : KN Z Z') : KPc u Z Z' := fun g m i a => h g m i (by unfold cal at a; omega)
theorem KLr.kp {u : Nat} {Z Z' : XZ} (h : KLr u Z Z') : KPc u Z Z' := fun g m i a => h g m i (by unfold cal at a; omega) (by unfold cal at a; omega)
theorem CXn.kn {Z Z' : XZ} {K : Nat → Int} {u j n : Nat} (h : CXn Z K u j n) (h3 : Z' 2 0 3 = Z 2 0 3) (h5 : Z' 15 u 1 = Z 15 u 1) : CXn Z' K u j n := by
  obtain ⟨x1, x2, x3, x4, x5⟩ := h
  exact ⟨x1, x2, h3.trans x3, h5.trans x4, x5⟩
theorem JCl.congr {Z Z' : XZ} {u n : Nat} {G : Nat → Option (BL × CL)} (h : JCl Z u n G) (h6 : ∀ i, Z' 16 u i = Z 16 u i) (h7 : ∀ i, Z' 17 u i = Z 17 u i ∧ Z' 18 u i = Z 18 u i) : JCl Z' u n G := fun k hk => by
  obtain ⟨a, b⟩ := h k hk
  refine ⟨fun e => by rw [h6]; exact a e, fun bs fin e => ?_⟩
  obtain ⟨c, i, d1, d2⟩ := b bs fin e
  exact ⟨c, i, by rw [h6]; exact d1, d2.congr (fun j _ _ => h7 j)⟩
theorem c_cor {Z : XZ} {K P V : Nat → Int} {t tok j d : Nat} {s : Nat × Int} {T : PT} {ct st : Nat → Nat} (hV : VN K V) (hT : TKc Z K P V) (hS : CSo Z s) (hC : RC Z (1 - t) T) (hN : JCn Z V (T 0 0) (T 2 0) ct st) (hk : tok ≤ 400) (hl : LK K 0 tok) (hK : K tok = 258) (h7 : T 0 0 ≤ 7) (hct : ∀ i, i < T 0 0 → ct i < j ∧ K (ct i) = 258) (hd : 2 ≤ d) (ti : Int) (hti : ti = (tok : Int)) : ∃ Z' : XZ, x_CALL d 36 [.inr (.inr (some (2, 0))), .inl ti] (x_S Z t) = some ((if q_ax V T ct tok < T 0 0 then (q_ax V T ct tok : Int) else -1), x_S Z' t) ∧ CSo Z' (q_nt (decide (¬ q_ax V T ct tok < T 0 0)) 4 (P tok) s) ∧ KN Z Z' := by
  obtain ⟨k1, k2, k3⟩ := hT tok hk hl
  subst hti
  have ci := c_idx26 (Z := Z) (f := fun i => V (ct i)) (x := V tok) (n := T 0 0) (d := d - 1) (fun i hi => ⟨hN.1 i hi, hV _ (hct i hi).2⟩) (hV tok hK) h7 (by omega) t
  have hab : q_ax V T ct tok = q_fi (fun i => V (ct i)) (V tok) (T 0 0) 0 := rfl
  rw [C36 _ _ _ _ (by omega), cn_nt (z := (tok : Int)) rfl (by omega), if_pos (by omega), Int.toNat_natCast, k3 (by omega), hC.1, ci, Option.bind_some, B36_23, ← hab]
  by_cases h : q_ax V T ct tok < T 0 0
  · rw [if_pos h, cn_nt (z := (q_ax V T ct tok : Int)) rfl (by omega), if_neg (by omega), B36_35, show decide (¬ q_ax V T ct tok < T 0 0) = false from decide_eq_false (fun e => e h)]
    exact ⟨Z, rfl, by unfold q_nt; rw [if_neg (fun e => absurd e.2 (by decide))]; exact hS, KN.rfl'⟩
  · obtain ⟨Z1, e1, e2, e3⟩ := c_note (d := d - 1) hT hS hk hl (by omega) t 4 4 (tok : Int) rfl rfl (by omega)
    rw [if_neg h, if_pos (show cn (-1) = -1 by decide), e1, Option.bind_some, B36_35, show decide (¬ q_ax V T ct tok < T 0 0) = true from decide_eq_true h]
    exact ⟨Z1, rfl, e2, e3⟩
theorem c_new {Z : XZ} {K P V : Nat → Int} {t tok j d : Nat} {s : Nat × Int} {T : PT} {ct st : Nat → Nat} (hV : VN K V) (hT : TKc Z K P V) (hS : CSo Z s) (hC : RC Z (1 - t) T) (hN : JCn Z V (T 0 0) (T 2 0) ct st) (hk : tok ≤ 400) (hl : LK K 0 tok) (hK : K tok = 258) (h7 : T 0 0 ≤ 7) (h5 : T 2 0 ≤ 5) (hct : ∀ i, i < T 0 0 → ct i < j ∧ K (ct i) = 258) (hst : ∀ i, i < T 2 0 → st i < j ∧ K (st i) = 258) (hd : 2 ≤ d) (ti : Int) (hti : ti = (tok : Int)) : ∃ Z' : XZ, x_CALL d 37 [.inr (.inr (some (2, 0))), .inl ti] (x_S Z t) = some (0, x_S Z' t) ∧ CSo Z' (q_nt (q_dup V T ct st tok) 3 (P tok) s) ∧ KN Z Z' := by
  obtain ⟨k1, k2, k3⟩ := hT tok hk hl
  subst hti
  have ci := c_idx26 (Z := Z) (f := fun i => V (ct i)) (x := V tok) (n := T 0 0) (d := d - 1) (fun i hi => ⟨hN.1 i hi, hV _ (hct i hi).2⟩) (hV tok hK) h7 (by omega) t
  have cj := c_idx27 (Z := Z) (f := fun i => V (st i)) (x := V tok) (n := T 2 0) (d := d - 1) (fun i hi => ⟨hN.2 i hi, hV _ (hst i hi).2⟩) (hV tok hK) h5 (by omega) t
  have hab : q_ax V T ct tok = q_fi (fun i => V (ct i)) (V tok) (T 0 0) 0 := rfl
  have hbb : q_bx V T st tok = q_fi (fun i => V (st i)) (V tok) (T 2 0) 0 := rfl
  have note : ∃ Z' : XZ, ((x_CALL (d - 1) 34 [.inr (.inr (some (2, 0))), .inl 3, .inl ((tok : Int))] (x_S Z t)).bind fun q => x_EX (d - 1) 37 54 [some (.inr (.inr (some (2, 0)))), some (.inl (tok : Int)), some (.inr (.inl (V tok))), none] [] q.2) = some (0, x_S Z' t) ∧ CSo Z' (q_nt true 3 (P tok) s) ∧ KN Z Z' := by
    obtain ⟨Z1, e1, e2, e3⟩ := c_note (d := d - 1) hT hS hk hl (by omega) t 3 3 (tok : Int) rfl rfl (by omega)
    rw [e1, Option.bind_some, B37_54]
    exact ⟨Z1, rfl, e2, e3⟩
  rw [C37 _ _ _ _ (by omega), cn_nt (z := (tok : Int)) rfl (by omega), if_pos (by omega), Int.toNat_natCast, k3 (by omega), hC.1, ci, Option.bind_some, B37_25, ← hab]
  by_cases h : q_ax V T ct tok < T 0 0
  · rw [if_pos h, cn_nt (z := (q_ax V T ct tok : Int)) rfl (by omega), if_neg (by omega), show q_dup V T ct st tok = true from decide_eq_true (.inl h)]
    exact note
  · rw [if_neg h, if_pos (show cn (-1) = -1 by decide), hC.2.2, cj, Option.bind_some, B37_44, ← hbb]
    by_cases h' : q_bx V T st tok < T 2 0
    · rw [if_pos h', cn_nt (z := (q_bx V T st tok : Int)) rfl (by omega), if_neg (by omega), show q_dup V T ct st tok = true from decide_eq_true (.inr h')]
      exact note
    · rw [if_neg h', if_pos (show cn (-1) = -1 by decide), B37_54, show q_dup V T ct st tok = false from decide_eq_false (fun e => e.elim h h')]
      exact ⟨Z, rfl, by unfold q_nt; rw [if_neg (fun e => absurd e.2 (by decide))]; exact hS, KN.rfl'⟩
theorem q_nt_0 {c : Bool} {f : Nat} {p : Int} {s : Nat × Int} (hf : f ≠ 0) (h : (q_nt c f p s).1 = 0) : s.1 = 0 ∧ c = false ∧ q_nt c f p s = s := by
  unfold q_nt at *
  by_cases hc : s.1 = 0 ∧ c = true
  · rw [if_pos hc] at h; exact absurd h hf
  · rw [if_neg hc] at h ⊢
    refine ⟨h, ?_, rfl⟩
    cases c with
    | false => rfl
    | true => exact absurd ⟨h, rfl⟩ hc
