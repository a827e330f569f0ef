/-! things done: turn, fog, call, undo, hold, restore -/
def q_nu (N : PN) (k : Nat) (a : Int) : PN := fun j => if j = k then a else N j
theorem q_nu_eq (N : PN) (k : Nat) (a : Int) : q_nu N k a k = a := by unfold q_nu; rw [if_pos rfl]
theorem q_nu_ne {N : PN} {k j : Nat} {a : Int} (h : j ≠ k) : q_nu N k a j = N j := by unfold q_nu; rw [if_neg h]
theorem MR.up {Z : XZ} {g o k : Nat} {N : PN} {a : Int} (h : MR Z g o N) : MR (x_u Z g 0 (o + k) a) g o (q_nu N k a) := by
  intro j hj
  by_cases hjk : j = k
  · rw [hjk, x_u_eq, q_nu_eq]
  · rw [x_u_ne (by omega), q_nu_ne hjk]; exact h j hj
theorem CS.up30 {Z : XZ} {m s : Nat} {N : PN} {a : Int} (h : CS Z m N) (hs : s < 5) : CS (x_u Z 30 m s a) m (q_nu N s a) := by
  obtain ⟨h1, h2, h3, h4, h5, h6⟩ := h
  refine ⟨?_, ?_, ?_, ?_, ?_, ?_⟩
  · intro c hc; unfold q_sg; rw [x_u_ne (by omega), q_nu_ne (by omega)]; exact h1 c hc
  · intro j hj
    by_cases hjk : j = s
    · rw [hjk, x_u_eq, q_nu_eq]
    · rw [x_u_ne (by omega), q_nu_ne hjk]; exact h2 j hj
  · rw [x_u_ne (by omega), q_nu_ne (by omega)]; exact h3
  · rw [x_u_ne (by omega), q_nu_ne (by omega)]; exact h4
  · rw [x_u_ne (by omega), q_nu_ne (by omega)]; exact h5
  · rw [x_u_ne (by omega), q_nu_ne (by omega)]; exact h6
theorem CS.up29 {Z : XZ} {m c : Nat} {N : PN} {a : Nat} (h : CS Z m N) (hs : c < 7) : CS (x_u Z 29 m c (a : Int)) m (q_nu N (5 + c) (a : Int)) := by
  obtain ⟨h1, h2, h3, h4, h5, h6⟩ := h
  refine ⟨?_, ?_, ?_, ?_, ?_, ?_⟩
  · intro j hj
    unfold q_sg
    by_cases hjk : j = c
    · rw [hjk, x_u_eq, q_nu_eq]; omega
    · rw [x_u_ne (by omega), q_nu_ne (by omega)]; exact h1 j hj
  · intro j hj; rw [x_u_ne (by omega), q_nu_ne (by omega)]; exact h2 j hj
  · rw [x_u_ne (by omega), q_nu_ne (by omega)]; exact h3
  · rw [x_u_ne (by omega), q_nu_ne (by omega)]; exact h4
  · rw [x_u_ne (by omega), q_nu_ne (by omega)]; exact h5
  · rw [x_u_ne (by omega), q_nu_ne (by omega)]; exact h6
theorem CS.up1 {Z : XZ} {m : Nat} {N : PN} {a b : Int} (h : CS Z m N) (e : cn a = cn b) : CS (x_u Z 28 m 1 a) m (q_nu N 12 b) := by
  obtain ⟨h1, h2, h3, h4, h5, h6⟩ := h
  refine ⟨?_, ?_, ?_, ?_, ?_, ?_⟩
  · intro j hj; unfold q_sg; rw [x_u_ne (by omega), q_nu_ne (by omega)]; exact h1 j hj
  · intro j hj; rw [x_u_ne (by omega), q_nu_ne (by omega)]; exact h2 j hj
  · rw [x_u_ne (by omega), q_nu_ne (by omega)]; exact h3
  · rw [x_u_eq, q_nu_eq]; exact e
  · rw [x_u_ne (by omega), q_nu_ne (by omega)]; exact h5
  · rw [x_u_ne (by omega), q_nu_ne (by omega)]; exact h6
/-- the model's side -/
def MI (T : PT) (F : PF) (N : PN) (H : Nat → PN) (v u : Nat) (Z : XZ) : Prop := MT Z v T ∧ MLaw Z v F ∧ MR Z 93 0 N ∧ Z 56 0 67 = (u : Int) ∧ ∀ j, j < u → MR Z 100 (16 * j) (H j)
theorem MI.congr {T : PT} {F : PF} {N : PN} {H : Nat → PN} {v u : Nat} {Z Z' : XZ} (h : MI T F N H v u Z) (hk : ∀ g m i, 56 ≤ g → g < 900 → ¬ scr g m i → Z' g m i = Z g m i) : MI T F N H v u Z' := by
  obtain ⟨h1, h2, h3, h4, h5⟩ := h
  exact ⟨h1.congr (fun g i a b => hk _ _ _ (by omega) (by omega) (by unfold scr; omega)) (hk _ _ _ (by omega) (by omega) (by unfold scr; omega)), h2.congr (fun g a b => funext fun m => funext fun i => hk _ _ _ (by omega) (by omega) (by unfold scr; omega)), h3.congr (fun i => hk _ _ _ (by omega) (by omega) (by unfold scr; omega)), (hk _ _ _ (by omega) (by omega) (by unfold scr; omega)).trans h4, fun j hj => (h5 j hj).congr (fun i => hk _ _ _ (by omega) (by omega) (by unfold scr; omega))⟩
theorem PP.mi {T : PT} {F : PF} {N : PN} {H K : Nat → PN} {v u nx : Nat} {Z : XZ} {t : Nat} (h : PP T F N H K v u nx Z t) : MI T F N H v u Z :=
  ⟨h.2.2.2.1, h.2.2.2.2.2.1, h.2.2.2.2.2.2.2.1, h.2.2.2.2.2.2.2.2.2.1.2.1, fun j hj => (h.2.2.2.2.2.2.2.2.2.1.2.2.2.2.2 j hj).2.1⟩
theorem do_fin {T : PT} {F : PF} {N N' : PN} {H K : Nat → PN} {v u nx : Nat} {Z Z1 Z2 : XZ} {t : Nat} (h : PP T F N H K v u nx Z t) {jc jm : Nat} {as : List XV} {r r' : Int} (hc : x_CALL 60 jc (.inr (.inr (some (0, 0))) :: as) (x_S Z t) = some (r, x_S Z1 t)) (k1 : ∀ g m i, ¬ scr g m i → ¬ (28 ≤ g ∧ g ≤ 30 ∧ (m = 0 ∨ m = 2 + nx)) → g ≠ 31 → Z1 g m i = Z g m i) (c0 : CS Z1 0 N') (c1 : CS Z1 (2 + nx) N) (c2 : Z1 31 0 0 = (q_u u : Int)) (c3 : Z1 31 0 1 = (((nx + 1) % 40 : Nat) : Int)) (hm : x_CALL 60 jm (.inr (.inr (some (56, 0))) :: as) (x_S Z1 t) = some (r', x_S Z2 t)) (k2 : ∀ g m i, ¬ scr g m i → g ≠ 93 → g ≠ 100 → ¬ (g = 56 ∧ i = 67) → Z2 g m i = Z1 g m i) (m0 : MR Z2 93 0 N') (m1 : Z2 56 0 67 = (q_u u : Int)) (m2 : ∀ j, j < q_u u → MR Z2 100 (16 * j) (q_h u H N j)) (hN' : NOK N') (e : cn r = cn r') : ∃ (r r' : Int) (Z1 Z2 : XZ) (t1 : Nat), x_CALL 60 jc (.inr (.inr (some (0, 0))) :: as) (x_S Z t) = some (r, x_S Z1 t1) ∧ (∀ g, 900 ≤ g → Z1 g = Z g) ∧ x_CALL 60 jm (.inr (.inr (some (56, 0))) :: as) (x_S Z1 t1) = some (r', x_S Z2 t1) ∧ (∀ g, 900 ≤ g → Z2 g = Z g) ∧ cn r = cn r' ∧ PI Z2 t1 := by
  have kk : ∀ m, m ≠ 1 → ∀ N, CS Z1 m N → CS Z2 m N := fun m hm N hS => hS.congr (fun i => k2 _ _ _ (by unfold scr; omega) (by omega) (by omega) (by omega)) (fun i => k2 _ _ _ (by unfold scr; omega) (by omega) (by omega) (by omega)) (fun i => k2 _ _ _ (by unfold scr; omega) (by omega) (by omega) (by omega))
  have e31 : ∀ i, Z2 31 0 i = Z1 31 0 i := fun i => k2 _ _ _ (by unfold scr; omega) (by omega) (by omega) (by omega)
  refine ⟨r, r', Z1, Z2, t, hc, fun g hg => funext fun m => funext fun i => k1 _ _ _ (by unfold scr; omega) (by omega) (by omega), hm, fun g hg => funext fun m => funext fun i => (k2 _ _ _ (by unfold scr; omega) (by omega) (by omega) (by omega)).trans (k1 _ _ _ (by unfold scr; omega) (by omega) (by omega)), e, h.do (fun g m i a b c d f g => (k2 _ _ _ a d f g).trans (k1 _ _ _ a b c)) (kk 0 (by omega) _ c0) m0 hN' (kk _ (by omega) _ c1) ((e31 0).trans c2) ((e31 1).trans c3) m1 m2⟩
/-- copies, a cell of the row, records -/
theorem m_crr {T : PT} {F : PF} {N : PN} {H : Nat → PN} {v u : Nat} {Z : XZ} {d : Nat} (h : MI T F N H v u Z) (hT : TOK T) (hu : u ≤ 40) (hd : 2 ≤ d) (t : Nat) : ∃ Z1 : XZ, x_CALL d 177 [.inr (.inr (some (56, 0)))] (x_S Z t) = some (0, x_S Z1 t) ∧ MI T F N H v u Z1 ∧ MR Z1 94 0 N ∧ Z1 56 0 56 = (T 13 0 : Int) ∧ keepQ Z Z1 ∧ ∀ k a, ∃ Z2 : XZ, x_CALL d 205 [.inr (.inr (some (56, 0)))] (x_S (x_u Z1 94 0 k a) t) = some (0, x_S Z2 t) ∧ MR Z2 93 0 (q_nu N k a) ∧ Z2 56 0 67 = (q_u u : Int) ∧ (∀ j, j < q_u u → MR Z2 100 (16 * j) (q_h u H N j)) ∧ ∀ g m i, ¬ scr g m i → g ≠ 93 → g ≠ 100 → ¬ (g = 56 ∧ i = 67) → Z2 g m i = Z g m i := by
  obtain ⟨Z1, e1, e2, e3, e4⟩ := m_copies h.1 hT h.2.2.1 (d := d) (by omega) t
  have kq : keepQ Z Z1 := fun g m i hs => e4 g m i (by unfold scr at hs; omega) (by unfold scr at hs; omega)
  have hI : MI T F N H v u Z1 := h.congr (fun g m i _ _ hs => kq g m i hs)
  refine ⟨Z1, e1, hI, e2, e3, kq, fun k a => ?_⟩
  have e2' : MR (x_u Z1 94 0 k a) 94 0 (q_nu N k a) := by have := e2.up (k := k) (a := a); rwa [Nat.zero_add] at this
  obtain ⟨Z2, f1, f2, f3, f4, f5⟩ := m_records (Z := x_u Z1 94 0 k a) (d := d) (N := N) hu (by rw [x_u_ne (by omega)]; exact hI.2.2.2.1) (fun j hj => (hI.2.2.2.2 j hj).congr (fun i => x_u_ne (by omega))) (hI.2.2.1.congr (fun i => x_u_ne (by omega))) e2' hd t
  exact ⟨Z2, f1, f2, f3, f4, fun g m i a b c d => by rw [f5 g m i b c d, x_u_ne (by unfold scr at a; omega)]; exact kq g m i a⟩
theorem NOK.up {N : PN} {k : Nat} {a : Int} (h : NOK N) (h1 : k < 5 → 0 ≤ a ∧ a ≤ 2) (h2 : 5 ≤ k → k < 12 → -1 ≤ a ∧ a ≤ 9) (h3 : k = 12 → 0 ≤ cn a ∧ cn a ≤ 9) (h4 : k = 15 → 0 ≤ a ∧ a < 5) : NOK (q_nu N k a) := by
  obtain ⟨g1, g2, g3, g4⟩ := h
  refine ⟨?_, ?_, ?_, ?_⟩
  · intro s hs
    by_cases e : s = k
    · subst e; rw [q_nu_eq]; exact h1 hs
    · rw [q_nu_ne e]; exact g1 s hs
  · intro c hc
    by_cases e : 5 + c = k
    · subst e; rw [q_nu_eq]; exact h2 (by omega) (by omega)
    · rw [q_nu_ne e]; exact g2 c hc
  · by_cases e : 12 = k
    · subst e; rw [q_nu_eq]; exact h3 rfl
    · rw [q_nu_ne e]; exact g3
  · by_cases e : 15 = k
    · subst e; rw [q_nu_eq]; exact .inr (h4 rfl)
    · rw [q_nu_ne e]; exact g4
theorem c_pushN {T : PT} {F : PF} {N : PN} {H K : Nat → PN} {v u nx : Nat} {Z : XZ} {t : Nat} (h : PP T F N H K v u nx Z t) {d : Nat} (hd : 2 ≤ d) : ∃ Z' : XZ, x_CALL d 3 [.inr (.inr (some (31, 0))), .inr (.inr (some (28, 0)))] (x_S Z t) = some (0, x_S Z' t) ∧ CS Z' 0 N ∧ CS Z' (2 + nx) N ∧ Z' 31 0 0 = (q_u u : Int) ∧ Z' 31 0 1 = (((nx + 1) % 40 : Nat) : Int) ∧ ∀ g m i, ¬ (28 ≤ g ∧ g ≤ 30 ∧ m = 2 + nx) → g ≠ 31 → Z' g m i = Z g m i := by
  obtain ⟨_, _, _, _, _, _, hS, _, _, ⟨u1, u2, u3, u4, u5, _⟩, _⟩ := id h
  obtain ⟨Z1, e1, e2, e3, e4, e5⟩ := c_push (Z := Z) (d := d) hd t u1 u3 u4 u5 hS
  exact ⟨Z1, e1, hS.congr (fun i => e5 _ _ _ (by omega) (by omega)) (fun i => e5 _ _ _ (by omega) (by omega)) (fun i => e5 _ _ _ (by omega) (by omega)), e2, e3, e4, e5⟩
theorem s12_ok : p_s12 PI := by
  intro a ha Z t ⟨T, F, N, H, K, v, u, nx, h⟩
  obtain ⟨ht, hT, hC, hM, _, _, hS, hR, hN, hH, _⟩ := id h
  have t2 : T 2 0 ≤ 5 := hT.2.2.1
  have c1 := C96 60 Z t a (by decide)
  rw [c_hasS hC hT (by decide), Option.bind_some, B96_8, cn_id ha.1 ha.2] at c1
  have m1 : ∀ Z1, MT Z1 v T → x_CALL 60 210 [.inr (.inr (some (56, 0))), .inl a] (x_S Z1 t) = _ := fun Z1 hM1 => by rw [C210 60 Z1 t a (by decide), m_isS hM1 hT (by decide), Option.bind_some, B210_5, cn_id ha.1 ha.2]
  by_cases hin : 0 ≤ a ∧ a < (T 2 0 : Int)
  case neg =>
    have m2 := m1 Z hM
    rw [if_pos (ite_00 _ hin)] at c1 m2; exact p_fin h c1 keepQ.rfl' m2 keepQ.rfl' rfl
  obtain ⟨s, rfl⟩ := Int.eq_ofNat_of_zero_le hin.1
  have hs : s < T 2 0 := by omega
  have r3 := hS.2.1 s (by omega)
  have n1 := hN.1 s (by omega)
  have q3 := hR s (by omega)
  rw [Nat.zero_add] at q3
  rw [if_neg (ite_01 _ hin), if_pos (by omega), Int.toNat_natCast, r3, cn_id (z := N s) (by omega) (by omega)] at c1
  by_cases h1 : N s = 1
  case neg =>
    have m2 := m1 Z hM
    rw [if_neg h1] at c1
    rw [if_neg (ite_01 _ hin), if_pos (by omega), Int.toNat_natCast, q3, cn_id (z := N s) (by omega) (by omega), if_neg h1] at m2
    exact p_fin h c1 keepQ.rfl' m2 keepQ.rfl' rfl
  obtain ⟨Z1, e1, e2, e3, e4, e5, e6⟩ := c_pushN h (d := 59) (by decide)
  rw [if_pos h1, e1, Option.bind_some, B96_37, cn_id ha.1 ha.2, if_pos (by omega), Int.toNat_natCast] at c1
  have kk : ∀ g m i, ¬ (28 ≤ g ∧ g ≤ 30 ∧ (m = 0 ∨ m = 2 + nx)) → g ≠ 31 → x_u Z1 30 0 s 0 g m i = Z g m i := fun g m i a b => by rw [x_u_ne (by omega)]; exact e6 g m i (by omega) b
  have hI : MI T F N H v u (x_u Z1 30 0 s 0) := h.mi.congr (fun g m i a b c => kk g m i (by omega) (by omega))
  obtain ⟨Z2, f1, f2, f3, f4, f5, f6⟩ := m_crr hI hT hH.2.2.1 (d := 59) (by decide) t
  obtain ⟨Z3, g1, g2, g3, g4, g5⟩ := f6 s 0
  have m2 := m1 _ hI.1
  rw [if_neg (ite_01 _ hin), if_pos (by omega), Int.toNat_natCast, kk 93 0 s (by omega) (by omega), q3, cn_id (z := N s) (by omega) (by omega), if_pos h1, f1, Option.bind_some, B210_24, cn_id ha.1 ha.2, if_pos (by omega), Int.toNat_natCast, g1, Option.bind_some, B210_35] at m2
  exact do_fin h c1 (fun g m i _ a b => kk g m i a b) (e2.up30 (by omega)) (e3.congr (fun i => x_u_ne (by omega)) (fun i => x_u_ne (by omega)) (fun i => x_u_ne (by omega))) (by rw [x_u_ne (by omega)]; exact e4) (by rw [x_u_ne (by omega)]; exact e5) m2 g5 g2 g3 g4 (hN.up (by omega) (by omega) (by omega) (by omega)) rfl
theorem s10_ok : p_s10 PI := by
  intro a b ha hb Z t ⟨T, F, N, H, K, v, u, nx, h⟩
  obtain ⟨ht, hT, hC, hM, _, _, hS, hR, hN, hH, _⟩ := id h
  have t0 : T 0 0 ≤ 7 := hT.1
  have c1 := C94 60 Z t a b (by decide)
  rw [c_hasC hC hT (by decide), Option.bind_some, B94_8, cn_id ha.1 ha.2, cn_id hb.1 hb.2] at c1
  have m1 : ∀ Z1, MT Z1 v T → x_CALL 60 208 [.inr (.inr (some (56, 0))), .inl a, .inl b] (x_S Z1 t) = _ := fun Z1 hM1 => by rw [C208 60 Z1 t a b (by decide), m_isC hM1 hT (by decide), Option.bind_some, B208_5, cn_id ha.1 ha.2]
  by_cases hin : 0 ≤ a ∧ a < (T 0 0 : Int)
  case neg =>
    have m2 := m1 Z hM
    rw [if_pos (ite_00 _ hin)] at c1 m2; exact p_fin h c1 keepQ.rfl' m2 keepQ.rfl' rfl
  obtain ⟨c, rfl⟩ := Int.eq_ofNat_of_zero_le hin.1
  have hc : c < T 0 0 := by omega
  have hdg := q_dg_le hT c
  have r2 := (hC.2.1 c hc).2.1
  have r3 := hS.1 c (by omega)
  have n1 := hN.2.1 c (by omega)
  have q3 := hR (5 + c) (by omega)
  rw [Nat.zero_add] at q3
  have hsg : q_sg N c ≤ 9 := by unfold q_sg; omega
  rw [if_neg (ite_01 _ hin), if_pos (by omega), Int.toNat_natCast, r2, r3, cn_nt (z := (q_dg T c : Int)) rfl (by omega)] at c1
  have m3 : ∀ Z1, MT Z1 v T → x_CALL 60 208 [.inr (.inr (some (56, 0))), .inl ((c : Int)), .inl b] (x_S Z1 t) = _ := fun Z1 hM1 => by rw [m1 Z1 hM1, if_neg (ite_01 _ hin), m_lan hM1 hT (by decide) t (by omega), Option.bind_some, B208_13, cn_nt (z := (q_dg T c : Int)) rfl (by omega)]
  by_cases h0 : q_dg T c = 0
  · have m2 := m3 Z hM
    rw [if_pos (by omega)] at c1 m2; exact p_fin h c1 keepQ.rfl' m2 keepQ.rfl' rfl
  have m4 : ∀ Z1, MT Z1 v T → x_CALL 60 208 [.inr (.inr (some (56, 0))), .inl ((c : Int)), .inl b] (x_S Z1 t) = _ := fun Z1 hM1 => by rw [m3 Z1 hM1, if_neg (by omega), m_in (by decide), Option.bind_some, B208_23, cn_id hb.1 hb.2, cn_id (z := 0) (by decide) (by decide), cn_id (z := 9) (by decide) (by decide)]
  rw [if_neg (by omega)] at c1
  by_cases h2 : 0 ≤ b ∧ b ≤ 9
  case neg =>
    have m2 := m4 Z hM
    rw [if_pos (ite_00 _ h2)] at m2
    by_cases h3 : b < 0
    · rw [if_pos h3] at c1; exact p_fin h c1 keepQ.rfl' m2 keepQ.rfl' rfl
    · rw [if_neg h3, if_pos (by omega)] at c1; exact p_fin h c1 keepQ.rfl' m2 keepQ.rfl' rfl
  obtain ⟨k, rfl⟩ := Int.eq_ofNat_of_zero_le h2.1
  rw [if_neg (by omega), if_neg (by omega), if_pos (by omega), cn_nt (z := (q_sg N c : Int)) rfl (by omega)] at c1
  have m5 : ∀ Z1, MT Z1 v T → Z1 93 0 (5 + c) = N (5 + c) → x_CALL 60 208 [.inr (.inr (some (56, 0))), .inl ((c : Int)), .inl ((k : Int))] (x_S Z1 t) = x_EX 59 208 31 [some (.inr (.inr (some (56, 0)))), some (.inl ((c : Int))), some (.inl ((k : Int)))] [.inl ((q_sg N c : Int))] (x_S Z1 t) := fun Z1 hM1 e => by
    rw [m4 Z1 hM1, if_neg (ite_01 _ h2), C207 _ _ _ _ (by decide), cn_nt (z := 5 + (c : Int)) (n := 5 + c) (by omega) (by omega), Int.toNat_natCast, e, cn_id (z := N (5 + c)) (by omega) (by omega), if_pos (by omega)]
    by_cases hz : N (5 + c) < 0
    · rw [if_pos hz, Option.bind_some, show (q_sg N c : Int) = 0 by unfold q_sg; omega]
    · rw [if_neg hz, if_pos (by omega), Option.bind_some, show (q_sg N c : Int) = N (5 + c) by unfold q_sg; omega]
  by_cases h4 : q_sg N c = k
  · have m2 := m5 Z hM q3
    rw [if_pos (by omega)] at c1
    rw [B208_31, cn_nt (z := (q_sg N c : Int)) rfl (by omega), cn_nt (z := (k : Int)) rfl (by omega), if_pos (by omega)] at m2
    exact p_fin h c1 keepQ.rfl' m2 keepQ.rfl' rfl
  obtain ⟨Z1, e1, e2, e3, e4, e5, e6⟩ := c_pushN h (d := 59) (by decide)
  rw [if_neg (by omega), e1, Option.bind_some, B94_61, cn_id ha.1 ha.2, if_pos (by omega), Int.toNat_natCast] at c1
  have kk : ∀ g m i, ¬ (28 ≤ g ∧ g ≤ 30 ∧ (m = 0 ∨ m = 2 + nx)) → g ≠ 31 → x_u Z1 29 0 c (k : Int) g m i = Z g m i := fun g m i a b => by rw [x_u_ne (by omega)]; exact e6 g m i (by omega) b
  have hI : MI T F N H v u (x_u Z1 29 0 c (k : Int)) := h.mi.congr (fun g m i a b c => kk g m i (by omega) (by omega))
  obtain ⟨Z2, f1, f2, f3, f4, f5, f6⟩ := m_crr hI hT hH.2.2.1 (d := 59) (by decide) t
  obtain ⟨Z3, g1, g2, g3, g4, g5⟩ := f6 (5 + c) (k : Int)
  have m2 := m5 _ hI.1 (by rw [kk 93 0 (5 + c) (by omega) (by omega)]; exact q3)
  rw [B208_31, cn_nt (z := (q_sg N c : Int)) rfl (by omega), cn_nt (z := (k : Int)) rfl (by omega), if_neg (by omega), f1, Option.bind_some, B208_41, cn_nt (z := 5 + (c : Int)) (n := 5 + c) (by omega) (by omega), if_pos (by omega), Int.toNat_natCast, g1, Option.bind_some, B208_54] at m2
  exact do_fin h c1 (fun g m i _ a b => kk g m i a b) (e2.up29 (by omega)) (e3.congr (fun i => x_u_ne (by omega)) (fun i => x_u_ne (by omega)) (fun i => x_u_ne (by omega))) (by rw [x_u_ne (by omega)]; exact e4) (by rw [x_u_ne (by omega)]; exact e5) m2 g5 g2 g3 g4 (hN.up (by omega) (by omega) (by omega) (by omega)) rfl
theorem cn_ac {a b : Int} (c : Int) (h : cn a = cn b) : cn (a + c) = cn (b + c) := by unfold cn at *; omega
theorem cn_ab {a : Int} (c : Int) : cn (a + c) = cn (cn a + c) := by unfold cn; omega
theorem s11_ok : p_s11 PI := by
  intro a ha Z t ⟨T, F, N, H, K, v, u, nx, h⟩
  obtain ⟨ht, hT, hC, hM, _, _, hS, hR, hN, hH, _⟩ := id h
  have r3 := hS.2.2.2.1
  have n1 := hN.2.2.1
  have q3 := hR 12 (by omega)
  rw [Nat.zero_add] at q3
  obtain ⟨f, hf⟩ : ∃ f : Nat, cn (N 12) = (f : Int) := ⟨(cn (N 12)).toNat, by omega⟩
  have f9 : f ≤ 9 := by omega
  have c1 := C95 60 Z t a (by decide)
  have m1 := fun Z1 => C209 60 Z1 t a (by decide)
  have key : ∀ e : Int, (e = 1 ∨ e = -1) → 0 ≤ (f : Int) + e → (f : Int) + e ≤ 9 → (x_CALL 60 95 [.inr (.inr (some (0, 0))), .inl a] (x_S Z t) = (x_CALL 59 3 [.inr (.inr (some (31, 0))), .inr (.inr (some (28, 0)))] (x_S Z t)).bind fun q => x_EX 59 95 49 [some (.inr (.inr (some (0, 0)))), some (.inl a), some (.inl ((Z 28 0 1) + e))] [] q.2) → (∀ Z1 : XZ, Z1 93 0 12 = N 12 → x_CALL 60 209 [.inr (.inr (some (56, 0))), .inl a] (x_S Z1 t) = (x_CALL 59 177 [.inr (.inr (some (56, 0)))] (x_S Z1 t)).bind fun q => x_EX 59 209 26 [some (.inr (.inr (some (56, 0)))), some (.inl a)] [] q.2) → (∀ Z1 : XZ, x_EX 59 209 26 [some (.inr (.inr (some (56, 0)))), some (.inl a)] [] (x_S Z1 t) = (x_CALL 59 205 [.inr (.inr (some (56, 0)))] (x_S (x_u Z1 94 0 12 ((Z1 94 0 12) + e)) t)).bind fun q => x_EX 59 209 49 [some (.inr (.inr (some (56, 0)))), some (.inl a)] [] q.2) → ∃ (r r' : Int) (Z1 Z2 : XZ) (t1 : Nat), x_CALL 60 95 [.inr (.inr (some (0, 0))), .inl a] (x_S Z t) = some (r, x_S Z1 t1) ∧ (∀ g, 900 ≤ g → Z1 g = Z g) ∧ x_CALL 60 209 [.inr (.inr (some (56, 0))), .inl a] (x_S Z1 t1) = some (r', x_S Z2 t1) ∧ (∀ g, 900 ≤ g → Z2 g = Z g) ∧ cn r = cn r' ∧ PI Z2 t1 := by
    intro e he h1 h2 cc mm m26
    obtain ⟨Z1, e1, e2, e3, e4, e5, e6⟩ := c_pushN h (d := 59) (by decide)
    rw [e1, Option.bind_some, B95_49] at cc
    have kk : ∀ g m i, ¬ (28 ≤ g ∧ g ≤ 30 ∧ (m = 0 ∨ m = 2 + nx)) → g ≠ 31 → x_u Z1 28 0 1 (Z 28 0 1 + e) g m i = Z g m i := fun g m i a b => by rw [x_u_ne (by omega)]; exact e6 g m i (by omega) b
    have hI : MI T F N H v u (x_u Z1 28 0 1 (Z 28 0 1 + e)) := h.mi.congr (fun g m i a b c => kk g m i (by omega) (by omega))
    obtain ⟨Z2, f1, f2, f3, f4, f5, f6⟩ := m_crr hI hT hH.2.2.1 (d := 59) (by decide) t
    obtain ⟨Z3, g1, g2, g3, g4, g5⟩ := f6 12 (N 12 + e)
    have r12 := f3 12 (by omega)
    rw [Nat.zero_add] at r12
    have m2 := mm _ ((kk 93 0 12 (by omega) (by omega)).trans q3)
    rw [f1, Option.bind_some, m26, r12, g1, Option.bind_some, B209_49] at m2
    have hce : cn (N 12 + e) = (f : Int) + e := by rw [cn_ab, hf]; exact cn_id (by omega) (by omega)
    exact do_fin h cc (fun g m i _ a b => kk g m i a b) (e2.up1 (cn_ac e r3)) (e3.congr (fun i => x_u_ne (by omega)) (fun i => x_u_ne (by omega)) (fun i => x_u_ne (by omega))) (by rw [x_u_ne (by omega)]; exact e4) (by rw [x_u_ne (by omega)]; exact e5) m2 g5 g2 g3 g4 (hN.up (by omega) (by omega) (fun _ => by rw [hce]; omega) (by omega)) rfl
  have hcp : cn (Z 28 0 1 + 1) = (f : Int) + 1 := by rw [cn_ab, r3, hf]; exact cn_id (by omega) (by omega)
  have hcm : cn (Z 28 0 1 - 1) = (f : Int) - 1 := by rw [Int.sub_eq_add_neg, cn_ab, r3, hf]; exact cn_id (by omega) (by omega)
  rw [hcp, hcm] at c1
  clear hcp hcm
  rcases ha with rfl | rfl
  · rw [if_pos cn_0] at c1
    have m2 := m1
    simp only [if_pos cn_0] at m2
    by_cases h0 : f = 0
    · rw [if_pos (by omega)] at c1
      have m3 := m2 Z
      rw [q3, hf, if_pos (by omega)] at m3
      exact p_fin h c1 keepQ.rfl' m3 keepQ.rfl' rfl
    · rw [if_neg (by omega), if_neg (by omega)] at c1
      exact key (-1) (.inr rfl) (by omega) (by omega) c1 (fun Z1 e => by rw [m2, e, hf, if_neg (by omega)]) (fun Z1 => by rw [B209_26, if_pos cn_0])
  · rw [if_neg cn_1n] at c1
    have m2 := m1
    simp only [if_neg cn_1n] at m2
    by_cases h0 : f = 9
    · rw [if_neg (by omega), if_pos (by omega)] at c1
      have m3 := m2 Z
      rw [q3, hf, if_pos (by omega)] at m3
      exact p_fin h c1 keepQ.rfl' m3 keepQ.rfl' rfl
    · rw [if_neg (by omega), if_neg (by omega)] at c1
      exact key 1 (.inl rfl) (by omega) (by omega) c1 (fun Z1 e => by rw [m2, e, hf, if_neg (by omega)]) (fun Z1 => by rw [B209_26, if_neg cn_1n])
