/-! class and model read a tell alike -/
def WFs (K : Nat → Int) (s : Nat × Nat) : Prop := s.1 ≤ 2 ∧ s.2 ≤ 400 ∧ LK K 0 s.2
theorem WFs.go {K : Nat → Int} {s : Nat × Nat} (h : WFs K s) (hk : s.1 = 0 → K s.2 ≠ 256 ∧ K s.2 ≠ 257) : WFs K (q_go s) := by
  obtain ⟨a, b, c⟩ := h
  unfold q_go
  by_cases h0 : s.1 = 0
  · rw [if_pos h0]
    by_cases hj : s.2 < 400
    · rw [if_pos hj]; exact ⟨by show 0 ≤ 2; omega, by show s.2 + 1 ≤ 400; omega, c.trans (LK.one (hk h0))⟩
    · rw [if_neg hj]; exact ⟨by show 2 ≤ 2; omega, b, c⟩
  · rw [if_neg h0]; exact ⟨a, b, c⟩
theorem WFs.sk {K : Nat → Int} {s : Nat × Nat} {k : Int} (h : WFs K s) (hk : k ≠ 256 ∧ k ≠ 257) : WFs K (q_sk K k s) := by
  obtain ⟨a, b, c⟩ := h
  unfold q_sk
  by_cases h0 : s.1 = 0
  · rw [if_pos h0]
    by_cases h1 : K s.2 = k
    · rw [if_pos h1]; exact WFs.go ⟨a, b, c⟩ (fun _ => by rw [h1]; exact hk)
    · rw [if_neg h1]; exact ⟨by show 1 ≤ 2; omega, b, c⟩
  · rw [if_neg h0]; exact ⟨a, b, c⟩
theorem WFs.xe {K V : Nat → Int} {s : Nat × Nat} (hB : KB K V) (h : WFs K s) : WFs K (q_xe K V s) := by
  obtain ⟨a, b, c⟩ := h
  unfold q_xe
  by_cases h0 : s.1 = 0
  · rw [if_pos h0]
    obtain ⟨p1, p2, p3, p4, p5⟩ := e_T_sp hB s.2 b
    exact ⟨by show (e_T K V s.2).1 ≤ 2; omega, p2, c.trans p3⟩
  · rw [if_neg h0]; exact ⟨a, b, c⟩
theorem l_T_wf {K V : Nat → Int} (hB : KB K V) : ∀ (f j : Nat), WFs K (0, j) → WFs K ((l_T K V f j).1, (l_T K V f j).2.1) := by
  intro f
  induction f with
  | zero =>
    intro j h
    by_cases hk : K j = 272
    · rw [l_T_0 hk]; exact ⟨by show 2 ≤ 2; omega, h.2.1, h.2.2⟩
    · rw [l_T_n hk]; exact (h.xe hB).sk (by omega)
  | succ f ih =>
    intro j h
    by_cases hk : K j = 272
    · have h6 : WFs K (b_6 K V j) := ((((((h.sk (k := 272) (by omega)).xe hB).sk (by omega)).xe hB).sk (by omega)).xe hB).sk (by omega)
      by_cases h60 : (b_6 K V j).1 = 0
      · rw [l_T_y hk h60]
        exact ih (b_6 K V j).2 ⟨by show 0 ≤ 2; omega, h6.2.1, h6.2.2⟩
      · rw [l_T_b hk h60]; exact h6
    · rw [l_T_n hk]; exact (h.xe hB).sk (by omega)
theorem q_tk_wf {K : Nat → Int} {j : Nat} {ks : List Int} (h : WFs K (0, j)) (hk : ∀ k, k ∈ ks → k ≠ 256 ∧ k ≠ 257) : WFs K (q_tk K ks j) := by
  obtain ⟨a, b, c, e⟩ := q_tk_le (K := K) ks j h.2.1 hk
  exact ⟨by omega, b, h.2.2.trans c⟩
theorem q_rm_wf {K : Nat → Int} {j has most : Nat} {ks : List Int} (h : WFs K (0, j)) (hk : ∀ k, k ∈ ks → k ≠ 256 ∧ k ≠ 257) : WFs K (q_rm K has most ks j) := by
  unfold q_rm
  by_cases hr : most ≤ has
  · rw [if_pos hr]; exact ⟨by show 2 ≤ 2; omega, h.2.1, h.2.2⟩
  · rw [if_neg hr]; exact q_tk_wf h hk
theorem q_rm_0 {K : Nat → Int} {j has most : Nat} {ks : List Int} (h : (q_rm K has most ks j).1 = 0) : ¬ most ≤ has ∧ (q_tk K ks j).1 = 0 ∧ (q_rm K has most ks j).2 = j + ks.length := by
  unfold q_rm at *
  by_cases hr : most ≤ has
  · rw [if_pos hr] at h; exact absurd h (by simp)
  · rw [if_neg hr] at h ⊢; exact ⟨hr, h, (q_tk_len _ _ h).1⟩
def JS (s : Nat × Int) : Prop := ∀ _ : Nat, s.1 = 0 → s.2 = -1
theorem JS.nt {s : Nat × Int} {c : Bool} {f : Nat} {p : Int} (h : JS s) (hf : f ≠ 0) : JS (q_nt c f p s) := fun _ hs => by
  obtain ⟨w1, w2, w3⟩ := q_nt_0 hf hs
  rw [w3]; exact h 0 w1
def JJ (Z Y : XZ) (K P V Nm : Nat → Int) (t v j : Nat) (s : Nat × Int) (T : PT) (G : Nat → Option (BL × CL)) : Prop := ∃ (n np b : Nat) (cl : CL) (ct st : Nat → Nat), JC Z K P V t j n np s T ct st G ∧ JM Y K P V Nm v j b cl np s T ct st G ∧ JPu K P j np s T ct st ∧ JH s T ∧ JS s
theorem b01 {p : Prop} [Decidable p] : (if p then (1 : Int) else 0) = 0 ∨ (if p then (1 : Int) else 0) = 1 := by
  by_cases h : p
  · rw [if_pos h]; exact .inr rfl
  · rw [if_neg h]; exact .inl rfl
def JR (Z Y : XZ) (K P V Nm : Nat → Int) (t v tm d dm j : Nat) (a : Nat × Nat) : Prop := ∃ (Z' Y' : XZ), x_CALL d 21 [.inr (.inr (some (2, 0)))] (x_S Z t) = some ((if a.1 = 0 then 1 else 0), x_S Z' t) ∧ KPc (1 - t) Z Z' ∧ x_CALL dm 154 [.inr (.inr (some (56, 0)))] (x_S Y tm) = some (0, x_S Y' tm) ∧ KPm v Y Y' ∧ MQr Y' K P a.1 a.2 ∧ WFs K a ∧ (¬ a.1 = 0 → Z' 2 0 3 = (a.2 : Int) ∧ Z' 2 0 4 = (a.1 : Int)) ∧ (a.1 = 0 → j < a.2 ∧ ∃ s T G, JJ Z' Y' K P V Nm t v a.2 s T G)
theorem j_tell {Z Y : XZ} {K P V Nm : Nat → Int} {t v tm d dm j : Nat} {s : Nat × Int} {T : PT} {G : Nat → Option (BL × CL)} (hB : KB K V) (hV : VN K V) (hP : PMo K P) (hNV : NV K V Nm) (hv : v < 2) (hJ : JJ Z Y K P V Nm t v j s T G) (hd : 30 ≤ d) (hdm : 30 ≤ dm) : ∃ a, JR Z Y K P V Nm t v tm d dm j a := by
  obtain ⟨n, np, b, cl, ct, st, hC, hM, hp, hh, hs⟩ := hJ
  have x3 := hC.2.1.2.2.1
  have hj4 := hC.2.1.1
  have hlk := hC.2.1.2.1
  have h4 := hC.2.2.2.1
  have wf : WFs K (0, j) := ⟨by show 0 ≤ 2; omega, hj4, hlk⟩
  have k1 := (hC.1 j hj4 hlk).1
  have hb := hB j
  have opn : ∀ R, x_CALL d 21 [.inr (.inr (some (2, 0)))] (x_S Z t) = R ↔ (if K j = 260 then ((x_CALL (d - 1) 24 [.inr (.inr (some (2, 0)))] (x_S Z t)).bind fun q => x_EX (d - 1) 21 80 [some (.inr (.inr (some (2, 0)))), some (.inl (K j))] [.inl q.1] q.2) else (if K j = 261 then ((x_CALL (d - 1) 25 [.inr (.inr (some (2, 0)))] (x_S Z t)).bind fun q => x_EX (d - 1) 21 85 [some (.inr (.inr (some (2, 0)))), some (.inl (K j))] [.inl q.1] q.2) else (if K j = 262 then ((x_CALL (d - 1) 26 [.inr (.inr (some (2, 0)))] (x_S Z t)).bind fun q => x_EX (d - 1) 21 90 [some (.inr (.inr (some (2, 0)))), some (.inl (K j))] [.inl q.1] q.2) else (if K j = 263 then ((x_CALL (d - 1) 27 [.inr (.inr (some (2, 0)))] (x_S Z t)).bind fun q => x_EX (d - 1) 21 95 [some (.inr (.inr (some (2, 0)))), some (.inl (K j))] [.inl q.1] q.2) else (if K j = 264 then ((x_CALL (d - 1) 28 [.inr (.inr (some (2, 0)))] (x_S Z t)).bind fun q => x_EX (d - 1) 21 100 [some (.inr (.inr (some (2, 0)))), some (.inl (K j))] [.inl q.1] q.2) else (if 265 ≤ K j ∧ K j < 269 then ((x_CALL (d - 1) 30 [.inr (.inr (some (2, 0))), .inl (K j)] (x_S Z t)).bind fun q => x_EX (d - 1) 21 126 [some (.inr (.inr (some (2, 0)))), some (.inl (K j))] [.inl q.1] q.2) else (if 269 ≤ K j ∧ K j < 272 then ((x_CALL (d - 1) 29 [.inr (.inr (some (2, 0))), .inl (K j)] (x_S Z t)).bind fun q => x_EX (d - 1) 21 106 [some (.inr (.inr (some (2, 0)))), some (.inl (K j))] [.inl q.1] q.2) else (x_EX (d - 1) 21 133 [some (.inr (.inr (some (2, 0)))), some (.inl (K j))] [] (x_S Z t))))))))) = R := by
    intro R
    rw [C21 _ _ _ (by omega), x3, cn_nt (z := (j : Int)) rfl (by omega), if_pos (by omega), Int.toNat_natCast, k1, cn_id (z := K j) (by omega) (by omega)]
    by_cases c0 : K j = 260
    · rw [if_pos c0, if_pos c0]
    · rw [if_neg c0, if_neg c0]
      by_cases c1 : K j = 261
      · rw [if_pos c1, if_pos c1]
      · rw [if_neg c1, if_neg c1]
        by_cases c2 : K j = 262
        · rw [if_pos c2, if_pos c2]
        · rw [if_neg c2, if_neg c2]
          by_cases c3 : K j = 263
          · rw [if_pos c3, if_pos c3]
          · rw [if_neg c3, if_neg c3]
            by_cases c4 : K j = 264
            · rw [if_pos c4, if_pos c4]
            · rw [if_neg c4, if_neg c4]
              by_cases c5 : 265 ≤ K j ∧ K j < 269
              · rw [if_pos c5, if_neg (show ¬ K j < 265 by omega), if_pos c5.2]
                have hc : K j = 265 ∨ K j = 266 ∨ K j = 267 ∨ K j = 268 := by omega
                rcases hc with h | h | h | h
                · rw [if_pos h]
                · rw [if_neg (by omega), if_pos h]
                · rw [if_neg (by omega), if_neg (by omega), if_pos h]
                · rw [if_neg (by omega), if_neg (by omega), if_neg (by omega), if_pos h]
              · rw [if_neg c5, if_neg (show ¬ K j = 265 by omega), if_neg (show ¬ K j = 266 by omega), if_neg (show ¬ K j = 267 by omega), if_neg (show ¬ K j = 268 by omega)]
                by_cases c6 : 269 ≤ K j ∧ K j < 272
                · rw [if_pos c6]
                  have hc : K j = 269 ∨ K j = 270 ∨ K j = 271 := by omega
                  rcases hc with h | h | h
                  · rw [if_pos h]
                  · rw [if_neg (by omega), if_pos h]
                  · rw [if_neg (by omega), if_neg (by omega), if_pos h]
                · rw [if_neg c6, if_neg (show ¬ K j = 269 by omega), if_neg (show ¬ K j = 270 by omega), if_neg (show ¬ K j = 271 by omega)]
                  by_cases c7 : K j < 265
                  · rw [if_pos c7]
                  · rw [if_neg c7, if_neg (by omega)]
  by_cases c0 : K j = 260
  · obtain ⟨Z', e1, e2, e3, e4⟩ := c_tcorner (d := d - 1) hB hV hC hp (by omega)
    obtain ⟨Y', f1, f2, f3, f4⟩ := m_tcorner (t := tm) (d := dm) hB hP hNV hv hM hp c0 (by omega)
    refine ⟨q_rm K (T 0 0) 7 k_cor j, Z', Y', (opn _).2 ?_, e2, f1, f2, f3, q_rm_wf wf (by decide), e3, fun h => ?_⟩
    · rw [if_pos c0, e1, Option.bind_some, B21_80, if_pos b01]
    · obtain ⟨q1, q2, q3⟩ := q_rm_0 h
      have q3' : (q_rm K (T 0 0) 7 k_cor j).2 = j + 4 := q3
      obtain ⟨u1, u2⟩ := ju_cor (V := V) hp hh q1 q2
      rw [q3']
      exact ⟨by omega, _, _, _, _, _, _, _, _, _, e4 h, f4 0 h, u1, u2, (hs.nt (by decide)).nt (by decide)⟩
  · by_cases c1 : K j = 261
    · obtain ⟨Z', e1, e2, e3, e4⟩ := c_tlane (d := d - 1) hB hV hC hp (by omega)
      obtain ⟨Y', f1, f2, f3, f4⟩ := m_tlane (t := tm) (d := dm) hB hP hNV hv hM hp c1 (by omega)
      refine ⟨q_rm K (T 1 0) 10 k_lan j, Z', Y', (opn _).2 ?_, e2, f1, f2, f3, q_rm_wf wf (by decide), e3, fun h => ?_⟩
      · rw [if_neg c0, if_pos c1, e1, Option.bind_some, B21_85, if_pos b01]
      · obtain ⟨q1, q2, q3⟩ := q_rm_0 h
        have q3' : (q_rm K (T 1 0) 10 k_lan j).2 = j + 5 := q3
        obtain ⟨u1, u2⟩ := ju_lan (V := V) hp hh q1
        rw [q3']
        exact ⟨by omega, _, _, _, _, _, _, _, _, _, e4 h, f4 0 h, u1, u2, (((hs.nt (by decide)).nt (by decide)).nt (by decide)).nt (by decide)⟩
    · by_cases c2 : K j = 262
      · obtain ⟨Z', e1, e2, e3, e4⟩ := c_thouse (d := d - 1) hB hV hC hp (by omega)
        obtain ⟨Y', f1, f2, f3, f4⟩ := m_thouse (t := tm) (d := dm) hB hP hNV hv hM hp c2 (by omega)
        refine ⟨q_tk K k_hou j, Z', Y', (opn _).2 ?_, e2, f1, f2, f3, q_tk_wf wf (by decide), e3, fun h => ?_⟩
        · rw [if_neg c0, if_neg c1, if_pos c2, e1, Option.bind_some, B21_90, if_pos b01]
        · have q3' : (q_tk K k_hou j).2 = j + 3 := (q_tk_len _ _ h).1
          obtain ⟨u1, u2⟩ := ju_hou (V := V) hp h
          rw [q3']
          exact ⟨by omega, _, _, _, _, _, _, _, _, _, e4 h, f4 0 h, u1, u2, hs.nt (by decide)⟩
      · by_cases c3 : K j = 263
        · obtain ⟨Z', e1, e2, e3, e4⟩ := c_tpost (d := d - 1) hB hV hC hp (by omega)
          obtain ⟨Y', f1, f2, f3, f4⟩ := m_tpost (t := tm) (d := dm) hB hP hNV hv hM hp c3 (by omega)
          refine ⟨q_rm K np 7 k_pos j, Z', Y', (opn _).2 ?_, e2, f1, f2, f3, q_rm_wf wf (by decide), e3, fun h => ?_⟩
          · rw [if_neg c0, if_neg c1, if_neg c2, if_pos c3, e1, Option.bind_some, B21_95, if_pos b01]
          · obtain ⟨q1, q2, q3⟩ := q_rm_0 h
            have q3' : (q_rm K np 7 k_pos j).2 = j + 4 := q3
            obtain ⟨u1, u2⟩ := ju_pos (V := V) hp hh q1
            rw [q3']
            exact ⟨by omega, _, _, _, _, _, _, _, _, _, e4 h, f4 0 h, u1, u2, (hs.nt (by decide)).nt (by decide)⟩
        · by_cases c4 : K j = 264
          · obtain ⟨Z', e1, e2, e3, e4⟩ := c_tseeker (d := d - 1) hB hV hC hp (by omega)
            obtain ⟨Y', f1, f2, f3, f4⟩ := m_tseeker (t := tm) (d := dm) hB hP hNV hv hM hp c4 (by omega)
            refine ⟨q_rm K (T 2 0) 5 k_see j, Z', Y', (opn _).2 ?_, e2, f1, f2, f3, q_rm_wf wf (by decide), e3, fun h => ?_⟩
            · rw [if_neg c0, if_neg c1, if_neg c2, if_neg c3, if_pos c4, e1, Option.bind_some, B21_100, if_pos b01]
            · obtain ⟨q1, q2, q3⟩ := q_rm_0 h
              have q3' : (q_rm K (T 2 0) 5 k_see j).2 = j + 5 := q3
              obtain ⟨u1, u2⟩ := ju_see (V := V) hp hh q1 q2
              rw [q3']
              exact ⟨by omega, _, _, _, _, _, _, _, _, _, e4 h, f4 0 h, u1, u2, ((hs.nt (by decide)).nt (by decide)).nt (by decide)⟩
          · by_cases c5 : 265 ≤ K j ∧ K j < 269
            · obtain ⟨k, hk⟩ := Int.eq_ofNat_of_zero_le (show 0 ≤ K j - 265 by omega)
              have hki : K j = 265 + (k : Int) := by omega
              obtain ⟨Z', e1, e2, e3, e4⟩ := c_tlaw (d := d - 1) (k := k) hB (by omega) hC (by omega) (K j) hki
              obtain ⟨Y', f1, f2, f3, f4⟩ := m_tlaw (t := tm) (d := dm) (k := k) hB hv (by omega) hM hki (by omega)
              have wfl : WFs K ((q_law K V k j).1, (q_law K V k j).2.1) := by
                have wt : WFs K (q_tk K (k_law k) j) := q_tk_wf wf (fun x hx => by
                  rcases List.mem_cons.1 hx with y | y
                  · omega
                  · rw [List.mem_singleton] at y; omega)
                unfold q_law
                by_cases h0 : (q_tk K (k_law k) j).1 = 0
                · rw [if_pos h0]
                  have l1 : (q_tk K (k_law k) j).2 = j + 2 := (q_tk_len _ _ h0).1
                  rw [show (q_tk K (k_law k) j) = (0, j + 2) from Prod.ext h0 l1] at wt
                  exact l_T_wf hB 4 (j + 2) wt
                · rw [if_neg h0]; exact wt
              refine ⟨((q_law K V k j).1, (q_law K V k j).2.1), Z', Y', (opn _).2 ?_, e2, f1, f2, f3, wfl, e3, fun h => ?_⟩
              · rw [if_neg c0, if_neg c1, if_neg c2, if_neg c3, if_neg c4, if_pos c5, e1, Option.bind_some, B21_126]
                by_cases h0 : (q_law K V k j).1 = 0
                · rw [if_pos h0, if_neg cn_1n]
                · rw [if_neg h0, if_pos cn_0, B21_133]
              · obtain ⟨n', g1⟩ := e4 h
                obtain ⟨b', cl', g2⟩ := f4 0 h
                have hlt : j < (q_law K V k j).2.1 := by
                  have h' : (q_law K V k j).1 = 0 := h
                  unfold q_law at h' ⊢
                  by_cases h0 : (q_tk K (k_law k) j).1 = 0
                  · rw [if_pos h0] at h' ⊢
                    have l2 := (q_tk_len _ _ h0).2.1 (by unfold k_law; simp)
                    have l2' : j + 2 ≤ 400 := l2
                    have := (l_T_G hB 4 (j + 2) l2' h').2.1
                    omega
                  · rw [if_neg h0] at h'; exact absurd h' h0
                obtain ⟨p1, p2, p3, p4, p5, p6, p7, p8⟩ := hp
                refine ⟨hlt, s, T, _, n', np, b', cl', ct, st, g1, g2, ⟨p1, p2, p3, p4, fun i hi => ⟨Nat.lt_trans (p5 i hi).1 hlt, (p5 i hi).2⟩, fun i hi => ⟨Nat.lt_trans (p6 i hi).1 hlt, (p6 i hi).2⟩, SQ.mono (j := j) p7 (Nat.le_of_lt hlt), p8⟩, hh, hs⟩
            · by_cases c6 : 269 ≤ K j ∧ K j < 272
              · obtain ⟨m, hm⟩ := Int.eq_ofNat_of_zero_le (show 0 ≤ K j - 269 by omega)
                have hki : K j = 269 + (m : Int) := by omega
                obtain ⟨Z', e1, e2, e3, e4⟩ := c_tnumber (d := d - 1) (m := m) hB (by omega) hC (by omega) (K j) hki
                obtain ⟨Y', f1, f2, f3, f4⟩ := m_tnumber (t := tm) (d := dm) (m := m) hB hP hv (by omega) hM hp hki (by omega)
                refine ⟨q_tk K (k_nbr m) j, Z', Y', (opn _).2 ?_, e2, f1, f2, f3, q_tk_wf wf (fun x hx => ?_), e3, fun h => ?_⟩
                · rw [if_neg c0, if_neg c1, if_neg c2, if_neg c3, if_neg c4, if_neg c5, if_pos c6, e1, Option.bind_some, B21_106, if_pos b01]
                · rcases List.mem_cons.1 hx with y | y
                  · omega
                  · rcases List.mem_cons.1 y with z | z
                    · omega
                    · rw [List.mem_singleton] at z; omega
                · have q3' : (q_tk K (k_nbr m) j).2 = j + 3 := (q_tk_len _ _ h).1
                  obtain ⟨u1, u2⟩ := ju_nbr (V := V) (m := m) hp hh (by omega)
                  rw [q3']
                  exact ⟨by omega, _, _, _, _, _, _, _, _, _, e4 h, f4 0 h, u1, u2, hs.nt (by decide)⟩
              · obtain ⟨Y', f1, f2, f3⟩ := m_tother (t := tm) (d := dm) hB hM (by omega) (by omega)
                refine ⟨(1, j), Z, Y', (opn _).2 ?_, KPc.rfl', f1, f2, f3, ⟨by show 1 ≤ 2; omega, hj4, hlk⟩, fun _ => ⟨x3, h4⟩, fun h => absurd h (by simp)⟩
                rw [if_neg c0, if_neg c1, if_neg c2, if_neg c3, if_neg c4, if_neg c5, if_neg c6, B21_133]
                rfl
