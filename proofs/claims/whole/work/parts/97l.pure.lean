/-! tells: what stays true of a text read so far -/
def JH (s : Nat × Int) (T : PT) : Prop := ∀ _ : Nat, s.1 = 0 → T 0 0 = 0 → T 10 0 = 0
theorem JPu.mv {K P : Nat → Int} {j j' np np' : Nat} {s s' : Nat × Int} {T T' : PT} {ct st ct' st' : Nat → Nat} (h0 : T' 0 0 ≤ 7) (h1 : T' 1 0 ≤ 10) (h2 : T' 2 0 ≤ 5) (hn : np' ≤ 7) (hc : ∀ i, i < T' 0 0 → ct' i < j' ∧ K (ct' i) = 258) (hs : ∀ i, i < T' 2 0 → st' i < j' ∧ K (st' i) = 258) (hq : SQ P j' s') (ht : ∀ _ : Nat, s'.1 = 0 → TOK T') : JPu K P j' np' s' T' ct' st' := ⟨h0, h1, h2, hn, hc, hs, hq, ht⟩
theorem ju_cor {K P V : Nat → Int} {j np : Nat} {s : Nat × Int} {T : PT} {ct st : Nat → Nat} (hp : JPu K P j np s T ct st) (hh : JH s T) (h7 : ¬ 7 ≤ T 0 0) (h0 : (q_tk K k_cor j).1 = 0) : JPu K P (j + 4) np (s_cor P V T ct st j s) (T_cor V T j) (q_ext ct (T 0 0) (j + 1)) st ∧ JH (s_cor P V T ct st j s) (T_cor V T j) := by
  obtain ⟨p1, p2, p3, p4, p5, p6, p7, p8⟩ := hp
  obtain ⟨l1, l2, l3⟩ := q_tk_len _ _ h0
  have k1 : K (j + 1) = 258 := l3 1 (by decide)
  have t0 : T_cor V T j 0 0 = T 0 0 + 1 := tU_eq
  have t1 : ∀ a b, ¬ (a = 0 ∧ b = 0) → ¬ (a = 3 ∧ b = T 0 0) → T_cor V T j a b = T a b := fun a b h h' => by unfold T_cor; rw [tU_ne h, tU_ne h']
  have t3 : T_cor V T j 3 (T 0 0) = (V (j + 2)).toNat := by unfold T_cor; rw [tU_ne (by omega), tU_eq]
  have base : ∀ _ : Nat, (s_cor P V T ct st j s).1 = 0 → s.1 = 0 ∧ ¬ (V (j + 2) < 0 ∨ 9 < V (j + 2)) := fun _ hs => by
    obtain ⟨w1, w2, w3⟩ := q_nt_0 (by decide) hs
    obtain ⟨w4, w5, w6⟩ := q_nt_0 (by decide) w1
    exact ⟨w4, of_decide_eq_false w2⟩
  refine ⟨JPu.mv (T := T) (ct := ct) (st := st) (s := s) (j := j) (np := np) ?_ ?_ ?_ p4 (fun i hi => ?_) (fun i hi => ?_) ?_ (fun _ hs => ?_), fun _ hs hz => by rw [t0] at hz; omega⟩
  · rw [t0]; omega
  · rw [t1 _ _ (by omega) (by omega)]; exact p2
  · rw [t1 _ _ (by omega) (by omega)]; exact p3
  · rw [t0] at hi
    unfold q_ext
    by_cases hi' : i = T 0 0
    · rw [if_pos hi']; exact ⟨by omega, k1⟩
    · rw [if_neg hi']; exact ⟨by have := (p5 i (by omega)).1; omega, (p5 i (by omega)).2⟩
  · rw [t1 _ _ (by omega) (by omega)] at hi
    exact ⟨by have := (p6 i hi).1; omega, (p6 i hi).2⟩
  · have q1 : SQ P (j + 2) (q_nt (q_dup V T ct st (j + 1)) 3 (P (j + 1)) s) := SQ.nt (SQ.mono (j := j) p7 (show j ≤ j + 1 by omega)) (Nat.le_refl _)
    have q2 : SQ P (j + 3) (s_cor P V T ct st j s) := SQ.nt q1 (Nat.le_refl _)
    exact q2.mono (by omega)
  · obtain ⟨w4, w2⟩ := base 0 hs
    obtain ⟨k0, k2, k3, k4, k5, k6, k7, k8, k9, k10, k11⟩ := p8 0 w4
    have kh := hh 0 w4
    refine ⟨by rw [t0]; omega, by rw [t1 _ _ (by omega) (by omega)]; exact k2, by rw [t1 _ _ (by omega) (by omega)]; exact k3, fun c hc => ?_, fun l hl => ?_, fun m hm => ?_, fun hz => ?_, by rw [t1 _ _ (by omega) (by omega)]; exact k8, by rw [t1 _ _ (by omega) (by omega)]; exact k9, by rw [t1 _ _ (by omega) (by omega)]; exact k10, fun c hc => by rw [t1 _ _ (by omega) (by omega)]; exact k11 c hc⟩
    · rw [t0] at hc
      by_cases hc0 : c = T 0 0
      · rw [hc0, t3]; omega
      · rw [t1 _ _ (by omega) (by omega)]; exact k4 c (by omega)
    · rw [t1 1 0 (by omega) (by omega)] at hl
      have := k5 l hl
      rw [t0, t1 4 l (by omega) (by omega), t1 5 l (by omega) (by omega), t1 6 l (by omega) (by omega)]; omega
    · rw [t1 2 0 (by omega) (by omega)] at hm
      have := k6 m hm
      rw [t0, t1 7 m (by omega) (by omega), t1 8 m (by omega) (by omega)]; omega
    · rw [t0, t1 10 0 (by omega) (by omega)]
      by_cases hz0 : T 0 0 = 0
      · have := kh hz0; omega
      · have := k7 (by omega); omega
theorem ju_hou {K P V : Nat → Int} {j np : Nat} {s : Nat × Int} {T : PT} {ct st : Nat → Nat} (hp : JPu K P j np s T ct st) (h0 : (q_tk K k_hou j).1 = 0) : JPu K P (j + 3) np (s_hou P V T ct j s) (T_hou V T ct j) ct st ∧ JH (s_hou P V T ct j s) (T_hou V T ct j) := by
  obtain ⟨p1, p2, p3, p4, p5, p6, p7, p8⟩ := hp
  have t0 : T_hou V T ct j 10 0 = q_ax V T ct (j + 1) := tU_eq
  have t1 : ∀ a b, ¬ (a = 10 ∧ b = 0) → T_hou V T ct j a b = T a b := fun a b h => by unfold T_hou; rw [tU_ne h]
  have base : ∀ _ : Nat, (s_hou P V T ct j s).1 = 0 → s.1 = 0 ∧ q_ax V T ct (j + 1) < T 0 0 := fun _ hs => by
    obtain ⟨w1, w2, w3⟩ := q_nt_0 (by decide) hs
    have := of_decide_eq_false w2
    exact ⟨w1, by omega⟩
  refine ⟨JPu.mv (T := T) (ct := ct) (st := st) (s := s) (j := j) (np := np) ?_ ?_ ?_ p4 (fun i hi => ?_) (fun i hi => ?_) ?_ (fun _ hs => ?_), fun _ hs hz => ?_⟩
  · rw [t1 _ _ (by omega)]; exact p1
  · rw [t1 _ _ (by omega)]; exact p2
  · rw [t1 _ _ (by omega)]; exact p3
  · rw [t1 _ _ (by omega)] at hi
    exact ⟨by have := (p5 i hi).1; omega, (p5 i hi).2⟩
  · rw [t1 _ _ (by omega)] at hi
    exact ⟨by have := (p6 i hi).1; omega, (p6 i hi).2⟩
  · have q1 : SQ P (j + 2) (s_hou P V T ct j s) := SQ.nt (SQ.mono (j := j) p7 (show j ≤ j + 1 by omega)) (Nat.le_refl _)
    exact q1.mono (by omega)
  · obtain ⟨w4, w2⟩ := base 0 hs
    obtain ⟨k0, k2, k3, k4, k5, k6, k7, k8, k9, k10, k11⟩ := p8 0 w4
    refine ⟨by rw [t1 _ _ (by omega)]; exact k0, by rw [t1 _ _ (by omega)]; exact k2, by rw [t1 _ _ (by omega)]; exact k3, fun c hc => ?_, fun l hl => ?_, fun m hm => ?_, fun hz => ?_, by rw [t1 _ _ (by omega)]; exact k8, by rw [t1 _ _ (by omega)]; exact k9, by rw [t1 _ _ (by omega)]; exact k10, fun c hc => by rw [t1 _ _ (by omega)]; exact k11 c hc⟩
    · rw [t1 _ _ (by omega)] at hc
      rw [t1 _ _ (by omega)]; exact k4 c hc
    · rw [t1 1 0 (by omega)] at hl
      rw [t1 0 0 (by omega), t1 4 l (by omega), t1 5 l (by omega), t1 6 l (by omega)]; exact k5 l hl
    · rw [t1 2 0 (by omega)] at hm
      rw [t1 0 0 (by omega), t1 7 m (by omega), t1 8 m (by omega)]; exact k6 m hm
    · rw [t0, t1 0 0 (by omega)]; exact w2
  · obtain ⟨w4, w2⟩ := base 0 hs
    rw [t1 0 0 (by omega)] at hz; omega
theorem ju_nbr {K P V : Nat → Int} {j np m : Nat} {s : Nat × Int} {T : PT} {ct st : Nat → Nat} (hp : JPu K P j np s T ct st) (hh : JH s T) (hm : m < 3) : JPu K P (j + 3) np (s_nbr P V m j s) (T_nbr V T m j) ct st ∧ JH (s_nbr P V m j s) (T_nbr V T m j) := by
  obtain ⟨p1, p2, p3, p4, p5, p6, p7, p8⟩ := hp
  have t0 : T_nbr V T m j (11 + m) 0 = (V (j + 1)).toNat := tU_eq
  have t1 : ∀ a b, ¬ (a = 11 + m ∧ b = 0) → T_nbr V T m j a b = T a b := fun a b h => by unfold T_nbr; rw [tU_ne h]
  have base : ∀ _ : Nat, (s_nbr P V m j s).1 = 0 → s.1 = 0 ∧ ¬ (V (j + 1) < 0 ∨ q_hi m < V (j + 1)) := fun _ hs => by
    obtain ⟨w1, w2, w3⟩ := q_nt_0 (by decide) hs
    exact ⟨w1, of_decide_eq_false w2⟩
  refine ⟨JPu.mv (T := T) (ct := ct) (st := st) (s := s) (j := j) (np := np) ?_ ?_ ?_ p4 (fun i hi => ?_) (fun i hi => ?_) ?_ (fun _ hs => ?_), fun _ hs hz => ?_⟩
  · rw [t1 _ _ (by omega)]; exact p1
  · rw [t1 _ _ (by omega)]; exact p2
  · rw [t1 _ _ (by omega)]; exact p3
  · rw [t1 _ _ (by omega)] at hi
    exact ⟨by have := (p5 i hi).1; omega, (p5 i hi).2⟩
  · rw [t1 _ _ (by omega)] at hi
    exact ⟨by have := (p6 i hi).1; omega, (p6 i hi).2⟩
  · have q1 : SQ P (j + 2) (s_nbr P V m j s) := SQ.nt (SQ.mono (j := j) p7 (show j ≤ j + 1 by omega)) (Nat.le_refl _)
    exact q1.mono (by omega)
  · obtain ⟨w4, w2⟩ := base 0 hs
    obtain ⟨k0, k2, k3, k4, k5, k6, k7, k8, k9, k10, k11⟩ := p8 0 w4
    have num : ∀ i B, i < 3 → ((i : Nat) = m → (V (j + 1)).toNat ≤ B) → T (11 + i) 0 ≤ B → T_nbr V T m j (11 + i) 0 ≤ B := fun i B hi h1 h2 => by
      by_cases him : i = m
      · rw [him, t0]; exact h1 him
      · rw [t1 _ _ (by omega)]; exact h2
    refine ⟨by rw [t1 _ _ (by omega)]; exact k0, by rw [t1 _ _ (by omega)]; exact k2, by rw [t1 _ _ (by omega)]; exact k3, fun c hc => ?_, fun l hl => ?_, fun m' hm' => ?_, fun hz => ?_, num 0 99 (by omega) (fun e => ?_) k8, num 1 9 (by omega) (fun e => ?_) k9, num 2 9999 (by omega) (fun e => ?_) k10, fun c hc => by rw [t1 _ _ (by omega)]; exact k11 c hc⟩
    · rw [t1 _ _ (by omega)] at hc
      rw [t1 _ _ (by omega)]; exact k4 c hc
    · rw [t1 1 0 (by omega)] at hl
      rw [t1 0 0 (by omega), t1 4 l (by omega), t1 5 l (by omega), t1 6 l (by omega)]; exact k5 l hl
    · rw [t1 2 0 (by omega)] at hm'
      rw [t1 0 0 (by omega), t1 7 m' (by omega), t1 8 m' (by omega)]; exact k6 m' hm'
    · rw [t1 0 0 (by omega)] at hz
      rw [t1 10 0 (by omega), t1 0 0 (by omega)]; exact k7 hz
    · rw [← e] at w2; have : q_hi 0 = 99 := rfl; omega
    · rw [← e] at w2; have : q_hi 1 = 9 := rfl; omega
    · rw [← e] at w2; have : q_hi 2 = 9999 := rfl; omega
  · rw [t1 0 0 (by omega)] at hz
    rw [t1 10 0 (by omega)]; exact hh 0 (base 0 hs).1 hz
theorem ju_pos {K P V : Nat → Int} {j np : Nat} {s : Nat × Int} {T : PT} {ct st : Nat → Nat} (hp : JPu K P j np s T ct st) (hh : JH s T) (h7 : ¬ 7 ≤ np) : JPu K P (j + 4) (np + 1) (s_pos P V T ct j s) (T_pos V T ct j) ct st ∧ JH (s_pos P V T ct j s) (T_pos V T ct j) := by
  obtain ⟨p1, p2, p3, p4, p5, p6, p7, p8⟩ := hp
  have t0 : T_pos V T ct j 9 (q_ax V T ct (j + 1)) = (V (j + 2)).toNat + 1 := tU_eq
  have t1 : ∀ a b, ¬ (a = 9 ∧ b = q_ax V T ct (j + 1)) → T_pos V T ct j a b = T a b := fun a b h => by unfold T_pos; rw [tU_ne h]
  have base : ∀ _ : Nat, (s_pos P V T ct j s).1 = 0 → s.1 = 0 ∧ ¬ (V (j + 2) < 0 ∨ 9 < V (j + 2)) := fun _ hs => by
    obtain ⟨w1, w2, w3⟩ := q_nt_0 (by decide) hs
    obtain ⟨w4, w5, w6⟩ := q_nt_0 (by decide) w1
    exact ⟨w4, of_decide_eq_false w2⟩
  refine ⟨JPu.mv (T := T) (ct := ct) (st := st) (s := s) (j := j) (np := np) ?_ ?_ ?_ (by omega) (fun i hi => ?_) (fun i hi => ?_) ?_ (fun _ hs => ?_), fun _ hs hz => ?_⟩
  · rw [t1 _ _ (by omega)]; exact p1
  · rw [t1 _ _ (by omega)]; exact p2
  · rw [t1 _ _ (by omega)]; exact p3
  · rw [t1 _ _ (by omega)] at hi
    exact ⟨by have := (p5 i hi).1; omega, (p5 i hi).2⟩
  · rw [t1 _ _ (by omega)] at hi
    exact ⟨by have := (p6 i hi).1; omega, (p6 i hi).2⟩
  · have q1 : SQ P (j + 2) (q_nt (decide (¬ q_ax V T ct (j + 1) < T 0 0)) 4 (P (j + 1)) s) := SQ.nt (SQ.mono (j := j) p7 (show j ≤ j + 1 by omega)) (Nat.le_refl _)
    have q2 : SQ P (j + 3) (s_pos P V T ct j s) := SQ.nt q1 (Nat.le_refl _)
    exact q2.mono (by omega)
  · obtain ⟨w4, w2⟩ := base 0 hs
    obtain ⟨k0, k2, k3, k4, k5, k6, k7, k8, k9, k10, k11⟩ := p8 0 w4
    refine ⟨by rw [t1 _ _ (by omega)]; exact k0, by rw [t1 _ _ (by omega)]; exact k2, by rw [t1 _ _ (by omega)]; exact k3, fun c hc => ?_, fun l hl => ?_, fun m hm => ?_, fun hz => ?_, by rw [t1 _ _ (by omega)]; exact k8, by rw [t1 _ _ (by omega)]; exact k9, by rw [t1 _ _ (by omega)]; exact k10, fun c hc => ?_⟩
    · rw [t1 _ _ (by omega)] at hc
      rw [t1 _ _ (by omega)]; exact k4 c hc
    · rw [t1 1 0 (by omega)] at hl
      rw [t1 0 0 (by omega), t1 4 l (by omega), t1 5 l (by omega), t1 6 l (by omega)]; exact k5 l hl
    · rw [t1 2 0 (by omega)] at hm
      rw [t1 0 0 (by omega), t1 7 m (by omega), t1 8 m (by omega)]; exact k6 m hm
    · rw [t1 0 0 (by omega)] at hz
      rw [t1 10 0 (by omega), t1 0 0 (by omega)]; exact k7 hz
    · by_cases hc0 : c = q_ax V T ct (j + 1)
      · rw [hc0, t0]; omega
      · rw [t1 _ _ (by omega)]; exact k11 c hc
  · rw [t1 0 0 (by omega)] at hz
    rw [t1 10 0 (by omega)]; exact hh 0 (base 0 hs).1 hz
theorem ju_lan {K P V : Nat → Int} {j np : Nat} {s : Nat × Int} {T : PT} {ct st : Nat → Nat} (hp : JPu K P j np s T ct st) (hh : JH s T) (h7 : ¬ 10 ≤ T 1 0) : JPu K P (j + 5) np (s_lan P V T ct j s) (T_lan V T ct j) ct st ∧ JH (s_lan P V T ct j s) (T_lan V T ct j) := by
  obtain ⟨p1, p2, p3, p4, p5, p6, p7, p8⟩ := hp
  have t0 : T_lan V T ct j 1 0 = T 1 0 + 1 := tU_eq
  have t1 : ∀ a b, ¬ (a = 1 ∧ b = 0) → ¬ (4 ≤ a ∧ a ≤ 6 ∧ b = T 1 0) → T_lan V T ct j a b = T a b := fun a b h h' => by unfold T_lan; rw [tU_ne h, tU_ne (by omega), tU_ne (by omega), tU_ne (by omega)]
  have u4 : T_lan V T ct j 4 (T 1 0) = q_ax V T ct (j + 1) := by unfold T_lan; rw [tU_ne (by omega), tU_ne (by omega), tU_ne (by omega), tU_eq]
  have u5 : T_lan V T ct j 5 (T 1 0) = q_ax V T ct (j + 2) := by unfold T_lan; rw [tU_ne (by omega), tU_ne (by omega), tU_eq]
  have u6 : T_lan V T ct j 6 (T 1 0) = (V (j + 3)).toNat := by unfold T_lan; rw [tU_ne (by omega), tU_eq]
  have base : ∀ _ : Nat, (s_lan P V T ct j s).1 = 0 → s.1 = 0 ∧ ¬ (V (j + 3) < 1 ∨ 9 < V (j + 3)) ∧ ¬ q_ax V T ct (j + 1) = q_ax V T ct (j + 2) ∧ q_ax V T ct (j + 2) < T 0 0 ∧ q_ax V T ct (j + 1) < T 0 0 := fun _ hs => by
    obtain ⟨w1, w2, w3⟩ := q_nt_0 (by decide) hs
    obtain ⟨w4, w5, w6⟩ := q_nt_0 (by decide) w1
    obtain ⟨w7, w8, w9⟩ := q_nt_0 (by decide) w4
    obtain ⟨w10, w11, w12⟩ := q_nt_0 (by decide) w7
    have w8' := of_decide_eq_false w8
    have w11' := of_decide_eq_false w11
    exact ⟨w10, of_decide_eq_false w2, of_decide_eq_false w5, by omega, by omega⟩
  refine ⟨JPu.mv (T := T) (ct := ct) (st := st) (s := s) (j := j) (np := np) ?_ ?_ ?_ p4 (fun i hi => ?_) (fun i hi => ?_) ?_ (fun _ hs => ?_), fun _ hs hz => ?_⟩
  · rw [t1 _ _ (by omega) (by omega)]; exact p1
  · rw [t0]; omega
  · rw [t1 _ _ (by omega) (by omega)]; exact p3
  · rw [t1 _ _ (by omega) (by omega)] at hi
    exact ⟨by have := (p5 i hi).1; omega, (p5 i hi).2⟩
  · rw [t1 _ _ (by omega) (by omega)] at hi
    exact ⟨by have := (p6 i hi).1; omega, (p6 i hi).2⟩
  · have q1 : SQ P (j + 2) (q_nt (decide (¬ q_ax V T ct (j + 1) < T 0 0)) 4 (P (j + 1)) s) := SQ.nt (SQ.mono (j := j) p7 (show j ≤ j + 1 by omega)) (Nat.le_refl _)
    have q2 : SQ P (j + 3) (q_nt (decide (¬ q_ax V T ct (j + 2) < T 0 0)) 4 (P (j + 2)) (q_nt (decide (¬ q_ax V T ct (j + 1) < T 0 0)) 4 (P (j + 1)) s)) := SQ.nt q1 (Nat.le_refl _)
    have q3 : SQ P (j + 3) (q_nt (decide (q_ax V T ct (j + 1) = q_ax V T ct (j + 2))) 3 (P (j + 2)) (q_nt (decide (¬ q_ax V T ct (j + 2) < T 0 0)) 4 (P (j + 2)) (q_nt (decide (¬ q_ax V T ct (j + 1) < T 0 0)) 4 (P (j + 1)) s))) := fun _ hs => by
      generalize q_nt (decide (¬ q_ax V T ct (j + 2) < T 0 0)) 4 (P (j + 2)) (q_nt (decide (¬ q_ax V T ct (j + 1) < T 0 0)) 4 (P (j + 1)) s) = x at q2 hs ⊢
      unfold q_nt at hs ⊢
      by_cases hcc : x.1 = 0 ∧ decide (q_ax V T ct (j + 1) = q_ax V T ct (j + 2)) = true
      · rw [if_pos hcc]; exact ⟨j + 2, by omega, rfl⟩
      · rw [if_neg hcc] at hs ⊢; exact q2 0 hs
    have q4 : SQ P (j + 4) (s_lan P V T ct j s) := SQ.nt q3 (Nat.le_refl _)
    exact q4.mono (by omega)
  · obtain ⟨w4, w2, wne, wb, wa⟩ := base 0 hs
    obtain ⟨k0, k2, k3, k4, k5, k6, k7, k8, k9, k10, k11⟩ := p8 0 w4
    refine ⟨by rw [t1 _ _ (by omega) (by omega)]; exact k0, by rw [t0]; omega, by rw [t1 _ _ (by omega) (by omega)]; exact k3, fun c hc => ?_, fun l hl => ?_, fun m hm => ?_, fun hz => ?_, by rw [t1 _ _ (by omega) (by omega)]; exact k8, by rw [t1 _ _ (by omega) (by omega)]; exact k9, by rw [t1 _ _ (by omega) (by omega)]; exact k10, fun c hc => by rw [t1 _ _ (by omega) (by omega)]; exact k11 c hc⟩
    · rw [t1 _ _ (by omega) (by omega)] at hc
      rw [t1 _ _ (by omega) (by omega)]; exact k4 c hc
    · rw [t0] at hl
      by_cases hl0 : l = T 1 0
      · rw [hl0, u4, u5, u6, t1 0 0 (by omega) (by omega)]; exact ⟨wa, wb, wne, by omega, by omega⟩
      · rw [t1 0 0 (by omega) (by omega), t1 4 l (by omega) (by omega), t1 5 l (by omega) (by omega), t1 6 l (by omega) (by omega)]; exact k5 l (by omega)
    · rw [t1 2 0 (by omega) (by omega)] at hm
      rw [t1 0 0 (by omega) (by omega), t1 7 m (by omega) (by omega), t1 8 m (by omega) (by omega)]; exact k6 m hm
    · rw [t1 0 0 (by omega) (by omega)] at hz
      rw [t1 10 0 (by omega) (by omega), t1 0 0 (by omega) (by omega)]; exact k7 hz
  · rw [t1 0 0 (by omega) (by omega)] at hz
    rw [t1 10 0 (by omega) (by omega)]; exact hh 0 (base 0 hs).1 hz
theorem ju_see {K P V : Nat → Int} {j np : Nat} {s : Nat × Int} {T : PT} {ct st : Nat → Nat} (hp : JPu K P j np s T ct st) (hh : JH s T) (h7 : ¬ 5 ≤ T 2 0) (h0 : (q_tk K k_see j).1 = 0) : JPu K P (j + 5) np (s_see P V T ct st j s) (T_see V T ct j) ct (q_ext st (T 2 0) (j + 1)) ∧ JH (s_see P V T ct st j s) (T_see V T ct j) := by
  obtain ⟨p1, p2, p3, p4, p5, p6, p7, p8⟩ := hp
  obtain ⟨l1, l2, l3⟩ := q_tk_len _ _ h0
  have k1' : K (j + 1) = 258 := l3 1 (by decide)
  have t0 : T_see V T ct j 2 0 = T 2 0 + 1 := tU_eq
  have t1 : ∀ a b, ¬ (a = 2 ∧ b = 0) → ¬ (7 ≤ a ∧ a ≤ 8 ∧ b = T 2 0) → T_see V T ct j a b = T a b := fun a b h h' => by unfold T_see; rw [tU_ne h, tU_ne (by omega), tU_ne (by omega)]
  have u7 : T_see V T ct j 7 (T 2 0) = (V (j + 2)).toNat := by unfold T_see; rw [tU_ne (by omega), tU_ne (by omega), tU_eq]
  have u8 : T_see V T ct j 8 (T 2 0) = q_ax V T ct (j + 3) := by unfold T_see; rw [tU_ne (by omega), tU_eq]
  have base : ∀ _ : Nat, (s_see P V T ct st j s).1 = 0 → s.1 = 0 ∧ ¬ (V (j + 2) < 0 ∨ 9 < V (j + 2)) ∧ q_ax V T ct (j + 3) < T 0 0 := fun _ hs => by
    obtain ⟨w1, w2, w3⟩ := q_nt_0 (by decide) hs
    obtain ⟨w4, w5, w6⟩ := q_nt_0 (by decide) w1
    obtain ⟨w7, w8, w9⟩ := q_nt_0 (by decide) w4
    have w2' := of_decide_eq_false w2
    exact ⟨w7, of_decide_eq_false w5, by omega⟩
  refine ⟨JPu.mv (T := T) (ct := ct) (st := st) (s := s) (j := j) (np := np) ?_ ?_ ?_ p4 (fun i hi => ?_) (fun i hi => ?_) ?_ (fun _ hs => ?_), fun _ hs hz => ?_⟩
  · rw [t1 _ _ (by omega) (by omega)]; exact p1
  · rw [t1 _ _ (by omega) (by omega)]; exact p2
  · rw [t0]; omega
  · rw [t1 _ _ (by omega) (by omega)] at hi
    exact ⟨by have := (p5 i hi).1; omega, (p5 i hi).2⟩
  · rw [t0] at hi
    unfold q_ext
    by_cases hi' : i = T 2 0
    · rw [if_pos hi']; exact ⟨by omega, k1'⟩
    · rw [if_neg hi']; exact ⟨by have := (p6 i (by omega)).1; omega, (p6 i (by omega)).2⟩
  · have q1 : SQ P (j + 2) (q_nt (q_dup V T ct st (j + 1)) 3 (P (j + 1)) s) := SQ.nt (SQ.mono (j := j) p7 (show j ≤ j + 1 by omega)) (Nat.le_refl _)
    have q2 : SQ P (j + 3) (q_nt (decide (V (j + 2) < 0 ∨ 9 < V (j + 2))) 5 (P (j + 2)) (q_nt (q_dup V T ct st (j + 1)) 3 (P (j + 1)) s)) := SQ.nt q1 (Nat.le_refl _)
    have q3 : SQ P (j + 4) (s_see P V T ct st j s) := SQ.nt q2 (Nat.le_refl _)
    exact q3.mono (by omega)
  · obtain ⟨w4, w2, wa⟩ := base 0 hs
    obtain ⟨k0, k2, k3, k4, k5, k6, k7, k8, k9, k10, k11⟩ := p8 0 w4
    refine ⟨by rw [t1 _ _ (by omega) (by omega)]; exact k0, by rw [t1 _ _ (by omega) (by omega)]; exact k2, by rw [t0]; omega, fun c hc => ?_, fun l hl => ?_, fun m hm => ?_, fun hz => ?_, by rw [t1 _ _ (by omega) (by omega)]; exact k8, by rw [t1 _ _ (by omega) (by omega)]; exact k9, by rw [t1 _ _ (by omega) (by omega)]; exact k10, fun c hc => by rw [t1 _ _ (by omega) (by omega)]; exact k11 c hc⟩
    · rw [t1 _ _ (by omega) (by omega)] at hc
      rw [t1 _ _ (by omega) (by omega)]; exact k4 c hc
    · rw [t1 1 0 (by omega) (by omega)] at hl
      rw [t1 0 0 (by omega) (by omega), t1 4 l (by omega) (by omega), t1 5 l (by omega) (by omega), t1 6 l (by omega) (by omega)]; exact k5 l hl
    · rw [t0] at hm
      by_cases hm0 : m = T 2 0
      · rw [hm0, u7, u8, t1 0 0 (by omega) (by omega)]; exact ⟨by omega, wa⟩
      · rw [t1 0 0 (by omega) (by omega), t1 7 m (by omega) (by omega), t1 8 m (by omega) (by omega)]; exact k6 m (by omega)
    · rw [t1 0 0 (by omega) (by omega)] at hz
      rw [t1 10 0 (by omega) (by omega), t1 0 0 (by omega) (by omega)]; exact k7 hz
  · rw [t1 0 0 (by omega) (by omega)] at hz
    rw [t1 10 0 (by omega) (by omega)]; exact hh 0 (base 0 hs).1 hz
