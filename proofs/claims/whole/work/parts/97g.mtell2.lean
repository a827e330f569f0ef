/-! tells: the model, state -/
def mal (v g i : Nat) : Prop := (g = 56 ∧ ((11 ≤ i ∧ i ≤ 16) ∨ i = 20 ∨ i = 40 ∨ i = 46 ∨ i = 50)) ∨ g = 64 ∨ g = 65 ∨ g = 90 ∨ mlh v g i ∨ ((g = 66 ∨ g = 69 ∨ g = 73 ∨ g = 74 ∨ (77 ≤ g ∧ g ≤ 80)) ∧ i = v) ∨ ((g = 67 ∨ g = 68) ∧ 7 * v ≤ i ∧ i < 7 * v + 7) ∨ (70 ≤ g ∧ g ≤ 72 ∧ 10 * v ≤ i ∧ i < 10 * v + 10) ∨ ((g = 75 ∨ g = 76) ∧ 5 * v ≤ i ∧ i < 5 * v + 5)
def KPm (v : Nat) (Y Y' : XZ) : Prop := ∀ g m i, ¬ mal v g i → Y' g m i = Y g m i
theorem KPm.rfl' {v : Nat} {Y : XZ} : KPm v Y Y := fun _ _ _ _ => rfl
theorem KPm.trans {v : Nat} {Y Y' Y'' : XZ} (h : KPm v Y Y') (h' : KPm v Y' Y'') : KPm v Y Y'' := fun g m i a => (h' g m i a).trans (h g m i a)
theorem KS.pm {v : Nat} {Y Y' : XZ} (h : KS Y Y') : KPm v Y Y' := fun g m i a => h g m i (fun e => a (.inl ⟨e.1, by omega⟩))
theorem KF.pm {v : Nat} {Y Y' : XZ} (h : KF Y Y') : KPm v Y Y' := h.ks.pm
theorem KLm.pm {v : Nat} {Y Y' : XZ} (h : KLm v Y Y') : KPm v Y Y' := fun g m i a => h g m i (fun e => a (.inl ⟨e.1, by omega⟩)) (fun e => a (.inr (.inr (.inr (.inr (.inl e)))))) (fun e => a (.inr (.inr (.inr (.inl e)))))
theorem KPm.u {v g0 i0 : Nat} {Y : XZ} {x : Int} (h : mal v g0 i0) : KPm v Y (x_u Y g0 0 i0 x) := fun g m i a => x_u_ne (fun e => a (by rw [e.1, e.2.2]; exact h))
def MCt (Y : XZ) (v np : Nat) (T : PT) : Prop := Y 66 0 v = (T 0 0 : Int) ∧ Y 69 0 v = (T 1 0 : Int) ∧ Y 74 0 v = (T 2 0 : Int) ∧ Y 73 0 v = (np : Int)
def MTd (Y : XZ) (v : Nat) (T : PT) : Prop := (Y 77 0 v = (T 10 0 : Int) ∧ Y 78 0 v = (T 11 0 : Int) ∧ Y 79 0 v = (T 12 0 : Int) ∧ Y 80 0 v = (T 13 0 : Int)) ∧ (∀ c, c < T 0 0 → Y 67 0 (7 * v + c) = (T 3 c : Int)) ∧ (∀ l, l < T 1 0 → Y 70 0 (10 * v + l) = (T 4 l : Int) ∧ Y 71 0 (10 * v + l) = (T 5 l : Int) ∧ Y 72 0 (10 * v + l) = (T 6 l : Int)) ∧ (∀ s, s < T 2 0 → Y 75 0 (5 * v + s) = (T 7 s : Int) ∧ Y 76 0 (5 * v + s) = (T 8 s : Int)) ∧ ∀ c, c < 7 → Y 68 0 (7 * v + c) = (T 9 c : Int) - 1
def JMl (Y : XZ) (v b q : Nat) (G : Nat → Option (BL × CL)) : Prop := ∀ k, k < 4 → (G k = none → Y 81 0 (4 * v + k) = 0 ∧ Y 82 0 (4 * v + k) = 0) ∧ ∀ bs fin, G k = some (bs, fin) → GL bs fin ∧ ∃ b0 b1 : Nat, Y 81 0 (4 * v + k) = (b0 : Int) ∧ Y 82 0 (4 * v + k) = (b1 : Int) ∧ b1 ≤ b ∧ (∀ i, b0 ≤ i → i < b1 → Y 87 0 i ≤ ((420 * v + q : Nat) : Int)) ∧ MLw Y v b0 b1 bs fin
def JM (Y : XZ) (K P V Nm : Nat → Int) (v j b : Nat) (cl : CL) (np : Nat) (s : Nat × Int) (T : PT) (ct st : Nat → Nat) (G : Nat → Option (BL × CL)) : Prop := TKm Y K P V Nm ∧ MQr Y K P 0 j ∧ Y 56 0 12 = 0 ∧ MC Y (420 * v) cl ∧ cl.length ≤ j ∧ Y 56 0 40 = (b : Int) ∧ 130 * v ≤ b ∧ 4 * (b - 130 * v) ≤ j ∧ Y 56 0 19 = (v : Int) ∧ MSo Y s ∧ MCt Y v np T ∧ NMs Y Nm (T 0 0) (T 2 0) ct st ∧ JMl Y v b cl.length G ∧ ∀ _ : Nat, s.1 = 0 → MTd Y v T
def KR (Y Y' : XZ) : Prop := ∀ g m i, ¬ (g = 56 ∧ (i = 11 ∨ (13 ≤ i ∧ i ≤ 16) ∨ i = 20)) → ¬ (64 ≤ g ∧ g ≤ 80) → Y' g m i = Y g m i
theorem JM.step {Y Y' : XZ} {K P V Nm : Nat → Int} {v j b np : Nat} {cl : CL} {s : Nat × Int} {T : PT} {ct st : Nat → Nat} {G : Nat → Option (BL × CL)} (hJ : JM Y K P V Nm v j b cl np s T ct st G) {j' np' : Nat} {s' : Nat × Int} {T' : PT} {ct' st' : Nat → Nat} (hk : KR Y Y') (hj : j ≤ j') (hQ : MQr Y' K P 0 j') (hS : MSo Y' s') (hC : MCt Y' v np' T') (hN : NMs Y' Nm (T' 0 0) (T' 2 0) ct' st') (hR : ∀ _ : Nat, s'.1 = 0 → MTd Y' v T') : JM Y' K P V Nm v j' b cl np' s' T' ct' st' G := by
  obtain ⟨a1, a2, a3, a4, a5, a6, a7, a8, a9, a10, a11, a12, a13, a14⟩ := hJ
  refine ⟨a1.congr (fun g i a b => hk _ _ _ (by omega) (by omega)), hQ, by rw [hk _ _ _ (by omega) (by omega)]; exact a3, a4.kx (hk _ _ _ (by omega) (by omega)) (fun i => ⟨hk _ _ _ (by omega) (by omega), hk _ _ _ (by omega) (by omega)⟩), by omega, by rw [hk _ _ _ (by omega) (by omega)]; exact a6, a7, by omega, by rw [hk _ _ _ (by omega) (by omega)]; exact a9, hS, hC, hN, fun k hk4 => ?_, hR⟩
  obtain ⟨b1, b2⟩ := a13 k hk4
  rw [hk _ _ _ (by omega) (by omega), hk _ _ _ (by omega) (by omega)]
  refine ⟨b1, fun bs fin e => ?_⟩
  obtain ⟨c1, x0, x1, c2, c3, c4, c6, c5⟩ := b2 bs fin e
  exact ⟨c1, x0, x1, c2, c3, c4, fun i p q => by rw [hk _ _ _ (by omega) (by omega)]; exact c6 i p q, c5.congr (fun g i hm => hk _ _ _ (by unfold mlh at hm; omega) (by unfold mlh at hm; omega))⟩
def q_th (K : Nat → Int) (ks : List Int) (s : Nat × Nat) : Nat × Nat := match ks with
  | [] => s
  | k :: ks => q_th K ks (q_sk K k s)
theorem q_th_f {K : Nat → Int} : ∀ (ks : List Int) (s : Nat × Nat), ¬ s.1 = 0 → q_th K ks s = s := by
  intro ks
  induction ks with
  | nil => intro s _; rfl
  | cons k ks ih => intro s h; rw [q_th, q_sk_f h]; exact ih s h
theorem q_th_tk {K : Nat → Int} : ∀ (ks : List Int) (j : Nat), q_th K ks (0, j) = q_tk K ks j := by
  intro ks
  induction ks with
  | nil => intro j; rfl
  | cons k ks ih =>
    intro j
    rw [q_th]
    by_cases h1 : K j = k
    · by_cases h2 : j < 400
      · have e : q_sk K k (0, j) = (0, j + 1) := by unfold q_sk q_go; rw [if_pos rfl, if_pos h1, if_pos rfl, if_pos h2]
        rw [e, q_tk_y h1 h2]; exact ih (j + 1)
      · have e : q_sk K k (0, j) = (2, j) := by unfold q_sk q_go; rw [if_pos rfl, if_pos h1, if_pos rfl, if_neg h2]
        rw [e, q_tk_r h1 h2]; exact q_th_f ks _ (by simp)
    · have e : q_sk K k (0, j) = (1, j) := by unfold q_sk; rw [if_pos rfl, if_neg h1]
      rw [e, q_tk_s h1]; exact q_th_f ks _ (by simp)
theorem m_room {Y : XZ} {K P V Nm : Nat → Int} {j d has most : Nat} (hT : TKm Y K P V Nm) (hQ : MQr Y K P 0 j) (hh : has ≤ most) (hm : most ≤ 20) (hK : K j ≠ 256 ∧ K j ≠ 257) (hd : 3 ≤ d) (t : Nat) (mi : Int) (hmi : mi = (most : Int)) : ∃ Y' : XZ, x_CALL d 152 [.inr (.inr (some (56, 0))), .inl ((has : Int)), .inl mi] (x_S Y t) = some (0, x_S Y' t) ∧ KF Y Y' ∧ MQr Y' K P (if most ≤ has then (2, j) else q_go (0, j)).1 (if most ≤ has then (2, j) else q_go (0, j)).2 := by
  have h13 : Y 56 0 13 = 0 := hQ.1
  subst hmi
  rw [C152 _ _ _ _ _ (by omega), cn_nt (z := (has : Int)) rfl (by omega), cn_nt (z := (most : Int)) rfl (by omega)]
  by_cases hr : most ≤ has
  · obtain ⟨Y1, e1, e2, e3⟩ := m_fail (d := d - 1) hT hQ (by omega) t 2 2 rfl (by omega)
    rw [if_pos rfl] at e2
    have i13 : Y1 56 0 13 = 2 := e2.1
    rw [if_pos (by omega), if_pos hr, e1, Option.bind_some, B152_10, i13, if_neg (by decide), B152_21]
    exact ⟨Y1, rfl, e3, e2⟩
  · obtain ⟨Y1, e1, e2, e3⟩ := m_goes1 (d := d - 1) hT hQ (fun _ => hK) (by omega) t
    rw [if_neg (by omega), if_neg hr, B152_10, h13, if_pos cn_0, e1, Option.bind_some, B152_21]
    exact ⟨Y1, rfl, e3, e2⟩
def KE (Y Y' : XZ) : Prop := ∀ g m i, ¬ (g = 56 ∧ (i = 11 ∨ i = 13 ∨ i = 14 ∨ i = 20)) → g ≠ 64 → g ≠ 65 → Y' g m i = Y g m i
theorem m_ends {Y : XZ} {K P V Nm : Nat → Int} {d tok nn : Nat} {s : Nat × Nat} (hB : KB K V) (hT : TKm Y K P V Nm) (hQ : MQr Y K P s.1 s.2) (hn : Y 56 0 20 = (nn : Int)) (hn12 : nn < 12) (htok : tok ≤ 400) (hl : ∀ _ : Nat, s.1 = 0 → LK K 0 tok ∧ K tok = 258) (hd : 4 ≤ d) (t : Nat) (at_ : Int) : ∃ Y' : XZ, x_CALL d 156 [.inr (.inr (some (56, 0))), .inl ((tok : Int)), .inl at_] (x_S Y t) = some (0, x_S Y' t) ∧ MQr Y' K P (q_sk K 59 s).1 (q_sk K 59 s).2 ∧ KE Y Y' ∧ ∀ _ : Nat, (q_sk K 59 s).1 = 0 → Y' 56 0 20 = ((nn + 1 : Nat) : Int) ∧ Y' 64 0 nn = Nm tok ∧ Y' 65 0 nn = at_ ∧ ∀ i, i ≠ nn → Y' 64 0 i = Y 64 0 i ∧ Y' 65 0 i = Y 65 0 i := by
  obtain ⟨Y1, e1, e2, e3⟩ := m_must1 (d := d - 1) hB hT hQ (by omega) t 59 4 kd59 tm59 (by omega)
  have e2' : MQr Y1 K P (q_sk K 59 s).1 (q_sk K 59 s).2 := e2
  have h13 := e2'.1
  have h132 := e2'.2.1
  have y20 : Y1 56 0 20 = (nn : Int) := by rw [e3 _ _ _ (by omega)]; exact hn
  have bn : 0 ≤ (nn : Int) ∧ (nn : Int) < 12 := by omega
  rw [C156 _ _ _ _ _ (by omega), e1, Option.bind_some, B156_5, h13, cn_nt (z := ((q_sk K 59 s).1 : Int)) rfl (by omega)]
  by_cases h0 : (q_sk K 59 s).1 = 0
  · obtain ⟨l1, l2⟩ := hl 0 (q_sk_y h0).1
    have y62 : Y1 62 0 tok = Nm tok := ((e3.tk hT) tok htok l1).2.2.2 l2
    rw [if_neg (by omega), cn_nt (z := (tok : Int)) rfl (by omega), if_pos (by omega), y20, cn_nt (z := (nn : Int)) rfl (by omega), if_pos bn, if_pos bn, Int.toNat_natCast, Int.toNat_natCast, y62]
    refine ⟨_, rfl, e2'.congr (fun i hi => by rw [x_u_ne (by omega), x_u_ne (by omega), x_u_ne (by omega)]), fun g m i a b c => by rw [x_u_ne (by omega), x_u_ne (by omega), x_u_ne (by omega)]; exact e3 _ _ _ (by omega), fun _ _ => ⟨by rw [x_u_eq]; omega, by rw [x_u_ne (by omega), x_u_ne (by omega), x_u_eq], by rw [x_u_ne (by omega), x_u_eq], fun i hi => ?_⟩⟩
    rw [x_u_ne (by omega), x_u_ne (by omega), x_u_ne (by omega), x_u_ne (by omega), x_u_ne (by omega), x_u_ne (by omega), e3 _ _ _ (by omega), e3 _ _ _ (by omega)]; exact ⟨rfl, rfl⟩
  · rw [if_pos (by omega)]
    exact ⟨Y1, rfl, e2', fun g m i a _ _ => e3 g m i (by omega), fun _ h => absurd h h0⟩
theorem NMs.corner {Y Y' : XZ} {Nm : Nat → Int} {nc ns tok : Nat} {ct st : Nat → Nat} (h : NMs Y Nm nc ns ct st) (hc : nc < 10) (h20 : Y' 56 0 20 = ((nc + ns + 1 : Nat) : Int)) (h4 : Y' 64 0 (nc + ns) = Nm tok) (h5 : Y' 65 0 (nc + ns) = (nc : Int)) (ho : ∀ i, i ≠ nc + ns → Y' 64 0 i = Y 64 0 i ∧ Y' 65 0 i = Y 65 0 i) : NMs Y' Nm (nc + 1) ns (q_ext ct nc tok) st := by
  obtain ⟨n1, n2, n3, n4, n5⟩ := h
  have ex : ∀ i, i < nc → q_ext ct nc tok i = ct i := fun i hi => if_neg (by omega)
  have en : q_ext ct nc tok nc = tok := if_pos rfl
  refine ⟨by rw [h20]; omega, fun k hk => ?_, fun i hi => ?_, fun s hs => ?_, fun k k' hkk hk' a b => ?_⟩
  · by_cases hke : k = nc + ns
    · right; exact ⟨nc, by omega, by rw [hke]; exact h5, by rw [hke, en]; exact h4⟩
    · rw [(ho k hke).1, (ho k hke).2]
      rcases n2 k (by omega) with ⟨a, s', b, c⟩ | ⟨i, a, b, c⟩
      · exact .inl ⟨a, s', b, c⟩
      · exact .inr ⟨i, by omega, b, by rw [ex i a]; exact c⟩
  · by_cases hie : i = nc
    · exact ⟨nc + ns, by omega, by rw [hie]; exact h5, by rw [hie, en]; exact h4⟩
    · obtain ⟨k, a, b, c⟩ := n3 i (by omega)
      exact ⟨k, by omega, by rw [(ho k (by omega)).2]; exact b, by rw [(ho k (by omega)).1, ex i (by omega)]; exact c⟩
  · obtain ⟨k, a, b, c⟩ := n4 s hs
    exact ⟨k, by omega, by rw [(ho k (by omega)).2]; exact b, by rw [(ho k (by omega)).1]; exact c⟩
  · by_cases hke : k' = nc + ns
    · rw [hke, h5]
      rw [(ho k (by omega)).2] at a ⊢
      rcases n2 k (by omega) with ⟨a', _⟩ | ⟨i, a', b', _⟩
      · omega
      · omega
    · rw [(ho k (by omega)).2] at a ⊢
      rw [(ho k' hke).2] at b ⊢
      exact n5 k k' hkk (by omega) a b
theorem NMs.seeker {Y Y' : XZ} {Nm : Nat → Int} {nc ns tok : Nat} {ct st : Nat → Nat} (h : NMs Y Nm nc ns ct st) (h20 : Y' 56 0 20 = ((nc + ns + 1 : Nat) : Int)) (h4 : Y' 64 0 (nc + ns) = Nm tok) (h5 : Y' 65 0 (nc + ns) = 10) (ho : ∀ i, i ≠ nc + ns → Y' 64 0 i = Y 64 0 i ∧ Y' 65 0 i = Y 65 0 i) : NMs Y' Nm nc (ns + 1) ct (q_ext st ns tok) := by
  obtain ⟨n1, n2, n3, n4, n5⟩ := h
  have ex : ∀ i, i < ns → q_ext st ns tok i = st i := fun i hi => if_neg (by omega)
  have en : q_ext st ns tok ns = tok := if_pos rfl
  refine ⟨by rw [h20]; omega, fun k hk => ?_, fun i hi => ?_, fun s hs => ?_, fun k k' hkk hk' a b => ?_⟩
  · by_cases hke : k = nc + ns
    · left; exact ⟨by rw [hke]; exact h5, ns, by omega, by rw [hke, en]; exact h4⟩
    · rw [(ho k hke).1, (ho k hke).2]
      rcases n2 k (by omega) with ⟨a, s', b, c⟩ | ⟨i, a, b, c⟩
      · exact .inl ⟨a, s', by omega, by rw [ex s' b]; exact c⟩
      · exact .inr ⟨i, a, b, c⟩
  · obtain ⟨k, a, b, c⟩ := n3 i hi
    exact ⟨k, by omega, by rw [(ho k (by omega)).2]; exact b, by rw [(ho k (by omega)).1]; exact c⟩
  · by_cases hie : s = ns
    · exact ⟨nc + ns, by omega, h5, by rw [hie, en]; exact h4⟩
    · obtain ⟨k, a, b, c⟩ := n4 s (by omega)
      exact ⟨k, by omega, by rw [(ho k (by omega)).2]; exact b, by rw [(ho k (by omega)).1, ex s (by omega)]; exact c⟩
  · by_cases hke : k' = nc + ns
    · rw [hke, h5] at b; omega
    · rw [(ho k (by omega)).2] at a ⊢
      rw [(ho k' hke).2] at b ⊢
      exact n5 k k' hkk (by omega) a b
theorem MLw.low {Y Y' : XZ} {v e q : Nat} {fin : CL} : ∀ {bs : BL} {b : Nat}, MLw Y v b e bs fin → (∀ i, b ≤ i → i < e → Y 87 0 i ≤ ((420 * v + q : Nat) : Int)) → (∀ g i, 83 ≤ g → g ≤ 87 → i < e → Y' g 0 i = Y g 0 i) → (∀ i, 420 * v ≤ i → i < 420 * v + q → Y' 88 0 i = Y 88 0 i ∧ Y' 89 0 i = Y 89 0 i) → MLw Y' v b e bs fin := by
  intro bs
  induction bs with
  | nil =>
    intro b h hq hk hc
    have hle := MLw.le h
    obtain ⟨h1, h2, h3, h4, p, h5, h6, h7, h8, h9⟩ := h
    have hb := hq b (Nat.le_refl _) hle.1
    rw [h8] at hb
    refine ⟨h1, h2, h3, by rw [hk 83 b (by omega) (by omega) hle.1]; exact h4, p, h5, h6, by rw [hk 86 b (by omega) (by omega) hle.1]; exact h7, by rw [hk 87 b (by omega) (by omega) hle.1]; exact h8, h9.congr (fun j a c => hc j (by omega) (by omega))⟩
  | cons c r ih =>
    intro b h hq hk hc
    have hle := MLw.le h
    obtain ⟨c1, c2, c3⟩ := c
    obtain ⟨⟨h2, h3, h4, p, h5, h6, h7, h8, h9, h10, h11, h12, h13⟩, hr⟩ := h
    have hb := hq b (Nat.le_refl _) hle.1
    rw [h10] at hb
    refine ⟨⟨h2, h3, by rw [hk 83 b (by omega) (by omega) hle.1]; exact h4, p, h5, h6, by rw [hk 84 b (by omega) (by omega) hle.1]; exact h7, by rw [hk 85 b (by omega) (by omega) hle.1]; exact h8, by rw [hk 86 b (by omega) (by omega) hle.1]; exact h9, by rw [hk 87 b (by omega) (by omega) hle.1]; exact h10, h11.congr (fun j a c => hc j (by omega) (by omega)), h12.congr (fun j a c => hc j (by omega) (by omega)), h13.congr (fun j a c => hc j (by omega) (by omega))⟩, ih hr (fun i a c => hq i (by omega) c) hk hc⟩
