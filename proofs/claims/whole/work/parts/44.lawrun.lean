/-! the law, walked: what is left is about our machine alone -/
theorem x_szNC : x_sz x_NC ≤ 100000 := by decide +kernel
theorem x_lawj : x_mq 0 = 0 ∧ x_mk 0 = 3 ∧ x_mx 0 = 4 ∧ x_nm (x_mo 0) = R_law := by decide +kernel
set_option maxRecDepth 20000 in
set_option maxHeartbeats 2000000 in
theorem x_lawrun {p : Program} {e : Env} {s : State} {m : MethodId} {below : List Frame} {meth : Method} {c : Code} (l : Launch) {b L : Nat} {xs : Nat → Int32} (C0 : lw_At p s m meth c b L xs)
    (hpure : ∀ zf : XZ, x_Ini zf → ∃ (Zf : XZ) (tf : Nat), x_EX 60 0 18 [some (.inr (.inr (some (900, 0)))), some (.inr (.inr (some (0, 0)))), some (.inr (.inr (some (56, 0)))), some (.inl 0)] [] (x_S (x_Zi zf xs L) 1) = some (1, x_S Zf tf)) :
    W p l e room_1 s m #[Value.ref b] below meth c s.heap [] 0 0 (lw_Z below #[Value.ref b] s) (entryFrame m ([Value.ref b] : List Value).toArray 4) := by
  obtain ⟨hx, hb, hr, hml, hown, hts, hX, hbl, hlocks, hgv⟩ := C0
  obtain ⟨D, Fm, adK, adV, hF, hSt⟩ := x_start hts hgv hX hbl
  obtain ⟨z1, z2, ⟨n1, w1⟩, ⟨n2, zf, R2⟩, h1, hn1, h2, hn2, hR, hI⟩ := x_ctor
  have hn1 : n1 = 207 := hn1
  have hn2 : n2 = x_NC := hn2
  subst hn1
  subst hn2
  obtain ⟨Zf, tf, hE⟩ := hpure zf hI
  obtain ⟨F, hE⟩ := (x_EX_iff _).mp hE
  obtain ⟨A0, hA0⟩ : ∃ A0 : XAd, A0 = fun q => if q.1 = 901 then adK q.2 else if q.1 = 902 then adV q.2 else b := ⟨_, rfl⟩
  have cx : x_Cx p room_1 s m #[Value.ref b] meth c D s.heap.size Fm b adK adV xs L 0 60 := ⟨hx, hb, hml.trans x_lawj.2.2.1.symm, by rw [x_lawj.2.2.2]; exact hown, fun w hw => hts w (by unfold x_tbl at hw; exact (List.mem_filter.mp hw).1), hSt, by decide, (fun q => by rw [x_lawj.1] at q; cases q), by decide, by decide, hF⟩
  have hRc : x_NC - 0 ≤ room_1.cells := by decide +kernel
  have hRs : x_sz x_NC - x_sz 0 ≤ room_1.slots := Nat.le_trans (Nat.sub_le _ _) (Nat.le_trans x_szNC (by decide))
  have hC : ∀ (F c9 : Nat) (as : List XV) (σ : XH) (r : Int × XH), x_ev 60 F c9 as σ = some r → x_CM l D s.heap.size Fm b adK adV xs L 60 c9 as σ r.1 r.2 := fun F => x_met hF 60 F
  have hKR : x_KR p l e room_1 s m #[Value.ref b] below meth c (lw_Z below #[Value.ref b] s) D s.heap.size Fm b adK adV xs L A0 0 0 1 (x_S Zf tf) := by
    intro A' C' H' locs' rls' pc' hAg' hDy' hS' hdec hz
    rw [x_lawj.2.1] at hdec
    rw [x_lawj.2.1]
    show W p l e room_1 s m #[Value.ref b] below meth c H' locs' (x_NC - 0) (x_sz x_NC - x_sz 0) (lw_Z below #[Value.ref b] s) (F0 m pc' rls' [.int 1])
    refine va_forget (fun q hq => hS'.2.2 q hq) ?_
    refine W.widen (k := 600000) (n := 7302250) (by decide +kernel) (Nat.le_trans (Nat.sub_le _ _) (Nat.le_trans x_szNC (by decide))) ?_
    exact lw_ret hx hb hr hlocks hdec
  have K0 : x_KK p l e room_1 s m #[Value.ref b] below meth c (lw_Z below #[Value.ref b] s) D s.heap.size Fm b adK adV xs L A0 0 0 x_NC 18 [some (.inr (.inr (some (900, 0)))), some (.inr (.inr (some (0, 0)))), some (.inr (.inr (some (56, 0)))), some (.inl 0)] [] (x_S (x_Zi zf xs L) 1) := x_run (C9 := x_ev 60 F) (r := (1, x_S Zf tf)) cx hRc hRs (hC F) hKR rfl F 18 _ _ _ (Nat.zero_le _) hE
  have K18 : x_KK p l e room_1 s m #[Value.ref b] below meth c (lw_Z below #[Value.ref b] s) D s.heap.size Fm b adK adV xs L A0 0 0 x_NC 18 [some (.inr (.inr (some (900, 0)))), some (.inr (.inr (some (0, 0)))), some (.inr (.inr (some (56, 0)))), some (.inl 0)] [] (x_NC, (zf, R2)) := ⟨Nat.le_refl _, fun A C H locs rls hAg hDy hS hLs hSk => K0.2 A C H locs rls hAg (x_Dy_swap hR hDy) hS hLs hSk⟩
  have K17 : x_KK p l e room_1 s m #[Value.ref b] below meth c (lw_Z below #[Value.ref b] s) D s.heap.size Fm b adK adV xs L A0 0 0 x_NC 17 [some (.inr (.inr (some (900, 0)))), some (.inr (.inr (some (0, 0)))), some (.inr (.inr (some (56, 0)))), none] [.inl 0] (x_NC, (zf, R2)) := x_KK_of cx hRc hRs (Nat.zero_le _) (Nat.le_refl _) K18
  have K16 : x_KK p l e room_1 s m #[Value.ref b] below meth c (lw_Z below #[Value.ref b] s) D s.heap.size Fm b adK adV xs L A0 0 0 x_NC 16 [some (.inr (.inr (some (900, 0)))), some (.inr (.inr (some (0, 0)))), some (.inr (.inr (some (56, 0)))), none] [] (x_NC, (zf, R2)) := x_KK_of cx hRc hRs (Nat.zero_le _) (Nat.le_refl _) K17
  have K15 : x_KK p l e room_1 s m #[Value.ref b] below meth c (lw_Z below #[Value.ref b] s) D s.heap.size Fm b adK adV xs L A0 0 0 x_NC 15 [some (.inr (.inr (some (900, 0)))), some (.inr (.inr (some (0, 0)))), none, none] [.inr (.inr (some (56, 0)))] (x_NC, (zf, R2)) := x_KK_of cx hRc hRs (Nat.zero_le _) (Nat.le_refl _) K16
  have K12 : x_KK p l e room_1 s m #[Value.ref b] below meth c (lw_Z below #[Value.ref b] s) D s.heap.size Fm b adK adV xs L A0 0 0 x_NC 12 [some (.inr (.inr (some (900, 0)))), some (.inr (.inr (some (0, 0)))), none, none] [.inr (.inr (some (56, 0))), .inr (.inr (some (56, 0)))] (208, w1) := x_KK_of cx hRc hRs (Nat.zero_le _) (show (208 : Nat) ≤ x_NC by decide +kernel) ⟨z2, (x_NC, (zf, R2)), hC 3000 132 _ _ _ h2, K15⟩
  have K11 : x_KK p l e room_1 s m #[Value.ref b] below meth c (lw_Z below #[Value.ref b] s) D s.heap.size Fm b adK adV xs L A0 0 0 x_NC 11 [some (.inr (.inr (some (900, 0)))), some (.inr (.inr (some (0, 0)))), none, none] [.inr (.inr (some (56, 0)))] (208, w1) := x_KK_of cx hRc hRs (Nat.zero_le _) (show (208 : Nat) ≤ x_NC by decide +kernel) K12
  have K8 : x_KK p l e room_1 s m #[Value.ref b] below meth c (lw_Z below #[Value.ref b] s) D s.heap.size Fm b adK adV xs L A0 0 0 x_NC 8 [some (.inr (.inr (some (900, 0)))), some (.inr (.inr (some (0, 0)))), none, none] [] (207, w1) := x_KK_of cx hRc hRs (Nat.zero_le _) (show (207 : Nat) ≤ x_NC by decide +kernel) K11
  have K7 : x_KK p l e room_1 s m #[Value.ref b] below meth c (lw_Z below #[Value.ref b] s) D s.heap.size Fm b adK adV xs L A0 0 0 x_NC 7 [some (.inr (.inr (some (900, 0)))), none, none, none] [.inr (.inr (some (0, 0)))] (207, w1) := x_KK_of cx hRc hRs (Nat.zero_le _) (show (207 : Nat) ≤ x_NC by decide +kernel) K8
  have K4 : x_KK p l e room_1 s m #[Value.ref b] below meth c (lw_Z below #[Value.ref b] s) D s.heap.size Fm b adK adV xs L A0 0 0 x_NC 4 [some (.inr (.inr (some (900, 0)))), none, none, none] [.inr (.inr (some (0, 0))), .inr (.inr (some (0, 0)))] (1, (fun _ _ _ => 0, fun _ _ _ => none)) := x_KK_of cx hRc hRs (Nat.zero_le _) (show (1 : Nat) ≤ x_NC by decide +kernel) ⟨z1, (207, w1), hC 3000 81 _ _ _ h1, K7⟩
  have K3 : x_KK p l e room_1 s m #[Value.ref b] below meth c (lw_Z below #[Value.ref b] s) D s.heap.size Fm b adK adV xs L A0 0 0 x_NC 3 [some (.inr (.inr (some (900, 0)))), none, none, none] [.inr (.inr (some (0, 0)))] (1, (fun _ _ _ => 0, fun _ _ _ => none)) := x_KK_of cx hRc hRs (Nat.zero_le _) (show (1 : Nat) ≤ x_NC by decide +kernel) K4
  have Kb : x_KK p l e room_1 s m #[Value.ref b] below meth c (lw_Z below #[Value.ref b] s) D s.heap.size Fm b adK adV xs L A0 0 0 x_NC 0 [some (.inr (.inr (some (900, 0)))), none, none, none] [] (0, (fun _ _ _ => 0, fun _ _ _ => none)) := x_KK_of cx hRc hRs (Nat.zero_le _) (Nat.zero_le _) K3
  have hDy0 : x_Dy D s.heap.size Fm b adK adV xs L A0 (fun _ => m.cls) (0, (fun _ _ _ => 0, fun _ _ _ => none)) s s.heap := by
    refine ⟨fun n hn => absurd hn (Nat.not_lt_zero _), fun k q h => by simp [x_wl] at h, ⟨fun i j p q h => by simp [x_wl] at h, fun k q h => by simp [x_wl] at h⟩, fun n hn => absurd hn (Nat.not_lt_zero _), fun n _ _ k => ⟨rfl, rfl⟩, fun h => absurd h (by decide), Nat.zero_le _, ?_⟩
    subst hA0
    exact ⟨rfl, fun i hi => ⟨rfl, rfl⟩⟩
  have hre : ([.inr (.inr (some (900, 0)))] : List XV).map (x_re A0 Fm) = [Value.ref b] := by subst hA0; rfl
  have hLs0 := x_ent_Ls (A := A0) (Fm := Fm) (nC := 0) (j := 0) (as := [.inr (.inr (some (900, 0)))]) hF (by decide +kernel) (fun v hv q hq => by
    rw [List.mem_singleton.mp hv] at hq
    cases hq
    exact Or.inr (Or.inl rfl))
  rw [hre] at hLs0
  rw [lg_entry_eq]
  have hfin := Kb.2 A0 (fun _ => m.cls) s.heap [] _ (fun _ _ => rfl) hDy0 va_S.rf hLs0 (fun v hv => by cases hv)
  exact hfin
