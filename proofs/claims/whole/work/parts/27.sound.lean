/-! cells never go; ONE STEP; all steps; a method's contract -/
section
variable {st : List XV}
theorem x_1i_tt {f : Int → List XV → Prop} (h : ∀ x r, f x r) : x_1i True st f := by unfold x_1i; split; exact h _ _; trivial
theorem x_2i_tt {f : Int → Int → List XV → Prop} (h : ∀ x y r, f x y r) : x_2i True st f := by unfold x_2i; split; exact h _ _ _; trivial
theorem x_1l_tt {f : Int → List XV → Prop} (h : ∀ x r, f x r) : x_1l True st f := by unfold x_1l; split; exact h _ _; trivial
theorem x_2l_tt {f : Int → Int → List XV → Prop} (h : ∀ x y r, f x y r) : x_2l True st f := by unfold x_2l; split; exact h _ _ _; trivial
theorem x_1r_tt {f : Nat → Nat → List XV → Prop} (h : ∀ x y r, f x y r) : x_1r True st f := by unfold x_1r; split; exact h _ _ _; trivial
theorem x_1q_tt {f : Option (Nat × Nat) → List XV → Prop} (h : ∀ x r, f x r) : x_1q True st f := by unfold x_1q; split; exact h _ _; trivial
theorem x_pop_tt : ∀ (n : Nat) (st acc : List XV) (f : List XV → List XV → Prop), (∀ a r, f a r) → x_pop True n st acc f
  | 0, st, acc, f, h => by unfold x_pop; exact h _ _
  | n + 1, [], acc, f, h => by unfold x_pop; trivial
  | n + 1, v :: r, acc, f, h => by unfold x_pop; exact x_pop_tt n r (v :: acc) f h
theorem x_sw_tt (z d9 : Int) (f : Int → Prop) (h : ∀ o, f o) : ∀ (os : List Int) (lo : Int), x_sw z lo os d9 f
  | [], lo => by unfold x_sw; exact h _
  | o :: r, lo => by
    unfold x_sw
    split
    · exact h _
    · exact x_sw_tt z d9 f h r (lo + 1)
theorem x_if_tt {c : ClassFile.Cond} {x : Int} {a b : Prop} (ha : a) (hb : b) : x_if c x a b := by unfold x_if; cases c <;> dsimp only <;> split <;> assumption
theorem x_ic_tt {c : ClassFile.Cond} {x y : Int} {a b : Prop} (ha : a) (hb : b) : x_ic c x y a b := by unfold x_ic; cases c <;> dsimp only <;> split <;> assumption
theorem x_bif_tt {c : Bool} {a b : Prop} (ha : a) (hb : b) : bif c then a else b := by cases c <;> assumption
theorem x_ite_tt {P : Prop} {inst : Decidable P} {a b : Prop} (ha : a) (hb : b) : @ite Prop P inst a b := by split <;> assumption
end
set_option maxHeartbeats 4000000 in
theorem x_one_le (j pc n : Nat) (ls : XL) (st : List XV) (σ : XH) (i : Instr) : x_one True (fun _ σ' => σ.1 ≤ σ'.1) (fun _ _ _ σ' => σ.1 ≤ σ'.1) (fun _ _ σ' _ _ _ _ => σ.1 ≤ σ'.1) j pc n ls st σ i := by
  cases i <;> unfold x_one <;> dsimp only <;>
    (try unfold x_gf) <;> (try unfold x_pf) <;> (try unfold x_iv) <;> (try unfold x_is) <;> (try unfold x_ip) <;> (try unfold x_kd) <;> (try unfold x_nw) <;> (try unfold x_na) <;>
    repeat' (first
      | exact True.intro
      | exact Nat.le_refl _
      | exact Nat.le_succ _
      | refine x_1i_tt fun _ _ => ?_
      | refine x_2i_tt fun _ _ _ => ?_
      | refine x_1l_tt fun _ _ => ?_
      | refine x_2l_tt fun _ _ _ => ?_
      | refine x_1r_tt fun _ _ _ => ?_
      | refine x_1q_tt fun _ _ => ?_
      | refine x_pop_tt _ _ _ _ fun _ _ => ?_
      | refine x_sw_tt _ _ _ (fun _ => ?_) _ _
      | refine x_if_tt ?_ ?_
      | refine x_ic_tt ?_ ?_
      | refine x_bif_tt ?_ ?_
      | refine x_ite_tt ?_ ?_
      | split)
theorem x_A_le (j pc : Nat) (ls : XL) (st : List XV) (σ : XH) : x_el True (fun _ σ' => σ.1 ≤ σ'.1) (fun _ _ _ σ' => σ.1 ≤ σ'.1) (fun _ _ σ' _ _ _ _ => σ.1 ≤ σ'.1) (x_A j pc ls st σ) := by
  rw [← x_act_el]
  unfold x_act
  split
  · trivial
  · exact x_one_le j pc _ ls st σ _
theorem x_ex_le {C9 : XC} (hC : ∀ c as σ r, C9 c as σ = some r → σ.1 ≤ r.2.1) : ∀ (n j pc : Nat) (ls : XL) (st : List XV) (σ : XH) (r : Int × XH), x_ex C9 n j pc ls st σ = some r → σ.1 ≤ r.2.1 := by
  intro n
  induction n with
  | zero => intro j pc ls st σ r h; simp [x_ex] at h
  | succ n ih =>
    intro j pc ls st σ r h
    unfold x_ex at h
    rw [x_act_el] at h
    have hle := x_A_le j pc ls st σ
    revert h hle
    generalize x_A j pc ls st σ = a
    intro h hle
    match a, h, hle with
    | some (.inl (z, σ1)), h, hle =>
      have h : some (z, σ1) = some r := h
      cases h
      exact hle
    | some (.inr (.inl (pc1, ls1, st1, σ1))), h, hle => exact Nat.le_trans hle (ih _ _ _ _ _ _ h)
    | some (.inr (.inr (c, as, σ1, k, pc1, ls1, st1))), h, hle =>
      simp only [x_el, Option.bind_eq_some_iff] at h
      obtain ⟨q, h1, h2⟩ := h
      exact Nat.le_trans hle (Nat.le_trans (hC _ _ _ _ h1) (ih _ _ _ _ _ _ h2))
theorem x_ev_le : ∀ (d F c : Nat) (as : List XV) (σ : XH) (r : Int × XH), x_ev d F c as σ = some r → σ.1 ≤ r.2.1 := by
  intro d
  induction d with
  | zero => intro F c as σ r h; simp [x_ev] at h
  | succ d ih =>
    intro F c as σ r h
    unfold x_ev at h
    cases hf : x_fit c as with
    | false => rw [hf] at h; cases h
    | true => rw [hf] at h; exact x_ex_le (ih F) _ _ _ _ _ _ _ h
section
variable {p : Program} {l : Launch} {e : Env} {R : Room} {s : State} {m : MethodId} {args : Array Value} {below : List Frame} {meth : Method} {c : Code} {Q : State → Prop} {D : va_G} {S0 : Nat} {Fm : Value} {b : Nat} {adK adV : Nat → Nat} {xs : Nat → Int32} {L : Nat} {A0 : XAd} {j n0 nM d : Nat}
variable {pc : Nat} {ls : XL} {st : List XV} {σ : XH} {A : XAd} {C : XCd} {H : Heap} {locs : List Loc} {rls : Array Slot}
theorem x_kl_t {k t q : Nat} {v : Int} {f : Nat × (Nat × Int × Nat) → Bool} (h : (x_kl (x_mo j)).all f = true) (hl : x_look (x_kl (x_mo j)) k = some (t, v, q)) : f (k, (t, v, q)) = true := List.all_eq_true.mp h _ (x_look_mem _ _ _ hl)
set_option maxHeartbeats 4000000 in
theorem x_step (cx : x_Cx p R s m args meth c D S0 Fm b adK adV xs L j d) (hI : x_In s D S0 Fm b adK adV xs L A0 j n0 ls st σ A C H locs rls) (hRc : nM - n0 ≤ R.cells) (hRs : x_sz nM - x_sz n0 ≤ R.slots)
    (h : x_act False (x_KR p l e R s m args below meth c Q D S0 Fm b adK adV xs L A0 j n0) (x_KK p l e R s m args below meth c Q D S0 Fm b adK adV xs L A0 j n0 nM) (x_KC p l e R s m args below meth c Q D S0 Fm b adK adV xs L A0 j n0 nM d) j pc ls st σ) : x_WW p l e R s m args below meth c Q n0 H locs σ.1 (F0 m pc rls (st.map (x_re A Fm))) := by
  unfold x_act at h
  cases hins : x_ins j pc with
  | none => rw [hins] at h; exact h.elim
  | some pr =>
    obtain ⟨i, n⟩ := pr
    rw [hins] at h
    have hj := cx.2.2.2.2.2.2.1
    have hd := x_decode hj hins
    obtain ⟨k1, k2, k3⟩ := x_insok hj hins
    have h : x_one False (x_KR p l e R s m args below meth c Q D S0 Fm b adK adV xs L A0 j n0) (x_KK p l e R s m args below meth c Q D S0 Fm b adK adV xs L A0 j n0 nM) (x_KC p l e R s m args below meth c Q D S0 Fm b adK adV xs L A0 j n0 nM d) j pc n ls st σ i := h
    cases i with
    | iadd =>
      have e1 : n = 1 := of_decide_eq_true k1
      subst e1
      exact x_s_iadd cx hI hd h
    | isub =>
      have e1 : n = 1 := of_decide_eq_true k1
      subst e1
      exact x_s_isub cx hI hd h
    | imul =>
      have e1 : n = 1 := of_decide_eq_true k1
      subst e1
      exact x_s_imul cx hI hd h
    | idiv =>
      have e1 : n = 1 := of_decide_eq_true k1
      subst e1
      exact x_s_idiv cx hI hd h
    | irem =>
      have e1 : n = 1 := of_decide_eq_true k1
      subst e1
      exact x_s_irem cx hI hd h
    | iand =>
      have e1 : n = 1 := of_decide_eq_true k1
      subst e1
      exact x_s_iand cx hI hd h
    | ior =>
      have e1 : n = 1 := of_decide_eq_true k1
      subst e1
      exact x_s_ior cx hI hd h
    | ixor =>
      have e1 : n = 1 := of_decide_eq_true k1
      subst e1
      exact x_s_ixor cx hI hd h
    | ishl =>
      have e1 : n = 1 := of_decide_eq_true k1
      subst e1
      exact x_s_ishl cx hI hd h
    | ishr =>
      have e1 : n = 1 := of_decide_eq_true k1
      subst e1
      exact x_s_ishr cx hI hd h
    | iushr =>
      have e1 : n = 1 := of_decide_eq_true k1
      subst e1
      exact x_s_iushr cx hI hd h
    | ladd =>
      have e1 : n = 1 := of_decide_eq_true k1
      subst e1
      exact x_s_ladd cx hI hd h
    | lmul =>
      have e1 : n = 1 := of_decide_eq_true k1
      subst e1
      exact x_s_lmul cx hI hd h
    | lor =>
      have e1 : n = 1 := of_decide_eq_true k1
      subst e1
      exact x_s_lor cx hI hd h
    | lshl =>
      have e1 : n = 1 := of_decide_eq_true k1
      subst e1
      exact x_s_lshl cx hI hd h
    | lcmp =>
      have e1 : n = 1 := of_decide_eq_true k1
      subst e1
      exact x_s_lcmp cx hI hd h
    | i2l =>
      have e1 : n = 1 := of_decide_eq_true k1
      subst e1
      exact x_s_i2l cx hI hd h
    | l2i =>
      have e1 : n = 1 := of_decide_eq_true k1
      subst e1
      exact x_s_l2i cx hI hd h
    | i2b =>
      have e1 : n = 1 := of_decide_eq_true k1
      subst e1
      exact x_s_i2b cx hI hd h
    | i2c =>
      have e1 : n = 1 := of_decide_eq_true k1
      subst e1
      exact x_s_i2c cx hI hd h
    | dup =>
      have e1 : n = 1 := of_decide_eq_true k1
      subst e1
      exact x_s_dup cx hI hd h
    | dup2 =>
      have e1 : n = 1 := of_decide_eq_true k1
      subst e1
      exact x_s_dup2 cx hI hd h
    | pop =>
      have e1 : n = 1 := of_decide_eq_true k1
      subst e1
      exact x_s_pop cx hI hd h
    | iconst v =>
      have e1 : n = 1 := of_decide_eq_true k1
      subst e1
      exact x_s_iconst cx hI hd h
    | lconst v =>
      have e1 : n = 1 := of_decide_eq_true k1
      subst e1
      exact x_s_lconst cx hI hd h
    | bipush v =>
      simp only [x_iok, Bool.and_eq_true, decide_eq_true_eq] at k1
      obtain ⟨e1, e2⟩ := k1
      subst e1
      exact x_s_bipush cx hI e2 hd h
    | sipush v =>
      simp only [x_iok, Bool.and_eq_true, decide_eq_true_eq] at k1
      obtain ⟨e1, e2⟩ := k1
      subst e1
      exact x_s_sipush cx hI e2 hd h
    | iload k =>
      have e1 : n = 2 := of_decide_eq_true k1
      subst e1
      exact x_s_iload cx hI hd h
    | iload_n k =>
      have e1 : n = 1 := of_decide_eq_true k1
      subst e1
      exact x_s_iload_n cx hI hd h
    | istore k =>
      have e1 : n = 2 := of_decide_eq_true k1
      subst e1
      exact x_s_istore cx hI (of_decide_eq_true k2) hd h
    | istore_n k =>
      have e1 : n = 1 := of_decide_eq_true k1
      subst e1
      exact x_s_istore_n cx hI (of_decide_eq_true k2) hd h
    | lload k =>
      have e1 : n = 2 := of_decide_eq_true k1
      subst e1
      exact x_s_lload cx hI hd h
    | lload_n k =>
      have e1 : n = 1 := of_decide_eq_true k1
      subst e1
      exact x_s_lload_n cx hI hd h
    | lstore k =>
      have e1 : n = 2 := of_decide_eq_true k1
      subst e1
      exact x_s_lstore cx hI (of_decide_eq_true k2) hd h
    | lstore_n k =>
      have e1 : n = 1 := of_decide_eq_true k1
      subst e1
      exact x_s_lstore_n cx hI (of_decide_eq_true k2) hd h
    | aload k =>
      have e1 : n = 2 := of_decide_eq_true k1
      subst e1
      exact x_s_aload cx hI hd h
    | aload_n k =>
      have e1 : n = 1 := of_decide_eq_true k1
      subst e1
      exact x_s_aload_n cx hI hd h
    | astore k =>
      have e1 : n = 2 := of_decide_eq_true k1
      subst e1
      exact x_s_astore cx hI (of_decide_eq_true k2) hd h
    | astore_n k =>
      have e1 : n = 1 := of_decide_eq_true k1
      subst e1
      exact x_s_astore_n cx hI (of_decide_eq_true k2) hd h
    | iinc k v =>
      have e1 : n = 3 := of_decide_eq_true k1
      subst e1
      exact x_s_iinc cx hI (of_decide_eq_true k2) hd h
    | goto off =>
      simp only [x_iok, Bool.and_eq_true, decide_eq_true_eq] at k1
      obtain ⟨e1, e2⟩ := k1
      subst e1
      exact x_s_goto cx hI e2 hd h
    | ifCond k off =>
      simp only [x_iok, Bool.and_eq_true, decide_eq_true_eq] at k1
      obtain ⟨e1, e2⟩ := k1
      subst e1
      exact x_s_if cx hI e2 hd h
    | if_icmp k off =>
      simp only [x_iok, Bool.and_eq_true, decide_eq_true_eq] at k1
      obtain ⟨e1, e2⟩ := k1
      subst e1
      exact x_s_icmp cx hI e2 hd h
    | tableswitch d9 lo hi os =>
      exact x_h_sw cx hI k1 hd h
    | ireturn =>
      have e1 : n = 1 := of_decide_eq_true k1
      subst e1
      exact x_h_iret cx hI hd h
    | lreturn =>
      have e1 : n = 1 := of_decide_eq_true k1
      subst e1
      exact x_h_lret cx hI hd h
    | return_ =>
      have e1 : n = 1 := of_decide_eq_true k1
      subst e1
      exact x_h_vret cx hI hd h
    | arraylength =>
      have e1 : n = 1 := of_decide_eq_true k1
      subst e1
      exact x_h_alen cx hI hd h
    | aastore =>
      have e1 : n = 1 := of_decide_eq_true k1
      subst e1
      exact x_h_aast cx hI hd h
    | iaload =>
      have e1 : n = 1 := of_decide_eq_true k1
      subst e1
      obtain ⟨z, r, hst1, h⟩ := x_1i_ff h
      obtain ⟨g, i, r, hst2, h⟩ := x_1r_ff h
      have hst : st = .inl z :: .inr (.inr (some (g, i))) :: r := by rw [hst1, hst2]
      cases hb1 : Nat.beq (x_sh g).1 1 with
      | true => rw [hb1] at h; exact x_h_iald cx hI hd hst (x_beq hb1) h
      | false =>
        rw [hb1] at h
        obtain ⟨hb2, h⟩ := x_bif_ff h
        exact x_h_sald cx hI hd hst (x_beq hb2) h
    | baload =>
      have e1 : n = 1 := of_decide_eq_true k1
      subst e1
      obtain ⟨z, r, hst1, h⟩ := x_1i_ff h
      obtain ⟨g, i, r, hst2, h⟩ := x_1r_ff h
      have hst : st = .inl z :: .inr (.inr (some (g, i))) :: r := by rw [hst1, hst2]
      cases hb1 : (Nat.beq (x_sh g).1 2 || Nat.beq (x_sh g).1 3) with
      | true =>
        rw [hb1] at h
        rw [Bool.or_eq_true] at hb1
        rcases hb1 with hb1 | hb1
        · exact x_h_bald cx hI hd hst (x_beq hb1) h
        · exact x_h_zald cx hI hd hst (x_beq hb1) h
      | false =>
        rw [hb1] at h
        obtain ⟨hb2, h⟩ := x_bif_ff h
        exact x_h_tald cx hI hd hst (x_beq hb2) h
    | laload =>
      have e1 : n = 1 := of_decide_eq_true k1
      subst e1
      obtain ⟨z, r, hst1, h⟩ := x_1i_ff h
      obtain ⟨g, i, r, hst2, h⟩ := x_1r_ff h
      have hst : st = .inl z :: .inr (.inr (some (g, i))) :: r := by rw [hst1, hst2]
      obtain ⟨hb2, h⟩ := x_bif_ff h
      exact x_h_lald cx hI hd hst (x_beq hb2) h
    | aaload =>
      have e1 : n = 1 := of_decide_eq_true k1
      subst e1
      obtain ⟨z, r, hst1, h⟩ := x_1i_ff h
      obtain ⟨g, i, r, hst2, h⟩ := x_1r_ff h
      have hst : st = .inl z :: .inr (.inr (some (g, i))) :: r := by rw [hst1, hst2]
      obtain ⟨hb2, h⟩ := x_bif_ff h
      exact x_h_aald cx hI hd hst (x_beq hb2) h
    | iastore =>
      have e1 : n = 1 := of_decide_eq_true k1
      subst e1
      obtain ⟨v, r, hst0, h⟩ := x_1i_ff h
      obtain ⟨z, r, hst1, h⟩ := x_1i_ff h
      obtain ⟨g, i, r, hst2, h⟩ := x_1r_ff h
      have hst : st = .inl v :: .inl z :: .inr (.inr (some (g, i))) :: r := by rw [hst0, hst1, hst2]
      obtain ⟨hb2, h⟩ := x_bif_ff h
      exact x_h_iast cx hI hd hst (x_beq hb2) h
    | bastore =>
      have e1 : n = 1 := of_decide_eq_true k1
      subst e1
      obtain ⟨v, r, hst0, h⟩ := x_1i_ff h
      obtain ⟨z, r, hst1, h⟩ := x_1i_ff h
      obtain ⟨g, i, r, hst2, h⟩ := x_1r_ff h
      have hst : st = .inl v :: .inl z :: .inr (.inr (some (g, i))) :: r := by rw [hst0, hst1, hst2]
      cases hb1 : Nat.beq (x_sh g).1 2 with
      | true => rw [hb1] at h; exact x_h_bast cx hI hd hst (x_beq hb1) h
      | false =>
        rw [hb1] at h
        obtain ⟨hb2, h⟩ := x_bif_ff h
        exact x_h_zast cx hI hd hst (x_beq hb2) h
    | lastore =>
      have e1 : n = 1 := of_decide_eq_true k1
      subst e1
      obtain ⟨v, r, hst0, h⟩ := x_1l_ff h
      obtain ⟨z, r, hst1, h⟩ := x_1i_ff h
      obtain ⟨g, i, r, hst2, h⟩ := x_1r_ff h
      have hst : st = .inr (.inl v) :: .inl z :: .inr (.inr (some (g, i))) :: r := by rw [hst0, hst1, hst2]
      obtain ⟨hb2, h⟩ := x_bif_ff h
      exact x_h_last cx hI hd hst (x_beq hb2) h
    | getfield k =>
      have e1 : n = 3 := of_decide_eq_true k1
      subst e1
      exact x_h_get cx hI hd h
    | putfield k =>
      have e1 : n = 3 := of_decide_eq_true k1
      subst e1
      exact x_h_put cx hI hd h
    | getstatic k =>
      have e1 : n = 3 := of_decide_eq_true k1
      subst e1
      exact x_h_gets cx hI hd h
    | ldc k =>
      have e1 : n = 2 := of_decide_eq_true k1
      subst e1
      exact x_h_ldc cx hI hd h (fun t v q hl => of_decide_eq_true (x_kl_t k3 hl) rfl)
    | ldc_w k =>
      have e1 : n = 3 := of_decide_eq_true k1
      subst e1
      exact x_h_ldcw cx hI hd h (fun t v q hl => of_decide_eq_true (x_kl_t k3 hl) rfl)
    | ldc2_w k =>
      have e1 : n = 3 := of_decide_eq_true k1
      subst e1
      exact x_h_ldc2 cx hI hd h (fun t v q hl => of_decide_eq_true (x_kl_t k3 hl) rfl)
    | invokevirtual k =>
      have e1 : n = 3 := of_decide_eq_true k1
      subst e1
      exact x_h_iv cx hI hRc hRs hd h
    | invokestatic k =>
      have e1 : n = 3 := of_decide_eq_true k1
      subst e1
      exact x_h_is cx hI hRc hRs hd h
    | invokespecial k =>
      have e1 : n = 3 := of_decide_eq_true k1
      subst e1
      exact x_h_ip cx hI hRc hRs hd h
    | new k =>
      have e1 : n = 3 := of_decide_eq_true k1
      subst e1
      exact x_h_new cx hI hRc hRs hd h
    | newarray a =>
      have e1 : n = 2 := of_decide_eq_true k1
      subst e1
      cases a with
      | int => exact x_h_nai cx hI hRc hRs hd h
      | byte => exact x_h_nab cx hI hRc hRs hd h
      | boolean => exact x_h_naz cx hI hRc hRs hd h
      | long => exact x_h_nal cx hI hRc hRs hd h
      | _ =>
        exfalso
        have h : x_na False (x_KK p l e R s m args below meth c Q D S0 Fm b adK adV xs L A0 j n0 nM) pc 2 99 ls σ st := h
        unfold x_na at h
        obtain ⟨mm, r, -, h⟩ := x_1i_ff h
        try simp only [] at h
        split at h
        · rename_i g i hq
          obtain ⟨hb1, -⟩ := x_bif_ff h
          have t1 := x_beq hb1
          rw [x_nx_get] at hq
          have := (x_tagok _ (List.mem_of_getElem? hq)).1
          have t1 : (x_sh g).1 = 99 := t1
          have this : (x_sh g).1 ≤ 5 := this
          omega
        · exact h
    | anewarray k =>
      have e1 : n = 3 := of_decide_eq_true k1
      subst e1
      obtain ⟨hb1, h⟩ := x_bif_ff h
      refine x_h_naq cx hI hRc hRs ?_ hd h
      cases hlk : x_look (x_nl (x_mo j)) k with
      | none => rw [hlk] at hb1; cases hb1
      | some ent =>
        obtain ⟨ci, pp⟩ := ent
        rw [hlk] at hb1
        have t1 : ci = 4 := x_beq hb1
        subst t1
        have hok := List.all_eq_true.mp (x_nl_ok (x_mo j) (x_mo_lt hj)) _ (x_look_mem _ _ _ hlk)
        unfold x_nlok at hok
        simp only [Bool.and_eq_true, decide_eq_true_eq] at hok
        exact cx.2.2.2.2.1 _ (x_word hok.1.1.2 (by rfl))
    | _ => exact (show False from h).elim
end
