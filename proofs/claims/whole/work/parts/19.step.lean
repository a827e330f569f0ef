/-! ONE STEP: what our machine does, the machine does -/
def x_Cx (p : Program) (R : Room) (s : State) (m : MethodId) (args : Array Value) (meth : Method) (c : Code) (D : va_G) (S0 : Nat) (Fm : Value) (b : Nat) (adK adV : Nat → Nat) (xs : Nat → Int32) (L j d : Nat) : Prop :=
  p.tables.exec = Jvm.exec ∧ c.code = x_b j ∧ c.maxLocals = x_mx j ∧ s.vm.findClass (x_nm (x_mo j)) = some m.cls ∧ (∀ w ∈ x_tbl, w.before args s = true) ∧ x_St D S0 Fm b adK adV xs L s ∧ j < 262 ∧ (x_mq j = 2 → meth.name = "<init>") ∧ d + 1 ≤ R.frames ∧ 40 * (d + 1) ≤ R.locals ∧ Fm.category = 1
section
variable (p : Program) (l : Launch) (e : Env) (R : Room) (s : State) (m : MethodId) (args : Array Value) (below : List Frame) (meth : Method) (c : Code) (Q : State → Prop) (D : va_G) (S0 : Nat) (Fm : Value) (b : Nat) (adK adV : Nat → Nat) (xs : Nat → Int32) (L : Nat) (A0 : XAd) (j n0 nM : Nat)
abbrev x_WW (H : Heap) (locs : List Loc) (n : Nat) (g : JFrame) : Prop := W p l e R s m args below meth c H locs (n - n0) (x_sz n - x_sz n0) Q g
def x_KK (pc : Nat) (ls : XL) (st : List XV) (σ : XH) : Prop := σ.1 ≤ nM ∧ ∀ (A : XAd) (C : XCd) (H : Heap) (locs : List Loc) (rls : Array Slot), (∀ q, x_vl n0 q → A q = A0 q) → x_Dy D S0 Fm b adK adV xs L A C σ s H → va_S (x_F S0) s.heap H locs → x_Ls σ.1 A Fm ls rls (x_mx j) → x_Sk σ.1 st → x_WW p l e R s m args below meth c Q n0 H locs σ.1 (F0 m pc rls (st.map (x_re A Fm)))
def x_ri (k : Nat) : Instr := match k with
  | 0 => .return_
  | 2 => .lreturn
  | _ => .ireturn
def x_zok (k : Nat) (z : Int) : Prop := match k with
  | 3 => z = 0 ∨ z = 1
  | 4 => -128 ≤ z ∧ z < 128
  | 5 => 0 ≤ z ∧ z < 65536
  | _ => True
def x_KR (z : Int) (σ : XH) : Prop := ∀ (A : XAd) (C : XCd) (H : Heap) (locs : List Loc) (rls : Array Slot) (pc : Nat), (∀ q, x_vl n0 q → A q = A0 q) → x_Dy D S0 Fm b adK adV xs L A C σ s H → va_S (x_F S0) s.heap H locs → decode (x_b j) pc = .ok (x_ri (x_mk j), 1) → x_zok (x_mk j) z → x_WW p l e R s m args below meth c Q n0 H locs σ.1 (F0 m pc rls ((x_psh (x_mk j) z []).map (x_re A Fm)))
end
/-- a method's answer -/
def x_Qc (D : va_G) (S0 : Nat) (Fm : Value) (b : Nat) (adK adV : Nat → Nat) (xs : Nat → Int32) (L k n : Nat) (A : XAd) (r : Int) (σ : XH) : Array Value → State → Outcome → State → Prop := match k with
  | 0 => va_Qv (S := XAd × XCd) (fun u => ∀ q, x_vl n q → u.1 q = A q) (fun u t => x_Dy D S0 Fm b adK adV xs L u.1 u.2 σ t t.heap) (x_F S0)
  | 2 => va_Ql (S := XAd × XCd) (fun z u => z = Int64.ofInt r ∧ ∀ q, x_vl n q → u.1 q = A q) (fun u t => x_Dy D S0 Fm b adK adV xs L u.1 u.2 σ t t.heap) (x_F S0)
  | _ => va_Qi (S := XAd × XCd) (fun z u => z = Int32.ofInt r ∧ ∀ q, x_vl n q → u.1 q = A q) (fun u t => x_Dy D S0 Fm b adK adV xs L u.1 u.2 σ t t.heap) (x_F S0)
def x_Pc (D : va_G) (S0 : Nat) (Fm : Value) (b : Nat) (adK adV : Nat → Nat) (xs : Nat → Int32) (L : Nat) (A : XAd) (C : XCd) (as : List XV) (σ : XH) : Array Value → State → Prop := va_Pc (as.map (x_re A Fm)) fun U => x_St D S0 Fm b adK adV xs L U ∧ x_Dy D S0 Fm b adK adV xs L A C σ U U.heap
def x_rm (d mc ms : Nat) : Room := { frames := d, cells := mc, slots := ms, locals := 40 * d }
def x_CM (l : Launch) (D : va_G) (S0 : Nat) (Fm : Value) (b : Nat) (adK adV : Nat → Nat) (xs : Nat → Int32) (L d c : Nat) (as : List XV) (σ : XH) (r : Int) (σ' : XH) : Prop :=
  σ.1 ≤ σ'.1 ∧ ∀ (A : XAd) (C : XCd), x_Sk σ.1 as → Met l (x_y c) (Cond.code (x_y c) (x_b c) (x_mx c) (x_rt c) :: x_tbl) (x_rm d (σ'.1 - σ.1) (x_sz σ'.1 - x_sz σ.1)) (x_Pc D S0 Fm b adK adV xs L A C as σ) (x_Qc D S0 Fm b adK adV xs L (x_mk c) σ.1 A r σ') (σ'.1 - σ.1) (x_sz σ'.1 - x_sz σ.1) (x_F S0)
section
variable {p : Program} {l : Launch} {e : Env} {R : Room} {s : State} {m : MethodId} {args : Array Value} {below : List Frame} {meth : Method} {c : Code} {Q : State → Prop} {D : va_G} {S0 : Nat} {Fm : Value} {b : Nat} {adK adV : Nat → Nat} {xs : Nat → Int32} {L : Nat} {A0 : XAd} {j n0 nM d : Nat}
theorem x_Pc_blind (A : XAd) (C : XCd) (as : List XV) (σ : XH) : FrameBlind (x_Pc D S0 Fm b adK adV xs L A C as σ) := by
  intro a U g mk h
  obtain ⟨h1, h2, h3⟩ := h
  exact ⟨h1, h2.calling g mk a, x_Dy.moved (u := U) (U := U.calling g mk a) (Vm.Alike.refl U.vm) h3⟩
/-- behind a call -/
theorem x_after {k pc : Nat} {ls : XL} {st : List XV} {σ σ' : XH} {r : Int} {A : XAd} {C : XCd} {H : Heap} {locs : List Loc} {rls : Array Slot} {st0 : List Value} {a : Array Value}
    (hn : n0 ≤ σ.1) (hAg : ∀ q, x_vl n0 q → A q = A0 q) (hle : σ.1 ≤ σ'.1) (hDy : x_Dy D S0 Fm b adK adV xs L A C σ s H) (hS : va_S (x_F S0) s.heap H locs) (hLs : x_Ls σ.1 A Fm ls rls (x_mx j)) (hSk : x_Sk σ.1 st)
    (hr : va_Run p l e R s m args below meth c H locs (σ.1 - n0) (x_sz σ.1 - x_sz n0) (σ'.1 - σ.1) (x_sz σ'.1 - x_sz σ.1) (F0 m pc rls st0) (st.map (x_re A Fm)) (x_Qc D S0 Fm b adK adV xs L k σ.1 A r σ' a) (x_F S0))
    (hk : x_KK p l e R s m args below meth c Q D S0 Fm b adK adV xs L A0 j n0 nM (pc + 3) ls (x_psh k r st) σ') : x_WW p l e R s m args below meth c Q n0 H locs σ.1 (F0 m pc rls st0) := by
  have e1 : (σ.1 - n0) + (σ'.1 - σ.1) = σ'.1 - n0 := by omega
  have e2 : (x_sz σ.1 - x_sz n0) + (x_sz σ'.1 - x_sz σ.1) = x_sz σ'.1 - x_sz n0 := by
    have := x_sz_mono hn
    have := x_sz_mono hle
    omega
  have fin : ∀ (u : XAd × XCd) (t : State) (H1 : Heap) (locs1 : List Loc), t.heap = H1 → s.vm.Alike t.vm → (∀ q, x_vl σ.1 q → u.1 q = A q) → x_Dy D S0 Fm b adK adV xs L u.1 u.2 σ' t t.heap → va_S (x_F S0) s.heap H1 locs1 → x_Sk σ'.1 (x_psh k r st) → W p l e R s m args below meth c H1 locs1 ((σ.1 - n0) + (σ'.1 - σ.1)) ((x_sz σ.1 - x_sz n0) + (x_sz σ'.1 - x_sz σ.1)) Q (F0 m (pc + 3) rls ((x_psh k r st).map (x_re u.1 Fm))) := by
    intro u t H1 locs1 ht hvm hag hD1 hS1 hSk1
    rw [e1, e2]
    rw [ht] at hD1
    exact hk.2 u.1 u.2 H1 locs1 rls (fun q hq => (hag q (hq.mono hn)).trans (hAg q hq)) (hD1.moved hvm.symm) hS1 (hLs.agree hle hag) hSk1
  have hSk' : x_Sk σ'.1 st := fun v hv => (hSk v hv).mono hle
  unfold x_WW
  match k, hr, fin with
  | 0, hr, fin =>
    refine va_callv (a := a) hr hS (fun q _ h => h) (fun q h => h) (fun u t H1 locs1 ht hvm hp hB _ _ hS1 => ?_)
    have := fin u t H1 locs1 ht hvm hp hB hS1 hSk'
    rw [show (x_psh 0 r st).map (x_re u.1 Fm) = st.map (x_re A Fm) from x_map_agree hSk hp] at this
    exact this
  | 2, hr, fin =>
    refine va_calll (a := a) hr hS (fun q _ h => h) (fun q h => h) (fun z u t H1 locs1 ht hvm hp hB _ _ hS1 => ?_)
    obtain ⟨rfl, hp⟩ := hp
    have := fin u t H1 locs1 ht hvm hp hB hS1 (x_Sk.l hSk')
    rw [show (x_psh 2 r st).map (x_re u.1 Fm) = .long (Int64.ofInt r) :: st.map (x_re u.1 Fm) from rfl, x_map_agree hSk hp] at this
    exact this
  | 1, hr, fin =>
    refine va_calli (a := a) hr hS (fun q _ h => h) (fun q h => h) (fun z u t H1 locs1 ht hvm hp hB _ _ hS1 => ?_)
    obtain ⟨rfl, hp⟩ := hp
    have := fin u t H1 locs1 ht hvm hp hB hS1 (x_Sk.i hSk')
    rw [show (x_psh 1 r st).map (x_re u.1 Fm) = .int (Int32.ofInt r) :: st.map (x_re u.1 Fm) from rfl, x_map_agree hSk hp] at this
    exact this
  | k + 3, hr, fin =>
    refine va_calli (a := a) hr hS (fun q _ h => h) (fun q h => h) (fun z u t H1 locs1 ht hvm hp hB _ _ hS1 => ?_)
    obtain ⟨rfl, hp⟩ := hp
    have := fin u t H1 locs1 ht hvm hp hB hS1 (x_Sk.i hSk')
    rw [show (x_psh (k + 3) r st).map (x_re u.1 Fm) = .int (Int32.ofInt r) :: st.map (x_re u.1 Fm) from rfl, x_map_agree hSk hp] at this
    exact this
end
