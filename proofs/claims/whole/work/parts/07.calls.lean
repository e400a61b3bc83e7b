/-! CONTRACTS: a method y, called with avs in the world (σ, τ), does what the expression ex says -/
def cl_R (n : Nat) : Room := { frames := n, cells := 0, slots := 0, locals := 40 * n }
def cl_P (G : wd_G) (σ : hp_I) (τ : hp_L) : State → Prop := fun U => va_P (wd_D G) vwCl (wd_W G σ τ) U.heap ∧ va_K (wd_D G) vwCl (wd_T G) U ∧ wd_S G U
def cl_Q (G : wd_G) (v : Option Value) (σ : hp_I) (τ : hp_L) : Array Value → State → Outcome → State → Prop := fun _ st o t => o = .returned v ∧ va_P (wd_D G) vwCl (wd_W G σ τ) t.heap ∧ va_F (wd_A G) st t
def cl_C {ρ : Type} (G : wd_G) (l : Launch) (n : Nat) (y : MethodName) (cy : ByteArray) (ml : Nat) (ret : Option FieldType) (avs : List Value) (σ : hp_I) (τ : hp_L) (I : ρ → Option Value × hp_I × hp_L) (ex : Option ρ) : Prop :=
  ∀ r, ex = some r → Met l y (Cond.code y cy ml ret :: gw_tbl) (cl_R n) (va_Pc avs (cl_P G σ τ)) (cl_Q G (I r).1 (I r).2.1 (I r).2.2) 0 0 (wd_A G)
def cl_M {ρ : Type} (G : wd_G) (M : wd_M) (I : ρ → Option Value × hp_I × hp_L) : ρ → State → Prop := fun r => MQ (mx_B M) (cl_Q G (I r).1 (I r).2.1 (I r).2.2) (mx_A M) (mx_S M) 0 0 (wd_A G)
/-! what a method gives: an int; an int and the ints of the heap; the heap's ints; a long; .. -/
def ci_i (σ : hp_I) (τ : hp_L) : Int32 → Option Value × hp_I × hp_L := fun x => (some (.int x), σ, τ)
def ci_l (σ : hp_I) (τ : hp_L) : Int64 → Option Value × hp_I × hp_L := fun x => (some (.long x), σ, τ)
def ci_ih (τ : hp_L) : Int32 × hp_I → Option Value × hp_I × hp_L := fun r => (some (.int r.1), r.2, τ)
def ci_h (τ : hp_L) : hp_I → Option Value × hp_I × hp_L := fun s => (none, s, τ)
def ci_lh : Int64 × hp_I × hp_L → Option Value × hp_I × hp_L := fun r => (some (.long r.1), r.2.1, r.2.2)
theorem wd_S.step {G : wd_G} {s U : State} {H : Heap} {locs : List Loc} (h : wd_S G s) (hS : va_S (wd_A G) s.heap H locs) (hU : U.heap = H) (hW : s.WarmedH U.vm) : wd_S G U := by
  refine ⟨State.WarmedH.trans h.1 hW, ?_, fun q hq => ?_⟩
  · rw [hU]; exact Nat.le_trans h.2.1 hS.1
  · rw [hU, hS.2.1 q (Nat.lt_of_lt_of_le hq h.2.1) (fun z => absurd hq (Nat.not_lt.mpr z))]
    exact h.2.2 q hq
theorem cl_blind {G : wd_G} {σ : hp_I} {τ : hp_L} {avs : List Value} : FrameBlind (va_Pc avs (cl_P G σ τ)) := by
  intro a U g mk q
  obtain ⟨q0, q1, q2, q3, q4, q5⟩ := q
  exact ⟨q0, q1, va_K.moved (u := U) (U := U.calling g mk a) (Vm.Alike.refl U.vm) q2, q3, q4, q5⟩
section CL
variable {G : wd_G} {M : wd_M} {own : String} {cc : ByteArray} {nL n cells slots : Nat} {ret : Option FieldType} {ρ : Type} {Q : ρ → State → Prop} {pc q : Nat} {lv : List (Nat × Value)} {st : List Value} {σ : hp_I} {τ : hp_L} {ex : Option ρ} {l : Launch} {y : MethodName} {cy : ByteArray} {ml : Nat} {avs : List Value}
/-- a contract out of its body -/
theorem cl_of {lv0 : List (Nat × Value)} (I : ρ → Option Value × hp_I × hp_L) (hy : plainName y.cls = true) (hlen : (lg_sl avs).length ≤ ml) (hlv : lv_args 0 avs = lv0) (hN : gd_ok G)
    (body : ∀ M : wd_M, mx_L M = l → cx_C G M y.cls cy ml n ret → dn_D G M ml 0 0 (cl_M G M I) 0 lv0 [] σ τ ex) : cl_C G l n y cy ml ret avs σ τ I ex := by
  intro r hr
  refine Met.ofW (cc := cy) (maxL := ml) (ret := ret) hy rfl ?_
  intro p e s m args below meth c s₁ B hml hv
  obtain ⟨rfl, hP, hK, hS0⟩ := hv
  have hts := atoms_spec (ws := Cond.code y cy ml ret :: gw_tbl) B.pre
  have hown : s.vm.findClass y.cls = some m.cls := findClass_of_methodNamed B.named
  have hl := lv_entry avs (n := ml) hlen
  rw [lg_entry_eq]
  rw [hlv] at hl
  have key := body (p, l, e, cl_R n, s, m, avs.toArray, below, meth, c) rfl ⟨B.exec, B.bytes, hml, hown, fun w hw => hts w (List.mem_cons_of_mem _ hw), hK, hS0, hN, Nat.le_refl _, Nat.le_refl _, B.returns, B.notSynchronized⟩ r hr s.heap [] _ hP va_S.rf hl
  exact key
theorem dn_iret {x : Int32} {r0 : ρ} {I : ρ → Option Value × hp_I × hp_L} (C : cx_C G M own cc nL n (some .int)) (hd : decode cc pc = .ok (.ireturn, 1)) (hI : I r0 = (some (.int x), σ, τ)) : dn_D G M nL 0 0 (cl_M G M I) pc lv [.int x] σ τ (some r0) := by
  intro r hr H locs ls hP hS hl
  cases hr
  unfold cl_M
  rw [hI]
  exact W.iret (cx_x C) (cx_b C) (cx_r C) (fun t ht hW => ⟨rfl, by rw [ht]; exact hP, hS.F ht⟩) hS.2.2 hd (cx_u C)
theorem dn_zret {x : Int32} {r0 : ρ} {I : ρ → Option Value × hp_I × hp_L} (C : cx_C G M own cc nL n (some .boolean)) (hd : decode cc pc = .ok (.ireturn, 1)) (hI : I r0 = (some (.int x), σ, τ)) : dn_D G M nL 0 0 (cl_M G M I) pc lv [.int x] σ τ (px_z x r0) := by
  intro r hr H locs ls hP hS hl
  unfold px_z at hr
  by_cases hx : x = 0 ∨ x = 1
  · rw [if_pos hx] at hr
    cases hr
    unfold cl_M
    rw [hI]
    exact W.zret (ty := .boolean) (cx_x C) (cx_b C) (cx_r C) (by rcases hx with rfl | rfl <;> decide) (fun t ht hW => ⟨rfl, by rw [ht]; exact hP, hS.F ht⟩) hS.2.2 hd (cx_u C)
  · rw [if_neg hx] at hr; cases hr
theorem dn_lret {x : Int64} {r0 : ρ} {I : ρ → Option Value × hp_I × hp_L} (C : cx_C G M own cc nL n (some .long)) (hd : decode cc pc = .ok (.lreturn, 1)) (hI : I r0 = (some (.long x), σ, τ)) : dn_D G M nL 0 0 (cl_M G M I) pc lv [.long x] σ τ (some r0) := by
  intro r hr H locs ls hP hS hl
  cases hr
  unfold cl_M
  rw [hI]
  exact W.lret (cx_x C) (cx_b C) (cx_r C) (fun t ht hW => ⟨rfl, by rw [ht]; exact hP, hS.F ht⟩) hS.2.2 hd (cx_u C)
theorem dn_vret {r0 : ρ} {I : ρ → Option Value × hp_I × hp_L} (C : cx_C G M own cc nL n none) (hd : decode cc pc = .ok (.return_, 1)) (hI : I r0 = (none, σ, τ)) : dn_D G M nL 0 0 (cl_M G M I) pc lv [] σ τ (some r0) := by
  intro r hr H locs ls hP hS hl
  cases hr
  unfold cl_M
  rw [hI]
  exact W.vret (cx_x C) (cx_b C) (cx_r C) (fun t ht hW => ⟨rfl, by rw [ht]; exact hP, hS.F ht⟩) hS.2.2 hd (cx_u C)
/-- behind a call -/
theorem dn_after {H : Heap} {locs : List Loc} {ls : Array Slot} {st0 : List Value} {v : Option Value} {σ' : hp_I} {τ' : hp_L} {a : Array Value} {Qw : State → Prop} {s : State} {p : Program} {e : Env} {R : Room} {m : MethodId} {args : Array Value} {below : List Frame} {meth : Method} {c : Code}
    (hr : va_Run p l e R s m args below meth c H locs cells slots 0 0 (F0 m pc ls st0) st (cl_Q G v σ' τ' a) (wd_A G)) (hS : va_S (wd_A G) s.heap H locs)
    (k : ∀ (H1 : Heap) (locs1 : List Loc), va_P (wd_D G) vwCl (wd_W G σ' τ') H1 → va_S (wd_A G) s.heap H1 locs1 → W p l e R s m args below meth c H1 locs1 cells slots Qw (F0 m (pc + 3) ls (v.toList ++ st))) : W p l e R s m args below meth c H locs cells slots Qw (F0 m pc ls st0) := by
  intro T hT X
  obtain ⟨v2, st₀, t, T', L, h0, X', hL, e1, e2, ⟨hv, hPt, hz, hk⟩, stp⟩ := hr T hT X
  cases hv
  rw [h0] at hz hk
  obtain ⟨t2, a1, b1⟩ := k T'.heap (locs ++ L) (by rw [e1]; exact hPt) ⟨Nat.le_trans hS.1 (by rw [e1]; exact hz), fun q h1 h2 => by rw [e1, hk q (Nat.lt_of_lt_of_le h1 hS.1) h2]; exact hS.2.1 q h1 h2, fun q hq => by
      rcases List.mem_append.mp hq with h | h
      · exact hS.2.2 q h
      · exact hL q h⟩ T' rfl X'
  exact ⟨t2, stp t2 a1, b1⟩
/-- a method's own rows of the tables -/
def mt_ok (y : MethodName) (cy : ByteArray) (ml : Nat) (ret : Option FieldType) (na : Nat) : Prop :=
  Cond.code y cy ml ret ∈ gw_tbl ∧ Cond.initialized y.cls ∈ gw_tbl ∧ (y.cls ≠ "java/lang/invoke/MethodHandle" ∧ y.cls ≠ "java/lang/invoke/VarHandle" ∧ (parseMethodDescriptor y.desc).map (fun d => d.parameters.length) = some na) ∧ ml ≤ 21
def mt_v (y : MethodName) (ci : Nat) : Prop := Cond.instanceMethod y ∈ gw_tbl ∧ Cond.selects y.cls y y ∈ gw_tbl ∧ ci < 13 ∧ ∃ q : vw_C, vwCl[ci]? = some q ∧ q.1 = y.cls
theorem gw_cons {y : MethodName} {cy : ByteArray} {ml : Nat} {ret : Option FieldType} {na : Nat} (h : mt_ok y cy ml ret na) : GoodIn gw_tbl (Cond.code y cy ml ret :: gw_tbl) := fun w hw => by
  rcases List.mem_cons.mp hw with e | e
  · rw [e]; exact gw_good _ h.1
  · exact gw_good _ e
theorem dn_callV {ρ' : Type} {n' na idx o ci : Nat} {ry : Option FieldType} {As st0 : List Value} {I : ρ' → Option Value × hp_I × hp_L} {e0 : Option ρ'} {f : ρ' → Option ρ} (C : cx_C G M own cc nL n ret) (K : cl_C G (mx_L M) n' y cy ml ry (.ref (wd_b G + o) :: As) σ τ I e0) (hm : mt_ok y cy ml ry na) (hv : mt_v y ci) (hlk : Cond.methodLink own idx y ∈ gw_tbl) (hn : n' < n) (ho : sh_kd o = ci) (hna : As.length = na) (hcs : cells ≤ (mx_R M).cells ∧ slots ≤ (mx_R M).slots) (hcat : (st.map fun v => v.category).sum ≤ 8) (hd : decode cc pc = .ok (.invokevirtual idx, 3)) (hst : st0 = As.reverse ++ .ref (wd_b G + o) :: st) (hq : pc + 3 = q)
    (k : ∀ r, dn_D G M nL cells slots Q q lv ((I r).1.toList ++ st) (I r).2.1 (I r).2.2 (f r)) : dn_D G M nL cells slots Q pc lv st0 σ τ (Option.bind e0 f) := by
  subst hq
  subst hst
  intro r hr H locs ls hP hS hl
  obtain ⟨r0, h0, h1⟩ := Option.bind_eq_some_iff.mp hr
  obtain ⟨g1, g2, g3, q0, g4, g5⟩ := hv
  have hN := Nat.lt_of_lt_of_le (sh_ltN ho (by omega) (by omega)) (cx_N C)
  have hcell : ∃ cell : Cell, H[wd_b G + o]? = some cell ∧ cell.vm.isStatics = false ∧ (mx_S M).vm.findClass q0.1 = some cell.cls := va_recv (cx_k C) hP g4 (show (wd_W G σ τ)[o]? = some (wd_b G + o, .inr (ci, sh_V (wd_b G) σ o (sh_fl ci) 0)) by rw [wd_get σ τ hN, wd_E_O ho g3])
  have hf := cx_f C
  have hlo := cx_l C
  have hml := hm.2.2.2
  refine dn_after (va_runV (C := y.cls) (b := wd_b G + o) (n := na) (As := As) (rest := st) ⟨cx_x C, cx_b C, cx_m C, cx_o C, cx_w C⟩ (K r0 h0) ⟨callB_of na (cx_w C) (gw_cons hm) rfl rfl rfl (cx_w C _ hm.2.1) (cx_w C _ hlk) hm.2.2.1 ⟨by show n' + 1 ≤ _; omega, by show 8 + (ml + 11) + 40 * n' ≤ _; omega⟩, cx_w C _ g1, cx_w C _ g2⟩ ⟨cl_blind, by rw [← g5]; exact hcell, fun U hU hW => ⟨rfl, by rw [hU]; exact hP, va_K.moved hW.alike (cx_k C), (cx_s C).step hS hU hW⟩⟩ rfl hna hl.1 rfl (lv_room hcat) hd hcs) hS (fun H1 locs1 h2 h3 => ?_)
  exact k r0 r h1 H1 locs1 ls h2 h3 hl
theorem dn_callS {ρ' : Type} {n' na idx : Nat} {ry : Option FieldType} {As st0 : List Value} {I : ρ' → Option Value × hp_I × hp_L} {e0 : Option ρ'} {f : ρ' → Option ρ} (C : cx_C G M own cc nL n ret) (K : cl_C G (mx_L M) n' y cy ml ry As σ τ I e0) (hm : mt_ok y cy ml ry na) (hv : Cond.static y ∈ gw_tbl) (hlk : Cond.methodLink own idx y ∈ gw_tbl) (hn : n' < n) (hna : As.length = na) (hcs : cells ≤ (mx_R M).cells ∧ slots ≤ (mx_R M).slots) (hcat : (st.map fun v => v.category).sum ≤ 8) (hd : decode cc pc = .ok (.invokestatic idx, 3)) (hst : st0 = As.reverse ++ st) (hq : pc + 3 = q)
    (k : ∀ r, dn_D G M nL cells slots Q q lv ((I r).1.toList ++ st) (I r).2.1 (I r).2.2 (f r)) : dn_D G M nL cells slots Q pc lv st0 σ τ (Option.bind e0 f) := by
  subst hq
  subst hst
  intro r hr H locs ls hP hS hl
  obtain ⟨r0, h0, h1⟩ := Option.bind_eq_some_iff.mp hr
  have hf := cx_f C
  have hlo := cx_l C
  have hml := hm.2.2.2
  refine dn_after (va_runS (n := na) (As := As) (rest := st) ⟨cx_x C, cx_b C, cx_m C, cx_o C, cx_w C⟩ (K r0 h0) ⟨callB_of na (cx_w C) (gw_cons hm) rfl rfl rfl (cx_w C _ hm.2.1) (cx_w C _ hlk) hm.2.2.1 ⟨by show n' + 1 ≤ _; omega, by show 8 + (ml + 11) + 40 * n' ≤ _; omega⟩, cx_w C _ hv⟩ ⟨cl_blind, fun U hU hW => ⟨rfl, by rw [hU]; exact hP, va_K.moved hW.alike (cx_k C), (cx_s C).step hS hU hW⟩⟩ rfl hna hl.1 rfl (lv_room hcat) hd hcs) hS (fun H1 locs1 h2 h3 => ?_)
  exact k r0 r h1 H1 locs1 ls h2 h3 hl
def mm_ok : Prop := Cond.static Lib.Math.max.name ∈ gw_tbl ∧ Cond.static Lib.Math.min.name ∈ gw_tbl ∧ Cond.initialized "java/lang/Math" ∈ gw_tbl ∧ Cond.code Lib.Math.max.name Lib.Math.max.code 2 (some .int) ∈ gw_tbl ∧ Cond.code Lib.Math.min.name Lib.Math.min.code 2 (some .int) ∈ gw_tbl
theorem dn_max {idx : Nat} {x z : Int32} (C : cx_C G M own cc nL n ret) (hm : mm_ok) (hlk : Cond.methodLink own idx Lib.Math.max.name ∈ gw_tbl) (hn : 0 < n) (hcs : cells ≤ (mx_R M).cells ∧ slots ≤ (mx_R M).slots) (hcat : (st.map fun v => v.category).sum ≤ 8) (hd : decode cc pc = .ok (.invokestatic idx, 3)) (hq : pc + 3 = q)
    (k : dn_D G M nL cells slots Q q lv (.int (px_max x z) :: st) σ τ ex) : dn_D G M nL cells slots Q pc lv (.int z :: .int x :: st) σ τ ex := by
  subst hq
  intro r hr H locs ls hP hS hl
  have hf := cx_f C
  have hlo := cx_l C
  exact va_mmax (cx_x C) (cx_b C) ((cx_m C).trans hl.1.symm) (cx_o C) (cx_w C _ hlk) (cx_w C _ hm.1) (cx_w C _ hm.2.2.1) (cx_w C _ hm.2.2.2.1) (by omega) (by omega) hcs.1 hcs.2 hd (k r hr H locs ls hP hS hl)
theorem dn_min {idx : Nat} {x z : Int32} (C : cx_C G M own cc nL n ret) (hm : mm_ok) (hlk : Cond.methodLink own idx Lib.Math.min.name ∈ gw_tbl) (hn : 0 < n) (hcs : cells ≤ (mx_R M).cells ∧ slots ≤ (mx_R M).slots) (hcat : (st.map fun v => v.category).sum ≤ 8) (hd : decode cc pc = .ok (.invokestatic idx, 3)) (hq : pc + 3 = q)
    (k : dn_D G M nL cells slots Q q lv (.int (px_min x z) :: st) σ τ ex) : dn_D G M nL cells slots Q pc lv (.int z :: .int x :: st) σ τ ex := by
  subst hq
  intro r hr H locs ls hP hS hl
  have hf := cx_f C
  have hlo := cx_l C
  exact va_mmin (cx_x C) (cx_b C) ((cx_m C).trans hl.1.symm) (cx_o C) (cx_w C _ hlk) (cx_w C _ hm.2.1) (cx_w C _ hm.2.2.1) (cx_w C _ hm.2.2.2.2) (by omega) (by omega) hcs.1 hcs.2 hd (k r hr H locs ls hP hS hl)
def ac_ok : Prop := Cond.native arraycopyName ∈ gw_tbl ∧ Cond.static arraycopyName ∈ gw_tbl ∧ Cond.initialized "java/lang/System" ∈ gw_tbl
theorem dn_acopy {idx a a2 : Nat} {sp dp m : Int32} {f : hp_I → Option ρ} (C : cx_C G M own cc nL n ret) (hm : ac_ok) (hlk : Cond.methodLink own idx arraycopyName ∈ gw_tbl) (hn : 0 < n) (ha : sh_kd a = 13) (ha2 : sh_kd a2 = 13) (hcat : (st.map fun v => v.category).sum ≤ 8) (hd : decode cc pc = .ok (.invokestatic idx, 3)) (hq : pc + 3 = q)
    (k : ∀ σ2 : hp_I, dn_D G M nL cells slots Q q lv st σ2 τ (f σ2)) : dn_D G M nL cells slots Q pc lv (.int m :: .int dp :: .ref (wd_b G + a2) :: .int sp :: .ref (wd_b G + a) :: st) σ τ (Option.bind (px_cpy σ a sp a2 dp m) f) := by
  subst hq
  intro r hr H locs ls hP hS hl
  have hf := cx_f C
  have hlo := cx_l C
  unfold px_cpy at hr
  by_cases hy : (0 ≤ sp ∧ 0 ≤ dp ∧ 0 ≤ m) ∧ sp.toNatClampNeg + m.toNatClampNeg ≤ sh_ln a ∧ dp.toNatClampNeg + m.toNatClampNeg ≤ sh_ln a2
  · rw [if_pos hy] at hr
    obtain ⟨⟨y1, y2, y3⟩, y4, y5⟩ := hy
    have hlt := Nat.lt_of_lt_of_le (sh_ltN ha (by decide) (by decide)) (cx_N C)
    have hlt2 := Nat.lt_of_lt_of_le (sh_ltN ha2 (by decide) (by decide)) (cx_N C)
    have hset : ∀ g : Nat → Int32, (wd_W G σ τ).set a2 (wd_b G + a2, .inl (G.2.2.2.1, sh_ln a2, .inl g)) = wd_W G (hp_f σ a2 g) τ := fun g => wd_set hlt2 (by rw [wd_E_I ha2, hp_f_i]) (fun j hj => wd_E_congr (hp_f_n hj) rfl)
    have hnw : nativeFrameWords "java/lang/System" "arraycopy" 5 = 7 := by decide
    refine va_copyi (cx_x C) (cx_b C) ((cx_m C).trans hl.1.symm) (cx_o C) (cx_w C _ hlk) (cx_w C _ hm.1) (cx_w C _ hm.2.1) (cx_w C _ hm.2.2) (cx_k C) hP (wd_apart G σ τ) hS a a2 0 0 (ty := .int) (by rw [wd_get σ τ hlt, wd_E_I ha]) (by rw [wd_get σ τ hlt2, wd_E_I ha2]) rfl rfl rfl (Int32.not_lt.mpr y1) (Int32.not_lt.mpr y2) (Int32.not_lt.mpr y3) y4 y5 (fun i _ => rfl) (by omega) (by omega) hd (fun H1 locs1 h1 h2 h3 => ?_)
    rw [hset] at h1
    exact k _ r hr H1 locs1 ls h1 h3 hl
  · rw [if_neg hy] at hr; cases hr
/-- a switch as an expression: the first case that is x's -/
def px_sw {ρ : Type} (x : Int32) : List (Int32 × Option ρ) → Option ρ → Option ρ
  | [], e0 => e0
  | (v, e) :: r, e0 => if x = v then e else px_sw x r e0
def dn_cs (P : Nat → Option ρ → Prop) (pc : Nat) (lo : Int) (offs : Array Int) : Nat → List (Int32 × Option ρ) → Prop
  | _, [] => True
  | i, (v, e) :: r => (∃ (off : Int) (t : Nat), v.toInt = lo + (i : Int) ∧ offs[i]? = some off ∧ (pc : Int) + off = (t : Int) ∧ P t e) ∧ dn_cs P pc lo offs (i + 1) r
theorem px_sw_at {P : Nat → Option ρ → Prop} {lo : Int} {offs : Array Int} {e0 : Option ρ} {x : Int32} : ∀ (cs : List (Int32 × Option ρ)) (i : Nat), dn_cs P pc lo offs i cs → lo + (i : Int) ≤ x.toInt → x.toInt < lo + ((i + cs.length : Nat) : Int) → ∃ (e : Option ρ) (off : Int) (t : Nat), px_sw x cs e0 = e ∧ offs[(x.toInt - lo).toNat]? = some off ∧ (pc : Int) + off = (t : Int) ∧ P t e
  | [], i, _, h1, h2 => by simp at h2; omega
  | (v, e) :: r, i, h, h1, h2 => by
    obtain ⟨⟨off, t, a1, a2, a3, a4⟩, h⟩ := h
    by_cases hx : x = v
    · refine ⟨e, off, t, by rw [px_sw, if_pos hx], ?_, a3, a4⟩
      have : (x.toInt - lo).toNat = i := by rw [hx, a1]; omega
      rw [this]; exact a2
    · have hne : x.toInt ≠ lo + (i : Int) := fun z => hx (Int32.toInt_inj.mp (z.trans a1.symm))
      rw [List.length_cons] at h2
      obtain ⟨e', off', t', b1, b2, b3, b4⟩ := px_sw_at (x := x) (e0 := e0) r (i + 1) h (by omega) (by omega)
      exact ⟨e', off', t', by rw [px_sw, if_neg hx]; exact b1, b2, b3, b4⟩
theorem px_sw_out {P : Nat → Option ρ → Prop} {lo : Int} {offs : Array Int} {e0 : Option ρ} {x : Int32} : ∀ (cs : List (Int32 × Option ρ)) (i : Nat), dn_cs P pc lo offs i cs → (x.toInt < lo + (i : Int) ∨ lo + ((i + cs.length : Nat) : Int) ≤ x.toInt) → px_sw x cs e0 = e0
  | [], i, _, _ => rfl
  | (v, e) :: r, i, h, h1 => by
    obtain ⟨⟨off, t, a1, a2, a3, a4⟩, h⟩ := h
    rw [List.length_cons] at h1
    have hx : ¬ x = v := fun z => by rw [z, a1] at h1; omega
    rw [px_sw, if_neg hx]
    exact px_sw_out r (i + 1) h (by omega)
theorem dn_table {dflt lo hi : Int} {offs : Array Int} {len t0 : Nat} {x : Int32} {e0 : Option ρ} (cs : List (Int32 × Option ρ)) (C : cx_C G M own cc nL n ret) (hd : decode cc pc = .ok (.tableswitch dflt lo hi offs, len)) (ht0 : (pc : Int) + dflt = (t0 : Int)) (hlen : lo + (cs.length : Int) = hi + 1) (h0 : dn_D G M nL cells slots Q t0 lv st σ τ e0)
    (h : dn_cs (fun t e => dn_D G M nL cells slots Q t lv st σ τ e) pc lo offs 0 cs) : dn_D G M nL cells slots Q pc lv (.int x :: st) σ τ (px_sw x cs e0) := by
  intro r hr H locs ls hP hS hl
  by_cases hin : lo ≤ x.toInt ∧ x.toInt ≤ hi
  · obtain ⟨e, off, t, a1, a2, a3, a4⟩ := px_sw_at (x := x) (e0 := e0) cs 0 h (by omega) (by omega)
    rw [a1] at hr
    exact lv_tableIn (cx_x C) (cx_b C) hd (by omega) (by omega) a2 a3 (a4 r hr H locs ls hP hS hl)
  · rw [px_sw_out cs 0 h (by omega)] at hr
    exact lv_tableOut (cx_x C) (cx_b C) hd (by omega) ht0 (h0 r hr H locs ls hP hS hl)
def dn_ls (P : Nat → Option ρ → Prop) (pc : Nat) : List (Int × Int) → List (Int32 × Option ρ) → Prop
  | [], [] => True
  | (a, off) :: ps, (v, e) :: r => (∃ t : Nat, v.toInt = a ∧ (pc : Int) + off = (t : Int) ∧ P t e) ∧ dn_ls P pc ps r
  | _, _ => False
theorem px_sw_l {P : Nat → Option ρ → Prop} {dflt : Int} {t0 : Nat} {e0 : Option ρ} {x : Int32} (ht0 : (pc : Int) + dflt = (t0 : Int)) (h0 : P t0 e0) : ∀ (ps : List (Int × Int)) (cs : List (Int32 × Option ρ)), dn_ls P pc ps cs → ∃ (t : Nat) (e : Option ρ), px_sw x cs e0 = e ∧ (pc : Int) + Op.lookupswitch.offset ps dflt x.toInt = (t : Int) ∧ P t e
  | [], [], _ => ⟨t0, e0, rfl, ht0, h0⟩
  | (a, off) :: ps, (v, e) :: r, h => by
    obtain ⟨⟨t, a1, a2, a3⟩, h⟩ := h
    rw [Op.lookupswitch.offset_cons, px_sw]
    by_cases hx : x = v
    · rw [if_pos hx, if_pos (by rw [hx]; exact a1.symm)]
      exact ⟨t, e, rfl, a2, a3⟩
    · rw [if_neg hx, if_neg (fun z => hx (Int32.toInt_inj.mp (z.symm.trans a1.symm)))]
      exact px_sw_l ht0 h0 ps r h
  | [], _ :: _, h => h.elim
  | _ :: _, [], h => h.elim
theorem dn_look {dflt : Int} {ps : Array (Int × Int)} {len t0 : Nat} {x : Int32} {e0 : Option ρ} (cs : List (Int32 × Option ρ)) (C : cx_C G M own cc nL n ret) (hd : decode cc pc = .ok (.lookupswitch dflt ps, len)) (hp : (ps.toList.zip (ps.toList.drop 1)).all (fun (a, next) => a.1 < next.1) = true) (ht0 : (pc : Int) + dflt = (t0 : Int)) (h0 : dn_D G M nL cells slots Q t0 lv st σ τ e0)
    (h : dn_ls (fun t e => dn_D G M nL cells slots Q t lv st σ τ e) pc ps.toList cs) : dn_D G M nL cells slots Q pc lv (.int x :: st) σ τ (px_sw x cs e0) := by
  intro r hr H locs ls hP hS hl
  obtain ⟨t, e, a1, a2, a3⟩ := px_sw_l (x := x) ht0 h0 ps.toList cs h
  rw [a1] at hr
  exact lv_lookup (cx_x C) (cx_b C) hd hp rfl a2 (a3 r hr H locs ls hP hS hl)
end CL
/-! the calls by what they give -/
def px_b2 {α β ρ : Type} (e : Option (α × β)) (f : α → β → Option ρ) : Option ρ := Option.bind e fun r => f r.1 r.2
def px_b3 {α β γ ρ : Type} (e : Option (α × β × γ)) (f : α → β → γ → Option ρ) : Option ρ := Option.bind e fun r => f r.1 r.2.1 r.2.2
def px_ushr (x y : Int32) : Int32 := (x.toUInt32 >>> (y.toUInt32 &&& 31)).toInt32
section CL2
variable {G : wd_G} {M : wd_M} {own : String} {cc : ByteArray} {nL n cells slots : Nat} {ret : Option FieldType} {ρ : Type} {Q : ρ → State → Prop} {pc q : Nat} {lv : List (Nat × Value)} {st : List Value} {σ : hp_I} {τ : hp_L} {y : MethodName} {cy : ByteArray} {ml : Nat} {n' na idx o ci : Nat} {ry : Option FieldType} {As st0 : List Value}
theorem dn_callV_i {e0 : Option Int32} {f : Int32 → Option ρ} (C : cx_C G M own cc nL n ret) (K : cl_C G (mx_L M) n' y cy ml ry (.ref (wd_b G + o) :: As) σ τ (ci_i σ τ) e0) (hm : mt_ok y cy ml ry na) (hv : mt_v y ci) (hlk : Cond.methodLink own idx y ∈ gw_tbl) (hn : n' < n) (ho : sh_kd o = ci) (hna : As.length = na) (hcs : cells ≤ (mx_R M).cells ∧ slots ≤ (mx_R M).slots) (hcat : (st.map fun v => v.category).sum ≤ 8) (hd : decode cc pc = .ok (.invokevirtual idx, 3)) (hst : st0 = As.reverse ++ .ref (wd_b G + o) :: st) (hq : pc + 3 = q) (k : ∀ x : Int32, dn_D G M nL cells slots Q q lv (.int x :: st) σ τ (f x)) : dn_D G M nL cells slots Q pc lv st0 σ τ (Option.bind e0 f) := dn_callV C K hm hv hlk hn ho hna hcs hcat hd hst hq k
theorem dn_callV_ih {e0 : Option (Int32 × hp_I)} {f : Int32 → hp_I → Option ρ} (C : cx_C G M own cc nL n ret) (K : cl_C G (mx_L M) n' y cy ml ry (.ref (wd_b G + o) :: As) σ τ (ci_ih τ) e0) (hm : mt_ok y cy ml ry na) (hv : mt_v y ci) (hlk : Cond.methodLink own idx y ∈ gw_tbl) (hn : n' < n) (ho : sh_kd o = ci) (hna : As.length = na) (hcs : cells ≤ (mx_R M).cells ∧ slots ≤ (mx_R M).slots) (hcat : (st.map fun v => v.category).sum ≤ 8) (hd : decode cc pc = .ok (.invokevirtual idx, 3)) (hst : st0 = As.reverse ++ .ref (wd_b G + o) :: st) (hq : pc + 3 = q) (k : ∀ (x : Int32) (s : hp_I), dn_D G M nL cells slots Q q lv (.int x :: st) s τ (f x s)) : dn_D G M nL cells slots Q pc lv st0 σ τ (px_b2 e0 f) := dn_callV C K hm hv hlk hn ho hna hcs hcat hd hst hq (fun r => k r.1 r.2)
theorem dn_callV_h {e0 : Option hp_I} {f : hp_I → Option ρ} (C : cx_C G M own cc nL n ret) (K : cl_C G (mx_L M) n' y cy ml ry (.ref (wd_b G + o) :: As) σ τ (ci_h τ) e0) (hm : mt_ok y cy ml ry na) (hv : mt_v y ci) (hlk : Cond.methodLink own idx y ∈ gw_tbl) (hn : n' < n) (ho : sh_kd o = ci) (hna : As.length = na) (hcs : cells ≤ (mx_R M).cells ∧ slots ≤ (mx_R M).slots) (hcat : (st.map fun v => v.category).sum ≤ 8) (hd : decode cc pc = .ok (.invokevirtual idx, 3)) (hst : st0 = As.reverse ++ .ref (wd_b G + o) :: st) (hq : pc + 3 = q) (k : ∀ s : hp_I, dn_D G M nL cells slots Q q lv st s τ (f s)) : dn_D G M nL cells slots Q pc lv st0 σ τ (Option.bind e0 f) := dn_callV C K hm hv hlk hn ho hna hcs hcat hd hst hq k
theorem dn_callS_i {e0 : Option Int32} {f : Int32 → Option ρ} (C : cx_C G M own cc nL n ret) (K : cl_C G (mx_L M) n' y cy ml ry As σ τ (ci_i σ τ) e0) (hm : mt_ok y cy ml ry na) (hv : Cond.static y ∈ gw_tbl) (hlk : Cond.methodLink own idx y ∈ gw_tbl) (hn : n' < n) (hna : As.length = na) (hcs : cells ≤ (mx_R M).cells ∧ slots ≤ (mx_R M).slots) (hcat : (st.map fun v => v.category).sum ≤ 8) (hd : decode cc pc = .ok (.invokestatic idx, 3)) (hst : st0 = As.reverse ++ st) (hq : pc + 3 = q) (k : ∀ x : Int32, dn_D G M nL cells slots Q q lv (.int x :: st) σ τ (f x)) : dn_D G M nL cells slots Q pc lv st0 σ τ (Option.bind e0 f) := dn_callS C K hm hv hlk hn hna hcs hcat hd hst hq k
theorem dn_callS_ih {e0 : Option (Int32 × hp_I)} {f : Int32 → hp_I → Option ρ} (C : cx_C G M own cc nL n ret) (K : cl_C G (mx_L M) n' y cy ml ry As σ τ (ci_ih τ) e0) (hm : mt_ok y cy ml ry na) (hv : Cond.static y ∈ gw_tbl) (hlk : Cond.methodLink own idx y ∈ gw_tbl) (hn : n' < n) (hna : As.length = na) (hcs : cells ≤ (mx_R M).cells ∧ slots ≤ (mx_R M).slots) (hcat : (st.map fun v => v.category).sum ≤ 8) (hd : decode cc pc = .ok (.invokestatic idx, 3)) (hst : st0 = As.reverse ++ st) (hq : pc + 3 = q) (k : ∀ (x : Int32) (s : hp_I), dn_D G M nL cells slots Q q lv (.int x :: st) s τ (f x s)) : dn_D G M nL cells slots Q pc lv st0 σ τ (px_b2 e0 f) := dn_callS C K hm hv hlk hn hna hcs hcat hd hst hq (fun r => k r.1 r.2)
theorem dn_callS_h {e0 : Option hp_I} {f : hp_I → Option ρ} (C : cx_C G M own cc nL n ret) (K : cl_C G (mx_L M) n' y cy ml ry As σ τ (ci_h τ) e0) (hm : mt_ok y cy ml ry na) (hv : Cond.static y ∈ gw_tbl) (hlk : Cond.methodLink own idx y ∈ gw_tbl) (hn : n' < n) (hna : As.length = na) (hcs : cells ≤ (mx_R M).cells ∧ slots ≤ (mx_R M).slots) (hcat : (st.map fun v => v.category).sum ≤ 8) (hd : decode cc pc = .ok (.invokestatic idx, 3)) (hst : st0 = As.reverse ++ st) (hq : pc + 3 = q) (k : ∀ s : hp_I, dn_D G M nL cells slots Q q lv st s τ (f s)) : dn_D G M nL cells slots Q pc lv st0 σ τ (Option.bind e0 f) := dn_callS C K hm hv hlk hn hna hcs hcat hd hst hq k
theorem dn_callS_l {e0 : Option Int64} {f : Int64 → Option ρ} (C : cx_C G M own cc nL n ret) (K : cl_C G (mx_L M) n' y cy ml ry As σ τ (ci_l σ τ) e0) (hm : mt_ok y cy ml ry na) (hv : Cond.static y ∈ gw_tbl) (hlk : Cond.methodLink own idx y ∈ gw_tbl) (hn : n' < n) (hna : As.length = na) (hcs : cells ≤ (mx_R M).cells ∧ slots ≤ (mx_R M).slots) (hcat : (st.map fun v => v.category).sum ≤ 8) (hd : decode cc pc = .ok (.invokestatic idx, 3)) (hst : st0 = As.reverse ++ st) (hq : pc + 3 = q) (k : ∀ x : Int64, dn_D G M nL cells slots Q q lv (.long x :: st) σ τ (f x)) : dn_D G M nL cells slots Q pc lv st0 σ τ (Option.bind e0 f) := dn_callS C K hm hv hlk hn hna hcs hcat hd hst hq k
theorem dn_callV_lh {e0 : Option (Int64 × hp_I × hp_L)} {f : Int64 → hp_I → hp_L → Option ρ} (C : cx_C G M own cc nL n ret) (K : cl_C G (mx_L M) n' y cy ml ry (.ref (wd_b G + o) :: As) σ τ ci_lh e0) (hm : mt_ok y cy ml ry na) (hv : mt_v y ci) (hlk : Cond.methodLink own idx y ∈ gw_tbl) (hn : n' < n) (ho : sh_kd o = ci) (hna : As.length = na) (hcs : cells ≤ (mx_R M).cells ∧ slots ≤ (mx_R M).slots) (hcat : (st.map fun v => v.category).sum ≤ 8) (hd : decode cc pc = .ok (.invokevirtual idx, 3)) (hst : st0 = As.reverse ++ .ref (wd_b G + o) :: st) (hq : pc + 3 = q) (k : ∀ (x : Int64) (s : hp_I) (t : hp_L), dn_D G M nL cells slots Q q lv (.long x :: st) s t (f x s t)) : dn_D G M nL cells slots Q pc lv st0 σ τ (px_b3 e0 f) := dn_callV C K hm hv hlk hn ho hna hcs hcat hd hst hq (fun r => k r.1 r.2.1 r.2.2)
end CL2
def FU : Nat := 100000
