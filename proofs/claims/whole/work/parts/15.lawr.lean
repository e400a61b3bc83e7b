/-! METHODS WITH HANDLERS: they call what may throw, and always return -/
def cl_W {ρ : Type} (G : wd_G) (l : Launch) (n u : Nat) (y : MethodName) (cy : ByteArray) (ml : Nat) (ret : Option FieldType) (hh : List (Nat × Nat × Nat × Nat)) (avs : List Value) (σ : hp_I) (τ : hp_L) (I : ρ → Option Value × hp_I × hp_L) (ex : Option ρ) : Prop :=
  ∀ r, ex = some r → Met l y (Cond.codeWith y cy ml ret hh :: gw_tbl) (cr_R n u) (va_Pc avs (cl_P G σ τ)) (cl_Q G (I r).1 (I r).2.1 (I r).2.2) u (6 * u) (wd_A G)
def cm_H {ρ : Type} (G : wd_G) (M : wd_M) (u : Nat) (I : ρ → Option Value × hp_I × hp_L) : ρ → State → Prop := fun r => MQ (mx_B M) (cl_Q G (I r).1 (I r).2.1 (I r).2.2) (mx_A M) (mx_S M) u (6 * u) (wd_A G)
def cx_H (M : wd_M) (n u : Nat) (hh : List (Nat × Nat × Nat × Nat)) : Prop := mx_R M = cr_R n u ∧ (mx_C M).exceptionTable.toList = tableOf hh ∧ (mx_L M).stackTraces = false
def ci_iht : Int32 × hp_I × hp_L → Option Value × hp_I × hp_L := fun r => (some (.int r.1), r.2.1, r.2.2)
/-- a call whose exceptions are caught: of kind 0 alone, of kind 1 alone, both -/
def px_c0 {α ρ : Type} (e : Option (px_X α)) (h : hp_I → Option ρ) (f : α → Option ρ) : Option ρ := Option.bind e fun r => match r with
  | .inl x => if x.1 = 0 then h x.2 else none
  | .inr a => f a
def px_c1 {α ρ : Type} (e : Option (px_X α)) (h : hp_I → Option ρ) (f : α → Option ρ) : Option ρ := Option.bind e fun r => match r with
  | .inl x => if x.1 = 0 then none else h x.2
  | .inr a => f a
def px_c2 {α ρ : Type} (e : Option (px_X α)) (h0 h1 : hp_I → Option ρ) (f : α → Option ρ) : Option ρ := Option.bind e fun r => match r with
  | .inl x => if x.1 = 0 then h0 x.2 else h1 x.2
  | .inr a => f a
theorem en_0 {k : Nat} (h : k = 0) : en_E k = "java/util/NoSuchElementException" := if_pos h
theorem en_1 {k : Nat} (h : ¬ k = 0) : en_E k = "java/lang/IllegalArgumentException" := if_neg h
section LW
variable {G : wd_G} {M : wd_M} {own : String} {cc : ByteArray} {nL n u cells slots : Nat} {ret : Option FieldType} {ρ : Type} {pc q : Nat} {lv : List (Nat × Value)} {st : List Value} {σ : hp_I} {τ : hp_L} {l : Launch} {y : MethodName} {cy : ByteArray} {ml : Nat} {avs : List Value} {I : ρ → Option Value × hp_I × hp_L} {Q : ρ → State → Prop} {hh : List (Nat × Nat × Nat × Nat)}
theorem cl_ofH {ex : Option ρ} {lv0 : List (Nat × Value)} (I : ρ → Option Value × hp_I × hp_L) (hy : plainName y.cls = true) (hlen : (lg_sl avs).length ≤ ml) (hlv : lv_args 0 avs = lv0) (hN : gd_ok G) (htr : l.stackTraces = false)
    (body : ∀ M : wd_M, cx_H M n u hh → cx_C G M y.cls cy ml n ret → dn_D G M ml 0 0 (cm_H G M u I) 0 lv0 [] σ τ ex) : cl_W G l n u y cy ml ret hh avs σ τ I ex := by
  intro r hr
  refine MetFree.of_bodyS (code := cy) (maxLocals := ml) (ret := ret) hy ?_ ?_
  · intro args s m h hn
    obtain ⟨m9, meth, c, hn9, h1, h2, h3, h4, -, h5, h6, -⟩ := Cond.codeWith_spec (atoms_spec (ws := Cond.codeWith y cy ml ret hh :: gw_tbl) h _ List.mem_cons_self)
    cases hn.symm.trans hn9
    exact ⟨meth, c, h1, h2, h3, h4, h5, h6⟩
  · intro p e s m args below meth c s₁ B hml hP _
    have hh0 : s₁.heap = s.heap := by rw [B.state]; rfl
    obtain ⟨rfl, hP, hK, hS0⟩ := hP
    have hts := atoms_spec (ws := Cond.codeWith y cy ml ret hh :: gw_tbl) B.pre
    have htab : c.exceptionTable.toList = tableOf hh := vx_table (x := y) B (hts _ List.mem_cons_self)
    have hown : s.vm.findClass y.cls = some m.cls := findClass_of_methodNamed B.named
    have hl := lv_entry avs (n := ml) hlen
    rw [hlv] at hl
    have key := body (p, l, e, cr_R n u, s, m, avs.toArray, below, meth, c) ⟨rfl, htab, htr⟩ ⟨B.exec, B.bytes, hml, hown, fun w hw => hts w (List.mem_cons_of_mem _ hw), hK, hS0, hN, Nat.le_refl _, Nat.le_refl _, B.returns, B.notSynchronized⟩ r hr s.heap [] _ hP va_S.rf hl
    rw [← lg_entry_eq] at key
    obtain ⟨t, a1, o, b1, b2, b3⟩ := key s₁ hh0 (Stand.of_body B)
    exact ⟨t, o, a1, b1, b2, b3⟩
theorem dn_iretH {x : Int32} {r0 : ρ} (C : cx_C G M own cc nL n (some .int)) (hd : decode cc pc = .ok (.ireturn, 1)) (hI : I r0 = (some (.int x), σ, τ)) (hc : cells ≤ u) (hs : slots ≤ 6 * u) : dn_D G M nL cells slots (cm_H G M u I) pc lv [.int x] σ τ (some r0) := by
  intro r hr H locs ls hP hS hl
  cases hr
  unfold cm_H
  rw [hI]
  exact W.widen hc hs (W.iret (cx_x C) (cx_b C) (cx_r C) (fun t ht hW => ⟨rfl, by rw [ht]; exact hP, hS.F ht⟩) hS.2.2 hd (cx_u C))
/-- the call itself: it returns, or an object of the class en_E is thrown over this frame -/
theorem dn_callT {ρ' : Type} {n' u' na idx o ci : Nat} {ry : Option FieldType} {As st0 : List Value} {I' : ρ' → Option Value × hp_I × hp_L} {e0 : Option (px_X ρ')} {F : px_X ρ' → Option ρ} (C : cx_C G M own cc nL n ret) (K : cl_X G (mx_L M) n' u' y cy ml ry (.ref (wd_b G + o) :: As) σ τ I' e0) (hm : mt_ok y cy ml ry na) (hv : mt_v y ci) (hlk : Cond.methodLink own idx y ∈ gw_tbl) (hn : n' < n) (ho : sh_kd o = ci) (hna : As.length = na) (hc : cells + u' ≤ (mx_R M).cells ∧ slots + 6 * u' ≤ (mx_R M).slots) (hcat : (st.map fun v => v.category).sum ≤ 8) (hd : decode cc pc = .ok (.invokevirtual idx, 3)) (hst : st0 = As.reverse ++ .ref (wd_b G + o) :: st) (hq : pc + 3 = q)
    (k : ∀ a, dn_D G M nL (cells + u') (slots + 6 * u') Q q lv ((I' a).1.toList ++ st) (I' a).2.1 (I' a).2.2 (F (.inr a)))
    (kx : ∀ (x : Nat × hp_I) (r : ρ), F (.inl x) = some r → ∀ (H : Heap) (locs : List Loc) (ls : Array Slot) (qe : Nat) (ce : Cell), va_P (wd_D G) vwCl (wd_W G x.2 τ) H → va_S (wd_A G) (mx_S M).heap H locs → lv_has ls nL lv → H[qe]? = some ce → ce.vm = .none → (mx_S M).vm.findClass (en_E x.1) = some ce.cls →
      vx_W (mx_P M) (mx_L M) (mx_E M) (mx_R M) (mx_S M) (mx_I M) (mx_A M) (mx_B M) (mx_M M) (mx_C M) H locs (cells + u') (slots + 6 * u') (Q r) (F0 (mx_I M) pc ls st) qe) : dn_D G M nL cells slots Q pc lv st0 σ τ (Option.bind e0 F) := by
  subst hq
  subst hst
  intro r hr H locs ls hP hS hl
  obtain ⟨r0, h0, h1⟩ := Option.bind_eq_some_iff.mp hr
  obtain ⟨g1, g2, g3, q0, g4, g5⟩ := hv
  have hN := Nat.lt_of_lt_of_le (sh_ltN ho (by omega) (by omega)) (cx_N C)
  have hcell : ∃ cell : Cell, H[wd_b G + o]? = some cell ∧ cell.vm.isStatics = false ∧ (mx_S M).vm.findClass q0.1 = some cell.cls := va_recv (cx_k C) hP g4 (show (wd_W G σ τ)[o]? = some (wd_b G + o, .inr (ci, sh_V (wd_b G) σ o (sh_fl ci) 0)) by rw [wd_get σ τ hN, wd_E_O ho g3])
  have hf := cx_f C
  have hlo := cx_l C
  have hml := hm.2.2.2
  have hrun := vx_runV (p := mx_P M) (R := mx_R M) (s := mx_S M) (m := mx_I M) (args := mx_A M) (c := mx_C M) (H := H) (e := mx_E M) (below := mx_B M) (meth := mx_M M) (locs := locs) (cells := cells) (slots := slots) (g := F0 (mx_I M) pc ls (As.reverse ++ .ref (wd_b G + o) :: st)) (C := y.cls) (b := wd_b G + o) (n := na) (As := As) (rest := st) ⟨cx_x C, cx_b C, cx_m C, cx_o C, cx_w C⟩ (K r0 h0) ⟨callB_of na (cx_w C) (gw_cons hm) rfl rfl rfl (cx_w C _ hm.2.1) (cx_w C _ hlk) hm.2.2.1 ⟨by show n' + 1 ≤ _; omega, by show 8 + (ml + 11) + 40 * n' ≤ _; omega⟩, cx_w C _ g1, cx_w C _ g2⟩ ⟨cl_blind, by rw [← g5]; exact hcell, fun U hU hW => ⟨rfl, by rw [hU]; exact hP, va_K.moved hW.alike (cx_k C), (cx_s C).step hS hU hW⟩⟩ rfl hna hl.1 rfl (lv_room hcat) hd hc
  intro T hT Y
  rcases hrun T hT Y with ⟨v2, st₀, t, T', L, e0', Y', hL, e1, e2, hQ, stp⟩ | ⟨qe, st₀, t, T', L, E, ce, e0', Y', hL, e1, e2, hX, c1, c2, c3, stp⟩
  · cases r0 with
    | inl x => exact hQ.elim
    | inr a =>
      obtain ⟨hv2, hPt, hz, hk⟩ := hQ
      cases hv2
      rw [e0'] at hz hk
      obtain ⟨t2, a1, b1⟩ := k a r h1 T'.heap (locs ++ L) ls (by rw [e1]; exact hPt) ⟨Nat.le_trans hS.1 (by rw [e1]; exact hz), fun q h1 h2 => by rw [e1, hk q (Nat.lt_of_lt_of_le h1 hS.1) h2]; exact hS.2.1 q h1 h2, fun q hq => by
        rcases List.mem_append.mp hq with h | h
        · exact hS.2.2 q h
        · exact hL q h⟩ hl T' rfl Y'
      exact ⟨t2, stp t2 a1, b1⟩
  · cases r0 with
    | inr a => exact hX.elim
    | inl x =>
      obtain ⟨hE, hPt, hz, hk⟩ := hX
      subst hE
      rw [e0'] at hz hk
      have hS' : va_S (wd_A G) (mx_S M).heap T'.heap (locs ++ L) := ⟨Nat.le_trans hS.1 (by rw [e1]; exact hz), fun q h1 h2 => by rw [e1, hk q (Nat.lt_of_lt_of_le h1 hS.1) h2]; exact hS.2.1 q h1 h2, fun q hq => by
        rcases List.mem_append.mp hq with h | h
        · exact hS.2.2 q h
        · exact hL q h⟩
      obtain ⟨t2, a1, b1⟩ := kx x r h1 T'.heap (locs ++ L) ls qe ce (by rw [e1]; exact hPt) hS' hl (by rw [e1]; exact c1) c2 c3 T' rfl Y'
      exact ⟨t2, stp.trans a1, b1⟩
theorem xn_Nc {G : wd_G} {s : State} (hG : gd_ok G) (hs : wd_S G s) (h : ∀ a0 : Array Value, (Jvm.Cond.and given_1 narrow_1).before a0 G.1 = true → (Cond.not (.castable "java/lang/IllegalArgumentException" "java/util/NoSuchElementException")).before a0 G.1 = true) : va_Nc "java/lang/IllegalArgumentException" "java/util/NoSuchElementException" s := by
  obtain ⟨-, a0, -, h2⟩ := hG
  exact va_Nc.moved hs.al (va_Nc.of (h a0 h2))
/-- one handler, of kind 0 -/
theorem dn_catch0 {n' u' na idx o ci hp ct s0 e0' : Nat} {ρ' : Type} {ry : Option FieldType} {As st0 : List Value} {I' : ρ' → Option Value × hp_I × hp_L} {e0 : Option (px_X ρ')} {h : hp_I → Option ρ} {f : ρ' → Option ρ} (C : cx_C G M own cc nL n ret) (X : cx_H M n u [(s0, e0', hp, ct)]) (K : cl_X G (mx_L M) n' u' y cy ml ry (.ref (wd_b G + o) :: As) σ τ I' e0) (hm : mt_ok y cy ml ry na) (hv : mt_v y ci) (hlk : Cond.methodLink own idx y ∈ gw_tbl) (hn : n' < n) (ho : sh_kd o = ci) (hna : As.length = na) (hc : cells + u' ≤ u) (hs : slots + 6 * u' ≤ 6 * u) (hcat : (st.map fun v => v.category).sum ≤ 8) (hd : decode cc pc = .ok (.invokevirtual idx, 3)) (hst : st0 = As.reverse ++ .ref (wd_b G + o) :: st) (hq : pc + 3 = q)
    (hcov : (tableOf [(s0, e0', hp, ct)]).map (fun x => (covers x pc, x.handlerPc, x.catchType)) = [(true, hp, ct)]) (hct : ct ≠ 0) (hcl : Cond.classLink own ct "java/util/NoSuchElementException" ∈ gw_tbl) (hcast : Cond.castable "java/util/NoSuchElementException" "java/util/NoSuchElementException" ∈ lw_tbl)
    (k : ∀ a, dn_D G M nL (cells + u') (slots + 6 * u') Q q lv ((I' a).1.toList ++ st) (I' a).2.1 (I' a).2.2 (f a)) (kh : ∀ (s : hp_I) (qe : Nat), dn_D G M nL (cells + u') (slots + 6 * u') Q hp lv [.ref qe] s τ (h s)) : dn_D G M nL cells slots Q pc lv st0 σ τ (px_c0 e0 h f) := by
  refine dn_callT C K hm hv hlk hn ho hna (by rw [X.1]; exact ⟨hc, hs⟩) hcat hd hst hq k (fun x r hr H locs ls qe ce hP hS hl c1 c2 c3 => ?_)
  have hr : (if x.1 = 0 then h x.2 else none) = some r := hr
  by_cases hx : x.1 = 0
  · rw [if_pos hx] at hr
    rw [en_0 hx] at c3
    have ht := X.2.1
    cases htt : tableOf [(s0, e0', hp, ct)] with
    | nil => rw [htt] at hcov; cases hcov
    | cons a b =>
      rw [htt] at ht hcov
      simp only [List.map_cons, List.cons.injEq, Prod.mk.injEq] at hcov
      obtain ⟨⟨g1, g2, g3⟩, -⟩ := hcov
      exact xc_first (cx_o C) ht g1 (by rw [g3]; exact hct) (by rw [g3]; exact cx_w C _ hcl) (cx_any C hcast (Or.inr rfl)) c1 c2 c3 (by rw [g2]; exact kh x.2 qe r hr H locs ls hP hS hl)
  · rw [if_neg hx] at hr; cases hr
theorem dn_catch1 {n' u' na idx o ci hp ct s0 e0' : Nat} {ρ' : Type} {ry : Option FieldType} {As st0 : List Value} {I' : ρ' → Option Value × hp_I × hp_L} {e0 : Option (px_X ρ')} {h : hp_I → Option ρ} {f : ρ' → Option ρ} (C : cx_C G M own cc nL n ret) (X : cx_H M n u [(s0, e0', hp, ct)]) (K : cl_X G (mx_L M) n' u' y cy ml ry (.ref (wd_b G + o) :: As) σ τ I' e0) (hm : mt_ok y cy ml ry na) (hv : mt_v y ci) (hlk : Cond.methodLink own idx y ∈ gw_tbl) (hn : n' < n) (ho : sh_kd o = ci) (hna : As.length = na) (hc : cells + u' ≤ u) (hs : slots + 6 * u' ≤ 6 * u) (hcat : (st.map fun v => v.category).sum ≤ 8) (hd : decode cc pc = .ok (.invokevirtual idx, 3)) (hst : st0 = As.reverse ++ .ref (wd_b G + o) :: st) (hq : pc + 3 = q)
    (hcov : (tableOf [(s0, e0', hp, ct)]).map (fun x => (covers x pc, x.handlerPc, x.catchType)) = [(true, hp, ct)]) (hct : ct ≠ 0) (hcl : Cond.classLink own ct "java/lang/IllegalArgumentException" ∈ gw_tbl) (hcast : Cond.castable "java/lang/IllegalArgumentException" "java/lang/IllegalArgumentException" ∈ lw_tbl)
    (k : ∀ a, dn_D G M nL (cells + u') (slots + 6 * u') Q q lv ((I' a).1.toList ++ st) (I' a).2.1 (I' a).2.2 (f a)) (kh : ∀ (s : hp_I) (qe : Nat), dn_D G M nL (cells + u') (slots + 6 * u') Q hp lv [.ref qe] s τ (h s)) : dn_D G M nL cells slots Q pc lv st0 σ τ (px_c1 e0 h f) := by
  refine dn_callT C K hm hv hlk hn ho hna (by rw [X.1]; exact ⟨hc, hs⟩) hcat hd hst hq k (fun x r hr H locs ls qe ce hP hS hl c1 c2 c3 => ?_)
  have hr : (if x.1 = 0 then none else h x.2) = some r := hr
  by_cases hx : x.1 = 0
  · rw [if_pos hx] at hr; cases hr
  · rw [if_neg hx] at hr
    rw [en_1 hx] at c3
    have ht := X.2.1
    cases htt : tableOf [(s0, e0', hp, ct)] with
    | nil => rw [htt] at hcov; cases hcov
    | cons a b =>
      rw [htt] at ht hcov
      simp only [List.map_cons, List.cons.injEq, Prod.mk.injEq] at hcov
      obtain ⟨⟨g1, g2, g3⟩, -⟩ := hcov
      exact xc_first (cx_o C) ht g1 (by rw [g3]; exact hct) (by rw [g3]; exact cx_w C _ hcl) (cx_any C hcast (Or.inr rfl)) c1 c2 c3 (by rw [g2]; exact kh x.2 qe r hr H locs ls hP hS hl)
theorem dn_catch2 {n' u' na idx o ci hp ct hp2 ct2 s0 e0' s2 e2' : Nat} {ρ' : Type} {ry : Option FieldType} {As st0 : List Value} {I' : ρ' → Option Value × hp_I × hp_L} {e0 : Option (px_X ρ')} {h h2 : hp_I → Option ρ} {f : ρ' → Option ρ} (C : cx_C G M own cc nL n ret) (X : cx_H M n u [(s0, e0', hp, ct), (s2, e2', hp2, ct2)]) (K : cl_X G (mx_L M) n' u' y cy ml ry (.ref (wd_b G + o) :: As) σ τ I' e0) (hm : mt_ok y cy ml ry na) (hv : mt_v y ci) (hlk : Cond.methodLink own idx y ∈ gw_tbl) (hn : n' < n) (ho : sh_kd o = ci) (hna : As.length = na) (hc : cells + u' ≤ u) (hs : slots + 6 * u' ≤ 6 * u) (hcat : (st.map fun v => v.category).sum ≤ 8) (hd : decode cc pc = .ok (.invokevirtual idx, 3)) (hst : st0 = As.reverse ++ .ref (wd_b G + o) :: st) (hq : pc + 3 = q)
    (hcov : (tableOf [(s0, e0', hp, ct), (s2, e2', hp2, ct2)]).map (fun x => (covers x pc, x.handlerPc, x.catchType)) = [(true, hp, ct), (true, hp2, ct2)]) (hct : ct ≠ 0) (hct2 : ct2 ≠ 0) (hcl : Cond.classLink own ct "java/util/NoSuchElementException" ∈ gw_tbl) (hcl2 : Cond.classLink own ct2 "java/lang/IllegalArgumentException" ∈ gw_tbl) (hcast : Cond.castable "java/util/NoSuchElementException" "java/util/NoSuchElementException" ∈ lw_tbl) (hcast2 : Cond.castable "java/lang/IllegalArgumentException" "java/lang/IllegalArgumentException" ∈ lw_tbl) (hno : va_Nc "java/lang/IllegalArgumentException" "java/util/NoSuchElementException" (mx_S M))
    (k : ∀ a, dn_D G M nL (cells + u') (slots + 6 * u') Q q lv ((I' a).1.toList ++ st) (I' a).2.1 (I' a).2.2 (f a)) (kh : ∀ (s : hp_I) (qe : Nat), dn_D G M nL (cells + u') (slots + 6 * u') Q hp lv [.ref qe] s τ (h s)) (kh2 : ∀ (s : hp_I) (qe : Nat), dn_D G M nL (cells + u') (slots + 6 * u') Q hp2 lv [.ref qe] s τ (h2 s)) : dn_D G M nL cells slots Q pc lv st0 σ τ (px_c2 e0 h h2 f) := by
  refine dn_callT C K hm hv hlk hn ho hna (by rw [X.1]; exact ⟨hc, hs⟩) hcat hd hst hq k (fun x r hr H locs ls qe ce hP hS hl c1 c2 c3 => ?_)
  have hr : (if x.1 = 0 then h x.2 else h2 x.2) = some r := hr
  have ht := X.2.1
  cases htt : tableOf [(s0, e0', hp, ct), (s2, e2', hp2, ct2)] with
  | nil => rw [htt] at hcov; cases hcov
  | cons a b =>
    cases b with
    | nil =>
      rw [htt] at hcov
      have h9 := congrArg List.length hcov
      simp at h9
    | cons b d =>
      rw [htt] at ht hcov
      simp only [List.map_cons, List.cons.injEq, Prod.mk.injEq] at hcov
      obtain ⟨⟨g1, g2, g3⟩, ⟨g4, g5, g6⟩, -⟩ := hcov
      by_cases hx : x.1 = 0
      · rw [if_pos hx] at hr
        rw [en_0 hx] at c3
        exact xc_first (cx_o C) ht g1 (by rw [g3]; exact hct) (by rw [g3]; exact cx_w C _ hcl) (cx_any C hcast (Or.inr rfl)) c1 c2 c3 (by rw [g2]; exact kh x.2 qe r hr H locs ls hP hS hl)
      · rw [if_neg hx] at hr
        rw [en_1 hx] at c3
        exact xc_second (cx_o C) ht g1 (by rw [g3]; exact hct) (by rw [g3]; exact cx_w C _ hcl) hno g4 (by rw [g6]; exact hct2) (by rw [g6]; exact cx_w C _ hcl2) (cx_any C hcast2 (Or.inr rfl)) c1 c2 c3 (by rw [g5]; exact kh2 x.2 qe r hr H locs ls hP hS hl)
end LW
