/-! METHODS THAT MAY THROW: what they do is 'inl (which exception, the heap's ints)' or 'inr (what they give)' -/
def en_E (k : Nat) : String := if k = 0 then "java/util/NoSuchElementException" else "java/lang/IllegalArgumentException"
abbrev px_X (ρ : Type) : Type := (Nat × hp_I) ⊕ ρ
/-- u: how many exceptions may have been made -/
def cr_R (n u : Nat) : Room := { frames := n, cells := u, slots := 6 * u, locals := 40 * n }
def cq_Q {ρ : Type} (G : wd_G) (I : ρ → Option Value × hp_I × hp_L) : px_X ρ → Array Value → State → Outcome → State → Prop
  | .inr r => cl_Q G (I r).1 (I r).2.1 (I r).2.2
  | .inl _ => fun _ _ _ _ => False
def cq_X {ρ : Type} (G : wd_G) (τ : hp_L) : px_X ρ → String → State → State → Prop
  | .inl e => fun E st t => E = en_E e.1 ∧ va_P (wd_D G) vwCl (wd_W G e.2 τ) t.heap ∧ va_F (wd_A G) st t
  | .inr _ => fun _ _ _ => False
def cl_X {ρ : Type} (G : wd_G) (l : Launch) (n u : Nat) (y : MethodName) (cy : ByteArray) (ml : Nat) (ret : Option FieldType) (avs : List Value) (σ : hp_I) (τ : hp_L) (I : ρ → Option Value × hp_I × hp_L) (ex : Option (px_X ρ)) : Prop :=
  ∀ r, ex = some r → vx_Met l y (Cond.code y cy ml ret :: gw_tbl) (cr_R n u) (va_Pc avs (cl_P G σ τ)) (cq_Q G I r) (cq_X G τ r) u (6 * u) (wd_A G)
def cm_X {ρ : Type} (G : wd_G) (M : wd_M) (τ : hp_L) (u : Nat) (I : ρ → Option Value × hp_I × hp_L) : px_X ρ → State → Prop := fun r => vx_MQ (mx_B M) (cq_Q G I r) (cq_X G τ r) (mx_A M) (mx_S M) u (6 * u) (wd_A G)
/-- behind a call that may throw: if it threw, so does this method -/
def px_bx {α ρ : Type} (e : Option (px_X α)) (f : α → Option (px_X ρ)) : Option (px_X ρ) := Option.bind e fun r => match r with
  | .inl x => some (.inl x)
  | .inr a => f a
/-- what a body with its own throws knows beside cx_C -/
def cx_X (M : wd_M) (n u : Nat) : Prop := mx_R M = cr_R n u ∧ (∀ x ∈ (mx_C M).exceptionTable.toList, False) ∧ (mx_L M).stackTraces = false
section EX
variable {G : wd_G} {M : wd_M} {own : String} {cc : ByteArray} {nL n u cells slots : Nat} {ret : Option FieldType} {ρ : Type} {pc q : Nat} {lv : List (Nat × Value)} {st : List Value} {σ : hp_I} {τ : hp_L} {l : Launch} {y : MethodName} {cy : ByteArray} {ml : Nat} {avs : List Value} {I : ρ → Option Value × hp_I × hp_L} {Q : ρ → State → Prop}
theorem cl_ofX {ex : Option (px_X ρ)} {lv0 : List (Nat × Value)} (I : ρ → Option Value × hp_I × hp_L) (hy : plainName y.cls = true) (hlen : (lg_sl avs).length ≤ ml) (hlv : lv_args 0 avs = lv0) (hN : gd_ok G) (htr : l.stackTraces = false)
    (body : ∀ M : wd_M, cx_X M n u → cx_C G M y.cls cy ml n ret → dn_D G M ml 0 0 (cm_X G M τ u I) 0 lv0 [] σ τ ex) : cl_X G l n u y cy ml ret avs σ τ I ex := by
  intro r hr
  refine vx_ofW (cc := cy) (maxL := ml) (ret := ret) hy rfl ?_
  intro p e s m args below meth c s₁ B hml htab hv
  obtain ⟨rfl, hP, hK, hS0⟩ := hv
  have hts := atoms_spec (ws := Cond.code y cy ml ret :: gw_tbl) B.pre
  have hown : s.vm.findClass y.cls = some m.cls := findClass_of_methodNamed B.named
  have hl := lv_entry avs (n := ml) hlen
  rw [lg_entry_eq]
  rw [hlv] at hl
  have key := body (p, l, e, cr_R n u, s, m, avs.toArray, below, meth, c) ⟨rfl, htab, htr⟩ ⟨B.exec, B.bytes, hml, hown, fun w hw => hts w (List.mem_cons_of_mem _ hw), hK, hS0, hN, Nat.le_refl _, Nat.le_refl _, B.returns, B.notSynchronized⟩ r hr s.heap [] _ hP va_S.rf hl
  exact key
theorem dn_iretX {x : Int32} {r0 : ρ} (C : cx_C G M own cc nL n (some .int)) (hd : decode cc pc = .ok (.ireturn, 1)) (hI : I r0 = (some (.int x), σ, τ)) (hc : cells ≤ u) (hs : slots ≤ 6 * u) : dn_D G M nL cells slots (cm_X G M τ u I) pc lv [.int x] σ τ (some (.inr r0)) := by
  intro r hr H locs ls hP hS hl
  cases hr
  unfold cm_X
  refine W.widen hc hs (vx_ret ?_)
  show W _ _ _ _ _ _ _ _ _ _ _ _ _ _ (MQ _ (cl_Q G (I r0).1 (I r0).2.1 (I r0).2.2) _ _ _ _ _) _
  rw [hI]
  exact W.iret (cx_x C) (cx_b C) (cx_r C) (fun t ht hW => ⟨rfl, by rw [ht]; exact hP, hS.F ht⟩) hS.2.2 hd (cx_u C)
theorem dn_lretX {x : Int64} {r0 : ρ} (C : cx_C G M own cc nL n (some .long)) (hd : decode cc pc = .ok (.lreturn, 1)) (hI : I r0 = (some (.long x), σ, τ)) (hc : cells ≤ u) (hs : slots ≤ 6 * u) : dn_D G M nL cells slots (cm_X G M τ u I) pc lv [.long x] σ τ (some (.inr r0)) := by
  intro r hr H locs ls hP hS hl
  cases hr
  unfold cm_X
  refine W.widen hc hs (vx_ret ?_)
  show W _ _ _ _ _ _ _ _ _ _ _ _ _ _ (MQ _ (cl_Q G (I r0).1 (I r0).2.1 (I r0).2.2) _ _ _ _ _) _
  rw [hI]
  exact W.lret (cx_x C) (cx_b C) (cx_r C) (fun t ht hW => ⟨rfl, by rw [ht]; exact hP, hS.F ht⟩) hS.2.2 hd (cx_u C)
theorem dn_vretX {r0 : ρ} (C : cx_C G M own cc nL n none) (hd : decode cc pc = .ok (.return_, 1)) (hI : I r0 = (none, σ, τ)) (hc : cells ≤ u) (hs : slots ≤ 6 * u) : dn_D G M nL cells slots (cm_X G M τ u I) pc lv [] σ τ (some (.inr r0)) := by
  intro r hr H locs ls hP hS hl
  cases hr
  unfold cm_X
  refine W.widen hc hs (vx_ret ?_)
  show W _ _ _ _ _ _ _ _ _ _ _ _ _ _ (MQ _ (cl_Q G (I r0).1 (I r0).2.1 (I r0).2.2) _ _ _ _ _) _
  rw [hI]
  exact W.vret (cx_x C) (cx_b C) (cx_r C) (fun t ht hW => ⟨rfl, by rw [ht]; exact hP, hS.F ht⟩) hS.2.2 hd (cx_u C)
end EX
/-- words that warmer tables keep, though they aren't among the good ones -/
def xw_cd (w : Cond) : Bool := match w with
  | .castable .. => true
  | .declares _ => true
  | _ => false
theorem cx_any {G : wd_G} {M : wd_M} {own : String} {cc : ByteArray} {nL n : Nat} {ret : Option FieldType} (C : cx_C G M own cc nL n ret) {w : Cond} (h : w ∈ lw_tbl) (hb : goodWord w = true ∨ xw_cd w = true) : w.before (mx_A M) (mx_S M) = true := by
  rcases hb with hb | hb
  · exact cx_w C _ (gw_in h hb)
  · obtain ⟨-, a0, h1, -⟩ := cx_g C
    have h2 := h1 w h
    have hal := (cx_s C).1.alike
    cases w with
    | castable a b => exact va_tabs (A' := mx_A M) (u := G.1.setVm (mx_S M).vm) (U := mx_S M) rfl rfl (by rw [Cond.castable_setVm hal]; exact h2)
    | declares x => exact va_tabs (A' := mx_A M) (u := G.1.setVm (mx_S M).vm) (U := mx_S M) rfl rfl (by rw [Cond.declares_setVm hal]; exact h2)
    | _ => simp [xw_cd] at hb
abbrev th_N : List String := ["java/lang/RuntimeException", "java/lang/Exception"]
/-- the words of a throw, but its text -/
def th_ok (own : String) (k ik ic : Nat) : Prop :=
  Cond.classLink own ik (en_E k) ∈ gw_tbl ∧ Cond.initialized (en_E k) ∈ gw_tbl ∧ (∀ w ∈ vx_atS own ic (en_E k) th_N, w ∈ lw_tbl ∧ (goodWord w = true ∨ xw_cd w = true)) ∧ (∀ w ∈ Cond.classLink own ik (en_E k) :: Cond.initialized (en_E k) :: vx_atS own ic (en_E k) th_N, vx_ot w = true) ∧ Bundle.fit (en_E k) = true
/-- the two statics that a Throwable's constructor reads -/
def th_Z (G : wd_G) : Prop := vx_Zq Bundle.tN "UNASSIGNED_STACK" Bundle.steD (wd_A G) G.1 G.1.heap ∧ vx_Zq Bundle.tN "SUPPRESSED_SENTINEL" Bundle.listD (wd_A G) G.1 G.1.heap
section EX2
variable {G : wd_G} {M : wd_M} {own : String} {cc : ByteArray} {nL n u cells slots : Nat} {ret : Option FieldType} {ρ : Type} {pc q : Nat} {lv : List (Nat × Value)} {st : List Value} {σ : hp_I} {τ : hp_L} {l : Launch} {y : MethodName} {cy : ByteArray} {ml : Nat} {I : ρ → Option Value × hp_I × hp_L} {Q : ρ → State → Prop}
theorem dn_throw {k ik is ic sa : Nat} {tx : String} (C : cx_C G M own cc nL n ret) (X : cx_X M n u) (h : th_ok own k ik ic) (hz : th_Z G) (hsa : vk_R own is tx sa G.1) (d0 : decode cc pc = .ok (.new ik, 3)) (d3 : decode cc (pc + 3) = .ok (.dup, 1)) (d4 : decode cc (pc + 4) = .ok (.ldc_w is, 3)) (d7 : decode cc (pc + 7) = .ok (.invokespecial ic, 3)) (d10 : decode cc (pc + 10) = .ok (.athrow, 1))
    (hn : 5 < n) (hc : cells + 1 ≤ u) (hs : slots + 6 ≤ 6 * u) (hcat : (st.map fun v => v.category).sum ≤ 8) : dn_D G M nL cells slots (cm_X G M τ u I) pc lv st σ τ (some (.inl (k, σ))) := by
  intro r hr H locs ls hP hS hl
  cases hr
  obtain ⟨hR, htab, htr⟩ := X
  obtain ⟨h1, h2, h3, h4, h5⟩ := h
  have hal := (cx_s C).al
  have hkp := (cx_s C).kp
  exact vx_throwSW (A := wd_A G) (names := th_N) (cx_x C) (cx_b C) htr (cx_o C) h5 (by decide) (cx_w C _ h1) (cx_w C _ h2) (vk_R.warm (cx_s C).1 hsa) (fun w hw => cx_any C (h3 w hw).1 (h3 w hw).2) h4 (vx_Zq.moved hal (hz.1.kept hkp)) (vx_Zq.moved hal (hz.2.kept hkp)) hS (hl.1.trans (cx_m C).symm) d0 d3 d4 d7 d10 (fun x hx => (htab x hx).elim)
    (by rw [hR]; show 2 + 3 < n; omega) (by rw [hR]; show _ + (13 * (2 + 1) + 43) ≤ 40 * n; omega) (by rw [hR]; exact hc) (by rw [hR]; exact hs) (cx_u C)
    (fun t ht hsz hk => ⟨rfl, hP.kept (fun k0 q0 hk0 => hk q0.1 ((hP k0 q0 hk0).lt)), ⟨Nat.le_trans hS.1 hsz, fun q0 g1 g2 => by rw [hk q0 (Nat.lt_of_lt_of_le g1 hS.1)]; exact hS.2.1 q0 g1 g2⟩⟩) hS.2.2 hc hs
theorem dn_callX {ρ' : Type} {n' u' na idx o ci : Nat} {ry : Option FieldType} {As st0 : List Value} {I' : ρ' → Option Value × hp_I × hp_L} {e0 : Option (px_X ρ')} {f : ρ' → Option (px_X ρ)} (C : cx_C G M own cc nL n ret) (X : cx_X M n u) (K : cl_X G (mx_L M) n' u' y cy ml ry (.ref (wd_b G + o) :: As) σ τ I' e0) (hm : mt_ok y cy ml ry na) (hv : mt_v y ci) (hlk : Cond.methodLink own idx y ∈ gw_tbl) (hn : n' < n) (ho : sh_kd o = ci) (hna : As.length = na) (hc : cells + u' ≤ u) (hs : slots + 6 * u' ≤ 6 * u) (hcat : (st.map fun v => v.category).sum ≤ 8) (hd : decode cc pc = .ok (.invokevirtual idx, 3)) (hst : st0 = As.reverse ++ .ref (wd_b G + o) :: st) (hq : pc + 3 = q)
    (k : ∀ r, dn_D G M nL (cells + u') (slots + 6 * u') (cm_X G M τ u I) q lv ((I' r).1.toList ++ st) (I' r).2.1 (I' r).2.2 (f r)) : dn_D G M nL cells slots (cm_X G M τ u I) pc lv st0 σ τ (px_bx e0 f) := by
  subst hq
  subst hst
  intro r hr H locs ls hP hS hl
  obtain ⟨r0, h0, h1⟩ := Option.bind_eq_some_iff.mp hr
  obtain ⟨g1, g2, g3, q0, g4, g5⟩ := hv
  have hN := Nat.lt_of_lt_of_le (sh_ltN ho (by omega) (by omega)) (cx_N C)
  have hcell : ∃ cell : Cell, H[wd_b G + o]? = some cell ∧ cell.vm.isStatics = false ∧ (mx_S M).vm.findClass q0.1 = some cell.cls := va_recv (cx_k C) hP g4 (show (wd_W G σ τ)[o]? = some (wd_b G + o, .inr (ci, sh_V (wd_b G) σ o (sh_fl ci) 0)) by rw [wd_get σ τ hN, wd_E_O ho g3])
  have hf := cx_f C
  have hlo := cx_l C
  have hml := hm.2.2.2
  have hR := X.1
  have hrun := vx_runV (p := mx_P M) (R := mx_R M) (s := mx_S M) (m := mx_I M) (args := mx_A M) (c := mx_C M) (H := H) (e := mx_E M) (below := mx_B M) (meth := mx_M M) (locs := locs) (cells := cells) (slots := slots) (g := F0 (mx_I M) pc ls (As.reverse ++ .ref (wd_b G + o) :: st)) (C := y.cls) (b := wd_b G + o) (n := na) (As := As) (rest := st) ⟨cx_x C, cx_b C, cx_m C, cx_o C, cx_w C⟩ (K r0 h0) ⟨callB_of na (cx_w C) (gw_cons hm) rfl rfl rfl (cx_w C _ hm.2.1) (cx_w C _ hlk) hm.2.2.1 ⟨by show n' + 1 ≤ _; omega, by show 8 + (ml + 11) + 40 * n' ≤ _; omega⟩, cx_w C _ g1, cx_w C _ g2⟩ ⟨cl_blind, by rw [← g5]; exact hcell, fun U hU hW => ⟨rfl, by rw [hU]; exact hP, va_K.moved hW.alike (cx_k C), (cx_s C).step hS hU hW⟩⟩ rfl hna hl.1 rfl (lv_room hcat) hd (by rw [hR]; exact ⟨hc, hs⟩)
  intro T hT Y
  rcases hrun T hT Y with ⟨v2, st₀, t, T', L, e0', Y', hL, e1, e2, hQ, stp⟩ | ⟨qe, st₀, t, T', L, E, ce, e0', Y', hL, e1, e2, hX, c1, c2, c3, stp⟩
  · cases r0 with
    | inl x => exact hQ.elim
    | inr a =>
      obtain ⟨hv2, hPt, hz, hk⟩ := hQ
      cases hv2
      rw [e0'] at hz hk
      obtain ⟨t2, a1, b1⟩ := k a r h1 T'.heap (locs ++ L) ls (by rw [e1]; exact hPt) ⟨Nat.le_trans hS.1 (by rw [e1]; exact hz), fun q h1 h2 => by rw [e1, hk q (Nat.lt_of_lt_of_le h1 hS.1) h2]; exact hS.2.1 q h1 h2, fun q hq => by
        rcases List.mem_append.mp hq with h | h
        · exact hS.2.2 q h
        · exact hL q h⟩ hl T' rfl Y'
      exact ⟨t2, stp t2 a1, b1⟩
  · cases r0 with
    | inr a => exact hX.elim
    | inl x =>
      cases h1
      obtain ⟨hE, hPt, hz, hk⟩ := hX
      rw [e0'] at hz hk
      have hS' : va_S (wd_A G) (mx_S M).heap T'.heap (locs ++ L) := ⟨Nat.le_trans hS.1 (by rw [e1]; exact hz), fun q h1 h2 => by rw [e1, hk q (Nat.lt_of_lt_of_le h1 hS.1) h2]; exact hS.2.1 q h1 h2, fun q hq => by
        rcases List.mem_append.mp hq with h | h
        · exact hS.2.2 q h
        · exact hL q h⟩
      obtain ⟨t2, a1, b1⟩ := vx_out (pc := pc) (ls := ls) (rest := st) (Qc := cq_Q G I (.inl x)) (XC := cq_X (ρ := ρ) G τ (.inl x)) (mc := u) (ms := 6 * u) (free := wd_A G) (fun x hx => (X.2.1 x hx).elim) (cx_u C) (show T'.heap[qe]? = some ce by rw [e1]; exact c1) c2 c3 (fun t3 h3 _ => ⟨hE, by rw [h3, e1]; exact hPt, hS'.F h3⟩) hS'.2.2 hc hs T' rfl Y'
      exact ⟨t2, stp.trans a1, b1⟩
end EX2
