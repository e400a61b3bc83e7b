/-- at the law's start, below the law's cells: a String whose bytes are w -/
def sx_at (G : wd_G) (a : Nat) (w : List Int32) : Prop := w.length < 2 ^ 31 ∧ ∃ v : Nat, va_O "java/lang/String" a (wd_A G) G.1 G.1.heap ∧ va_OF "java/lang/String" "coder" "B" (.int 0) a (wd_A G) G.1 G.1.heap ∧ va_OF "java/lang/String" "value" "[B" (.ref v) a (wd_A G) G.1 G.1.heap ∧ va_T .byte v w.length (fun j => .int (w.getD j 0)) (wd_A G) G.1 G.1.heap
def sx_len (w : List Int32) : Int32 := Int32.ofNat w.length >>> ((0 : Int32) &&& 31)
def sx_c (b : Int32) : Int32 := ((b &&& 255).toUInt32 % 65536).toInt32
def sx_chr (w : List Int32) (i : Int32) : Option Int32 := if px_in i w.length = true then some (sx_c (w.getD i.toNatClampNeg 0)) else none
def sx_ci (i n : Int32) : Option Int32 := if 0 ≤ i then (if i < n then some i else none) else none
theorem wd_S.al {G : wd_G} {s : State} (h : wd_S G s) : G.1.vm.Alike s.vm := h.1.alike
theorem wd_S.kp {G : wd_G} {s : State} (h : wd_S G s) : ∀ a : Nat, a < G.1.heap.size → ¬ wd_A G a → s.heap[a]? = G.1.heap[a]? := fun a ha _ => h.2.2 a ha
section SX
variable {G : wd_G} {M : wd_M} {own : String} {cc : ByteArray} {nL n cells slots : Nat} {ret : Option FieldType} {ρ : Type} {Q : ρ → State → Prop} {pc q : Nat} {lv : List (Nat × Value)} {st : List Value} {σ : hp_I} {τ : hp_L} {ex : Option ρ} {l : Launch} {y : MethodName} {cy : ByteArray} {ml : Nat}
theorem dn_ldcS {idx a : Nat} {tx : String} (C : cx_C G M own cc nL n ret) (h : vk_R own idx tx a G.1) (hd : decode cc pc = .ok (.ldc idx, 2)) (hq : pc + 2 = q) (k : dn_D G M nL cells slots Q q lv (.ref a :: st) σ τ ex) : dn_D G M nL cells slots Q pc lv st σ τ ex := by
  subst hq
  exact fun r hr H locs ls hP hS hl => va_ldcS (cx_x C) (cx_b C) (cx_o C) (vk_R.warm (cx_s C).1 h) hd (k r hr H locs ls hP hS hl)
theorem dn_ofld {o nm d : String} {v : Value} {a idx : Nat} (C : cx_C G M own cc nL n ret) (h : va_OF o nm d v a (wd_A G) G.1 G.1.heap) (hlk : Cond.fieldLink own idx o nm d ∈ gw_tbl) (hd : decode cc pc = .ok (.getfield idx, 3)) (hq : pc + 3 = q) (k : dn_D G M nL cells slots Q q lv (v :: st) σ τ ex) : dn_D G M nL cells slots Q pc lv (.ref a :: st) σ τ ex := by
  subst hq
  exact fun r hr H locs ls hP hS hl => vk_getf (cx_x C) (cx_b C) (va_OF.moved (cx_s C).al (va_OF.kept h (cx_s C).kp)) hS (cx_o C) (cx_w C _ hlk) (fun _ h => h) hd (k r hr H locs ls hP hS hl)
theorem dn_gets {o nm d : String} {v : Value} {idx : Nat} (C : cx_C G M own cc nL n ret) (h : va_Z o nm d v (wd_A G) G.1 G.1.heap) (hlk : Cond.fieldLink own idx o nm d ∈ gw_tbl) (hd : decode cc pc = .ok (.getstatic idx, 3)) (hq : pc + 3 = q) (k : dn_D G M nL cells slots Q q lv (v :: st) σ τ ex) : dn_D G M nL cells slots Q pc lv st σ τ ex := by
  subst hq
  exact fun r hr H locs ls hP hS hl => va_gets (cx_x C) (cx_b C) (va_Z.moved (cx_s C).al (va_Z.kept h (cx_s C).kp)) hS (cx_o C) (cx_w C _ hlk) (fun _ h => h) hd (k r hr H locs ls hP hS hl)
theorem dn_tlen {t N : Nat} {f : Nat → Value} (C : cx_C G M own cc nL n ret) (h : va_T .byte t N f (wd_A G) G.1 G.1.heap) (hd : decode cc pc = .ok (.arraylength, 1)) (hq : pc + 1 = q) (k : dn_D G M nL cells slots Q q lv (.int (Int32.ofNat N) :: st) σ τ ex) : dn_D G M nL cells slots Q pc lv (.ref t :: st) σ τ ex := by
  subst hq
  exact fun r hr H locs ls hP hS hl => va_tlen (cx_x C) (cx_b C) (va_T.moved (cx_s C).al (va_T.kept h (cx_s C).kp)) hS rfl hd (k r hr H locs ls hP hS hl)
theorem dn_tb {t N : Nat} {f : Nat → Value} {i : Int32} (C : cx_C G M own cc nL n ret) (h : va_T .byte t N f (wd_A G) G.1 G.1.heap) (hin : vp_in i N) (hd : decode cc pc = .ok (.baload, 1)) (hq : pc + 1 = q) (k : dn_D G M nL cells slots Q q lv (f i.toNatClampNeg :: st) σ τ ex) : dn_D G M nL cells slots Q pc lv (.int i :: .ref t :: st) σ τ ex := by
  subst hq
  exact fun r hr H locs ls hP hS hl => va_tb (cx_x C) (cx_b C) (va_T.moved (cx_s C).al (va_T.kept h (cx_s C).kp)) hS hin rfl hd (k r hr H locs ls hP hS hl)
theorem dn_i2c {x : Int32} (C : cx_C G M own cc nL n ret) (hd : decode cc pc = .ok (.i2c, 1)) (hq : pc + 1 = q) (k : dn_D G M nL cells slots Q q lv (.int ((x.toUInt32 % 65536).toInt32) :: st) σ τ ex) : dn_D G M nL cells slots Q pc lv (.int x :: st) σ τ ex := by
  subst hq
  exact fun r hr H locs ls hP hS hl => lv_i2c (cx_x C) (cx_b C) hd rfl (k r hr H locs ls hP hS hl)
theorem dn_nret {ty : FieldType} {x : Int32} {r0 : ρ} {I : ρ → Option Value × hp_I × hp_L} (C : cx_C G M own cc nL n (some ty)) (hn : narrow ty (.int x) = .int x) (hd : decode cc pc = .ok (.ireturn, 1)) (hI : I r0 = (some (.int x), σ, τ)) : dn_D G M nL 0 0 (cl_M G M I) pc lv [.int x] σ τ (some r0) := by
  intro r hr H locs ls hP hS hl
  cases hr
  unfold cl_M
  rw [hI]
  exact W.zret (ty := ty) (cx_x C) (cx_b C) (cx_r C) hn (fun t ht hW => ⟨rfl, by rw [ht]; exact hP, hS.F ht⟩) hS.2.2 hd (cx_u C)
/-- a call on an object that lies below the law's cells -/
theorem dn_callO {ρ' : Type} {n' na idx a : Nat} {ry : Option FieldType} {As st0 : List Value} {I : ρ' → Option Value × hp_I × hp_L} {e0 : Option ρ'} {f : ρ' → Option ρ} (C : cx_C G M own cc nL n ret) (K : cl_C G (mx_L M) n' y cy ml ry (.ref a :: As) σ τ I e0) (hm : mt_ok y cy ml ry na) (hv : Cond.instanceMethod y ∈ gw_tbl ∧ Cond.selects y.cls y y ∈ gw_tbl) (hlk : Cond.methodLink own idx y ∈ gw_tbl) (hn : n' < n) (ho : va_O y.cls a (wd_A G) G.1 G.1.heap) (hna : As.length = na) (hcs : cells ≤ (mx_R M).cells ∧ slots ≤ (mx_R M).slots) (hcat : (st.map fun v => v.category).sum ≤ 8) (hd : decode cc pc = .ok (.invokevirtual idx, 3)) (hst : st0 = As.reverse ++ .ref a :: st) (hq : pc + 3 = q)
    (k : ∀ r, dn_D G M nL cells slots Q q lv ((I r).1.toList ++ st) (I r).2.1 (I r).2.2 (f r)) : dn_D G M nL cells slots Q pc lv st0 σ τ (Option.bind e0 f) := by
  subst hq
  subst hst
  intro r hr H locs ls hP hS hl
  obtain ⟨r0, h0, h1⟩ := Option.bind_eq_some_iff.mp hr
  have hcell : ∃ cell : Cell, H[a]? = some cell ∧ cell.vm.isStatics = false ∧ (mx_S M).vm.findClass y.cls = some cell.cls := by
    obtain ⟨cell, c1, c2, c3, c4⟩ := va_O.moved (cx_s C).al (va_O.kept ho (cx_s C).kp)
    exact ⟨cell, by rw [hS.2.1 a (Array.getElem?_eq_some_iff.mp c1).1 c4]; exact c1, c2, c3⟩
  have hf := cx_f C
  have hlo := cx_l C
  have hml := hm.2.2.2
  refine dn_after (va_runV (C := y.cls) (b := a) (n := na) (As := As) (rest := st) ⟨cx_x C, cx_b C, cx_m C, cx_o C, cx_w C⟩ (K r0 h0) ⟨callB_of na (cx_w C) (gw_cons hm) rfl rfl rfl (cx_w C _ hm.2.1) (cx_w C _ hlk) hm.2.2.1 ⟨by show n' + 1 ≤ _; omega, by show 8 + (ml + 11) + 40 * n' ≤ _; omega⟩, cx_w C _ hv.1, cx_w C _ hv.2⟩ ⟨cl_blind, hcell, fun U hU hW => ⟨rfl, by rw [hU]; exact hP, va_K.moved hW.alike (cx_k C), (cx_s C).step hS hU hW⟩⟩ rfl hna hl.1 rfl (lv_room hcat) hd hcs) hS (fun H1 locs1 h2 h3 => ?_)
  exact k r0 r h1 H1 locs1 ls h2 h3 hl
end SX
