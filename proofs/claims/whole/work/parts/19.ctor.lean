/-! CONSTRUCTORS: cells come at the heap's end, one behind another. A cell in the making: its kind, its length, its fields: null, a reference (counted from the law's first new cell), an int -/
abbrev kd_D : Type := Nat × Nat × List (Option (Nat ⊕ Int32))
def kd_V (b : Nat) : Option (Nat ⊕ Int32) → Value
  | none => .null
  | some (.inl r) => .ref (b + r)
  | some (.inr v) => .int v
def kd_f (d : kd_D) : Nat := match d.2.2 with
  | [some (.inl r)] => r
  | _ => 0
def kd_E (G : wd_G) (d : kd_D) : va_E :=
  if d.1 = 13 then .inl (G.2.2.2.1, d.2.1, .inl fun _ => 0)
  else if d.1 = 14 then .inl (G.2.2.2.2.1, d.2.1, .inr (.inl fun _ => 0))
  else if d.1 = 15 then .inl (G.2.2.2.2.2.1, d.2.1, .inl fun _ => 0)
  else if d.1 = 16 then .inl (G.2.2.2.2.2.2, d.2.1, .inr (.inr (.inr (.inr fun k => some (wd_b G + (kd_f d + k))))))
  else .inr (d.1, d.2.2.map (kd_V (wd_b G)))
theorem kd_E_o {G : wd_G} {c n : Nat} {fs : List (Option (Nat ⊕ Int32))} (h : c < 13) : kd_E G (c, n, fs) = .inr (c, fs.map (kd_V (wd_b G))) := by
  have h1 : ¬ c = 13 := by omega
  have h2 : ¬ c = 14 := by omega
  have h3 : ¬ c = 15 := by omega
  have h4 : ¬ c = 16 := by omega
  simp [kd_E, h1, h2, h3, h4]
def kw_W (G : wd_G) (ks : List kd_D) : va_W := ks.mapIdx fun i d => (wd_b G + i, kd_E G d)
theorem kw_get (G : wd_G) (ks : List kd_D) (i : Nat) : (kw_W G ks)[i]? = (ks[i]?).map fun d => (wd_b G + i, kd_E G d) := by
  unfold kw_W
  rw [List.getElem?_mapIdx]
theorem kw_len (G : wd_G) (ks : List kd_D) : (kw_W G ks).length = ks.length := by
  unfold kw_W
  rw [List.length_mapIdx]
theorem kw_inv {G : wd_G} {ks : List kd_D} {i : Nat} {q : Nat × va_E} (h : (kw_W G ks)[i]? = some q) : i < ks.length ∧ q.1 = wd_b G + i := by
  rw [kw_get] at h
  cases hd : ks[i]? with
  | none => rw [hd] at h; cases h
  | some d =>
    rw [hd] at h
    cases h
    exact ⟨(List.getElem?_eq_some_iff.mp hd).1, rfl⟩
theorem kw_apart (G : wd_G) (ks : List kd_D) : va_D (wd_A G) (kw_W G ks) := by
  refine ⟨fun i j p q hi hj hpq => ?_, fun k q hk => ?_⟩
  · have h1 := (kw_inv hi).2
    have h2 := (kw_inv hj).2
    omega
  · show wd_b G ≤ q.1
    have h1 := (kw_inv hk).2
    omega
theorem kw_set {G : wd_G} {ks : List kd_D} {i : Nat} {d : kd_D} : (kw_W G ks).set i (wd_b G + i, kd_E G d) = kw_W G (ks.set i d) := by
  apply List.ext_getElem?
  intro j
  rw [kw_get, List.getElem?_set, List.getElem?_set, kw_len]
  by_cases e : i = j
  · subst e
    rw [if_pos rfl, if_pos rfl]
    by_cases h : i < ks.length
    · rw [if_pos h, if_pos h]; rfl
    · rw [if_neg h, if_neg h]; rfl
  · rw [if_neg e, if_neg e, kw_get]
theorem kw_app {G : wd_G} {ks : List kd_D} {d : kd_D} : kw_W G (ks ++ [d]) = kw_W G ks ++ [(wd_b G + ks.length, kd_E G d)] := by
  unfold kw_W
  rw [List.mapIdx_append]
  simp
/-- the judgement for a constructor's body -/
def kn_D (G : wd_G) (M : wd_M) (nL cells slots : Nat) (Q : State → Prop) (pc : Nat) (lv : List (Nat × Value)) (st : List Value) (ks : List kd_D) : Prop :=
  ∀ (H : Heap) (locs : List Loc) (ls : Array Slot), va_P (wd_D G) vwCl (kw_W G ks) H → H.size = wd_b G + ks.length → va_S (wd_A G) (mx_S M).heap H locs → lv_has ls nL lv →
    W (mx_P M) (mx_L M) (mx_E M) (mx_R M) (mx_S M) (mx_I M) (mx_A M) (mx_B M) (mx_M M) (mx_C M) H locs cells slots Q (F0 (mx_I M) pc ls st)
def kr_R (n u z : Nat) : Room := { frames := n, cells := u, slots := z, locals := 40 * n }
def kl_P (G : wd_G) (ks : List kd_D) : State → Prop := fun U => va_P (wd_D G) vwCl (kw_W G ks) U.heap ∧ U.heap.size = wd_b G + ks.length ∧ va_K (wd_D G) vwCl (wd_T G) U ∧ wd_S G U
def kl_Q (G : wd_G) (ks : List kd_D) : Array Value → State → Outcome → State → Prop := fun _ st o t => o = .returned none ∧ va_P (wd_D G) vwCl (kw_W G ks) t.heap ∧ t.heap.size = wd_b G + ks.length ∧ va_F (wd_A G) st t
def kl_C (G : wd_G) (l : Launch) (n u z : Nat) (y : MethodName) (cy : ByteArray) (ml : Nat) (avs : List Value) (ks ks' : List kd_D) : Prop :=
  Met l y (Cond.code y cy ml none :: gw_tbl) (kr_R n u z) (va_Pc avs (kl_P G ks)) (kl_Q G ks') u z (wd_A G)
def kx_X (M : wd_M) (n u z : Nat) : Prop := mx_R M = kr_R n u z ∧ (mx_M M).name = "<init>"
def kl_M (G : wd_G) (M : wd_M) (u z : Nat) (ks : List kd_D) : State → Prop := MQ (mx_B M) (kl_Q G ks) (mx_A M) (mx_S M) u z (wd_A G)
theorem kl_blind {G : wd_G} {ks : List kd_D} {avs : List Value} : FrameBlind (va_Pc avs (kl_P G ks)) := by
  intro a U g mk q
  obtain ⟨q0, q1, q2, q3, q4, q5, q6⟩ := q
  exact ⟨q0, q1, q2, va_K.moved (u := U) (U := U.calling g mk a) (Vm.Alike.refl U.vm) q3, q4, q5, q6⟩
/-- a field's rows, for the putfield of a constructor -/
def kf_ok (own : String) (idx ci k : Nat) (ty : FieldType) : Prop := ∃ (c : vw_C) (ts : Nat → FieldType), vwCl[ci]? = some c ∧ (∀ w ∈ u_ws c.1 c.2.1 c.2.2, w ∈ gw_tbl) ∧ k < c.2.2 ∧ Cond.fieldLink own idx c.1 (c.2.1 k).2.1 (c.2.1 k).2.2.1 ∈ gw_tbl ∧ (c.2.1 k).1 = c.1 ∧ ci < 13 ∧ (∀ k, k < c.2.2 → parseFieldDescriptor (c.2.1 k).2.2.1 = some (ts k)) ∧ (∀ a, a < c.2.2 → ∀ b, b < c.2.2 → a ≠ b → (c.2.1 a).2.1 ≠ (c.2.1 b).2.1) ∧ c.1 = own ∧ parseFieldDescriptor (c.2.1 k).2.2.1 = some ty
/-- a class's rows, for its new -/
def kc_ok (own : String) (idx ci : Nat) (fs : List (Option (Nat ⊕ Int32))) : Prop := ∃ (c : vw_C) (ts : Nat → FieldType), vwCl[ci]? = some c ∧ (∀ w ∈ u_ws c.1 c.2.1 c.2.2, w ∈ gw_tbl) ∧ Cond.classLink own idx c.1 ∈ gw_tbl ∧ Cond.instantiable c.1 c.2.2 ∈ gw_tbl ∧ Cond.initialized c.1 ∈ gw_tbl ∧ (∀ k, k < c.2.2 → parseFieldDescriptor (c.2.1 k).2.2.1 = some (ts k)) ∧ ci < 13 ∧ fs.length = c.2.2 ∧ ∀ (b j : Nat), j < c.2.2 → defaultValue (ts j) = vp_V (fs.map (kd_V b)) j
section KN
variable {G : wd_G} {M : wd_M} {own : String} {cc : ByteArray} {nL n u z cells slots : Nat} {ret : Option FieldType} {Q : State → Prop} {pc q : Nat} {lv : List (Nat × Value)} {st : List Value} {ks : List kd_D} {l : Launch} {y : MethodName} {cy : ByteArray} {ml : Nat} {avs : List Value}
theorem kl_of {ks' : List kd_D} {lv0 : List (Nat × Value)} (hy : plainName y.cls = true) (hy2 : y.name = "<init>") (hlen : (lg_sl avs).length ≤ ml) (hlv : lv_args 0 avs = lv0) (hN : gd_ok G)
    (body : ∀ M : wd_M, kx_X M n u z → mx_L M = l → cx_C G M y.cls cy ml n none → kn_D G M ml 0 0 (kl_M G M u z ks') 0 lv0 [] ks) : kl_C G l n u z y cy ml avs ks ks' := by
  refine Met.ofW (cc := cy) (maxL := ml) (ret := none) hy rfl ?_
  intro p e s m args below meth c s₁ B hml hv
  obtain ⟨rfl, hP, hz, hK, hS0⟩ := hv
  have hts := atoms_spec (ws := Cond.code y cy ml none :: gw_tbl) B.pre
  have hown : s.vm.findClass y.cls = some m.cls := findClass_of_methodNamed B.named
  have hin : meth.name = "<init>" := (name_of_methodNamed B.named B.method).1.trans hy2
  have hl := lv_entry avs (n := ml) hlen
  rw [lg_entry_eq]
  rw [hlv] at hl
  exact body (p, l, e, kr_R n u z, s, m, avs.toArray, below, meth, c) ⟨rfl, hin⟩ rfl ⟨B.exec, B.bytes, hml, hown, fun w hw => hts w (List.mem_cons_of_mem _ hw), hK, hS0, hN, Nat.le_refl _, Nat.le_refl _, B.returns, B.notSynchronized⟩ s.heap [] _ hP hz va_S.rf hl
theorem kn_vret (C : cx_C G M own cc nL n none) (hd : decode cc pc = .ok (.return_, 1)) (hc : cells ≤ u) (hs : slots ≤ z) : kn_D G M nL cells slots (kl_M G M u z ks) pc lv [] ks := by
  intro H locs ls hP hz hS hl
  unfold kl_M
  exact W.widen hc hs (W.vret (cx_x C) (cx_b C) (cx_r C) (fun t ht hW => ⟨rfl, by rw [ht]; exact hP, by rw [ht]; exact hz, hS.F ht⟩) hS.2.2 hd (cx_u C))
theorem kn_aload_n {f : Fin 4} {i : Nat} {x : Nat} (C : cx_C G M own cc nL n ret) (hd : decode cc pc = .ok (.aload_n f, 1)) (hi : (f : Nat) = i) (j : Nat) (hj : lv[j]? = some (i, .ref x)) (hq : pc + 1 = q) (k : kn_D G M nL cells slots Q q lv (.ref x :: st) ks) : kn_D G M nL cells slots Q pc lv st ks := by
  subst hq
  exact fun H locs ls hP hz hS hl => lv_aload_n (cx_x C) (cx_b C) hd hi (lv_at hl j hj) (k H locs ls hP hz hS hl)
theorem kn_astore_n {i : Nat} {g : Fin 4} {x : Nat} {lv0 : List (Nat × Value)} (C : cx_C G M own cc nL n ret) (hd : decode cc pc = .ok (.astore_n g, 1)) (hi : (g : Nat) = i) (hn : i < nL) (hl0 : lv.filter (fun q => !(q.1 == i) && !(q.1 + 1 == i && q.2.category == 2)) = lv0) (hq : pc + 1 = q) (k : kn_D G M nL cells slots Q q ((i, .ref x) :: lv0) st ks) : kn_D G M nL cells slots Q pc lv (.ref x :: st) ks := by
  subst hq
  exact fun H locs ls hP hz hS hl => lv_astore_n (cx_x C) (cx_b C) hd hi hl hn rfl (fun ls2 hl2 => k H locs ls2 hP hz hS (by rw [hl0] at hl2; exact hl2))
theorem kn_istore {i : Nat} {x : Int32} {lv0 : List (Nat × Value)} (C : cx_C G M own cc nL n ret) (hd : decode cc pc = .ok (.istore i, 2)) (hn : i < nL) (hl0 : lv.filter (fun q => !(q.1 == i) && !(q.1 + 1 == i && q.2.category == 2)) = lv0) (hq : pc + 2 = q) (k : kn_D G M nL cells slots Q q ((i, .int x) :: lv0) st ks) : kn_D G M nL cells slots Q pc lv (.int x :: st) ks := by
  subst hq
  exact fun H locs ls hP hz hS hl => lv_istore (cx_x C) (cx_b C) hd hl hn rfl (fun ls2 hl2 => k H locs ls2 hP hz hS (by rw [hl0] at hl2; exact hl2))
theorem kn_iconst {m : Int} {v : Int32} (C : cx_C G M own cc nL n ret) (hd : decode cc pc = .ok (.iconst m, 1)) (hv : Int32.ofInt m = v) (hq : pc + 1 = q) (k : kn_D G M nL cells slots Q q lv (.int v :: st) ks) : kn_D G M nL cells slots Q pc lv st ks := by
  subst hq
  exact fun H locs ls hP hz hS hl => lv_iconst (cx_x C) (cx_b C) hd hv (k H locs ls hP hz hS hl)
theorem kn_bipush {m : Int} {v : Int32} (C : cx_C G M own cc nL n ret) (hd : decode cc pc = .ok (.bipush m, 2)) (hv : (Int8.ofInt m).toInt32 = v) (hq : pc + 2 = q) (k : kn_D G M nL cells slots Q q lv (.int v :: st) ks) : kn_D G M nL cells slots Q pc lv st ks := by
  subst hq
  exact fun H locs ls hP hz hS hl => lv_bipush (cx_x C) (cx_b C) hd hv (k H locs ls hP hz hS hl)
theorem kn_sipush {m : Int} {v : Int32} (C : cx_C G M own cc nL n ret) (hd : decode cc pc = .ok (.sipush m, 3)) (hv : (Int16.ofInt m).toInt32 = v) (hq : pc + 3 = q) (k : kn_D G M nL cells slots Q q lv (.int v :: st) ks) : kn_D G M nL cells slots Q pc lv st ks := by
  subst hq
  exact fun H locs ls hP hz hS hl => lv_sipush (cx_x C) (cx_b C) hd hv (k H locs ls hP hz hS hl)
theorem kn_dup {va : Value} (C : cx_C G M own cc nL n ret) (hd : decode cc pc = .ok (.dup, 1)) (hva : va.category = 1) (hq : pc + 1 = q) (k : kn_D G M nL cells slots Q q lv (va :: va :: st) ks) : kn_D G M nL cells slots Q pc lv (va :: st) ks := by
  subst hq
  exact fun H locs ls hP hz hS hl => lv_dup (cx_x C) (cx_b C) hd hva (k H locs ls hP hz hS hl)
def ko_ok : Prop := Cond.instanceMethod Lib.objectInit ∈ gw_tbl ∧ Cond.code Lib.objectInit ⟨#[0xb1]⟩ 1 none ∈ gw_tbl
theorem kn_obj {x idx : Nat} (C : cx_C G M own cc nL n ret) (ho : ko_ok) (hlk : Cond.methodLink own idx Lib.objectInit ∈ gw_tbl) (hn : 0 < n) (hd : decode cc pc = .ok (.invokespecial idx, 3)) (hcat : (st.map fun v => v.category).sum ≤ 8) (hq : pc + 3 = q) (k : kn_D G M nL cells slots Q q lv st ks) : kn_D G M nL cells slots Q pc lv (.ref x :: st) ks := by
  subst hq
  intro H locs ls hP hz hS hl
  have hf := cx_f C
  have hlo := cx_l C
  have := lv_room (m := mx_I M) (pc := pc) (ls := ls) (rest := .ref x :: st) hcat
  exact W.objInit (cx_x C) (cx_b C) (cx_o C) (cx_w C _ hlk) (cx_w C _ ho.1) (cx_w C _ ho.2) rfl (hl.1.trans (cx_m C).symm) rfl hd (by omega) (by omega) (k H locs ls hP hz hS hl)
/-- a new array of ints, longs, booleans -/
theorem kn_newa {atype : ArrayType} {N : Int32} {kd len : Nat} (C : cx_C G M own cc nL n ret) (ha : Cond.arrayClass (newarray.typeOf atype) ∈ gw_tbl) (hk : (atype, kd) = (ArrayType.int, 13) ∨ (atype, kd) = (ArrayType.long, 14) ∨ (atype, kd) = (ArrayType.boolean, 15)) (hn : ¬ N < 0) (hN : N.toNatClampNeg = len) (hle : len ≤ 10000) (hc : cells + 1 ≤ (mx_R M).cells) (hs : slots + len ≤ (mx_R M).slots) (hd : decode cc pc = .ok (.newarray atype, 2)) (hq : pc + 2 = q)
    (k : kn_D G M nL (cells + 1) (slots + len) Q q lv (.ref (wd_b G + ks.length) :: st) (ks ++ [(kd, len, [])])) : kn_D G M nL cells slots Q pc lv (.int N :: st) ks := by
  subst hq
  intro H locs ls hP hz hS hl
  refine va_newaK (cx_x C) (cx_b C) (cx_w C _ ha) rfl hd rfl hn hN ?_ hc hs hz fun H1 cA e1 z1 o1 hAr hNm => ?_
  · rcases hk with h | h | h <;> cases h
    · show len * 4 ≤ _; omega
    · show len * 8 ≤ _; omega
    · show len * 1 ≤ _; omega
  refine k H1 locs ls ?_ (by rw [z1, List.length_append]; rfl) ⟨Nat.le_trans hS.1 (by omega), fun x h1 h2 => (o1 x (by have := hS.1; omega)).trans (hS.2.1 x h1 h2), hS.2.2⟩ hl
  rw [kw_app]
  refine (hP.kept (fun k0 x hx => o1 x.1 (by have := (hP k0 x hx).lt; omega))).app (fun k0 x hx => ?_)
  have h0 : k0 < 1 := (List.getElem?_eq_some_iff.mp hx).1
  rw [show k0 = 0 by omega] at hx
  cases hx
  have hK := (cx_k C).2
  rcases hk with h | h | h <;> cases h
  · have := (hK 0 _ rfl).2
    cases Option.some.inj (hNm.symm.trans this)
    exact e1
  · have := (hK 1 _ rfl).2
    cases Option.some.inj (hNm.symm.trans this)
    exact e1
  · have := (hK 2 _ rfl).2
    cases Option.some.inj (hNm.symm.trans this)
    exact e1
theorem kn_new {idx ci : Nat} {fs : List (Option (Nat ⊕ Int32))} (C : cx_C G M own cc nL n ret) (hk : kc_ok own idx ci fs) (hc : cells + 1 ≤ (mx_R M).cells) (hs : slots + fs.length ≤ (mx_R M).slots) (hd : decode cc pc = .ok (.new idx, 3)) (hq : pc + 3 = q)
    (k : kn_D G M nL (cells + 1) (slots + fs.length) Q q lv (.ref (wd_b G + ks.length) :: st) (ks ++ [(ci, 0, fs)])) : kn_D G M nL cells slots Q pc lv st ks := by
  subst hq
  obtain ⟨c, ts, h1, h2, h3, h4, h5, h6, h7, h8, h9⟩ := hk
  intro H locs ls hP hz hS hl
  have hKn := (cx_k C).1 ci _ h1
  rw [h8] at hs k
  refine W.newcK (cx_x C) (cx_b C) (cx_o C) (cx_w C _ h3) (cx_w C _ h4) (cx_w C _ h5) rfl hd hc hs hKn.2.1 hz fun H1 kC hkC e1 z1 o1 => ?_
  refine k H1 locs ls ?_ (by rw [z1, List.length_append]; rfl) ⟨Nat.le_trans hS.1 (by omega), fun x h1 h2 => (o1 x (by have := hS.1; omega)).trans (hS.2.1 x h1 h2), hS.2.2⟩ hl
  rw [kw_app]
  refine (hP.kept (fun k0 x hx => o1 x.1 (by have := (hP k0 x hx).lt; omega))).app (fun k0 x hx => ?_)
  have h0 : k0 < 1 := (List.getElem?_eq_some_iff.mp hx).1
  rw [show k0 = 0 by omega] at hx
  cases hx
  rw [kd_E_o h7]
  exact ⟨_, h1, (u_born ts (cx_w C) h2 hKn hkC e1 h6).to (fun j hj => h9 _ j hj)⟩
theorem kn_put {idx ci i j len : Nat} {fs : List (Option (Nat ⊕ Int32))} {v : Option (Nat ⊕ Int32)} {va : Value} {ty : FieldType} (C : cx_C G M own cc nL n ret) (hin : (mx_M M).name = "<init>") (hf : kf_ok own idx ci j ty) (hi : ks[i]? = some (ci, len, fs)) (hj : j < fs.length) (hv : kd_V (wd_b G) v = va) (hna : narrow ty va = va) (hfit : fits ty va = true) (hd : decode cc pc = .ok (.putfield idx, 3)) (hq : pc + 3 = q)
    (k : kn_D G M nL cells slots Q q lv st (ks.set i (ci, len, fs.set j v))) : kn_D G M nL cells slots Q pc lv (va :: .ref (wd_b G + i) :: st) ks := by
  subst hq
  subst hv
  obtain ⟨c, ts, h1, h2, h3, h4, h5, h7, h8, h9, h10, h11⟩ := hf
  intro H locs ls hP hz hS hl
  have hD := kw_apart G ks
  have he : (kw_W G ks)[i]? = some (wd_b G + i, .inr (ci, fs.map (kd_V (wd_b G)))) := by rw [kw_get, hi, ← kd_E_o (n := len) h7]; rfl
  have hlen : j < (fs.map (kd_V (wd_b G))).length := by rw [List.length_map]; exact hj
  have hap := va_apart (own := own) (cx_w C) h2 ts h8 h9 (cx_k C) h1
  obtain ⟨r, g1, cell, q1, q2, q3, q4⟩ := hP i _ he
  cases Option.some.inj (g1.symm.trans h1)
  obtain ⟨hSl, hfc, kC, hkC, hkind⟩ := (cx_k C).1 ci _ h1
  obtain ⟨cf, kf, fi, f, hi2, hsl⟩ := hSl j h3
  have hlay := cx_w C _ (h2 _ (u_in_lay h3))
  have hst := (u_facts hfc hkC (u_lays (cx_w C) h2 h3) hi2).1
  have hset : (kw_W G ks).set i (wd_b G + i, .inr (ci, (fs.map (kd_V (wd_b G))).set j (kd_V (wd_b G) v))) = kw_W G (ks.set i (ci, len, fs.set j v)) := by
    rw [← kw_set, kd_E_o h7, List.map_set]
  unfold u_lay at hlay
  by_cases hfin : (c.2.1 j).2.2.2 = true
  · rw [if_pos hfin] at hlay
    have hcf : (mx_I M).cls = cf := by
      obtain ⟨_, _, c', _, _, _, -, -, hf', -, -, -, hown2, -⟩ := Cond.laysFinal_spec hlay
      have e1 : c' = cf := by have := hi2.symm.trans hf'; simp at this; exact this.1.symm
      rw [h5, h10] at hown2
      rw [← e1]; exact Option.some.inj ((cx_o C).symm.trans hown2)
    have h6 := u_fits hfc hkC hkind (Or.inr hlay) hi2 h11 hna hfit
    refine W.putFinK (cx_x C) (cx_b C) (cx_o C) (cx_w C _ h4) (by rw [h5] at hi2; exact hi2) hst hcf hin (by rw [q2]; exact h6) q1 q3 (by rw [hsl]; exact k2_hasslot (q4 j h3)) rfl rfl hd fun H' e1 e2 e3 => ?_
    rw [hsl] at e1 ⊢
    have hP2 := hP.set (H1 := H') (e := .inr (ci, (fs.map (kd_V (wd_b G))).set j (kd_V (wd_b G) v))) hD he ⟨_, h1, t_OB.to (V := updV (vp_V (fs.map (kd_V (wd_b G)))) j (kd_V (wd_b G) v)) ⟨_, e1, q2, q3, t_set q4 hap h3 _⟩ (fun j0 _ => vp_updV_set hlen _ j0)⟩ e3
    rw [hset] at hP2
    exact k H' _ ls hP2 (by rw [e2, List.length_set]; exact hz) (hS.put e2 e3 (hD.2 i _ he)) hl
  · rw [if_neg hfin] at hlay
    have h6 := u_store hfc hkC hkind hlay hi2 h11 hna hfit
    refine W.putK (cx_x C) (cx_b C) (f := f) ⟨cx_o C, cx_w C _ h4, ⟨_, _, _, by rw [h5] at hi2; exact hi2⟩, hst⟩ (by rw [q2]; exact h6) q1 q3 (by rw [hsl]; exact k2_hasslot (q4 j h3)) rfl rfl hd fun H' e1 e2 e3 => ?_
    rw [hsl] at e1 ⊢
    have hP2 := hP.set (H1 := H') (e := .inr (ci, (fs.map (kd_V (wd_b G))).set j (kd_V (wd_b G) v))) hD he ⟨_, h1, t_OB.to (V := updV (vp_V (fs.map (kd_V (wd_b G)))) j (kd_V (wd_b G) v)) ⟨_, e1, q2, q3, t_set q4 hap h3 _⟩ (fun j0 _ => vp_updV_set hlen _ j0)⟩ e3
    rw [hset] at hP2
    exact k H' _ ls hP2 (by rw [e2, List.length_set]; exact hz) (hS.put e2 e3 (hD.2 i _ he)) hl
theorem kn_get {idx ci i j len r : Nat} {fs : List (Option (Nat ⊕ Int32))} {t : Bool} (C : cx_C G M own cc nL n ret) (hf : fd_ok own idx ci j t) (hi : ks[i]? = some (ci, len, fs)) (hv : fs[j]? = some (some (.inl r))) (hd : decode cc pc = .ok (.getfield idx, 3)) (hq : pc + 3 = q) (k : kn_D G M nL cells slots Q q lv (.ref (wd_b G + r) :: st) ks) : kn_D G M nL cells slots Q pc lv (.ref (wd_b G + i) :: st) ks := by
  subst hq
  obtain ⟨c, h1, h2, h3, h4, h5, h6, h7⟩ := hf
  intro H locs ls hP hz hS hl
  have he : (kw_W G ks)[i]? = some (wd_b G + i, .inr (ci, fs.map (kd_V (wd_b G)))) := by rw [kw_get, hi, ← kd_E_o (n := len) h7]; rfl
  exact va_get (cx_x C) (cx_b C) (cx_w C) h2 (cx_o C) (cx_k C) hP i he h1 j h3 (cx_w C _ h4) (by rw [h5]; exact fun _ h9 => h9) (by rw [List.getElem?_map, hv]; rfl) hd (k H locs ls hP hz hS hl)
theorem kn_after {H : Heap} {locs : List Loc} {ls : Array Slot} {st0 : List Value} {ks' : List kd_D} {u' z' : Nat} {a : Array Value} (hr : va_Run (mx_P M) (mx_L M) (mx_E M) (mx_R M) (mx_S M) (mx_I M) (mx_A M) (mx_B M) (mx_M M) (mx_C M) H locs cells slots u' z' (F0 (mx_I M) pc ls st0) st (kl_Q G ks' a) (wd_A G)) (hS : va_S (wd_A G) (mx_S M).heap H locs) (hl : lv_has ls nL lv)
    (k : kn_D G M nL (cells + u') (slots + z') Q (pc + 3) lv st ks') : W (mx_P M) (mx_L M) (mx_E M) (mx_R M) (mx_S M) (mx_I M) (mx_A M) (mx_B M) (mx_M M) (mx_C M) H locs cells slots Q (F0 (mx_I M) pc ls st0) := by
  intro T hT X
  obtain ⟨v2, st₀, t, T', L, h0, X', hL, e1, e2, ⟨hv, hPt, hzt, hz, hk⟩, stp⟩ := hr T hT X
  cases hv
  rw [h0] at hz hk
  obtain ⟨t2, a1, b1⟩ := k T'.heap (locs ++ L) ls (by rw [e1]; exact hPt) (by rw [e1]; exact hzt) ⟨Nat.le_trans hS.1 (by rw [e1]; exact hz), fun q h1 h2 => by rw [e1, hk q (Nat.lt_of_lt_of_le h1 hS.1) h2]; exact hS.2.1 q h1 h2, fun q hq => by
      rcases List.mem_append.mp hq with h | h
      · exact hS.2.2 q h
      · exact hL q h⟩ hl T' rfl X'
  exact ⟨t2, stp t2 a1, b1⟩
/-- a constructor's own rows -/
def ki_ok (y : MethodName) (cy : ByteArray) (ml na : Nat) : Prop := mt_ok y cy ml none na ∧ y.name = "<init>" ∧ Cond.instanceMethod y ∈ gw_tbl
theorem kn_call {n' u' z' na idx o : Nat} {As st0 : List Value} {ks' : List kd_D} (C : cx_C G M own cc nL n ret) (K : kl_C G (mx_L M) n' u' z' y cy ml (.ref (wd_b G + o) :: As) ks ks') (hm : ki_ok y cy ml na) (hlk : Cond.methodLink own idx y ∈ gw_tbl) (hn : n' < n) (hna : As.length = na) (hc : cells + u' ≤ (mx_R M).cells ∧ slots + z' ≤ (mx_R M).slots) (hcat : (st.map fun v => v.category).sum ≤ 8) (hd : decode cc pc = .ok (.invokespecial idx, 3)) (hst : st0 = As.reverse ++ .ref (wd_b G + o) :: st) (hq : pc + 3 = q)
    (k : kn_D G M nL (cells + u') (slots + z') Q q lv st ks') : kn_D G M nL cells slots Q pc lv st0 ks := by
  subst hq
  subst hst
  intro H locs ls hP hz hS hl
  have hf := cx_f C
  have hlo := cx_l C
  obtain ⟨hm, hy, hin⟩ := hm
  have hml := hm.2.2.2
  exact kn_after (va_runI (n := na) (b := wd_b G + o) (As := As) (rest := st) ⟨cx_x C, cx_b C, cx_m C, cx_o C, cx_w C⟩ K ⟨callB_of na (cx_w C) (gw_cons hm) rfl rfl rfl (cx_w C _ hm.2.1) (cx_w C _ hlk) hm.2.2.1 ⟨by show n' + 1 ≤ _; omega, by show 8 + (ml + 11) + 40 * n' ≤ _; omega⟩, hy, cx_w C _ hin⟩ ⟨kl_blind, fun U hU hW => ⟨rfl, by rw [hU]; exact hP, by rw [hU]; exact hz, va_K.moved hW.alike (cx_k C), (cx_s C).step hS hU hW⟩⟩ rfl hna hl.1 rfl (lv_room hcat) hd hc) hS hl k
theorem kn_callN {n' u' z' na idx o : Nat} {host : String} {As st0 : List Value} {ks' : List kd_D} (C : cx_C G M own cc nL n ret) (K : kl_C G (mx_L M) n' u' z' y cy ml (.ref (wd_b G + o) :: As) ks ks') (hm : ki_ok y cy ml na) (hlk : Cond.methodLinkNest own idx y host ∈ lw_tbl) (hn : n' < n) (hna : As.length = na) (hc : cells + u' ≤ (mx_R M).cells ∧ slots + z' ≤ (mx_R M).slots) (hcat : (st.map fun v => v.category).sum ≤ 8) (hd : decode cc pc = .ok (.invokespecial idx, 3)) (hst : st0 = As.reverse ++ .ref (wd_b G + o) :: st) (hq : pc + 3 = q)
    (k : kn_D G M nL (cells + u') (slots + z') Q q lv st ks') : kn_D G M nL cells slots Q pc lv st0 ks := by
  subst hq
  subst hst
  intro H locs ls hP hz hS hl
  have hf := cx_f C
  have hlo := cx_l C
  obtain ⟨hm, hy, hin⟩ := hm
  have hml := hm.2.2.2
  obtain ⟨-, a0, hw0, -⟩ := cx_g C
  have hnw : va_Nw (.methodLinkNest own idx y host) (mx_S M) := va_Nw.warmM (cx_s C).1 (va_Nw.of rfl (hw0 _ hlk))
  exact kn_after (va_runIN (n := na) (b := wd_b G + o) (As := As) (rest := st) ⟨cx_x C, cx_b C, cx_m C, cx_o C, cx_w C⟩ K ⟨va_cnB na (cx_w C) (gw_cons hm) rfl rfl rfl hnw (cx_w C _ hm.2.1) hm.2.2.1 ⟨by show n' + 1 ≤ _; omega, by show 8 + (ml + 11) + 40 * n' ≤ _; omega⟩, hy, cx_w C _ hin⟩ ⟨kl_blind, fun U hU hW => ⟨rfl, by rw [hU]; exact hP, by rw [hU]; exact hz, va_K.moved hW.alike (cx_k C), (cx_s C).step hS hU hW⟩⟩ rfl hna hl.1 rfl (lv_room hcat) hd hc) hS hl k
theorem kn_wid {c2 s2 : Nat} (h1 : cells ≤ c2) (h2 : slots ≤ s2) (k : kn_D G M nL c2 s2 Q pc lv st ks) : kn_D G M nL cells slots Q pc lv st ks := fun H locs ls hP hz hS hl => W.widen h1 h2 (k H locs ls hP hz hS hl)
def kr_rows (K : Nat) : Nat → List kd_D
  | 0 => []
  | i + 1 => (13, K, []) :: kr_rows K i
theorem kr_get (K N j : Nat) (h : j < N) : (kr_rows K N)[j]? = some (13, K, []) := by
  induction N generalizing j with
  | zero => omega
  | succ N ih =>
    cases j with
    | zero => rfl
    | succ j => exact ih j (by omega)
theorem kr_len (K N : Nat) : (kr_rows K N).length = N := by
  induction N with
  | zero => rfl
  | succ N ih => show (kr_rows K N).length + 1 = N + 1; rw [ih]
theorem kn_mna {idx : Nat} {N K : Int32} {n' k' : Nat} (C : cx_C G M own cc nL n ret) (hcl : Cond.classLink own idx "[[I" ∈ gw_tbl) (hov : Cond.arrayOver (.array .int) ∈ lw_tbl) (har : Cond.arrayClass .int ∈ gw_tbl) (hN0 : ¬ N < 0) (hK0 : ¬ K < 0) (hN : N.toNatClampNeg = n') (hK : K.toNatClampNeg = k') (hle : n' ≤ 1000 ∧ k' ≤ 1000) (hc : cells + (1 + n') ≤ (mx_R M).cells) (hs : slots + (n' + n' * k') ≤ (mx_R M).slots) (hd : decode cc pc = .ok (.multianewarray idx 2, 4)) (hq : pc + 4 = q)
    (k : kn_D G M nL (cells + 1 + n') (slots + n' + n' * k') Q q lv (.ref (wd_b G + ks.length) :: st) (ks ++ (16, n', [some (.inl (ks.length + 1))]) :: kr_rows k' n')) : kn_D G M nL cells slots Q pc lv (.int K :: .int N :: st) ks := by
  subst hq
  subst hN
  subst hK
  intro H locs ls hP hz hS hl
  obtain ⟨-, a0, hw0, -⟩ := cx_g C
  have hov2 : (Cond.arrayOver (.array .int)).before (mx_A M) (mx_S M) = true := by
    have h1 : (Cond.arrayOver (.array .int)).before a0 (G.1.setVm (mx_S M).vm) = true := by rw [Cond.arrayOver_setVmC (cx_s C).1.alike]; exact hw0 _ hov
    exact h1
  refine mu_W (cx_x C) (cx_b C) (cx_o C) (cx_w C _ hcl) hov2 (cx_w C _ har) hd hN0 hK0 (by omega) (by omega) hc hs fun H1 cA cI fA fI z1 e1 o1 r1 => ?_
  have hKt := (cx_k C).2
  have eA := (hKt 3 _ rfl).2
  have eI := (hKt 0 _ rfl).2
  cases Option.some.inj (fA.symm.trans eA)
  cases Option.some.inj (fI.symm.trans eI)
  rw [hz]
  refine k H1 _ ls ?_ ?_ ⟨Nat.le_trans hS.1 (by omega), fun x h1 h2 => (o1 x (by have := hS.1; omega)).trans (hS.2.1 x h1 h2), fun x hx => ?_⟩ hl
  · intro i x hx
    rw [kw_get] at hx
    by_cases hi : i < ks.length
    · rw [List.getElem?_append_left hi] at hx
      have hx2 : (kw_W G ks)[i]? = some x := by rw [kw_get]; exact hx
      exact (hP i x hx2).kept (o1 x.1 (hP i x hx2).lt)
    · rw [List.getElem?_append_right (by omega)] at hx
      by_cases h0 : i - ks.length = 0
      · rw [h0] at hx
        cases hx
        have ei : i = ks.length := by omega
        subst ei
        show H1[wd_b G + ks.length]? = some (vp_cell _ _)
        rw [← hz, e1, vp_cell_q]
        refine congrArg some ?_
        unfold mu_o arrV
        congr 1
        apply Array.ext
        · simp
        · intro j h1 h2
          have hj : j < N.toNatClampNeg := by simpa using h1
          simp only [Array.getElem_ofFn]
          rw [if_pos hj]
          show va_rf _ = va_rf (some (wd_b G + (ks.length + 1 + j)))
          rw [hz]
          exact congrArg (fun t => va_rf (some t)) (by omega)
      · obtain ⟨j, hj⟩ : ∃ j, i - ks.length = j + 1 := ⟨i - ks.length - 1, by omega⟩
        rw [hj, List.getElem?_cons_succ] at hx
        by_cases hjn : j < N.toNatClampNeg
        · rw [kr_get _ _ _ hjn] at hx
          cases hx
          have := r1 j hjn
          rw [hz, show wd_b G + ks.length + 1 + j = wd_b G + i by omega] at this
          exact this
        · rw [List.getElem?_eq_none (by rw [kr_len]; omega)] at hx
          cases hx
  · rw [z1, hz, List.length_append, List.length_cons, kr_len]; omega
  · rcases List.mem_append.mp hx with h | h
    · exact hS.2.2 x h
    · obtain ⟨j, -, rfl⟩ := List.mem_map.mp h
      show wd_b G ≤ wd_b G + ks.length
      omega
theorem kz_get {pre rest : List kd_D} {o : kd_D} {K : Nat} (h : pre.length = K) : (pre ++ o :: rest)[K]? = some o := by
  subst h
  rw [List.getElem?_append_right (Nat.le_refl _), Nat.sub_self]
  rfl
theorem kz_set {pre rest : List kd_D} {o o' : kd_D} {K : Nat} (h : pre.length = K) : (pre ++ o :: rest).set K o' = pre ++ o' :: rest := by
  subst h
  rw [List.set_append_right _ _ (Nat.le_refl _), Nat.sub_self]
  rfl
theorem kz_len {pre rest : List kd_D} {o : kd_D} {L : Nat} (h : pre.length + (rest.length + 1) = L) : (pre ++ o :: rest).length = L := by
  rw [List.length_append, List.length_cons]; exact h
theorem kz_app {pre rest l : List kd_D} {o : kd_D} : (pre ++ o :: rest) ++ l = pre ++ o :: (rest ++ l) := by simp
section KZ
variable {pre rest : List kd_D} {o : kd_D} {L : Nat}
theorem kn_newaZ {atype : ArrayType} {N : Int32} {kd len : Nat} (hL : pre.length + (rest.length + 1) = L) (C : cx_C G M own cc nL n ret) (ha : Cond.arrayClass (newarray.typeOf atype) ∈ gw_tbl) (hk : (atype, kd) = (ArrayType.int, 13) ∨ (atype, kd) = (ArrayType.long, 14) ∨ (atype, kd) = (ArrayType.boolean, 15)) (hn : ¬ N < 0) (hN : N.toNatClampNeg = len) (hle : len ≤ 10000) (hc : cells + 1 ≤ (mx_R M).cells) (hs : slots + len ≤ (mx_R M).slots) (hd : decode cc pc = .ok (.newarray atype, 2)) (hq : pc + 2 = q)
    (k : ∀ r2 : List kd_D, r2 = rest ++ [(kd, len, [])] → pre.length + (r2.length + 1) = L + 1 → kn_D G M nL (cells + 1) (slots + len) Q q lv (.ref (wd_b G + L) :: st) (pre ++ o :: r2)) : kn_D G M nL cells slots Q pc lv (.int N :: st) (pre ++ o :: rest) := by
  refine kn_newa C ha hk hn hN hle hc hs hd hq ?_
  rw [kz_len hL, kz_app]
  exact k _ rfl (by rw [List.length_append]; show pre.length + (rest.length + 1 + 1) = L + 1; omega)
theorem kn_newZ {idx ci : Nat} {fs : List (Option (Nat ⊕ Int32))} (hL : pre.length + (rest.length + 1) = L) (C : cx_C G M own cc nL n ret) (hk : kc_ok own idx ci fs) (hc : cells + 1 ≤ (mx_R M).cells) (hs : slots + fs.length ≤ (mx_R M).slots) (hd : decode cc pc = .ok (.new idx, 3)) (hq : pc + 3 = q)
    (k : kn_D G M nL (cells + 1) (slots + fs.length) Q q lv (.ref (wd_b G + L) :: st) ((pre ++ o :: rest) ++ [(ci, 0, fs)])) : kn_D G M nL cells slots Q pc lv st (pre ++ o :: rest) := by
  refine kn_new C hk hc hs hd hq ?_
  rw [kz_len hL]
  exact k
theorem kn_mnaZ {idx : Nat} {N K : Int32} {n' k' : Nat} (hL : pre.length + (rest.length + 1) = L) (C : cx_C G M own cc nL n ret) (hcl : Cond.classLink own idx "[[I" ∈ gw_tbl) (hov : Cond.arrayOver (.array .int) ∈ lw_tbl) (har : Cond.arrayClass .int ∈ gw_tbl) (hN0 : ¬ N < 0) (hK0 : ¬ K < 0) (hN : N.toNatClampNeg = n') (hK : K.toNatClampNeg = k') (hle : n' ≤ 1000 ∧ k' ≤ 1000) (hc : cells + (1 + n') ≤ (mx_R M).cells) (hs : slots + (n' + n' * k') ≤ (mx_R M).slots) (hd : decode cc pc = .ok (.multianewarray idx 2, 4)) (hq : pc + 4 = q)
    (k : ∀ r2 : List kd_D, r2 = rest ++ ((16, n', [some (.inl (L + 1))]) :: kr_rows k' n') → pre.length + (r2.length + 1) = L + 1 + n' → kn_D G M nL (cells + 1 + n') (slots + n' + n' * k') Q q lv (.ref (wd_b G + L) :: st) (pre ++ o :: r2)) : kn_D G M nL cells slots Q pc lv (.int K :: .int N :: st) (pre ++ o :: rest) := by
  refine kn_mna C hcl hov har hN0 hK0 hN hK hle hc hs hd hq ?_
  rw [kz_len hL, kz_app]
  exact k _ rfl (by rw [List.length_append, List.length_cons, kr_len]; omega)
theorem kn_putZ {idx ci j len K : Nat} {fs : List (Option (Nat ⊕ Int32))} {v : Option (Nat ⊕ Int32)} {va : Value} {ty : FieldType} (hK : pre.length = K) (C : cx_C G M own cc nL n ret) (hin : (mx_M M).name = "<init>") (hf : kf_ok own idx ci j ty) (hj : j < fs.length) (hva : kd_V (wd_b G) v = va) (hna : narrow ty va = va) (hfit : fits ty va = true) (hd : decode cc pc = .ok (.putfield idx, 3)) (hq : pc + 3 = q)
    (k : kn_D G M nL cells slots Q q lv st (pre ++ (ci, len, fs.set j v) :: rest)) : kn_D G M nL cells slots Q pc lv (va :: .ref (wd_b G + K) :: st) (pre ++ (ci, len, fs) :: rest) := by
  refine kn_put C hin hf (kz_get hK) hj hva hna hfit hd hq ?_
  rw [kz_set hK]
  exact k
theorem kn_getZ {idx ci j len r K : Nat} {fs : List (Option (Nat ⊕ Int32))} {t : Bool} (hK : pre.length = K) (C : cx_C G M own cc nL n ret) (hf : fd_ok own idx ci j t) (hv : fs[j]? = some (some (.inl r))) (hd : decode cc pc = .ok (.getfield idx, 3)) (hq : pc + 3 = q) (k : kn_D G M nL cells slots Q q lv (.ref (wd_b G + r) :: st) (pre ++ (ci, len, fs) :: rest)) : kn_D G M nL cells slots Q pc lv (.ref (wd_b G + K) :: st) (pre ++ (ci, len, fs) :: rest) := kn_get C hf (kz_get hK) hv hd hq k
/-- a constructor's contract, wherever its object lies -/
def kz_C (G : wd_G) (l : Launch) (n u z : Nat) (y : MethodName) (cy : ByteArray) (ml ci : Nat) (As : List Value) (fs : List (Option (Nat ⊕ Int32))) (f : Nat → List (Option (Nat ⊕ Int32))) (g : Nat → List kd_D) : Prop :=
  ∀ (pre : List kd_D) (K : Nat), pre.length = K → kl_C G l n u z y cy ml (.ref (wd_b G + K) :: As) (pre ++ [(ci, 0, fs)]) (pre ++ (ci, 0, f K) :: g K)
theorem kn_callZ {n' u' z' na idx ci gl : Nat} {As st0 : List Value} {fs : List (Option (Nat ⊕ Int32))} {f : Nat → List (Option (Nat ⊕ Int32))} {g : Nat → List kd_D} (hL : pre.length + (rest.length + 1) = L) (C : cx_C G M own cc nL n ret) (K : kz_C G (mx_L M) n' u' z' y cy ml ci As fs f g) (hg : (g L).length = gl) (hm : ki_ok y cy ml na) (hlk : Cond.methodLink own idx y ∈ gw_tbl) (hn : n' < n) (hna : As.length = na) (hc : cells + u' ≤ (mx_R M).cells ∧ slots + z' ≤ (mx_R M).slots) (hcat : (st.map fun v => v.category).sum ≤ 8) (hd : decode cc pc = .ok (.invokespecial idx, 3)) (hst : st0 = As.reverse ++ .ref (wd_b G + L) :: st) (hq : pc + 3 = q)
    (k : ∀ r3 : List kd_D, r3 = rest ++ ((ci, 0, f L) :: g L) → pre.length + (r3.length + 1) = L + 1 + gl → kn_D G M nL (cells + u') (slots + z') Q q lv st (pre ++ o :: r3)) : kn_D G M nL cells slots Q pc lv st0 ((pre ++ o :: rest) ++ [(ci, 0, fs)]) := by
  refine kn_call C (K (pre ++ o :: rest) L (kz_len hL)) hm hlk hn hna hc hcat hd hst hq ?_
  rw [kz_app]
  exact k _ rfl (by rw [List.length_append, List.length_cons, hg]; omega)
theorem kn_callNZ {n' u' z' na idx ci gl : Nat} {host : String} {As st0 : List Value} {fs : List (Option (Nat ⊕ Int32))} {f : Nat → List (Option (Nat ⊕ Int32))} {g : Nat → List kd_D} (hL : pre.length + (rest.length + 1) = L) (C : cx_C G M own cc nL n ret) (K : kz_C G (mx_L M) n' u' z' y cy ml ci As fs f g) (hg : (g L).length = gl) (hm : ki_ok y cy ml na) (hlk : Cond.methodLinkNest own idx y host ∈ lw_tbl) (hn : n' < n) (hna : As.length = na) (hc : cells + u' ≤ (mx_R M).cells ∧ slots + z' ≤ (mx_R M).slots) (hcat : (st.map fun v => v.category).sum ≤ 8) (hd : decode cc pc = .ok (.invokespecial idx, 3)) (hst : st0 = As.reverse ++ .ref (wd_b G + L) :: st) (hq : pc + 3 = q)
    (k : ∀ r3 : List kd_D, r3 = rest ++ ((ci, 0, f L) :: g L) → pre.length + (r3.length + 1) = L + 1 + gl → kn_D G M nL (cells + u') (slots + z') Q q lv st (pre ++ o :: r3)) : kn_D G M nL cells slots Q pc lv st0 ((pre ++ o :: rest) ++ [(ci, 0, fs)]) := by
  refine kn_callN C (K (pre ++ o :: rest) L (kz_len hL)) hm hlk hn hna hc hcat hd hst hq ?_
  rw [kz_app]
  exact k _ rfl (by rw [List.length_append, List.length_cons, hg]; omega)
end KZ
theorem kn_ks {ks2 : List kd_D} (h : ks = ks2) (k : kn_D G M nL cells slots Q pc lv st ks2) : kn_D G M nL cells slots Q pc lv st ks := by subst h; exact k
/-- from a world in the making to the world made -/
theorem kn_dn {ρ : Type} {Q : ρ → State → Prop} {σ : hp_I} {τ : hp_L} {r : ρ} {ex : Option ρ} (hW : kw_W G ks = wd_W G σ τ) (hr : ex = some r) (k : dn_D G M nL cells slots Q pc lv st σ τ ex) : kn_D G M nL cells slots (Q r) pc lv st ks := fun H locs ls hP hz hS hl => k r hr H locs ls (by rw [← hW]; exact hP) hS hl
end KN
/-- the world made: the cells of the shape, all ints 0 but those set -/
def kd_ok (σ : hp_I) (i : Nat) (d : kd_D) : Bool := d.1 == sh_kd i && (if d.1 = 13 ∨ d.1 = 14 ∨ d.1 = 15 then d.2.1 == sh_ln i else if d.1 = 16 then d.2.1 == sh_ln i && kd_f d == i + 1 else decide (d.1 < 13) && decide (d.2.2 = ((sh_fl d.1).zipIdx.map fun t => if t.1 = true then some (.inl (sh_rf i t.2)) else some (.inr (σ i t.2)))))
theorem kd_is {G : wd_G} {σ : hp_I} {τ : hp_L} {i : Nat} {d : kd_D} (h : kd_ok σ i d = true) (hσ : (sh_kd i = 13 ∨ sh_kd i = 15) → σ i = fun _ => 0) (hτ : τ i = fun _ => 0) : kd_E G d = wd_E G σ τ i := by
  obtain ⟨c, n, fs⟩ := d
  unfold kd_ok at h
  simp only [Bool.and_eq_true, beq_iff_eq] at h
  obtain ⟨h1, h2⟩ := h
  by_cases e13 : c = 13
  · subst e13
    rw [if_pos (Or.inl rfl), beq_iff_eq] at h2
    rw [wd_E_I h1.symm, hσ (Or.inl h1.symm), ← h2]; rfl
  · by_cases e14 : c = 14
    · subst e14
      rw [if_pos (Or.inr (Or.inl rfl)), beq_iff_eq] at h2
      rw [wd_E_J h1.symm, hτ, ← h2]; rfl
    · by_cases e15 : c = 15
      · subst e15
        rw [if_pos (Or.inr (Or.inr rfl)), beq_iff_eq] at h2
        rw [wd_E_Z h1.symm, hσ (Or.inr h1.symm), ← h2]; rfl
      · rw [if_neg (by omega)] at h2
        by_cases e16 : c = 16
        · subst e16
          rw [if_pos rfl, Bool.and_eq_true, beq_iff_eq, beq_iff_eq] at h2
          rw [wd_E_A h1.symm, ← h2.1]
          have hrf : ∀ k, sh_rf i k = i + 1 + k := fun k => by unfold sh_rf; rw [if_pos h1.symm]
          show Sum.inl (G.2.2.2.2.2.2, n, Sum.inr (Sum.inr (Sum.inr (Sum.inr fun k => some (wd_b G + (kd_f (16, n, fs) + k)))))) = _
          rw [h2.2]
          simp only [hrf]
        · rw [if_neg e16, Bool.and_eq_true, decide_eq_true_eq, decide_eq_true_eq] at h2
          obtain ⟨h3, h4⟩ := h2
          rw [kd_E_o h3, wd_E_O h1.symm h3, h4]
          refine congrArg (fun t => Sum.inr (c, t)) ?_
          apply List.ext_getElem?
          intro j
          rw [sh_V_get, List.getElem?_map, List.getElem?_map, List.getElem?_zipIdx]
          cases (sh_fl c)[j]? with
          | none => rfl
          | some t => cases t <;> simp [kd_V]
theorem kd_all {G : wd_G} {σ : hp_I} {τ : hp_L} {ks : List kd_D} (hn : ks.length = G.2.1) (h : (ks.zipIdx.all fun q => kd_ok σ q.2 q.1) = true) (hσ : ∀ i, (sh_kd i = 13 ∨ sh_kd i = 15) → σ i = fun _ => 0) (hτ : ∀ i, τ i = fun _ => 0) : kw_W G ks = wd_W G σ τ := by
  apply List.ext_getElem?
  intro j
  rw [kw_get]
  by_cases hj : j < G.2.1
  · rw [wd_get σ τ hj]
    cases hd : ks[j]? with
    | none => have := List.getElem?_eq_none_iff.mp hd; omega
    | some d =>
      have h2 := List.all_eq_true.mp h (d, j) (List.mem_of_getElem? (i := j) (by rw [List.getElem?_zipIdx, hd]; simp))
      show some (wd_b G + j, kd_E G d) = _
      rw [kd_is h2 (hσ j) (hτ j)]
  · rw [List.getElem?_eq_none (by omega), List.getElem?_eq_none (by rw [wd_W, List.length_map, List.length_range]; omega)]
    rfl
