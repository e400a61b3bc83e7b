/-! THROWING an object of a class whose own constructor links its super's by another entry than the library's law has: (index i1, bytes by1) -/
section XS
def xs_at (own : String) (ic : Nat) (X : String) (i1 : Nat) (by1 : ByteArray) (Y : String) (names : List String) : List Cond :=
  Bundle.throwableAtoms ++ Bundle.throwableSAtoms ++ Bundle.passSAtoms X Y i1 by1 ++ Bundle.chainSAtoms Y names ++
  [.methodLink own ic (Bundle.initS X), .instantiable X 6, .castable X X, .selects X Bundle.tFill0 Bundle.tFill0, .selects X Bundle.tFill Bundle.tFill,
   .lays X Bundle.tN "cause" "Ljava/lang/Throwable;", .lays X Bundle.tN "stackTrace" Bundle.steD, .lays X Bundle.tN "suppressedExceptions" Bundle.listD, .lays X Bundle.tN "detailMessage" "Ljava/lang/String;",
   .isRef (.static Bundle.tN "UNASSIGNED_STACK" Bundle.steD), .isRef (.static Bundle.tN "SUPPRESSED_SENTINEL" Bundle.listD),
   .fieldLink Bundle.tN 198 Bundle.tN "backtrace" "Ljava/lang/Object;", .lays Bundle.tN Bundle.tN "backtrace" "Ljava/lang/Object;", .lays X Bundle.tN "backtrace" "Ljava/lang/Object;"]
variable {p : Program} {l : Launch} {e : Env} {R : Room} {s : State} {m₀ : MethodId} {args : Array Value} {below : List Frame} {meth : Method} {c : Code} {W : State} {locs : List Loc} {cells slots : Nat}
theorem xs_ctor (X : Stand p l e R s m₀ args below meth c W locs cells slots) (hexec : p.tables.exec = Jvm.exec) (htr : e.platform.stackTraces = false) {own cls Y : String} {names : List String} {ic i1 : Nat} {by1 : ByteArray}
    (hown : s.vm.findClass own = some m₀.cls) (hcls : Bundle.fit cls = true) (hY : Bundle.fit Y = true) (hnames : ∀ n ∈ names, Bundle.fit n = true)
    (hb0 : decode by1 0 = .ok (.aload_n 0, 1)) (hb1 : decode by1 1 = .ok (.aload_n 1, 1)) (hb2 : decode by1 2 = .ok (.invokespecial i1, 3)) (hb5 : decode by1 5 = .ok (.return_, 1))
    (h : ∀ a ∈ xs_at own ic cls i1 by1 Y names, a.before args s = true)
    (hlocs : ∀ x ∈ locs, ∀ cell, s.heap[x.base]? = some cell → cell.vm.isStatics = false)
    {a : Addr} {cX : ClassId} {kX : Class} (hfoundX : s.vm.findClass cls = some cX) (hkX : s.vm.classes[cX]? = some kX) (hcell : W.heap[a]? = some (freshCell cX kX)) (hnew : s.heap.size ≤ a)
    {msg : Value} (hmsg : msg.isRef = true)
    {g : JFrame} (hg : g.method = m₀) (hsize : g.locals.size = c.maxLocals) (hlocked : g.locked = none) (hentered : g.entered = []) {rest : List Value} (hstack : g.stack = msg :: .ref a :: .ref a :: rest)
    (hd6 : decode c.code g.pc = .ok (.invokespecial ic, 3)) (hd9 : decode c.code (g.pc + 3) = .ok (.athrow, 1)) (hout : ∀ x ∈ c.exceptionTable.toList, covers x (g.pc + 3) = false)
    (hRframes : names.length + 1 + 3 < R.frames) (hRlocals : 2 * g.monitorRoom + ((Value.ref a :: rest).map fun v => v.category).sum + (13 * (names.length + 1 + 1) + 42) ≤ R.locals) (hlocks : meth.locks = false) :
    ∃ U : State, Steps p.tables e below (W.setTop g) U ∧ U.status = .running ∧ Ended U below (.threw a) ∧ s.WarmedH U.vm ∧ s.sameButNew ({ U with vm := s.vm } : State) locs cells slots ∧
      ∃ ce, U.heap[a]? = some ce ∧ ce.vm = .none ∧ s.vm.findClass cls = some ce.cls := by
  have howns : e.platform.frameOwnsMonitors = true := by rw [X.admits.platform]
  have hfin : e.platform.finalization = false := by rw [X.admits.platform]
  have hpl : e.platform.magicAccessors = ({} : Platform).magicAccessors := by rw [X.admits.platform]
  have a' : ∀ x, x ∈ xs_at own ic cls i1 by1 Y names → x.holds args s none s [] = true := fun x hx => h x hx
  obtain ⟨T, Z0, L, -, Yt⟩ := ThrowableC.of_atoms (args := args) howns hfin hpl (fun x hx => h x (by simp [xs_at, hx]))
  obtain ⟨Z, Mi, LZ, LM, hnZ⟩ := Init0T.ofS_atoms (args := args) hpl L Yt (fun x hx => h x (by simp [xs_at, hx]))
  obtain ⟨P1, L1, hP1m, hP1s⟩ := PassC.ofS_atoms (args := args) (s := s) hpl (X := cls) (Y := Y) (Bundle.fit_spec hcls).1 (Bundle.fit_spec hY).2 hb0 hb1 hb2 hb5 (fun x hx => h x (by simp [xs_at, hx]))
  obtain ⟨P2, Ps, hlen, L2, hL, hP2m, hlink2, hlink⟩ := Bundle.chainS (args := args) hpl hnZ names Y hY hnames (fun x hx => h x (by simp [xs_at, hx]))
  have hsup : P1.sup = P2.m := Option.some.inj (hP1s.symm.trans hP2m)
  have hfound : s.vm.findClass cls = some P1.m.cls := findClass_of_methodNamed hP1m
  cases Option.some.inj (hfoundX.symm.trans hfound)
  obtain ⟨c1, kX', hc1, hk, hord, -, -, hn6⟩ := Cond.instantiable_spec (a' (.instantiable cls 6) (by simp [xs_at]))
  cases Option.some.inj (hc1.symm.trans hfound)
  cases Option.some.inj (hkX.symm.trans hk)
  have hsel0 : selectMethod e.platform s.vm P1.m.cls T.fill0 = .method T.fill0 := by
    obtain ⟨c2, r2, m2, q1, q2, q3, q4, -⟩ := Cond.selects_spec (a' (.selects cls Bundle.tFill0 Bundle.tFill0) (by simp [xs_at]))
    cases Option.some.inj (q1.symm.trans hfound)
    cases Option.some.inj (q2.symm.trans (State.methodFound?_of_named Yt.fill0 (by decide)))
    cases Option.some.inj (q3.symm.trans Yt.fill0)
    rw [Launch.admits_selectMethod X.admits]; exact q4
  have hselF : selectMethod e.platform s.vm P1.m.cls T.fill = .method T.fill := by
    obtain ⟨c2, r2, m2, q1, q2, q3, q4, -⟩ := Cond.selects_spec (a' (.selects cls Bundle.tFill Bundle.tFill) (by simp [xs_at]))
    cases Option.some.inj (q1.symm.trans hfound)
    cases Option.some.inj (q2.symm.trans (State.methodFound?_of_named Yt.fill (by decide)))
    cases Option.some.inj (q3.symm.trans Yt.fill)
    rw [Launch.admits_selectMethod X.admits]; exact q4
  obtain ⟨cellS0, hcS0, hiss⟩ := Yt.statics
  obtain ⟨u0, hu0⟩ := Cond.staticRefV Yt.unassigned L.unassignedStatic L.statics hcS0 hiss (a' (.isRef (.static Bundle.tN "UNASSIGNED_STACK" Bundle.steD)) (by simp [xs_at]))
  obtain ⟨sen, hsen⟩ := Cond.staticRefV Yt.sentinel L.sentinelStatic L.statics hcS0 hiss (a' (.isRef (.static Bundle.tN "SUPPRESSED_SENTINEL" Bundle.listD)) (by simp [xs_at]))
  obtain ⟨ci198, i198, fB, hk198, hg198, ha198, hsB, -, hnB, htB, hffB⟩ := Cond.ownField (t := .object "java/lang/Object") Yt.found L.cls (by decide +kernel) (a' (.fieldLink Bundle.tN 198 Bundle.tN "backtrace" "Ljava/lang/Object;") (by simp [xs_at])) (a' (.lays Bundle.tN Bundle.tN "backtrace" "Ljava/lang/Object;") (by simp [xs_at])) e.platform hpl
  obtain ⟨cellS, hcS', heS, -, hkeep⟩ := X.same.2.2.2.2.2 T.aS cellS0 hcS0
  have hcellS : W.heap[T.aS]? = some cellS := hcS'
  have hout' : ∀ i, (⟨T.aS, i⟩ : Loc) ∉ locs := fun i hmem => by
    have := hlocs _ hmem cellS0 hcS0
    rw [hiss] at this; cases this
  have hknownS : cellS.vm ≠ .unknown := by
    rw [heS]; intro hu
    rw [show cellS0.vm = .unknown from hu] at hiss
    cases hiss
  have hneS : T.aS ≠ a := Nat.ne_of_lt (Nat.lt_of_lt_of_le (Array.getElem?_eq_some_iff.mp hcS0).1 hnew)
  obtain ⟨iM, hffM⟩ := Yt.msg
  obtain ⟨tyC, dC, hdC, hdnC⟩ := Cond.laysAt hfound hk Yt.cause (a' (.lays cls Bundle.tN "cause" "Ljava/lang/Throwable;") (by simp [xs_at]))
  obtain ⟨tyS, dS, hdS, hdnS⟩ := Cond.laysAt hfound hk Yt.stack (a' (.lays cls Bundle.tN "stackTrace" Bundle.steD) (by simp [xs_at]))
  obtain ⟨tyP, dP, hdP, hdnP⟩ := Cond.laysAt hfound hk Yt.supp (a' (.lays cls Bundle.tN "suppressedExceptions" Bundle.listD) (by simp [xs_at]))
  obtain ⟨tyM, dM, hdM, hdnM⟩ := Cond.laysAt hfound hk hffM (a' (.lays cls Bundle.tN "detailMessage" "Ljava/lang/String;") (by simp [xs_at]))
  obtain ⟨tyB, dB, hdB, hdnB⟩ := Cond.laysAt hfound hk hffB (a' (.lays cls Bundle.tN "backtrace" "Ljava/lang/Object;") (by simp [xs_at]))
  have bC := Cond.laysApart hdB hdC hdnB hdnC (by rw [hnB, Yt.causeName]; decide)
  have bS := Cond.laysApart hdB hdS hdnB hdnS (by rw [hnB, Yt.stackName]; decide)
  have bP := Cond.laysApart hdB hdP hdnB hdnP (by rw [hnB, Yt.suppName]; decide)
  have hskip : SkipFacts T e.platform s (fun u => u) u0 ((preparedCellV T.toThrowableT (freshCell P1.m.cls kX) a u0 sen).withEntry W.cur) :=
    ⟨{ ci198 := ci198, i198 := i198, fBack := fB }, ⟨hk198, hg198, ha198, hsB⟩, by
      have := fresh_default (c := P1.m.cls) tyB
      rw [htB] at this
      simpa [preparedCellV, Cell.setSlot, Cell.withEntry, Array.getElem?_setIfInBounds, bC, bS, bP, bC.symm, bS.symm, bP.symm, defaultValue] using this, fun _ _ => rfl⟩
  obtain ⟨tm, methC, cdC, kC, vm₁, hnC, -, -, -, -, -, -, -, hW₁, st1⟩ := Steps.initColdS (tb := p.tables) (e := e) (below := below) (s := s) (U := W) X.here hexec X.warmed hpl hown (t := Bundle.initS cls) rfl rfl (Bundle.fit_spec hcls).2
    (a' (.methodLink own ic (Bundle.initS cls)) (by simp [xs_at])) (h (.instanceMethod (Bundle.initS cls)) (by simp [xs_at, Bundle.passSAtoms])) (bytes := by1) (maxL := 2) (h (.code (Bundle.initS cls) by1 2 none) (by simp [xs_at, Bundle.passSAtoms]))
    (f := g) hg (a := a) (msg := msg) (rest := .ref a :: rest) hstack hd6
  cases Option.some.inj (hnC.symm.trans hP1m)
  have X₁ := X.noted hW₁
  obtain ⟨vm₂, X₂, st2⟩ := X₁.ctorMessageOffV hexec (g := { g with stack := .ref a :: rest }) hg hsize T L Z LZ Mi LM (P1 :: P2 :: Ps)
    (fun P hP => by rcases List.mem_cons.mp hP with rfl | hP; exact L1; rcases List.mem_cons.mp hP with rfl | hP; exact L2; exact hL P hP) ⟨hsup, hlink2, hlink⟩ (u0 := u0) (sen := sen) (self := a) hmsg (cell := freshCell P1.m.cls kX) (cellS := cellS)
    hcell (fun _ => by simp) (by simp) rfl rfl hsel0 hselF hcellS hneS hknownS (by rw [hkeep _ (hout' _)]; exact hu0) (by rw [hkeep _ (hout' _)]; exact hsen)
    (Takes.of_laid hk hord tyC (by rw [Yt.causeType]; rfl)) (Takes.of_laid hk hord tyS (by rw [Yt.stackType]; exact fits_refV_array _ u0)) (Takes.of_laid hk hord tyP (by rw [Yt.suppType]; exact fits_refV_object _ sen))
    (Takes.of_laid hk hord tyM (by rw [Yt.msgType]; exact fits_refV_object _ ⟨msg, hmsg⟩)) Yt.objLocals hskip htr [] hd6
    (by simp only [List.length_cons, hlen]; omega) (by simp only [List.length_cons, hlen]; exact hRlocals)
  obtain ⟨hwalk, hrun, hended, hWU, hsame⟩ := X₂.athrowLeaves hexec (g := { g with stack := .ref a :: rest, pc := g.pc + 3 }) hg hlocked hentered hout (a := a) (rest := rest) rfl hd9
  have hlt : a < ((W.setVm vm₁).setVm vm₂).heap.size := (Array.getElem?_eq_some_iff.mp hcell).1
  have hU := heapAt_setCell_self (s := (W.setVm vm₁).setVm vm₂) (plainBareV T.toThrowableT (freshCell P1.m.cls kX) a u0 sen msg) hlt
  refine ⟨_, st1 _ (fun acts => ?_), hrun, hended, hWU, hsame.weaken (fun y hy hlt2 => ?_) (Nat.le_refl _) (Nat.le_refl _), _, hU, rfl, hfound⟩
  · rw [doInvoke_state]
    exact st2 _ hwalk
  · rcases List.mem_append.mp hy with h1 | h1
    · exact h1
    · exfalso
      have hb : y.base = a := by
        simp only [List.mem_cons, List.not_mem_nil, or_false] at h1
        rcases h1 with rfl | rfl | rfl | rfl | rfl <;> rfl
      rw [hb] at hlt2
      exact Nat.not_lt.mpr hnew hlt2
end XS
def xs_4 : List Cond := [.isRef (.static Bundle.tN "UNASSIGNED_STACK" Bundle.steD), .isRef (.static Bundle.tN "SUPPRESSED_SENTINEL" Bundle.listD), .laysStatic Bundle.tN "UNASSIGNED_STACK" Bundle.steD, .laysStatic Bundle.tN "SUPPRESSED_SENTINEL" Bundle.listD]
/-- the words of such a throw -/
def tz_ok (own : String) (k ik ic i1 : Nat) (by1 : ByteArray) : Prop :=
  Cond.classLink own ik (en_E k) ∈ gw_tbl ∧ Cond.initialized (en_E k) ∈ gw_tbl ∧ (∀ w ∈ xs_at own ic (en_E k) i1 by1 "java/lang/RuntimeException" ["java/lang/Exception"], w ∈ xs_4 ∨ (w ∈ lw_tbl ∧ (goodWord w = true ∨ xw_cd w = true))) ∧ (∀ w ∈ Cond.classLink own ik (en_E k) :: Cond.initialized (en_E k) :: xs_at own ic (en_E k) i1 by1 "java/lang/RuntimeException" ["java/lang/Exception"], w ∈ xs_4 ∨ vx_ot w = true) ∧ Bundle.fit (en_E k) = true ∧ decode by1 0 = .ok (.aload_n 0, 1) ∧ decode by1 1 = .ok (.aload_n 1, 1) ∧ decode by1 2 = .ok (.invokespecial i1, 3) ∧ decode by1 5 = .ok (.return_, 1)
theorem dn_throw0 {G : wd_G} {M : wd_M} {own : String} {cc : ByteArray} {nL n u cells slots : Nat} {ret : Option FieldType} {ρ : Type} {pc : Nat} {lv : List (Nat × Value)} {st : List Value} {σ : hp_I} {τ : hp_L} {I : ρ → Option Value × hp_I × hp_L} {k ik is ic i1 sa : Nat} {by1 : ByteArray} {tx : String} (C : cx_C G M own cc nL n ret) (X : cx_X M n u) (h : tz_ok own k ik ic i1 by1) (hz : th_Z G) (hsa : vk_R own is tx sa G.1) (d0 : decode cc pc = .ok (.new ik, 3)) (d3 : decode cc (pc + 3) = .ok (.dup, 1)) (d4 : decode cc (pc + 4) = .ok (.ldc_w is, 3)) (d7 : decode cc (pc + 7) = .ok (.invokespecial ic, 3)) (d10 : decode cc (pc + 10) = .ok (.athrow, 1))
    (hn : 5 < n) (hc : cells + 1 ≤ u) (hs : slots + 6 ≤ 6 * u) (hcat : (st.map fun v => v.category).sum ≤ 8) : dn_D G M nL cells slots (cm_X G M τ u I) pc lv st σ τ (some (.inl (k, σ))) := by
  intro r hr H locs ls hP hS hl
  cases hr
  obtain ⟨hR, htab, htr⟩ := X
  obtain ⟨w1, w2, w3, w4, w5, b0, b1, b2, b5⟩ := h
  have hal := (cx_s C).al
  have hkp := (cx_s C).kp
  have hU0 := vx_Zq.moved hal (hz.1.kept hkp)
  have hN0 := vx_Zq.moved hal (hz.2.kept hkp)
  have hfl := cx_f C
  have hll := cx_l C
  intro T hT Y0
  have htr2 : (mx_E M).platform.stackTraces = false := (show (mx_E M).platform.stackTraces = (mx_L M).stackTraces by rw [Y0.admits.platform]).trans htr
  have Y := vx_rebase Y0 (R' := { frames := (mx_R M).frames, locals := (mx_R M).locals, cells := 1, slots := 6 }) (Nat.le_refl _) (Nat.le_refl _) (by rw [hR]; exact hc) (by rw [hR]; exact hs)
  obtain ⟨s', hA⟩ : ∃ z, z = (T.setVm (mx_S M).vm).setFrames (.invoking (mx_I M) (mx_A M) :: mx_B M) := ⟨_, rfl⟩
  rw [← hA] at Y
  have hvm : s'.vm = (mx_S M).vm := by rw [hA]; rfl
  have hhp : s'.heap = H := by rw [hA]; exact hT
  have hW0 : (mx_S M).WarmedH s'.vm := by rw [hvm]; exact State.WarmedH.refl _
  have hU' : vx_Zq Bundle.tN "UNASSIGNED_STACK" Bundle.steD (wd_A G) s' s'.heap := by rw [hhp]; exact vx_Zq.moved hW0.alike (hU0.kept hS.2.1)
  have hN' : vx_Zq Bundle.tN "SUPPRESSED_SENTINEL" Bundle.listD (wd_A G) s' s'.heap := by rw [hhp]; exact vx_Zq.moved hW0.alike (hN0.kept hS.2.1)
  have hw : ∀ w ∈ Cond.classLink own ik (en_E k) :: Cond.initialized (en_E k) :: xs_at own ic (en_E k) i1 by1 "java/lang/RuntimeException" ["java/lang/Exception"], w.before (mx_A M) s' = true := by
    intro w hw
    rcases w4 w hw with hx | hx
    · simp only [xs_4, List.mem_cons, List.not_mem_nil, or_false] at hx
      rcases hx with rfl | rfl | rfl | rfl
      · exact vx_isRefq hU'.1
      · exact vx_isRefq hN'.1
      · exact hU'.2.word
      · exact hN'.2.word
    · refine vx_ot_at (args := mx_A M) hW0 hvm.symm hx ?_
      rcases List.mem_cons.mp hw with rfl | hw
      · exact cx_w C _ w1
      · rcases List.mem_cons.mp hw with rfl | hw
        · exact cx_w C _ w2
        · rcases w3 w hw with hy | hy
          · simp only [xs_4, List.mem_cons, List.not_mem_nil, or_false] at hy
            rcases hy with rfl | rfl | rfl | rfl
            · exact vx_isRefq hU0.1
            · exact vx_isRefq hN0.1
            · exact hU0.2.word
            · exact hN0.2.word
          · exact cx_any C hy.1 hy.2
  have hown' : s'.vm.findClass own = some (mx_I M).cls := by rw [hvm]; exact cx_o C
  have hb := cx_b C
  obtain ⟨vm₁, cX, kX, hfX, hkX, -, -, X₁, st1⟩ := Y.newCold (cx_x C) (own := own) (C := en_E k) (index := ik) (n := 6) hown' (hw _ List.mem_cons_self) (hw _ (List.mem_cons_of_mem _ (List.mem_cons_of_mem _ (by simp [xs_at])))) (hw _ (List.mem_cons_of_mem _ List.mem_cons_self))
    (g := F0 (mx_I M) pc ls st) rfl (by rw [hb]; exact d0) (Nat.le_refl _) (Nat.le_refl _)
  generalize hT1 : (T.setVm vm₁).pushCell { cls := cX, slots := kX.instanceTypes.map defaultValue, vm := .none } = T1 at X₁ st1
  have hcat1 : (Value.ref T.heap.size).category = 1 := rfl
  have hcellA : T1.heap[T.heap.size]? = some (freshCell cX kX) := by rw [← hT1]; exact State.heap_pushCell_size _ _
  have d3' : decode (mx_C M).code (pc + 3) = .ok (.dup, 1) := by rw [hb]; exact d3
  have d4' : decode (mx_C M).code (pc + 4) = .ok (.ldc_w is, 3) := by rw [hb]; exact d4
  have hstr' : vk_R own is tx sa s' := vk_R.warm hW0 (vk_R.warm (cx_s C).1 hsa)
  obtain ⟨U, hsteps, hrun, hend, hW, hsame, ce, hce, hv0, hcl⟩ := xs_ctor X₁ (cx_x C) htr2 (own := own) (cls := en_E k) (Y := "java/lang/RuntimeException") (names := ["java/lang/Exception"]) (ic := ic) hown' w5 (by decide) (by decide) b0 b1 b2 b5 (fun w h => hw w (List.mem_cons_of_mem _ (List.mem_cons_of_mem _ h))) (fun x hx => nomatch hx) hfX hkX hcellA (by rw [hhp, hT]; exact Nat.le_refl _) (msg := .ref sa) rfl
    (g := { method := mx_I M, pc := pc + 7, locals := ls, stack := .ref sa :: .ref T.heap.size :: .ref T.heap.size :: st, locked := none }) rfl (hl.1.trans (cx_m C).symm) rfl rfl (rest := st) rfl
    (by rw [hb]; exact d7) (by rw [hb]; exact d10) (fun x hx => (htab x hx).elim) (by show 1 + 1 + 3 < (mx_R M).frames; omega) (by simp only [List.map_cons, List.sum_cons, hcat1]; show 2 * 0 + (1 + _) + (13 * (1 + 1 + 1) + 42) ≤ (mx_R M).locals; omega) (cx_u C)
  obtain ⟨f1, f2⟩ := vx_frame hsame
  rw [hhp] at f1 f2
  have hWs : (mx_S M).WarmedH U.vm := State.WarmedH.trans hW0 hW
  have hcl2 : (mx_S M).vm.findClass (en_E k) = some ce.cls := by rw [hvm] at hcl; exact hcl
  have hall : (mx_S M).sameButNew ({ U with vm := (mx_S M).vm } : State) locs u (6 * u) := by
    subst hA
    obtain ⟨e1, e2⟩ := hsame
    rw [State.setFrames_setFrames] at e1
    have h2 : (T.setVm (mx_S M).vm).sameButNew ({ U with vm := (mx_S M).vm } : State) [] (0 + 1) (0 + 6) := ⟨e1, e2⟩
    have h3 := Y0.same.trans h2
    rw [List.append_nil] at h3
    exact h3.mono hc hs
  refine ⟨U, ?_, .threw T.heap.size, hrun, hend, Or.inr ⟨T.heap.size, rfl, en_E k, ce, locs, ⟨rfl, hP.kept (fun k0 q0 hk0 => f2 q0.1 ((hP k0 q0 hk0).lt) (fun z hz => nomatch hz)), ⟨Nat.le_trans hS.1 f1, fun q0 g1 g2 => by rw [f2 q0 (Nat.lt_of_lt_of_le g1 hS.1) (fun z hz => nomatch hz)]; exact hS.2.1 q0 g1 g2⟩⟩, hce, hv0, hcl2, hWs, hall, hS.2.2⟩⟩
  refine st1 _ ?_
  show Steps (mx_P M).tables (mx_E M) (mx_B M) (T1.setTop { method := mx_I M, pc := pc + 3, locals := ls, stack := .ref T.heap.size :: st, locked := none }) _
  jvm_step X₁.here [X₁.here.top, (cx_x C), d3', Value.category]
  exact X₁.ldcStringW (cx_x C) (own := own) (text := tx) (index := is) (a := sa) hown' hstr'.1 hstr'.2
    (g := { method := mx_I M, pc := pc + 4, locals := ls, stack := .ref T.heap.size :: .ref T.heap.size :: st, locked := none }) rfl d4' _ hsteps
