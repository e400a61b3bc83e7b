/-- the rows of the tables of a static method with handlers -/
def mw_ok (y : MethodName) (cy : ByteArray) (ml : Nat) (ret : Option FieldType) (hh : List (Nat × Nat × Nat × Nat)) (na : Nat) : Prop :=
  Cond.codeWith y cy ml ret hh ∈ gw_tbl ∧ Cond.initialized y.cls ∈ gw_tbl ∧ (y.cls ≠ "java/lang/invoke/MethodHandle" ∧ y.cls ≠ "java/lang/invoke/VarHandle" ∧ (parseMethodDescriptor y.desc).map (fun d => d.parameters.length) = some na) ∧ ml ≤ 21
section LW2
variable {G : wd_G} {M : wd_M} {own : String} {cc : ByteArray} {nL n cells slots : Nat} {ret : Option FieldType} {ρ : Type} {Q : ρ → State → Prop} {pc q : Nat} {lv : List (Nat × Value)} {st : List Value} {σ : hp_I} {τ : hp_L} {y : MethodName} {cy : ByteArray} {ml : Nat} {hh : List (Nat × Nat × Nat × Nat)}
theorem gw_consW {na : Nat} {ry : Option FieldType} (h : mw_ok y cy ml ry hh na) : GoodIn gw_tbl (Cond.codeWith y cy ml ry hh :: gw_tbl) := fun w hw => by
  rcases List.mem_cons.mp hw with e | e
  · rw [e]; exact gw_good _ h.1
  · exact gw_good _ e
theorem dn_callW {n' u' na idx : Nat} {ry : Option FieldType} {As st0 : List Value} {e0 : Option (Int32 × hp_I × hp_L)} {f : Int32 → hp_I → hp_L → Option ρ} (C : cx_C G M own cc nL n ret) (K : cl_W G (mx_L M) n' u' y cy ml ry hh As σ τ ci_iht e0) (hm : mw_ok y cy ml ry hh na) (hv : Cond.static y ∈ gw_tbl) (hlk : Cond.methodLink own idx y ∈ gw_tbl) (hn : n' < n) (hna : As.length = na) (hc : cells + u' ≤ (mx_R M).cells ∧ slots + 6 * u' ≤ (mx_R M).slots) (hcat : (st.map fun v => v.category).sum ≤ 8) (hd : decode cc pc = .ok (.invokestatic idx, 3)) (hst : st0 = As.reverse ++ st) (hq : pc + 3 = q)
    (k : ∀ (x : Int32) (s : hp_I) (t : hp_L), dn_D G M nL (cells + u') (slots + 6 * u') Q q lv (.int x :: st) s t (f x s t)) : dn_D G M nL cells slots Q pc lv st0 σ τ (px_b3 e0 f) := by
  subst hq
  subst hst
  intro r hr H locs ls hP hS hl
  obtain ⟨r0, h0, h1⟩ := Option.bind_eq_some_iff.mp hr
  have hf := cx_f C
  have hlo := cx_l C
  have hml := hm.2.2.2
  have hrun := vx_runSW (p := mx_P M) (l := mx_L M) (e := mx_E M) (R := mx_R M) (s := mx_S M) (m := mx_I M) (args := mx_A M) (below := mx_B M) (meth := mx_M M) (c := mx_C M) (H := H) (locs := locs) (cells := cells) (slots := slots) (g := F0 (mx_I M) pc ls (As.reverse ++ st)) (n := na) (As := As) (rest := st) ⟨cx_x C, cx_b C, cx_m C, cx_o C, cx_w C⟩ (K r0 h0)
    (vx_cwSW na (cx_w C) (fun w hw => by
      rcases List.mem_append.mp hw with e | e
      · simp only [List.mem_cons, List.not_mem_nil, or_false] at e
        rcases e with rfl | rfl | rfl
        · exact gw_good _ hlk
        · exact gw_good _ hv
        · exact gw_good _ hm.2.1
      · exact gw_consW hm w e) rfl rfl rfl hm.2.2.1 ⟨by show n' + 1 ≤ _; omega, by show 8 + (ml + 11) + 40 * n' ≤ _; omega⟩) ⟨cl_blind, fun U hU hW => ⟨rfl, by rw [hU]; exact hP, va_K.moved hW.alike (cx_k C), (cx_s C).step hS hU hW⟩⟩ rfl hna hl.1 rfl (lv_room hcat) hd hc
  intro T hT Y
  obtain ⟨v2, st₀, t, T', L, e0', Y', hL, e1, e2, ⟨hv2, hPt, hz, hk⟩, stp⟩ := hrun T hT Y
  cases hv2
  rw [e0'] at hz hk
  obtain ⟨t2, a1, b1⟩ := k r0.1 r0.2.1 r0.2.2 r h1 T'.heap (locs ++ L) ls (by rw [e1]; exact hPt) ⟨Nat.le_trans hS.1 (by rw [e1]; exact hz), fun q h1 h2 => by rw [e1, hk q (Nat.lt_of_lt_of_le h1 hS.1) h2]; exact hS.2.1 q h1 h2, fun q hq => by
    rcases List.mem_append.mp hq with h | h
    · exact hS.2.2 q h
    · exact hL q h⟩ hl T' rfl Y'
  exact ⟨t2, stp t2 a1, b1⟩
theorem dn_wid {ex : Option ρ} {c2 s2 : Nat} (h1 : cells ≤ c2) (h2 : slots ≤ s2) (k : dn_D G M nL c2 s2 Q pc lv st σ τ ex) : dn_D G M nL cells slots Q pc lv st σ τ ex := fun r hr H locs ls hP hS hl => W.widen h1 h2 (k r hr H locs ls hP hS hl)
end LW2
theorem lx_c0 : Cond.castable "java/util/NoSuchElementException" "java/util/NoSuchElementException" ∈ lw_tbl := gt_5 (List.mem_of_getElem? (i := 68) rfl)
theorem lx_c1 : Cond.castable "java/lang/IllegalArgumentException" "java/lang/IllegalArgumentException" ∈ lw_tbl := gt_3 (List.mem_of_getElem? (i := 115) rfl)
theorem lx_no {G : wd_G} {s : State} (hG : gd_ok G) (hs : wd_S G s) : va_Nc "java/lang/IllegalArgumentException" "java/util/NoSuchElementException" s := xn_Nc hG hs (fun a0 h => flat_of_before _ h _ (by decide +kernel))
theorem lt_13 : Cond.classLink RL 13 "java/lang/IllegalArgumentException" ∈ gw_tbl := gw_in (gt_3 (List.mem_of_getElem? (i := 99) rfl)) rfl
theorem lt_31 : Cond.classLink RL 31 "java/util/NoSuchElementException" ∈ gw_tbl := gw_in (gt_5 (List.mem_of_getElem? (i := 57) rfl)) rfl
def fn_L_house (o : Nat) (p1 : Int32) (σ : hp_I) (τ : hp_L) : Option (Int32 × hp_I × hp_L) :=
  px_c1 (fn_X_house o p1 σ) (fun s => some ((1 : Int32), s, τ)) (fun a => Option.bind (px_lst τ 601 (0 : Int32) a.1.toInt64) fun u2 => some ((0 : Int32), a.2, u2))
set_option maxRecDepth 100000 in
theorem okw_L_house {G : wd_G} {l : Launch} (hN : gd_ok G) (hG2 : 601 < G.2.1) (htr : l.stackTraces = false) (o : Nat) (ho : sh_kd o = 11) (p1 : Int32) (σ : hp_I) (τ : hp_L) : cl_W G l 9 1 yL_house cL_house 4 (some .int) [(0, 9, 12, 13)] [.ref (wd_b G + o), .int p1, .ref (wd_b G + 601)] σ τ ci_iht (fn_L_house o p1 σ τ) := by
  refine cl_ofH (lv0 := [(0, .ref (wd_b G + o)), (1, .int p1), (2, .ref (wd_b G + 601))]) ci_iht (by decide) (Nat.le_of_ble_eq_true rfl) rfl hN htr (fun M X C => ?_)
  have C : cx_C G M RL cL_house 4 9 (some .int) := C
  unfold fn_L_house
  refine dn_aload_n C dL_house_0 rfl 2 rfl rfl ?_
  refine dn_iconst C dL_house_1 ic_i_0 rfl ?_
  refine dn_aload_n C dL_house_2 rfl 0 rfl rfl ?_
  refine dn_iload_n C dL_house_3 rfl 1 rfl rfl ?_
  refine dn_catch1 (As := [.int p1]) (st := [.int (0 : Int32), .ref (wd_b G + 601)]) C X (okx_X_house (cx_g C) X.2.2 o ho p1 σ τ) mt_X11_house mv_X11_house lk_L_7 (by decide) ho rfl (by decide) (by decide) (Nat.le_of_ble_eq_true rfl) dL_house_4 rfl rfl rfl (by decide) lt_13 lx_c1 (fun a => ?_) (fun s qe => ?_)
  · show dn_D G M 4 1 6 (cm_H G M 1 ci_iht) 7 _ [.int a.1, .int 0, .ref (wd_b G + 601)] a.2 τ _
    refine dn_i2l C dL_house_7 rfl ?_
    refine dn_last C sh_601 hG2 dL_house_8 rfl (fun u2 => ?_)
    refine dn_goto (t := 15) C dL_house_9 (by decide) ?_
    refine dn_iconst C dL_house_15 ic_i_0 rfl ?_
    exact dn_iretH C dL_house_16 rfl (by decide) (by decide)
  · refine dn_astore_n (lv0 := [(0, .ref (wd_b G + o)), (1, .int p1), (2, .ref (wd_b G + 601))]) C dL_house_12 rfl (by decide) rfl rfl ?_
    refine dn_iconst C dL_house_13 ic_i_1 rfl ?_
    exact dn_iretH C dL_house_14 rfl (by decide) (by decide)
theorem mw_L_house : mw_ok yL_house cL_house 4 (some .int) [(0, 9, 12, 13)] 3 := ⟨gw_in (gt_3 (List.mem_of_getElem? (i := 98) rfl)) rfl, gw_in (gt_1 (List.mem_of_getElem? (i := 0) rfl)) rfl, by decide +kernel, by decide⟩
theorem msw_L_house : Cond.static yL_house ∈ gw_tbl := gw_in (gt_3 (List.mem_of_getElem? (i := 97) rfl)) rfl
def fn_L_law (o : Nat) (p1 : Int32) (σ : hp_I) (τ : hp_L) : Option (Int32 × hp_I × hp_L) :=
  px_c1 (fn_X_law o p1 σ) (fun s => some ((1 : Int32), s, τ)) (fun a => Option.bind (px_lst τ 601 (0 : Int32) a.1.toInt64) fun u2 => some ((0 : Int32), a.2, u2))
set_option maxRecDepth 100000 in
theorem okw_L_law {G : wd_G} {l : Launch} (hN : gd_ok G) (hG2 : 601 < G.2.1) (htr : l.stackTraces = false) (o : Nat) (ho : sh_kd o = 11) (p1 : Int32) (σ : hp_I) (τ : hp_L) : cl_W G l 73 1 yL_law cL_law 4 (some .int) [(0, 9, 12, 13)] [.ref (wd_b G + o), .int p1, .ref (wd_b G + 601)] σ τ ci_iht (fn_L_law o p1 σ τ) := by
  refine cl_ofH (lv0 := [(0, .ref (wd_b G + o)), (1, .int p1), (2, .ref (wd_b G + 601))]) ci_iht (by decide) (Nat.le_of_ble_eq_true rfl) rfl hN htr (fun M X C => ?_)
  have C : cx_C G M RL cL_law 4 73 (some .int) := C
  unfold fn_L_law
  refine dn_aload_n C dL_law_0 rfl 2 rfl rfl ?_
  refine dn_iconst C dL_law_1 ic_i_0 rfl ?_
  refine dn_aload_n C dL_law_2 rfl 0 rfl rfl ?_
  refine dn_iload_n C dL_law_3 rfl 1 rfl rfl ?_
  refine dn_catch1 (As := [.int p1]) (st := [.int (0 : Int32), .ref (wd_b G + 601)]) C X (okx_X_law (cx_g C) X.2.2 o ho p1 σ τ) mt_X11_law mv_X11_law lk_L_15 (by decide) ho rfl (by decide) (by decide) (Nat.le_of_ble_eq_true rfl) dL_law_4 rfl rfl rfl (by decide) lt_13 lx_c1 (fun a => ?_) (fun s qe => ?_)
  · show dn_D G M 4 1 6 (cm_H G M 1 ci_iht) 7 _ [.int a.1, .int 0, .ref (wd_b G + 601)] a.2 τ _
    refine dn_i2l C dL_law_7 rfl ?_
    refine dn_last C sh_601 hG2 dL_law_8 rfl (fun u2 => ?_)
    refine dn_goto (t := 15) C dL_law_9 (by decide) ?_
    refine dn_iconst C dL_law_15 ic_i_0 rfl ?_
    exact dn_iretH C dL_law_16 rfl (by decide) (by decide)
  · refine dn_astore_n (lv0 := [(0, .ref (wd_b G + o)), (1, .int p1), (2, .ref (wd_b G + 601))]) C dL_law_12 rfl (by decide) rfl rfl ?_
    refine dn_iconst C dL_law_13 ic_i_1 rfl ?_
    exact dn_iretH C dL_law_14 rfl (by decide) (by decide)
theorem mw_L_law : mw_ok yL_law cL_law 4 (some .int) [(0, 9, 12, 13)] 3 := ⟨gw_in (gt_4 (List.mem_of_getElem? (i := 103) rfl)) rfl, gw_in (gt_1 (List.mem_of_getElem? (i := 0) rfl)) rfl, by decide +kernel, by decide⟩
theorem msw_L_law : Cond.static yL_law ∈ gw_tbl := gw_in (gt_4 (List.mem_of_getElem? (i := 102) rfl)) rfl
def fn_L_work (o : Nat) (p1 : Int32) (σ : hp_I) (τ : hp_L) : Option (Int32 × hp_I × hp_L) :=
  px_c1 (fn_X_work o p1 σ) (fun s => some ((1 : Int32), s, τ)) (fun a => Option.bind (px_lst τ 601 (0 : Int32) a.1.toInt64) fun u2 => some ((0 : Int32), a.2, u2))
set_option maxRecDepth 100000 in
theorem okw_L_work {G : wd_G} {l : Launch} (hN : gd_ok G) (hG2 : 601 < G.2.1) (htr : l.stackTraces = false) (o : Nat) (ho : sh_kd o = 11) (p1 : Int32) (σ : hp_I) (τ : hp_L) : cl_W G l 72 1 yL_work cL_work 4 (some .int) [(0, 9, 12, 13)] [.ref (wd_b G + o), .int p1, .ref (wd_b G + 601)] σ τ ci_iht (fn_L_work o p1 σ τ) := by
  refine cl_ofH (lv0 := [(0, .ref (wd_b G + o)), (1, .int p1), (2, .ref (wd_b G + 601))]) ci_iht (by decide) (Nat.le_of_ble_eq_true rfl) rfl hN htr (fun M X C => ?_)
  have C : cx_C G M RL cL_work 4 72 (some .int) := C
  unfold fn_L_work
  refine dn_aload_n C dL_work_0 rfl 2 rfl rfl ?_
  refine dn_iconst C dL_work_1 ic_i_0 rfl ?_
  refine dn_aload_n C dL_work_2 rfl 0 rfl rfl ?_
  refine dn_iload_n C dL_work_3 rfl 1 rfl rfl ?_
  refine dn_catch1 (As := [.int p1]) (st := [.int (0 : Int32), .ref (wd_b G + 601)]) C X (okx_X_work (cx_g C) X.2.2 o ho p1 σ τ) mt_X11_work mv_X11_work lk_L_18 (by decide) ho rfl (by decide) (by decide) (Nat.le_of_ble_eq_true rfl) dL_work_4 rfl rfl rfl (by decide) lt_13 lx_c1 (fun a => ?_) (fun s qe => ?_)
  · show dn_D G M 4 1 6 (cm_H G M 1 ci_iht) 7 _ [.int a.1, .int 0, .ref (wd_b G + 601)] a.2 τ _
    refine dn_i2l C dL_work_7 rfl ?_
    refine dn_last C sh_601 hG2 dL_work_8 rfl (fun u2 => ?_)
    refine dn_goto (t := 15) C dL_work_9 (by decide) ?_
    refine dn_iconst C dL_work_15 ic_i_0 rfl ?_
    exact dn_iretH C dL_work_16 rfl (by decide) (by decide)
  · refine dn_astore_n (lv0 := [(0, .ref (wd_b G + o)), (1, .int p1), (2, .ref (wd_b G + 601))]) C dL_work_12 rfl (by decide) rfl rfl ?_
    refine dn_iconst C dL_work_13 ic_i_1 rfl ?_
    exact dn_iretH C dL_work_14 rfl (by decide) (by decide)
theorem mw_L_work : mw_ok yL_work cL_work 4 (some .int) [(0, 9, 12, 13)] 3 := ⟨gw_in (gt_4 (List.mem_of_getElem? (i := 163) rfl)) rfl, gw_in (gt_1 (List.mem_of_getElem? (i := 0) rfl)) rfl, by decide +kernel, by decide⟩
theorem msw_L_work : Cond.static yL_work ∈ gw_tbl := gw_in (gt_4 (List.mem_of_getElem? (i := 162) rfl)) rfl
def fn_L_book (o : Nat) (p1 : Int32) (σ : hp_I) (τ : hp_L) : Option (Int32 × hp_I × hp_L) :=
  px_c1 (fn_X_book o p1 σ) (fun s => some ((1 : Int32), s, τ)) (fun a => Option.bind (px_lst τ 601 (0 : Int32) a.1.toInt64) fun u2 => some ((0 : Int32), a.2, u2))
set_option maxRecDepth 100000 in
theorem okw_L_book {G : wd_G} {l : Launch} (hN : gd_ok G) (hG2 : 601 < G.2.1) (htr : l.stackTraces = false) (o : Nat) (ho : sh_kd o = 11) (p1 : Int32) (σ : hp_I) (τ : hp_L) : cl_W G l 9 1 yL_book cL_book 4 (some .int) [(0, 9, 12, 13)] [.ref (wd_b G + o), .int p1, .ref (wd_b G + 601)] σ τ ci_iht (fn_L_book o p1 σ τ) := by
  refine cl_ofH (lv0 := [(0, .ref (wd_b G + o)), (1, .int p1), (2, .ref (wd_b G + 601))]) ci_iht (by decide) (Nat.le_of_ble_eq_true rfl) rfl hN htr (fun M X C => ?_)
  have C : cx_C G M RL cL_book 4 9 (some .int) := C
  unfold fn_L_book
  refine dn_aload_n C dL_book_0 rfl 2 rfl rfl ?_
  refine dn_iconst C dL_book_1 ic_i_0 rfl ?_
  refine dn_aload_n C dL_book_2 rfl 0 rfl rfl ?_
  refine dn_iload_n C dL_book_3 rfl 1 rfl rfl ?_
  refine dn_catch1 (As := [.int p1]) (st := [.int (0 : Int32), .ref (wd_b G + 601)]) C X (okx_X_book (cx_g C) X.2.2 o ho p1 σ τ) mt_X11_book mv_X11_book lk_L_21 (by decide) ho rfl (by decide) (by decide) (Nat.le_of_ble_eq_true rfl) dL_book_4 rfl rfl rfl (by decide) lt_13 lx_c1 (fun a => ?_) (fun s qe => ?_)
  · show dn_D G M 4 1 6 (cm_H G M 1 ci_iht) 7 _ [.int a.1, .int 0, .ref (wd_b G + 601)] a.2 τ _
    refine dn_i2l C dL_book_7 rfl ?_
    refine dn_last C sh_601 hG2 dL_book_8 rfl (fun u2 => ?_)
    refine dn_goto (t := 15) C dL_book_9 (by decide) ?_
    refine dn_iconst C dL_book_15 ic_i_0 rfl ?_
    exact dn_iretH C dL_book_16 rfl (by decide) (by decide)
  · refine dn_astore_n (lv0 := [(0, .ref (wd_b G + o)), (1, .int p1), (2, .ref (wd_b G + 601))]) C dL_book_12 rfl (by decide) rfl rfl ?_
    refine dn_iconst C dL_book_13 ic_i_1 rfl ?_
    exact dn_iretH C dL_book_14 rfl (by decide) (by decide)
theorem mw_L_book : mw_ok yL_book cL_book 4 (some .int) [(0, 9, 12, 13)] 3 := ⟨gw_in (gt_5 (List.mem_of_getElem? (i := 15) rfl)) rfl, gw_in (gt_1 (List.mem_of_getElem? (i := 0) rfl)) rfl, by decide +kernel, by decide⟩
theorem msw_L_book : Cond.static yL_book ∈ gw_tbl := gw_in (gt_5 (List.mem_of_getElem? (i := 14) rfl)) rfl
def fn_L_told (o : Nat) (p1 : Int32) (σ : hp_I) (τ : hp_L) : Option (Int32 × hp_I × hp_L) :=
  px_c1 (fn_X_told o p1 σ) (fun s => some ((1 : Int32), s, τ)) (fun a => Option.bind (px_lst τ 601 (0 : Int32) a.1.toInt64) fun u2 => some ((0 : Int32), a.2, u2))
set_option maxRecDepth 100000 in
theorem okw_L_told {G : wd_G} {l : Launch} (hN : gd_ok G) (hG2 : 601 < G.2.1) (htr : l.stackTraces = false) (o : Nat) (ho : sh_kd o = 11) (p1 : Int32) (σ : hp_I) (τ : hp_L) : cl_W G l 8 1 yL_told cL_told 4 (some .int) [(0, 9, 12, 13)] [.ref (wd_b G + o), .int p1, .ref (wd_b G + 601)] σ τ ci_iht (fn_L_told o p1 σ τ) := by
  refine cl_ofH (lv0 := [(0, .ref (wd_b G + o)), (1, .int p1), (2, .ref (wd_b G + 601))]) ci_iht (by decide) (Nat.le_of_ble_eq_true rfl) rfl hN htr (fun M X C => ?_)
  have C : cx_C G M RL cL_told 4 8 (some .int) := C
  unfold fn_L_told
  refine dn_aload_n C dL_told_0 rfl 2 rfl rfl ?_
  refine dn_iconst C dL_told_1 ic_i_0 rfl ?_
  refine dn_aload_n C dL_told_2 rfl 0 rfl rfl ?_
  refine dn_iload_n C dL_told_3 rfl 1 rfl rfl ?_
  refine dn_catch1 (As := [.int p1]) (st := [.int (0 : Int32), .ref (wd_b G + 601)]) C X (okx_X_told (cx_g C) X.2.2 o ho p1 σ τ) mt_X11_told mv_X11_told lk_L_24 (by decide) ho rfl (by decide) (by decide) (Nat.le_of_ble_eq_true rfl) dL_told_4 rfl rfl rfl (by decide) lt_13 lx_c1 (fun a => ?_) (fun s qe => ?_)
  · show dn_D G M 4 1 6 (cm_H G M 1 ci_iht) 7 _ [.int a.1, .int 0, .ref (wd_b G + 601)] a.2 τ _
    refine dn_i2l C dL_told_7 rfl ?_
    refine dn_last C sh_601 hG2 dL_told_8 rfl (fun u2 => ?_)
    refine dn_goto (t := 15) C dL_told_9 (by decide) ?_
    refine dn_iconst C dL_told_15 ic_i_0 rfl ?_
    exact dn_iretH C dL_told_16 rfl (by decide) (by decide)
  · refine dn_astore_n (lv0 := [(0, .ref (wd_b G + o)), (1, .int p1), (2, .ref (wd_b G + 601))]) C dL_told_12 rfl (by decide) rfl rfl ?_
    refine dn_iconst C dL_told_13 ic_i_1 rfl ?_
    exact dn_iretH C dL_told_14 rfl (by decide) (by decide)
theorem mw_L_told : mw_ok yL_told cL_told 4 (some .int) [(0, 9, 12, 13)] 3 := ⟨gw_in (gt_5 (List.mem_of_getElem? (i := 36) rfl)) rfl, gw_in (gt_1 (List.mem_of_getElem? (i := 0) rfl)) rfl, by decide +kernel, by decide⟩
theorem msw_L_told : Cond.static yL_told ∈ gw_tbl := gw_in (gt_5 (List.mem_of_getElem? (i := 35) rfl)) rfl
def fn_L_room (o : Nat) (p1 : Int32) (p2 : Int32) (σ : hp_I) (τ : hp_L) : Option (Int32 × hp_I × hp_L) :=
  px_c2 (fn_X_room o p1 p2 σ) (fun s => some ((1 : Int32), s, τ)) (fun s => some ((2 : Int32), s, τ)) (fun a => Option.bind (px_lst τ 601 (0 : Int32) a.1.toInt64) fun u2 => some ((0 : Int32), a.2, u2))
set_option maxRecDepth 100000 in
theorem okw_L_room {G : wd_G} {l : Launch} (hN : gd_ok G) (hG2 : 601 < G.2.1) (htr : l.stackTraces = false) (o : Nat) (ho : sh_kd o = 11) (p1 : Int32) (p2 : Int32) (σ : hp_I) (τ : hp_L) : cl_W G l 8 2 yL_room cL_room 5 (some .int) [(0, 10, 13, 31), (0, 10, 17, 13)] [.ref (wd_b G + o), .int p1, .int p2, .ref (wd_b G + 601)] σ τ ci_iht (fn_L_room o p1 p2 σ τ) := by
  refine cl_ofH (lv0 := [(0, .ref (wd_b G + o)), (1, .int p1), (2, .int p2), (3, .ref (wd_b G + 601))]) ci_iht (by decide) (Nat.le_of_ble_eq_true rfl) rfl hN htr (fun M X C => ?_)
  have C : cx_C G M RL cL_room 5 8 (some .int) := C
  unfold fn_L_room
  refine dn_aload_n C dL_room_0 rfl 3 rfl rfl ?_
  refine dn_iconst C dL_room_1 ic_i_0 rfl ?_
  refine dn_aload_n C dL_room_2 rfl 0 rfl rfl ?_
  refine dn_iload_n C dL_room_3 rfl 1 rfl rfl ?_
  refine dn_iload_n C dL_room_4 rfl 2 rfl rfl ?_
  refine dn_catch2 (As := [.int p1, .int p2]) (st := [.int (0 : Int32), .ref (wd_b G + 601)]) C X (okx_X_room (cx_g C) X.2.2 o ho p1 p2 σ τ) mt_X11_room mv_X11_room lk_L_27 (by decide) ho rfl (by decide) (by decide) (Nat.le_of_ble_eq_true rfl) dL_room_5 rfl rfl rfl (by decide) (by decide) lt_31 lt_13 lx_c0 lx_c1 (lx_no (cx_g C) (cx_s C)) (fun a => ?_) (fun s qe => ?_) (fun s qe => ?_)
  · show dn_D G M 5 2 12 (cm_H G M 2 ci_iht) 8 _ [.int a.1, .int 0, .ref (wd_b G + 601)] a.2 τ _
    refine dn_i2l C dL_room_8 rfl ?_
    refine dn_last C sh_601 hG2 dL_room_9 rfl (fun u2 => ?_)
    refine dn_goto (t := 21) C dL_room_10 (by decide) ?_
    refine dn_iconst C dL_room_21 ic_i_0 rfl ?_
    exact dn_iretH C dL_room_22 rfl (by decide) (by decide)
  · refine dn_astore (lv0 := [(0, .ref (wd_b G + o)), (1, .int p1), (2, .int p2), (3, .ref (wd_b G + 601))]) C dL_room_13 (by decide) rfl rfl ?_
    refine dn_iconst C dL_room_15 ic_i_1 rfl ?_
    exact dn_iretH C dL_room_16 rfl (by decide) (by decide)
  · refine dn_astore (lv0 := [(0, .ref (wd_b G + o)), (1, .int p1), (2, .int p2), (3, .ref (wd_b G + 601))]) C dL_room_17 (by decide) rfl rfl ?_
    refine dn_iconst C dL_room_19 ic_i_2 rfl ?_
    exact dn_iretH C dL_room_20 rfl (by decide) (by decide)
theorem mw_L_room : mw_ok yL_room cL_room 5 (some .int) [(0, 10, 13, 31), (0, 10, 17, 13)] 4 := ⟨gw_in (gt_5 (List.mem_of_getElem? (i := 56) rfl)) rfl, gw_in (gt_1 (List.mem_of_getElem? (i := 0) rfl)) rfl, by decide +kernel, by decide⟩
theorem msw_L_room : Cond.static yL_room ∈ gw_tbl := gw_in (gt_5 (List.mem_of_getElem? (i := 55) rfl)) rfl
def fn_L_way (o : Nat) (p1 : Int32) (p2 : Int32) (σ : hp_I) (τ : hp_L) : Option (Int32 × hp_I × hp_L) :=
  px_c2 (fn_X_way o p1 p2 σ) (fun s => some ((1 : Int32), s, τ)) (fun s => some ((2 : Int32), s, τ)) (fun a => Option.bind (px_lst τ 601 (0 : Int32) a.1.toInt64) fun u2 => some ((0 : Int32), a.2, u2))
set_option maxRecDepth 100000 in
theorem okw_L_way {G : wd_G} {l : Launch} (hN : gd_ok G) (hG2 : 601 < G.2.1) (htr : l.stackTraces = false) (o : Nat) (ho : sh_kd o = 11) (p1 : Int32) (p2 : Int32) (σ : hp_I) (τ : hp_L) : cl_W G l 8 2 yL_way cL_way 5 (some .int) [(0, 10, 13, 31), (0, 10, 17, 13)] [.ref (wd_b G + o), .int p1, .int p2, .ref (wd_b G + 601)] σ τ ci_iht (fn_L_way o p1 p2 σ τ) := by
  refine cl_ofH (lv0 := [(0, .ref (wd_b G + o)), (1, .int p1), (2, .int p2), (3, .ref (wd_b G + 601))]) ci_iht (by decide) (Nat.le_of_ble_eq_true rfl) rfl hN htr (fun M X C => ?_)
  have C : cx_C G M RL cL_way 5 8 (some .int) := C
  unfold fn_L_way
  refine dn_aload_n C dL_way_0 rfl 3 rfl rfl ?_
  refine dn_iconst C dL_way_1 ic_i_0 rfl ?_
  refine dn_aload_n C dL_way_2 rfl 0 rfl rfl ?_
  refine dn_iload_n C dL_way_3 rfl 1 rfl rfl ?_
  refine dn_iload_n C dL_way_4 rfl 2 rfl rfl ?_
  refine dn_catch2 (As := [.int p1, .int p2]) (st := [.int (0 : Int32), .ref (wd_b G + 601)]) C X (okx_X_way (cx_g C) X.2.2 o ho p1 p2 σ τ) mt_X11_way mv_X11_way lk_L_33 (by decide) ho rfl (by decide) (by decide) (Nat.le_of_ble_eq_true rfl) dL_way_5 rfl rfl rfl (by decide) (by decide) lt_31 lt_13 lx_c0 lx_c1 (lx_no (cx_g C) (cx_s C)) (fun a => ?_) (fun s qe => ?_) (fun s qe => ?_)
  · show dn_D G M 5 2 12 (cm_H G M 2 ci_iht) 8 _ [.int a.1, .int 0, .ref (wd_b G + 601)] a.2 τ _
    refine dn_i2l C dL_way_8 rfl ?_
    refine dn_last C sh_601 hG2 dL_way_9 rfl (fun u2 => ?_)
    refine dn_goto (t := 21) C dL_way_10 (by decide) ?_
    refine dn_iconst C dL_way_21 ic_i_0 rfl ?_
    exact dn_iretH C dL_way_22 rfl (by decide) (by decide)
  · refine dn_astore (lv0 := [(0, .ref (wd_b G + o)), (1, .int p1), (2, .int p2), (3, .ref (wd_b G + 601))]) C dL_way_13 (by decide) rfl rfl ?_
    refine dn_iconst C dL_way_15 ic_i_1 rfl ?_
    exact dn_iretH C dL_way_16 rfl (by decide) (by decide)
  · refine dn_astore (lv0 := [(0, .ref (wd_b G + o)), (1, .int p1), (2, .int p2), (3, .ref (wd_b G + 601))]) C dL_way_17 (by decide) rfl rfl ?_
    refine dn_iconst C dL_way_19 ic_i_2 rfl ?_
    exact dn_iretH C dL_way_20 rfl (by decide) (by decide)
theorem mw_L_way : mw_ok yL_way cL_way 5 (some .int) [(0, 10, 13, 31), (0, 10, 17, 13)] 4 := ⟨gw_in (gt_5 (List.mem_of_getElem? (i := 90) rfl)) rfl, gw_in (gt_1 (List.mem_of_getElem? (i := 0) rfl)) rfl, by decide +kernel, by decide⟩
theorem msw_L_way : Cond.static yL_way ∈ gw_tbl := gw_in (gt_5 (List.mem_of_getElem? (i := 89) rfl)) rfl
def fn_L_scheme (o : Nat) (p1 : Int32) (p2 : Int32) (σ : hp_I) (τ : hp_L) : Option (Int32 × hp_I × hp_L) :=
  px_c2 (fn_X_scheme o p1 p2 σ) (fun s => some ((1 : Int32), s, τ)) (fun s => some ((2 : Int32), s, τ)) (fun a => Option.bind (px_lst τ 601 (0 : Int32) a.1.toInt64) fun u2 => some ((0 : Int32), a.2, u2))
set_option maxRecDepth 100000 in
theorem okw_L_scheme {G : wd_G} {l : Launch} (hN : gd_ok G) (hG2 : 601 < G.2.1) (htr : l.stackTraces = false) (o : Nat) (ho : sh_kd o = 11) (p1 : Int32) (p2 : Int32) (σ : hp_I) (τ : hp_L) : cl_W G l 8 2 yL_scheme cL_scheme 5 (some .int) [(0, 10, 13, 31), (0, 10, 17, 13)] [.ref (wd_b G + o), .int p1, .int p2, .ref (wd_b G + 601)] σ τ ci_iht (fn_L_scheme o p1 p2 σ τ) := by
  refine cl_ofH (lv0 := [(0, .ref (wd_b G + o)), (1, .int p1), (2, .int p2), (3, .ref (wd_b G + 601))]) ci_iht (by decide) (Nat.le_of_ble_eq_true rfl) rfl hN htr (fun M X C => ?_)
  have C : cx_C G M RL cL_scheme 5 8 (some .int) := C
  unfold fn_L_scheme
  refine dn_aload_n C dL_scheme_0 rfl 3 rfl rfl ?_
  refine dn_iconst C dL_scheme_1 ic_i_0 rfl ?_
  refine dn_aload_n C dL_scheme_2 rfl 0 rfl rfl ?_
  refine dn_iload_n C dL_scheme_3 rfl 1 rfl rfl ?_
  refine dn_iload_n C dL_scheme_4 rfl 2 rfl rfl ?_
  refine dn_catch2 (As := [.int p1, .int p2]) (st := [.int (0 : Int32), .ref (wd_b G + 601)]) C X (okx_X_scheme (cx_g C) X.2.2 o ho p1 p2 σ τ) mt_X11_scheme mv_X11_scheme lk_L_36 (by decide) ho rfl (by decide) (by decide) (Nat.le_of_ble_eq_true rfl) dL_scheme_5 rfl rfl rfl (by decide) (by decide) lt_31 lt_13 lx_c0 lx_c1 (lx_no (cx_g C) (cx_s C)) (fun a => ?_) (fun s qe => ?_) (fun s qe => ?_)
  · show dn_D G M 5 2 12 (cm_H G M 2 ci_iht) 8 _ [.int a.1, .int 0, .ref (wd_b G + 601)] a.2 τ _
    refine dn_i2l C dL_scheme_8 rfl ?_
    refine dn_last C sh_601 hG2 dL_scheme_9 rfl (fun u2 => ?_)
    refine dn_goto (t := 21) C dL_scheme_10 (by decide) ?_
    refine dn_iconst C dL_scheme_21 ic_i_0 rfl ?_
    exact dn_iretH C dL_scheme_22 rfl (by decide) (by decide)
  · refine dn_astore (lv0 := [(0, .ref (wd_b G + o)), (1, .int p1), (2, .int p2), (3, .ref (wd_b G + 601))]) C dL_scheme_13 (by decide) rfl rfl ?_
    refine dn_iconst C dL_scheme_15 ic_i_1 rfl ?_
    exact dn_iretH C dL_scheme_16 rfl (by decide) (by decide)
  · refine dn_astore (lv0 := [(0, .ref (wd_b G + o)), (1, .int p1), (2, .int p2), (3, .ref (wd_b G + 601))]) C dL_scheme_17 (by decide) rfl rfl ?_
    refine dn_iconst C dL_scheme_19 ic_i_2 rfl ?_
    exact dn_iretH C dL_scheme_20 rfl (by decide) (by decide)
theorem mw_L_scheme : mw_ok yL_scheme cL_scheme 5 (some .int) [(0, 10, 13, 31), (0, 10, 17, 13)] 4 := ⟨gw_in (gt_5 (List.mem_of_getElem? (i := 97) rfl)) rfl, gw_in (gt_1 (List.mem_of_getElem? (i := 0) rfl)) rfl, by decide +kernel, by decide⟩
theorem msw_L_scheme : Cond.static yL_scheme ∈ gw_tbl := gw_in (gt_5 (List.mem_of_getElem? (i := 96) rfl)) rfl
def fn_L_cat (o : Nat) (p1 : Int32) (p2 : Int32) (σ : hp_I) (τ : hp_L) : Option (Int32 × hp_I × hp_L) :=
  px_c2 (fn_X_cat o p1 p2 σ) (fun s => some ((1 : Int32), s, τ)) (fun s => some ((2 : Int32), s, τ)) (fun a => Option.bind (px_lst τ 601 (0 : Int32) a.1.toInt64) fun u2 => some ((0 : Int32), a.2, u2))
set_option maxRecDepth 100000 in
theorem okw_L_cat {G : wd_G} {l : Launch} (hN : gd_ok G) (hG2 : 601 < G.2.1) (htr : l.stackTraces = false) (o : Nat) (ho : sh_kd o = 11) (p1 : Int32) (p2 : Int32) (σ : hp_I) (τ : hp_L) : cl_W G l 8 2 yL_cat cL_cat 5 (some .int) [(0, 10, 13, 31), (0, 10, 17, 13)] [.ref (wd_b G + o), .int p1, .int p2, .ref (wd_b G + 601)] σ τ ci_iht (fn_L_cat o p1 p2 σ τ) := by
  refine cl_ofH (lv0 := [(0, .ref (wd_b G + o)), (1, .int p1), (2, .int p2), (3, .ref (wd_b G + 601))]) ci_iht (by decide) (Nat.le_of_ble_eq_true rfl) rfl hN htr (fun M X C => ?_)
  have C : cx_C G M RL cL_cat 5 8 (some .int) := C
  unfold fn_L_cat
  refine dn_aload_n C dL_cat_0 rfl 3 rfl rfl ?_
  refine dn_iconst C dL_cat_1 ic_i_0 rfl ?_
  refine dn_aload_n C dL_cat_2 rfl 0 rfl rfl ?_
  refine dn_iload_n C dL_cat_3 rfl 1 rfl rfl ?_
  refine dn_iload_n C dL_cat_4 rfl 2 rfl rfl ?_
  refine dn_catch2 (As := [.int p1, .int p2]) (st := [.int (0 : Int32), .ref (wd_b G + 601)]) C X (okx_X_cat (cx_g C) X.2.2 o ho p1 p2 σ τ) mt_X11_cat mv_X11_cat lk_L_39 (by decide) ho rfl (by decide) (by decide) (Nat.le_of_ble_eq_true rfl) dL_cat_5 rfl rfl rfl (by decide) (by decide) lt_31 lt_13 lx_c0 lx_c1 (lx_no (cx_g C) (cx_s C)) (fun a => ?_) (fun s qe => ?_) (fun s qe => ?_)
  · show dn_D G M 5 2 12 (cm_H G M 2 ci_iht) 8 _ [.int a.1, .int 0, .ref (wd_b G + 601)] a.2 τ _
    refine dn_i2l C dL_cat_8 rfl ?_
    refine dn_last C sh_601 hG2 dL_cat_9 rfl (fun u2 => ?_)
    refine dn_goto (t := 21) C dL_cat_10 (by decide) ?_
    refine dn_iconst C dL_cat_21 ic_i_0 rfl ?_
    exact dn_iretH C dL_cat_22 rfl (by decide) (by decide)
  · refine dn_astore (lv0 := [(0, .ref (wd_b G + o)), (1, .int p1), (2, .int p2), (3, .ref (wd_b G + 601))]) C dL_cat_13 (by decide) rfl rfl ?_
    refine dn_iconst C dL_cat_15 ic_i_1 rfl ?_
    exact dn_iretH C dL_cat_16 rfl (by decide) (by decide)
  · refine dn_astore (lv0 := [(0, .ref (wd_b G + o)), (1, .int p1), (2, .int p2), (3, .ref (wd_b G + 601))]) C dL_cat_17 (by decide) rfl rfl ?_
    refine dn_iconst C dL_cat_19 ic_i_2 rfl ?_
    exact dn_iretH C dL_cat_20 rfl (by decide) (by decide)
theorem mw_L_cat : mw_ok yL_cat cL_cat 5 (some .int) [(0, 10, 13, 31), (0, 10, 17, 13)] 4 := ⟨gw_in (gt_5 (List.mem_of_getElem? (i := 115) rfl)) rfl, gw_in (gt_1 (List.mem_of_getElem? (i := 0) rfl)) rfl, by decide +kernel, by decide⟩
theorem msw_L_cat : Cond.static yL_cat ∈ gw_tbl := gw_in (gt_5 (List.mem_of_getElem? (i := 114) rfl)) rfl
def fn_L_more (o : Nat) (p1 : Int32) (σ : hp_I) (τ : hp_L) : Option (Int32 × hp_I × hp_L) :=
  px_c0 (fn_X_more o p1 σ) (fun s => some ((1 : Int32), s, τ)) (fun a => Option.bind (px_lst τ 601 (0 : Int32) a.1.toInt64) fun u2 => some ((0 : Int32), a.2, u2))
set_option maxRecDepth 100000 in
theorem okw_L_more {G : wd_G} {l : Launch} (hN : gd_ok G) (hG2 : 601 < G.2.1) (htr : l.stackTraces = false) (o : Nat) (ho : sh_kd o = 11) (p1 : Int32) (σ : hp_I) (τ : hp_L) : cl_W G l 8 1 yL_more cL_more 4 (some .int) [(0, 9, 12, 31)] [.ref (wd_b G + o), .int p1, .ref (wd_b G + 601)] σ τ ci_iht (fn_L_more o p1 σ τ) := by
  refine cl_ofH (lv0 := [(0, .ref (wd_b G + o)), (1, .int p1), (2, .ref (wd_b G + 601))]) ci_iht (by decide) (Nat.le_of_ble_eq_true rfl) rfl hN htr (fun M X C => ?_)
  have C : cx_C G M RL cL_more 4 8 (some .int) := C
  unfold fn_L_more
  refine dn_aload_n C dL_more_0 rfl 2 rfl rfl ?_
  refine dn_iconst C dL_more_1 ic_i_0 rfl ?_
  refine dn_aload_n C dL_more_2 rfl 0 rfl rfl ?_
  refine dn_iload_n C dL_more_3 rfl 1 rfl rfl ?_
  refine dn_catch0 (As := [.int p1]) (st := [.int (0 : Int32), .ref (wd_b G + 601)]) C X (okx_X_more (cx_g C) X.2.2 o ho p1 σ τ) mt_X11_more mv_X11_more lk_L_42 (by decide) ho rfl (by decide) (by decide) (Nat.le_of_ble_eq_true rfl) dL_more_4 rfl rfl rfl (by decide) lt_31 lx_c0 (fun a => ?_) (fun s qe => ?_)
  · show dn_D G M 4 1 6 (cm_H G M 1 ci_iht) 7 _ [.int a.1, .int 0, .ref (wd_b G + 601)] a.2 τ _
    refine dn_i2l C dL_more_7 rfl ?_
    refine dn_last C sh_601 hG2 dL_more_8 rfl (fun u2 => ?_)
    refine dn_goto (t := 15) C dL_more_9 (by decide) ?_
    refine dn_iconst C dL_more_15 ic_i_0 rfl ?_
    exact dn_iretH C dL_more_16 rfl (by decide) (by decide)
  · refine dn_astore_n (lv0 := [(0, .ref (wd_b G + o)), (1, .int p1), (2, .ref (wd_b G + 601))]) C dL_more_12 rfl (by decide) rfl rfl ?_
    refine dn_iconst C dL_more_13 ic_i_1 rfl ?_
    exact dn_iretH C dL_more_14 rfl (by decide) (by decide)
theorem mw_L_more : mw_ok yL_more cL_more 4 (some .int) [(0, 9, 12, 31)] 3 := ⟨gw_in (gt_5 (List.mem_of_getElem? (i := 127) rfl)) rfl, gw_in (gt_1 (List.mem_of_getElem? (i := 0) rfl)) rfl, by decide +kernel, by decide⟩
theorem msw_L_more : Cond.static yL_more ∈ gw_tbl := gw_in (gt_5 (List.mem_of_getElem? (i := 126) rfl)) rfl
def fn_L_would (o : Nat) (p1 : Int32) (p2 : Int32) (p3 : Int32) (p4 : Int32) (p5 : Int32) (p6 : Int32) (p7 : Int32) (σ : hp_I) (τ : hp_L) : Option (Int32 × hp_I × hp_L) :=
  px_c1 (fn_X_would o p1 p2 p3 p4 p5 p6 p7 σ) (fun s => some ((1 : Int32), s, τ)) (fun a => Option.bind (px_lst τ 601 (0 : Int32) a.1.toInt64) fun u2 => some ((0 : Int32), a.2, u2))
set_option maxRecDepth 100000 in
theorem okw_L_would {G : wd_G} {l : Launch} (hN : gd_ok G) (hG2 : 601 < G.2.1) (htr : l.stackTraces = false) (o : Nat) (ho : sh_kd o = 11) (p1 : Int32) (p2 : Int32) (p3 : Int32) (p4 : Int32) (p5 : Int32) (p6 : Int32) (p7 : Int32) (σ : hp_I) (τ : hp_L) : cl_W G l 8 7 yL_would cL_would 10 (some .int) [(0, 20, 23, 13)] [.ref (wd_b G + o), .int p1, .int p2, .int p3, .int p4, .int p5, .int p6, .int p7, .ref (wd_b G + 601)] σ τ ci_iht (fn_L_would o p1 p2 p3 p4 p5 p6 p7 σ τ) := by
  refine cl_ofH (lv0 := [(0, .ref (wd_b G + o)), (1, .int p1), (2, .int p2), (3, .int p3), (4, .int p4), (5, .int p5), (6, .int p6), (7, .int p7), (8, .ref (wd_b G + 601))]) ci_iht (by decide) (Nat.le_of_ble_eq_true rfl) rfl hN htr (fun M X C => ?_)
  have C : cx_C G M RL cL_would 10 8 (some .int) := C
  unfold fn_L_would
  refine dn_aload C dL_would_0 8 rfl rfl ?_
  refine dn_iconst C dL_would_2 ic_i_0 rfl ?_
  refine dn_aload_n C dL_would_3 rfl 0 rfl rfl ?_
  refine dn_iload_n C dL_would_4 rfl 1 rfl rfl ?_
  refine dn_iload_n C dL_would_5 rfl 2 rfl rfl ?_
  refine dn_iload_n C dL_would_6 rfl 3 rfl rfl ?_
  refine dn_iload C dL_would_7 4 rfl rfl ?_
  refine dn_iload C dL_would_9 5 rfl rfl ?_
  refine dn_iload C dL_would_11 6 rfl rfl ?_
  refine dn_iload C dL_would_13 7 rfl rfl ?_
  refine dn_catch1 (As := [.int p1, .int p2, .int p3, .int p4, .int p5, .int p6, .int p7]) (st := [.int (0 : Int32), .ref (wd_b G + 601)]) C X (okx_X_would (cx_g C) X.2.2 o ho p1 p2 p3 p4 p5 p6 p7 σ τ) mt_X11_would mv_X11_would lk_L_45 (by decide) ho rfl (by decide) (by decide) (Nat.le_of_ble_eq_true rfl) dL_would_15 rfl rfl rfl (by decide) lt_13 lx_c1 (fun a => ?_) (fun s qe => ?_)
  · show dn_D G M 10 7 42 (cm_H G M 7 ci_iht) 18 _ [.int a.1, .int 0, .ref (wd_b G + 601)] a.2 τ _
    refine dn_i2l C dL_would_18 rfl ?_
    refine dn_last C sh_601 hG2 dL_would_19 rfl (fun u2 => ?_)
    refine dn_goto (t := 27) C dL_would_20 (by decide) ?_
    refine dn_iconst C dL_would_27 ic_i_0 rfl ?_
    exact dn_iretH C dL_would_28 rfl (by decide) (by decide)
  · refine dn_astore (lv0 := [(0, .ref (wd_b G + o)), (1, .int p1), (2, .int p2), (3, .int p3), (4, .int p4), (5, .int p5), (6, .int p6), (7, .int p7), (8, .ref (wd_b G + 601))]) C dL_would_23 (by decide) rfl rfl ?_
    refine dn_iconst C dL_would_25 ic_i_1 rfl ?_
    exact dn_iretH C dL_would_26 rfl (by decide) (by decide)
theorem mw_L_would : mw_ok yL_would cL_would 10 (some .int) [(0, 20, 23, 13)] 9 := ⟨gw_in (gt_5 (List.mem_of_getElem? (i := 135) rfl)) rfl, gw_in (gt_1 (List.mem_of_getElem? (i := 0) rfl)) rfl, by decide +kernel, by decide⟩
theorem msw_L_would : Cond.static yL_would ∈ gw_tbl := gw_in (gt_5 (List.mem_of_getElem? (i := 134) rfl)) rfl
def fn_L_ahead (o : Nat) (p1 : Int32) (p2 : Int32) (σ : hp_I) (τ : hp_L) : Option (Int32 × hp_I × hp_L) :=
  px_c1 (fn_X_ahead o p1 p2 σ) (fun s => some ((1 : Int32), s, τ)) (fun a => Option.bind (px_lst τ 601 (0 : Int32) a.1.toInt64) fun u2 => some ((0 : Int32), a.2, u2))
set_option maxRecDepth 100000 in
theorem okw_L_ahead {G : wd_G} {l : Launch} (hN : gd_ok G) (hG2 : 601 < G.2.1) (htr : l.stackTraces = false) (o : Nat) (ho : sh_kd o = 11) (p1 : Int32) (p2 : Int32) (σ : hp_I) (τ : hp_L) : cl_W G l 8 2 yL_ahead cL_ahead 5 (some .int) [(0, 10, 13, 13)] [.ref (wd_b G + o), .int p1, .int p2, .ref (wd_b G + 601)] σ τ ci_iht (fn_L_ahead o p1 p2 σ τ) := by
  refine cl_ofH (lv0 := [(0, .ref (wd_b G + o)), (1, .int p1), (2, .int p2), (3, .ref (wd_b G + 601))]) ci_iht (by decide) (Nat.le_of_ble_eq_true rfl) rfl hN htr (fun M X C => ?_)
  have C : cx_C G M RL cL_ahead 5 8 (some .int) := C
  unfold fn_L_ahead
  refine dn_aload_n C dL_ahead_0 rfl 3 rfl rfl ?_
  refine dn_iconst C dL_ahead_1 ic_i_0 rfl ?_
  refine dn_aload_n C dL_ahead_2 rfl 0 rfl rfl ?_
  refine dn_iload_n C dL_ahead_3 rfl 1 rfl rfl ?_
  refine dn_iload_n C dL_ahead_4 rfl 2 rfl rfl ?_
  refine dn_catch1 (As := [.int p1, .int p2]) (st := [.int (0 : Int32), .ref (wd_b G + 601)]) C X (okx_X_ahead (cx_g C) X.2.2 o ho p1 p2 σ τ) mt_X11_ahead mv_X11_ahead lk_L_49 (by decide) ho rfl (by decide) (by decide) (Nat.le_of_ble_eq_true rfl) dL_ahead_5 rfl rfl rfl (by decide) lt_13 lx_c1 (fun a => ?_) (fun s qe => ?_)
  · show dn_D G M 5 2 12 (cm_H G M 2 ci_iht) 8 _ [.int a.1, .int 0, .ref (wd_b G + 601)] a.2 τ _
    refine dn_i2l C dL_ahead_8 rfl ?_
    refine dn_last C sh_601 hG2 dL_ahead_9 rfl (fun u2 => ?_)
    refine dn_goto (t := 17) C dL_ahead_10 (by decide) ?_
    refine dn_iconst C dL_ahead_17 ic_i_0 rfl ?_
    exact dn_iretH C dL_ahead_18 rfl (by decide) (by decide)
  · refine dn_astore (lv0 := [(0, .ref (wd_b G + o)), (1, .int p1), (2, .int p2), (3, .ref (wd_b G + 601))]) C dL_ahead_13 (by decide) rfl rfl ?_
    refine dn_iconst C dL_ahead_15 ic_i_1 rfl ?_
    exact dn_iretH C dL_ahead_16 rfl (by decide) (by decide)
theorem mw_L_ahead : mw_ok yL_ahead cL_ahead 5 (some .int) [(0, 10, 13, 13)] 4 := ⟨gw_in (gt_5 (List.mem_of_getElem? (i := 143) rfl)) rfl, gw_in (gt_1 (List.mem_of_getElem? (i := 0) rfl)) rfl, by decide +kernel, by decide⟩
theorem msw_L_ahead : Cond.static yL_ahead ∈ gw_tbl := gw_in (gt_5 (List.mem_of_getElem? (i := 142) rfl)) rfl
def fn_L_far (o : Nat) (p1 : Int32) (p2 : Int32) (σ : hp_I) (τ : hp_L) : Option (Int32 × hp_I × hp_L) :=
  px_c0 (fn_X_far o p1 p2 σ) (fun s => some ((1 : Int32), s, τ)) (fun a => Option.bind (px_lst τ 601 (0 : Int32) a.1.toInt64) fun u2 => some ((0 : Int32), a.2, u2))
set_option maxRecDepth 100000 in
theorem okw_L_far {G : wd_G} {l : Launch} (hN : gd_ok G) (hG2 : 601 < G.2.1) (htr : l.stackTraces = false) (o : Nat) (ho : sh_kd o = 11) (p1 : Int32) (p2 : Int32) (σ : hp_I) (τ : hp_L) : cl_W G l 8 2 yL_far cL_far 5 (some .int) [(0, 10, 13, 31)] [.ref (wd_b G + o), .int p1, .int p2, .ref (wd_b G + 601)] σ τ ci_iht (fn_L_far o p1 p2 σ τ) := by
  refine cl_ofH (lv0 := [(0, .ref (wd_b G + o)), (1, .int p1), (2, .int p2), (3, .ref (wd_b G + 601))]) ci_iht (by decide) (Nat.le_of_ble_eq_true rfl) rfl hN htr (fun M X C => ?_)
  have C : cx_C G M RL cL_far 5 8 (some .int) := C
  unfold fn_L_far
  refine dn_aload_n C dL_far_0 rfl 3 rfl rfl ?_
  refine dn_iconst C dL_far_1 ic_i_0 rfl ?_
  refine dn_aload_n C dL_far_2 rfl 0 rfl rfl ?_
  refine dn_iload_n C dL_far_3 rfl 1 rfl rfl ?_
  refine dn_iload_n C dL_far_4 rfl 2 rfl rfl ?_
  refine dn_catch0 (As := [.int p1, .int p2]) (st := [.int (0 : Int32), .ref (wd_b G + 601)]) C X (okx_X_far (cx_g C) X.2.2 o ho p1 p2 σ τ) mt_X11_far mv_X11_far lk_L_52 (by decide) ho rfl (by decide) (by decide) (Nat.le_of_ble_eq_true rfl) dL_far_5 rfl rfl rfl (by decide) lt_31 lx_c0 (fun a => ?_) (fun s qe => ?_)
  · show dn_D G M 5 2 12 (cm_H G M 2 ci_iht) 8 _ [.int a.1, .int 0, .ref (wd_b G + 601)] a.2 τ _
    refine dn_i2l C dL_far_8 rfl ?_
    refine dn_last C sh_601 hG2 dL_far_9 rfl (fun u2 => ?_)
    refine dn_goto (t := 17) C dL_far_10 (by decide) ?_
    refine dn_iconst C dL_far_17 ic_i_0 rfl ?_
    exact dn_iretH C dL_far_18 rfl (by decide) (by decide)
  · refine dn_astore (lv0 := [(0, .ref (wd_b G + o)), (1, .int p1), (2, .int p2), (3, .ref (wd_b G + 601))]) C dL_far_13 (by decide) rfl rfl ?_
    refine dn_iconst C dL_far_15 ic_i_1 rfl ?_
    exact dn_iretH C dL_far_16 rfl (by decide) (by decide)
theorem mw_L_far : mw_ok yL_far cL_far 5 (some .int) [(0, 10, 13, 31)] 4 := ⟨gw_in (gt_5 (List.mem_of_getElem? (i := 151) rfl)) rfl, gw_in (gt_1 (List.mem_of_getElem? (i := 0) rfl)) rfl, by decide +kernel, by decide⟩
theorem msw_L_far : Cond.static yL_far ∈ gw_tbl := gw_in (gt_5 (List.mem_of_getElem? (i := 150) rfl)) rfl
def fn_L_lasts (o : Nat) (p1 : Int32) (σ : hp_I) (τ : hp_L) : Option (Int32 × hp_I × hp_L) :=
  px_c0 (fn_X_lasts o p1 σ) (fun s => some ((1 : Int32), s, τ)) (fun a => Option.bind (px_lst τ 601 (0 : Int32) a.1.toInt64) fun u2 => some ((0 : Int32), a.2, u2))
set_option maxRecDepth 100000 in
theorem okw_L_lasts {G : wd_G} {l : Launch} (hN : gd_ok G) (hG2 : 601 < G.2.1) (htr : l.stackTraces = false) (o : Nat) (ho : sh_kd o = 11) (p1 : Int32) (σ : hp_I) (τ : hp_L) : cl_W G l 8 1 yL_lasts cL_lasts 4 (some .int) [(0, 9, 12, 31)] [.ref (wd_b G + o), .int p1, .ref (wd_b G + 601)] σ τ ci_iht (fn_L_lasts o p1 σ τ) := by
  refine cl_ofH (lv0 := [(0, .ref (wd_b G + o)), (1, .int p1), (2, .ref (wd_b G + 601))]) ci_iht (by decide) (Nat.le_of_ble_eq_true rfl) rfl hN htr (fun M X C => ?_)
  have C : cx_C G M RL cL_lasts 4 8 (some .int) := C
  unfold fn_L_lasts
  refine dn_aload_n C dL_lasts_0 rfl 2 rfl rfl ?_
  refine dn_iconst C dL_lasts_1 ic_i_0 rfl ?_
  refine dn_aload_n C dL_lasts_2 rfl 0 rfl rfl ?_
  refine dn_iload_n C dL_lasts_3 rfl 1 rfl rfl ?_
  refine dn_catch0 (As := [.int p1]) (st := [.int (0 : Int32), .ref (wd_b G + 601)]) C X (okx_X_lasts (cx_g C) X.2.2 o ho p1 σ τ) mt_X11_lasts mv_X11_lasts lk_L_55 (by decide) ho rfl (by decide) (by decide) (Nat.le_of_ble_eq_true rfl) dL_lasts_4 rfl rfl rfl (by decide) lt_31 lx_c0 (fun a => ?_) (fun s qe => ?_)
  · show dn_D G M 4 1 6 (cm_H G M 1 ci_iht) 7 _ [.int a.1, .int 0, .ref (wd_b G + 601)] a.2 τ _
    refine dn_i2l C dL_lasts_7 rfl ?_
    refine dn_last C sh_601 hG2 dL_lasts_8 rfl (fun u2 => ?_)
    refine dn_goto (t := 15) C dL_lasts_9 (by decide) ?_
    refine dn_iconst C dL_lasts_15 ic_i_0 rfl ?_
    exact dn_iretH C dL_lasts_16 rfl (by decide) (by decide)
  · refine dn_astore_n (lv0 := [(0, .ref (wd_b G + o)), (1, .int p1), (2, .ref (wd_b G + 601))]) C dL_lasts_12 rfl (by decide) rfl rfl ?_
    refine dn_iconst C dL_lasts_13 ic_i_1 rfl ?_
    exact dn_iretH C dL_lasts_14 rfl (by decide) (by decide)
theorem mw_L_lasts : mw_ok yL_lasts cL_lasts 4 (some .int) [(0, 9, 12, 31)] 3 := ⟨gw_in (gt_5 (List.mem_of_getElem? (i := 162) rfl)) rfl, gw_in (gt_1 (List.mem_of_getElem? (i := 0) rfl)) rfl, by decide +kernel, by decide⟩
theorem msw_L_lasts : Cond.static yL_lasts ∈ gw_tbl := gw_in (gt_5 (List.mem_of_getElem? (i := 161) rfl)) rfl
def fn_L_slips (o : Nat) (p1 : Int32) (p2 : Int32) (σ : hp_I) (τ : hp_L) : Option (Int32 × hp_I × hp_L) :=
  px_c0 (fn_X_slips o p1 p2 σ) (fun s => some ((1 : Int32), s, τ)) (fun a => Option.bind (px_lst τ 601 (0 : Int32) a.1.toInt64) fun u2 => some ((0 : Int32), a.2, u2))
set_option maxRecDepth 100000 in
theorem okw_L_slips {G : wd_G} {l : Launch} (hN : gd_ok G) (hG2 : 601 < G.2.1) (htr : l.stackTraces = false) (o : Nat) (ho : sh_kd o = 11) (p1 : Int32) (p2 : Int32) (σ : hp_I) (τ : hp_L) : cl_W G l 8 2 yL_slips cL_slips 5 (some .int) [(0, 10, 13, 31)] [.ref (wd_b G + o), .int p1, .int p2, .ref (wd_b G + 601)] σ τ ci_iht (fn_L_slips o p1 p2 σ τ) := by
  refine cl_ofH (lv0 := [(0, .ref (wd_b G + o)), (1, .int p1), (2, .int p2), (3, .ref (wd_b G + 601))]) ci_iht (by decide) (Nat.le_of_ble_eq_true rfl) rfl hN htr (fun M X C => ?_)
  have C : cx_C G M RL cL_slips 5 8 (some .int) := C
  unfold fn_L_slips
  refine dn_aload_n C dL_slips_0 rfl 3 rfl rfl ?_
  refine dn_iconst C dL_slips_1 ic_i_0 rfl ?_
  refine dn_aload_n C dL_slips_2 rfl 0 rfl rfl ?_
  refine dn_iload_n C dL_slips_3 rfl 1 rfl rfl ?_
  refine dn_iload_n C dL_slips_4 rfl 2 rfl rfl ?_
  refine dn_catch0 (As := [.int p1, .int p2]) (st := [.int (0 : Int32), .ref (wd_b G + 601)]) C X (okx_X_slips (cx_g C) X.2.2 o ho p1 p2 σ τ) mt_X11_slips mv_X11_slips lk_L_58 (by decide) ho rfl (by decide) (by decide) (Nat.le_of_ble_eq_true rfl) dL_slips_5 rfl rfl rfl (by decide) lt_31 lx_c0 (fun a => ?_) (fun s qe => ?_)
  · show dn_D G M 5 2 12 (cm_H G M 2 ci_iht) 8 _ [.int a.1, .int 0, .ref (wd_b G + 601)] a.2 τ _
    refine dn_i2l C dL_slips_8 rfl ?_
    refine dn_last C sh_601 hG2 dL_slips_9 rfl (fun u2 => ?_)
    refine dn_goto (t := 17) C dL_slips_10 (by decide) ?_
    refine dn_iconst C dL_slips_17 ic_i_0 rfl ?_
    exact dn_iretH C dL_slips_18 rfl (by decide) (by decide)
  · refine dn_astore (lv0 := [(0, .ref (wd_b G + o)), (1, .int p1), (2, .int p2), (3, .ref (wd_b G + 601))]) C dL_slips_13 (by decide) rfl rfl ?_
    refine dn_iconst C dL_slips_15 ic_i_1 rfl ?_
    exact dn_iretH C dL_slips_16 rfl (by decide) (by decide)
theorem mw_L_slips : mw_ok yL_slips cL_slips 5 (some .int) [(0, 10, 13, 31)] 4 := ⟨gw_in (gt_5 (List.mem_of_getElem? (i := 169) rfl)) rfl, gw_in (gt_1 (List.mem_of_getElem? (i := 0) rfl)) rfl, by decide +kernel, by decide⟩
theorem msw_L_slips : Cond.static yL_slips ∈ gw_tbl := gw_in (gt_5 (List.mem_of_getElem? (i := 168) rfl)) rfl
def fn_L_hunt (o : Nat) (p1 : Int32) (σ : hp_I) (τ : hp_L) : Option (Int32 × hp_I × hp_L) :=
  px_c1 (fn_X_hunt o p1 σ) (fun s => some ((1 : Int32), s, τ)) (fun a => Option.bind (px_lst τ 601 (0 : Int32) a.1.toInt64) fun u2 => some ((0 : Int32), a.2, u2))
set_option maxRecDepth 100000 in
theorem okw_L_hunt {G : wd_G} {l : Launch} (hN : gd_ok G) (hG2 : 601 < G.2.1) (htr : l.stackTraces = false) (o : Nat) (ho : sh_kd o = 11) (p1 : Int32) (σ : hp_I) (τ : hp_L) : cl_W G l 8 1 yL_hunt cL_hunt 4 (some .int) [(0, 9, 12, 13)] [.ref (wd_b G + o), .int p1, .ref (wd_b G + 601)] σ τ ci_iht (fn_L_hunt o p1 σ τ) := by
  refine cl_ofH (lv0 := [(0, .ref (wd_b G + o)), (1, .int p1), (2, .ref (wd_b G + 601))]) ci_iht (by decide) (Nat.le_of_ble_eq_true rfl) rfl hN htr (fun M X C => ?_)
  have C : cx_C G M RL cL_hunt 4 8 (some .int) := C
  unfold fn_L_hunt
  refine dn_aload_n C dL_hunt_0 rfl 2 rfl rfl ?_
  refine dn_iconst C dL_hunt_1 ic_i_0 rfl ?_
  refine dn_aload_n C dL_hunt_2 rfl 0 rfl rfl ?_
  refine dn_iload_n C dL_hunt_3 rfl 1 rfl rfl ?_
  refine dn_catch1 (As := [.int p1]) (st := [.int (0 : Int32), .ref (wd_b G + 601)]) C X (okx_X_hunt (cx_g C) X.2.2 o ho p1 σ τ) mt_X11_hunt mv_X11_hunt lk_L_61 (by decide) ho rfl (by decide) (by decide) (Nat.le_of_ble_eq_true rfl) dL_hunt_4 rfl rfl rfl (by decide) lt_13 lx_c1 (fun a => ?_) (fun s qe => ?_)
  · show dn_D G M 4 1 6 (cm_H G M 1 ci_iht) 7 _ [.int a.1, .int 0, .ref (wd_b G + 601)] a.2 τ _
    refine dn_i2l C dL_hunt_7 rfl ?_
    refine dn_last C sh_601 hG2 dL_hunt_8 rfl (fun u2 => ?_)
    refine dn_goto (t := 15) C dL_hunt_9 (by decide) ?_
    refine dn_iconst C dL_hunt_15 ic_i_0 rfl ?_
    exact dn_iretH C dL_hunt_16 rfl (by decide) (by decide)
  · refine dn_astore_n (lv0 := [(0, .ref (wd_b G + o)), (1, .int p1), (2, .ref (wd_b G + 601))]) C dL_hunt_12 rfl (by decide) rfl rfl ?_
    refine dn_iconst C dL_hunt_13 ic_i_1 rfl ?_
    exact dn_iretH C dL_hunt_14 rfl (by decide) (by decide)
theorem mw_L_hunt : mw_ok yL_hunt cL_hunt 4 (some .int) [(0, 9, 12, 13)] 3 := ⟨gw_in (gt_5 (List.mem_of_getElem? (i := 225) rfl)) rfl, gw_in (gt_1 (List.mem_of_getElem? (i := 0) rfl)) rfl, by decide +kernel, by decide⟩
theorem msw_L_hunt : Cond.static yL_hunt ∈ gw_tbl := gw_in (gt_5 (List.mem_of_getElem? (i := 224) rfl)) rfl
def fn_L_prey (o : Nat) (p1 : Int32) (σ : hp_I) (τ : hp_L) : Option (Int32 × hp_I × hp_L) :=
  px_c0 (fn_X_prey o p1 σ) (fun s => some ((1 : Int32), s, τ)) (fun a => Option.bind (px_lst τ 601 (0 : Int32) a.1.toInt64) fun u2 => some ((0 : Int32), a.2, u2))
set_option maxRecDepth 100000 in
theorem okw_L_prey {G : wd_G} {l : Launch} (hN : gd_ok G) (hG2 : 601 < G.2.1) (htr : l.stackTraces = false) (o : Nat) (ho : sh_kd o = 11) (p1 : Int32) (σ : hp_I) (τ : hp_L) : cl_W G l 8 1 yL_prey cL_prey 4 (some .int) [(0, 9, 12, 31)] [.ref (wd_b G + o), .int p1, .ref (wd_b G + 601)] σ τ ci_iht (fn_L_prey o p1 σ τ) := by
  refine cl_ofH (lv0 := [(0, .ref (wd_b G + o)), (1, .int p1), (2, .ref (wd_b G + 601))]) ci_iht (by decide) (Nat.le_of_ble_eq_true rfl) rfl hN htr (fun M X C => ?_)
  have C : cx_C G M RL cL_prey 4 8 (some .int) := C
  unfold fn_L_prey
  refine dn_aload_n C dL_prey_0 rfl 2 rfl rfl ?_
  refine dn_iconst C dL_prey_1 ic_i_0 rfl ?_
  refine dn_aload_n C dL_prey_2 rfl 0 rfl rfl ?_
  refine dn_iload_n C dL_prey_3 rfl 1 rfl rfl ?_
  refine dn_catch0 (As := [.int p1]) (st := [.int (0 : Int32), .ref (wd_b G + 601)]) C X (okx_X_prey (cx_g C) X.2.2 o ho p1 σ τ) mt_X11_prey mv_X11_prey lk_L_64 (by decide) ho rfl (by decide) (by decide) (Nat.le_of_ble_eq_true rfl) dL_prey_4 rfl rfl rfl (by decide) lt_31 lx_c0 (fun a => ?_) (fun s qe => ?_)
  · show dn_D G M 4 1 6 (cm_H G M 1 ci_iht) 7 _ [.int a.1, .int 0, .ref (wd_b G + 601)] a.2 τ _
    refine dn_i2l C dL_prey_7 rfl ?_
    refine dn_last C sh_601 hG2 dL_prey_8 rfl (fun u2 => ?_)
    refine dn_goto (t := 15) C dL_prey_9 (by decide) ?_
    refine dn_iconst C dL_prey_15 ic_i_0 rfl ?_
    exact dn_iretH C dL_prey_16 rfl (by decide) (by decide)
  · refine dn_astore_n (lv0 := [(0, .ref (wd_b G + o)), (1, .int p1), (2, .ref (wd_b G + 601))]) C dL_prey_12 rfl (by decide) rfl rfl ?_
    refine dn_iconst C dL_prey_13 ic_i_1 rfl ?_
    exact dn_iretH C dL_prey_14 rfl (by decide) (by decide)
theorem mw_L_prey : mw_ok yL_prey cL_prey 4 (some .int) [(0, 9, 12, 31)] 3 := ⟨gw_in (gt_6 (List.mem_of_getElem? (i := 28) rfl)) rfl, gw_in (gt_1 (List.mem_of_getElem? (i := 0) rfl)) rfl, by decide +kernel, by decide⟩
theorem msw_L_prey : Cond.static yL_prey ∈ gw_tbl := gw_in (gt_6 (List.mem_of_getElem? (i := 27) rfl)) rfl
def fn_L_sums (o : Nat) (p1 : Int32) (p2 : Int32) (σ : hp_I) (τ : hp_L) : Option (Int32 × hp_I × hp_L) :=
  px_c2 (fn_X_sums o p1 p2 σ) (fun s => some ((1 : Int32), s, τ)) (fun s => some ((2 : Int32), s, τ)) (fun a => Option.bind (px_lst τ 601 (0 : Int32) a.1.toInt64) fun u2 => some ((0 : Int32), a.2, u2))
set_option maxRecDepth 100000 in
theorem okw_L_sums {G : wd_G} {l : Launch} (hN : gd_ok G) (hG2 : 601 < G.2.1) (htr : l.stackTraces = false) (o : Nat) (ho : sh_kd o = 11) (p1 : Int32) (p2 : Int32) (σ : hp_I) (τ : hp_L) : cl_W G l 8 2 yL_sums cL_sums 5 (some .int) [(0, 10, 13, 31), (0, 10, 17, 13)] [.ref (wd_b G + o), .int p1, .int p2, .ref (wd_b G + 601)] σ τ ci_iht (fn_L_sums o p1 p2 σ τ) := by
  refine cl_ofH (lv0 := [(0, .ref (wd_b G + o)), (1, .int p1), (2, .int p2), (3, .ref (wd_b G + 601))]) ci_iht (by decide) (Nat.le_of_ble_eq_true rfl) rfl hN htr (fun M X C => ?_)
  have C : cx_C G M RL cL_sums 5 8 (some .int) := C
  unfold fn_L_sums
  refine dn_aload_n C dL_sums_0 rfl 3 rfl rfl ?_
  refine dn_iconst C dL_sums_1 ic_i_0 rfl ?_
  refine dn_aload_n C dL_sums_2 rfl 0 rfl rfl ?_
  refine dn_iload_n C dL_sums_3 rfl 1 rfl rfl ?_
  refine dn_iload_n C dL_sums_4 rfl 2 rfl rfl ?_
  refine dn_catch2 (As := [.int p1, .int p2]) (st := [.int (0 : Int32), .ref (wd_b G + 601)]) C X (okx_X_sums (cx_g C) X.2.2 o ho p1 p2 σ τ) mt_X11_sums mv_X11_sums lk_L_67 (by decide) ho rfl (by decide) (by decide) (Nat.le_of_ble_eq_true rfl) dL_sums_5 rfl rfl rfl (by decide) (by decide) lt_31 lt_13 lx_c0 lx_c1 (lx_no (cx_g C) (cx_s C)) (fun a => ?_) (fun s qe => ?_) (fun s qe => ?_)
  · show dn_D G M 5 2 12 (cm_H G M 2 ci_iht) 8 _ [.int a.1, .int 0, .ref (wd_b G + 601)] a.2 τ _
    refine dn_i2l C dL_sums_8 rfl ?_
    refine dn_last C sh_601 hG2 dL_sums_9 rfl (fun u2 => ?_)
    refine dn_goto (t := 21) C dL_sums_10 (by decide) ?_
    refine dn_iconst C dL_sums_21 ic_i_0 rfl ?_
    exact dn_iretH C dL_sums_22 rfl (by decide) (by decide)
  · refine dn_astore (lv0 := [(0, .ref (wd_b G + o)), (1, .int p1), (2, .int p2), (3, .ref (wd_b G + 601))]) C dL_sums_13 (by decide) rfl rfl ?_
    refine dn_iconst C dL_sums_15 ic_i_1 rfl ?_
    exact dn_iretH C dL_sums_16 rfl (by decide) (by decide)
  · refine dn_astore (lv0 := [(0, .ref (wd_b G + o)), (1, .int p1), (2, .int p2), (3, .ref (wd_b G + 601))]) C dL_sums_17 (by decide) rfl rfl ?_
    refine dn_iconst C dL_sums_19 ic_i_2 rfl ?_
    exact dn_iretH C dL_sums_20 rfl (by decide) (by decide)
theorem mw_L_sums : mw_ok yL_sums cL_sums 5 (some .int) [(0, 10, 13, 31), (0, 10, 17, 13)] 4 := ⟨gw_in (gt_6 (List.mem_of_getElem? (i := 35) rfl)) rfl, gw_in (gt_1 (List.mem_of_getElem? (i := 0) rfl)) rfl, by decide +kernel, by decide⟩
theorem msw_L_sums : Cond.static yL_sums ∈ gw_tbl := gw_in (gt_6 (List.mem_of_getElem? (i := 34) rfl)) rfl
def fn_L_fits (o : Nat) (p1 : Int32) (σ : hp_I) (τ : hp_L) : Option (Int32 × hp_I × hp_L) :=
  px_c1 (fn_X_fits o p1 σ) (fun s => some ((1 : Int32), s, τ)) (fun a => Option.bind (px_lst τ 601 (0 : Int32) a.1.toInt64) fun u2 => some ((0 : Int32), a.2, u2))
set_option maxRecDepth 100000 in
theorem okw_L_fits {G : wd_G} {l : Launch} (hN : gd_ok G) (hG2 : 601 < G.2.1) (htr : l.stackTraces = false) (o : Nat) (ho : sh_kd o = 11) (p1 : Int32) (σ : hp_I) (τ : hp_L) : cl_W G l 8 1 yL_fits cL_fits 4 (some .int) [(0, 9, 12, 13)] [.ref (wd_b G + o), .int p1, .ref (wd_b G + 601)] σ τ ci_iht (fn_L_fits o p1 σ τ) := by
  refine cl_ofH (lv0 := [(0, .ref (wd_b G + o)), (1, .int p1), (2, .ref (wd_b G + 601))]) ci_iht (by decide) (Nat.le_of_ble_eq_true rfl) rfl hN htr (fun M X C => ?_)
  have C : cx_C G M RL cL_fits 4 8 (some .int) := C
  unfold fn_L_fits
  refine dn_aload_n C dL_fits_0 rfl 2 rfl rfl ?_
  refine dn_iconst C dL_fits_1 ic_i_0 rfl ?_
  refine dn_aload_n C dL_fits_2 rfl 0 rfl rfl ?_
  refine dn_iload_n C dL_fits_3 rfl 1 rfl rfl ?_
  refine dn_catch1 (As := [.int p1]) (st := [.int (0 : Int32), .ref (wd_b G + 601)]) C X (okx_X_fits (cx_g C) X.2.2 o ho p1 σ τ) mt_X11_fits mv_X11_fits lk_L_70 (by decide) ho rfl (by decide) (by decide) (Nat.le_of_ble_eq_true rfl) dL_fits_4 rfl rfl rfl (by decide) lt_13 lx_c1 (fun a => ?_) (fun s qe => ?_)
  · show dn_D G M 4 1 6 (cm_H G M 1 ci_iht) 7 _ [.int a.1, .int 0, .ref (wd_b G + 601)] a.2 τ _
    refine dn_i2l C dL_fits_7 rfl ?_
    refine dn_last C sh_601 hG2 dL_fits_8 rfl (fun u2 => ?_)
    refine dn_goto (t := 15) C dL_fits_9 (by decide) ?_
    refine dn_iconst C dL_fits_15 ic_i_0 rfl ?_
    exact dn_iretH C dL_fits_16 rfl (by decide) (by decide)
  · refine dn_astore_n (lv0 := [(0, .ref (wd_b G + o)), (1, .int p1), (2, .ref (wd_b G + 601))]) C dL_fits_12 rfl (by decide) rfl rfl ?_
    refine dn_iconst C dL_fits_13 ic_i_1 rfl ?_
    exact dn_iretH C dL_fits_14 rfl (by decide) (by decide)
theorem mw_L_fits : mw_ok yL_fits cL_fits 4 (some .int) [(0, 9, 12, 13)] 3 := ⟨gw_in (gt_6 (List.mem_of_getElem? (i := 42) rfl)) rfl, gw_in (gt_1 (List.mem_of_getElem? (i := 0) rfl)) rfl, by decide +kernel, by decide⟩
theorem msw_L_fits : Cond.static yL_fits ∈ gw_tbl := gw_in (gt_6 (List.mem_of_getElem? (i := 41) rfl)) rfl
def fn_L_look (o : Nat) (p1 : Int32) (σ : hp_I) (τ : hp_L) : Option (Int32 × hp_I × hp_L) :=
  px_c1 (fn_X_look o p1 σ) (fun s => some ((1 : Int32), s, τ)) (fun a => Option.bind (px_lst τ 601 (0 : Int32) a.1.toInt64) fun u2 => some ((0 : Int32), a.2, u2))
set_option maxRecDepth 100000 in
theorem okw_L_look {G : wd_G} {l : Launch} (hN : gd_ok G) (hG2 : 601 < G.2.1) (htr : l.stackTraces = false) (o : Nat) (ho : sh_kd o = 11) (p1 : Int32) (σ : hp_I) (τ : hp_L) : cl_W G l 8 1 yL_look cL_look 4 (some .int) [(0, 9, 12, 13)] [.ref (wd_b G + o), .int p1, .ref (wd_b G + 601)] σ τ ci_iht (fn_L_look o p1 σ τ) := by
  refine cl_ofH (lv0 := [(0, .ref (wd_b G + o)), (1, .int p1), (2, .ref (wd_b G + 601))]) ci_iht (by decide) (Nat.le_of_ble_eq_true rfl) rfl hN htr (fun M X C => ?_)
  have C : cx_C G M RL cL_look 4 8 (some .int) := C
  unfold fn_L_look
  refine dn_aload_n C dL_look_0 rfl 2 rfl rfl ?_
  refine dn_iconst C dL_look_1 ic_i_0 rfl ?_
  refine dn_aload_n C dL_look_2 rfl 0 rfl rfl ?_
  refine dn_iload_n C dL_look_3 rfl 1 rfl rfl ?_
  refine dn_catch1 (As := [.int p1]) (st := [.int (0 : Int32), .ref (wd_b G + 601)]) C X (okx_X_look (cx_g C) X.2.2 o ho p1 σ τ) mt_X11_look mv_X11_look lk_L_73 (by decide) ho rfl (by decide) (by decide) (Nat.le_of_ble_eq_true rfl) dL_look_4 rfl rfl rfl (by decide) lt_13 lx_c1 (fun a => ?_) (fun s qe => ?_)
  · show dn_D G M 4 1 6 (cm_H G M 1 ci_iht) 7 _ [.int a.1, .int 0, .ref (wd_b G + 601)] a.2 τ _
    refine dn_i2l C dL_look_7 rfl ?_
    refine dn_last C sh_601 hG2 dL_look_8 rfl (fun u2 => ?_)
    refine dn_goto (t := 15) C dL_look_9 (by decide) ?_
    refine dn_iconst C dL_look_15 ic_i_0 rfl ?_
    exact dn_iretH C dL_look_16 rfl (by decide) (by decide)
  · refine dn_astore_n (lv0 := [(0, .ref (wd_b G + o)), (1, .int p1), (2, .ref (wd_b G + 601))]) C dL_look_12 rfl (by decide) rfl rfl ?_
    refine dn_iconst C dL_look_13 ic_i_1 rfl ?_
    exact dn_iretH C dL_look_14 rfl (by decide) (by decide)
theorem mw_L_look : mw_ok yL_look cL_look 4 (some .int) [(0, 9, 12, 13)] 3 := ⟨gw_in (gt_6 (List.mem_of_getElem? (i := 68) rfl)) rfl, gw_in (gt_1 (List.mem_of_getElem? (i := 0) rfl)) rfl, by decide +kernel, by decide⟩
theorem msw_L_look : Cond.static yL_look ∈ gw_tbl := gw_in (gt_6 (List.mem_of_getElem? (i := 67) rfl)) rfl
def fn_L_uncle (o : Nat) (p1 : Int32) (p2 : Int32) (p3 : Int32) (σ : hp_I) (τ : hp_L) : Option (Int32 × hp_I × hp_L) :=
  px_c1 (fn_X_uncle o p1 p2 p3 σ) (fun s => some ((1 : Int32), s, τ)) (fun a => Option.bind (px_lst τ 601 (0 : Int32) a.1.toInt64) fun u2 => some ((0 : Int32), a.2, u2))
set_option maxRecDepth 100000 in
theorem okw_L_uncle {G : wd_G} {l : Launch} (hN : gd_ok G) (hG2 : 601 < G.2.1) (htr : l.stackTraces = false) (o : Nat) (ho : sh_kd o = 11) (p1 : Int32) (p2 : Int32) (p3 : Int32) (σ : hp_I) (τ : hp_L) : cl_W G l 8 3 yL_uncle cL_uncle 6 (some .int) [(0, 12, 15, 13)] [.ref (wd_b G + o), .int p1, .int p2, .int p3, .ref (wd_b G + 601)] σ τ ci_iht (fn_L_uncle o p1 p2 p3 σ τ) := by
  refine cl_ofH (lv0 := [(0, .ref (wd_b G + o)), (1, .int p1), (2, .int p2), (3, .int p3), (4, .ref (wd_b G + 601))]) ci_iht (by decide) (Nat.le_of_ble_eq_true rfl) rfl hN htr (fun M X C => ?_)
  have C : cx_C G M RL cL_uncle 6 8 (some .int) := C
  unfold fn_L_uncle
  refine dn_aload C dL_uncle_0 4 rfl rfl ?_
  refine dn_iconst C dL_uncle_2 ic_i_0 rfl ?_
  refine dn_aload_n C dL_uncle_3 rfl 0 rfl rfl ?_
  refine dn_iload_n C dL_uncle_4 rfl 1 rfl rfl ?_
  refine dn_iload_n C dL_uncle_5 rfl 2 rfl rfl ?_
  refine dn_iload_n C dL_uncle_6 rfl 3 rfl rfl ?_
  refine dn_catch1 (As := [.int p1, .int p2, .int p3]) (st := [.int (0 : Int32), .ref (wd_b G + 601)]) C X (okx_X_uncle (cx_g C) X.2.2 o ho p1 p2 p3 σ τ) mt_X11_uncle mv_X11_uncle lk_L_76 (by decide) ho rfl (by decide) (by decide) (Nat.le_of_ble_eq_true rfl) dL_uncle_7 rfl rfl rfl (by decide) lt_13 lx_c1 (fun a => ?_) (fun s qe => ?_)
  · show dn_D G M 6 3 18 (cm_H G M 3 ci_iht) 10 _ [.int a.1, .int 0, .ref (wd_b G + 601)] a.2 τ _
    refine dn_i2l C dL_uncle_10 rfl ?_
    refine dn_last C sh_601 hG2 dL_uncle_11 rfl (fun u2 => ?_)
    refine dn_goto (t := 19) C dL_uncle_12 (by decide) ?_
    refine dn_iconst C dL_uncle_19 ic_i_0 rfl ?_
    exact dn_iretH C dL_uncle_20 rfl (by decide) (by decide)
  · refine dn_astore (lv0 := [(0, .ref (wd_b G + o)), (1, .int p1), (2, .int p2), (3, .int p3), (4, .ref (wd_b G + 601))]) C dL_uncle_15 (by decide) rfl rfl ?_
    refine dn_iconst C dL_uncle_17 ic_i_1 rfl ?_
    exact dn_iretH C dL_uncle_18 rfl (by decide) (by decide)
theorem mw_L_uncle : mw_ok yL_uncle cL_uncle 6 (some .int) [(0, 12, 15, 13)] 5 := ⟨gw_in (gt_6 (List.mem_of_getElem? (i := 89) rfl)) rfl, gw_in (gt_1 (List.mem_of_getElem? (i := 0) rfl)) rfl, by decide +kernel, by decide⟩
theorem msw_L_uncle : Cond.static yL_uncle ∈ gw_tbl := gw_in (gt_6 (List.mem_of_getElem? (i := 88) rfl)) rfl
def fn_L_boat (o : Nat) (p1 : Int32) (p2 : Int32) (p3 : Int32) (p4 : Int32) (σ : hp_I) (τ : hp_L) : Option (Int32 × hp_I × hp_L) :=
  px_c1 (fn_X_boat o p1 p2 p3 p4 σ) (fun s => some ((1 : Int32), s, τ)) (fun a => Option.bind (px_lst τ 601 (0 : Int32) a.1) fun u2 => some ((0 : Int32), a.2, u2))
set_option maxRecDepth 100000 in
theorem okw_L_boat {G : wd_G} {l : Launch} (hN : gd_ok G) (hG2 : 601 < G.2.1) (htr : l.stackTraces = false) (o : Nat) (ho : sh_kd o = 11) (p1 : Int32) (p2 : Int32) (p3 : Int32) (p4 : Int32) (σ : hp_I) (τ : hp_L) : cl_W G l 8 4 yL_boat cL_boat 7 (some .int) [(0, 13, 16, 13)] [.ref (wd_b G + o), .int p1, .int p2, .int p3, .int p4, .ref (wd_b G + 601)] σ τ ci_iht (fn_L_boat o p1 p2 p3 p4 σ τ) := by
  refine cl_ofH (lv0 := [(0, .ref (wd_b G + o)), (1, .int p1), (2, .int p2), (3, .int p3), (4, .int p4), (5, .ref (wd_b G + 601))]) ci_iht (by decide) (Nat.le_of_ble_eq_true rfl) rfl hN htr (fun M X C => ?_)
  have C : cx_C G M RL cL_boat 7 8 (some .int) := C
  unfold fn_L_boat
  refine dn_aload C dL_boat_0 5 rfl rfl ?_
  refine dn_iconst C dL_boat_2 ic_i_0 rfl ?_
  refine dn_aload_n C dL_boat_3 rfl 0 rfl rfl ?_
  refine dn_iload_n C dL_boat_4 rfl 1 rfl rfl ?_
  refine dn_iload_n C dL_boat_5 rfl 2 rfl rfl ?_
  refine dn_iload_n C dL_boat_6 rfl 3 rfl rfl ?_
  refine dn_iload C dL_boat_7 4 rfl rfl ?_
  refine dn_catch1 (As := [.int p1, .int p2, .int p3, .int p4]) (st := [.int (0 : Int32), .ref (wd_b G + 601)]) C X (okx_X_boat (cx_g C) X.2.2 o ho p1 p2 p3 p4 σ τ) mt_X11_boat mv_X11_boat lk_L_80 (by decide) ho rfl (by decide) (by decide) (Nat.le_of_ble_eq_true rfl) dL_boat_9 rfl rfl rfl (by decide) lt_13 lx_c1 (fun a => ?_) (fun s qe => ?_)
  · show dn_D G M 7 4 24 (cm_H G M 4 ci_iht) 12 _ [.long a.1, .int 0, .ref (wd_b G + 601)] a.2 τ _
    refine dn_last C sh_601 hG2 dL_boat_12 rfl (fun u2 => ?_)
    refine dn_goto (t := 20) C dL_boat_13 (by decide) ?_
    refine dn_iconst C dL_boat_20 ic_i_0 rfl ?_
    exact dn_iretH C dL_boat_21 rfl (by decide) (by decide)
  · refine dn_astore (lv0 := [(0, .ref (wd_b G + o)), (1, .int p1), (2, .int p2), (3, .int p3), (4, .int p4), (5, .ref (wd_b G + 601))]) C dL_boat_16 (by decide) rfl rfl ?_
    refine dn_iconst C dL_boat_18 ic_i_1 rfl ?_
    exact dn_iretH C dL_boat_19 rfl (by decide) (by decide)
theorem mw_L_boat : mw_ok yL_boat cL_boat 7 (some .int) [(0, 13, 16, 13)] 6 := ⟨gw_in (gt_6 (List.mem_of_getElem? (i := 102) rfl)) rfl, gw_in (gt_1 (List.mem_of_getElem? (i := 0) rfl)) rfl, by decide +kernel, by decide⟩
theorem msw_L_boat : Cond.static yL_boat ∈ gw_tbl := gw_in (gt_6 (List.mem_of_getElem? (i := 101) rfl)) rfl
def fn_L_crumbs (o : Nat) (p1 : Int32) (p2 : Int32) (p3 : Int32) (σ : hp_I) (τ : hp_L) : Option (Int32 × hp_I × hp_L) :=
  px_c2 (fn_X_crumbs o p1 p2 p3 σ) (fun s => some ((1 : Int32), s, τ)) (fun s => some ((2 : Int32), s, τ)) (fun a => Option.bind (px_lst τ 601 (0 : Int32) a.1.toInt64) fun u2 => some ((0 : Int32), a.2, u2))
set_option maxRecDepth 100000 in
theorem okw_L_crumbs {G : wd_G} {l : Launch} (hN : gd_ok G) (hG2 : 601 < G.2.1) (htr : l.stackTraces = false) (o : Nat) (ho : sh_kd o = 11) (p1 : Int32) (p2 : Int32) (p3 : Int32) (σ : hp_I) (τ : hp_L) : cl_W G l 8 3 yL_crumbs cL_crumbs 6 (some .int) [(0, 12, 15, 31), (0, 12, 19, 13)] [.ref (wd_b G + o), .int p1, .int p2, .int p3, .ref (wd_b G + 601)] σ τ ci_iht (fn_L_crumbs o p1 p2 p3 σ τ) := by
  refine cl_ofH (lv0 := [(0, .ref (wd_b G + o)), (1, .int p1), (2, .int p2), (3, .int p3), (4, .ref (wd_b G + 601))]) ci_iht (by decide) (Nat.le_of_ble_eq_true rfl) rfl hN htr (fun M X C => ?_)
  have C : cx_C G M RL cL_crumbs 6 8 (some .int) := C
  unfold fn_L_crumbs
  refine dn_aload C dL_crumbs_0 4 rfl rfl ?_
  refine dn_iconst C dL_crumbs_2 ic_i_0 rfl ?_
  refine dn_aload_n C dL_crumbs_3 rfl 0 rfl rfl ?_
  refine dn_iload_n C dL_crumbs_4 rfl 1 rfl rfl ?_
  refine dn_iload_n C dL_crumbs_5 rfl 2 rfl rfl ?_
  refine dn_iload_n C dL_crumbs_6 rfl 3 rfl rfl ?_
  refine dn_catch2 (As := [.int p1, .int p2, .int p3]) (st := [.int (0 : Int32), .ref (wd_b G + 601)]) C X (okx_X_crumbs (cx_g C) X.2.2 o ho p1 p2 p3 σ τ) mt_X11_crumbs mv_X11_crumbs lk_L_84 (by decide) ho rfl (by decide) (by decide) (Nat.le_of_ble_eq_true rfl) dL_crumbs_7 rfl rfl rfl (by decide) (by decide) lt_31 lt_13 lx_c0 lx_c1 (lx_no (cx_g C) (cx_s C)) (fun a => ?_) (fun s qe => ?_) (fun s qe => ?_)
  · show dn_D G M 6 3 18 (cm_H G M 3 ci_iht) 10 _ [.int a.1, .int 0, .ref (wd_b G + 601)] a.2 τ _
    refine dn_i2l C dL_crumbs_10 rfl ?_
    refine dn_last C sh_601 hG2 dL_crumbs_11 rfl (fun u2 => ?_)
    refine dn_goto (t := 23) C dL_crumbs_12 (by decide) ?_
    refine dn_iconst C dL_crumbs_23 ic_i_0 rfl ?_
    exact dn_iretH C dL_crumbs_24 rfl (by decide) (by decide)
  · refine dn_astore (lv0 := [(0, .ref (wd_b G + o)), (1, .int p1), (2, .int p2), (3, .int p3), (4, .ref (wd_b G + 601))]) C dL_crumbs_15 (by decide) rfl rfl ?_
    refine dn_iconst C dL_crumbs_17 ic_i_1 rfl ?_
    exact dn_iretH C dL_crumbs_18 rfl (by decide) (by decide)
  · refine dn_astore (lv0 := [(0, .ref (wd_b G + o)), (1, .int p1), (2, .int p2), (3, .int p3), (4, .ref (wd_b G + 601))]) C dL_crumbs_19 (by decide) rfl rfl ?_
    refine dn_iconst C dL_crumbs_21 ic_i_2 rfl ?_
    exact dn_iretH C dL_crumbs_22 rfl (by decide) (by decide)
theorem mw_L_crumbs : mw_ok yL_crumbs cL_crumbs 6 (some .int) [(0, 12, 15, 31), (0, 12, 19, 13)] 5 := ⟨gw_in (gt_6 (List.mem_of_getElem? (i := 115) rfl)) rfl, gw_in (gt_1 (List.mem_of_getElem? (i := 0) rfl)) rfl, by decide +kernel, by decide⟩
theorem msw_L_crumbs : Cond.static yL_crumbs ∈ gw_tbl := gw_in (gt_6 (List.mem_of_getElem? (i := 114) rfl)) rfl
def fn_L_greatest (o : Nat) (p1 : Int32) (σ : hp_I) (τ : hp_L) : Option (Int32 × hp_I × hp_L) :=
  px_c1 (fn_X_greatest o p1 σ) (fun s => some ((1 : Int32), s, τ)) (fun a => Option.bind (px_lst τ 601 (0 : Int32) a.1.toInt64) fun u2 => some ((0 : Int32), a.2, u2))
set_option maxRecDepth 100000 in
theorem okw_L_greatest {G : wd_G} {l : Launch} (hN : gd_ok G) (hG2 : 601 < G.2.1) (htr : l.stackTraces = false) (o : Nat) (ho : sh_kd o = 11) (p1 : Int32) (σ : hp_I) (τ : hp_L) : cl_W G l 8 1 yL_greatest cL_greatest 4 (some .int) [(0, 9, 12, 13)] [.ref (wd_b G + o), .int p1, .ref (wd_b G + 601)] σ τ ci_iht (fn_L_greatest o p1 σ τ) := by
  refine cl_ofH (lv0 := [(0, .ref (wd_b G + o)), (1, .int p1), (2, .ref (wd_b G + 601))]) ci_iht (by decide) (Nat.le_of_ble_eq_true rfl) rfl hN htr (fun M X C => ?_)
  have C : cx_C G M RL cL_greatest 4 8 (some .int) := C
  unfold fn_L_greatest
  refine dn_aload_n C dL_greatest_0 rfl 2 rfl rfl ?_
  refine dn_iconst C dL_greatest_1 ic_i_0 rfl ?_
  refine dn_aload_n C dL_greatest_2 rfl 0 rfl rfl ?_
  refine dn_iload_n C dL_greatest_3 rfl 1 rfl rfl ?_
  refine dn_catch1 (As := [.int p1]) (st := [.int (0 : Int32), .ref (wd_b G + 601)]) C X (okx_X_greatest (cx_g C) X.2.2 o ho p1 σ τ) mt_X11_greatest mv_X11_greatest lk_L_87 (by decide) ho rfl (by decide) (by decide) (Nat.le_of_ble_eq_true rfl) dL_greatest_4 rfl rfl rfl (by decide) lt_13 lx_c1 (fun a => ?_) (fun s qe => ?_)
  · show dn_D G M 4 1 6 (cm_H G M 1 ci_iht) 7 _ [.int a.1, .int 0, .ref (wd_b G + 601)] a.2 τ _
    refine dn_i2l C dL_greatest_7 rfl ?_
    refine dn_last C sh_601 hG2 dL_greatest_8 rfl (fun u2 => ?_)
    refine dn_goto (t := 15) C dL_greatest_9 (by decide) ?_
    refine dn_iconst C dL_greatest_15 ic_i_0 rfl ?_
    exact dn_iretH C dL_greatest_16 rfl (by decide) (by decide)
  · refine dn_astore_n (lv0 := [(0, .ref (wd_b G + o)), (1, .int p1), (2, .ref (wd_b G + 601))]) C dL_greatest_12 rfl (by decide) rfl rfl ?_
    refine dn_iconst C dL_greatest_13 ic_i_1 rfl ?_
    exact dn_iretH C dL_greatest_14 rfl (by decide) (by decide)
theorem mw_L_greatest : mw_ok yL_greatest cL_greatest 4 (some .int) [(0, 9, 12, 13)] 3 := ⟨gw_in (gt_6 (List.mem_of_getElem? (i := 126) rfl)) rfl, gw_in (gt_1 (List.mem_of_getElem? (i := 0) rfl)) rfl, by decide +kernel, by decide⟩
theorem msw_L_greatest : Cond.static yL_greatest ∈ gw_tbl := gw_in (gt_6 (List.mem_of_getElem? (i := 125) rfl)) rfl
def fn_L_proudest (o : Nat) (p1 : Int32) (σ : hp_I) (τ : hp_L) : Option (Int32 × hp_I × hp_L) :=
  px_c1 (fn_X_proudest o p1 σ) (fun s => some ((1 : Int32), s, τ)) (fun a => Option.bind (px_lst τ 601 (0 : Int32) a.1.toInt64) fun u2 => some ((0 : Int32), a.2, u2))
set_option maxRecDepth 100000 in
theorem okw_L_proudest {G : wd_G} {l : Launch} (hN : gd_ok G) (hG2 : 601 < G.2.1) (htr : l.stackTraces = false) (o : Nat) (ho : sh_kd o = 11) (p1 : Int32) (σ : hp_I) (τ : hp_L) : cl_W G l 8 1 yL_proudest cL_proudest 4 (some .int) [(0, 9, 12, 13)] [.ref (wd_b G + o), .int p1, .ref (wd_b G + 601)] σ τ ci_iht (fn_L_proudest o p1 σ τ) := by
  refine cl_ofH (lv0 := [(0, .ref (wd_b G + o)), (1, .int p1), (2, .ref (wd_b G + 601))]) ci_iht (by decide) (Nat.le_of_ble_eq_true rfl) rfl hN htr (fun M X C => ?_)
  have C : cx_C G M RL cL_proudest 4 8 (some .int) := C
  unfold fn_L_proudest
  refine dn_aload_n C dL_proudest_0 rfl 2 rfl rfl ?_
  refine dn_iconst C dL_proudest_1 ic_i_0 rfl ?_
  refine dn_aload_n C dL_proudest_2 rfl 0 rfl rfl ?_
  refine dn_iload_n C dL_proudest_3 rfl 1 rfl rfl ?_
  refine dn_catch1 (As := [.int p1]) (st := [.int (0 : Int32), .ref (wd_b G + 601)]) C X (okx_X_proudest (cx_g C) X.2.2 o ho p1 σ τ) mt_X11_proudest mv_X11_proudest lk_L_90 (by decide) ho rfl (by decide) (by decide) (Nat.le_of_ble_eq_true rfl) dL_proudest_4 rfl rfl rfl (by decide) lt_13 lx_c1 (fun a => ?_) (fun s qe => ?_)
  · show dn_D G M 4 1 6 (cm_H G M 1 ci_iht) 7 _ [.int a.1, .int 0, .ref (wd_b G + 601)] a.2 τ _
    refine dn_i2l C dL_proudest_7 rfl ?_
    refine dn_last C sh_601 hG2 dL_proudest_8 rfl (fun u2 => ?_)
    refine dn_goto (t := 15) C dL_proudest_9 (by decide) ?_
    refine dn_iconst C dL_proudest_15 ic_i_0 rfl ?_
    exact dn_iretH C dL_proudest_16 rfl (by decide) (by decide)
  · refine dn_astore_n (lv0 := [(0, .ref (wd_b G + o)), (1, .int p1), (2, .ref (wd_b G + 601))]) C dL_proudest_12 rfl (by decide) rfl rfl ?_
    refine dn_iconst C dL_proudest_13 ic_i_1 rfl ?_
    exact dn_iretH C dL_proudest_14 rfl (by decide) (by decide)
theorem mw_L_proudest : mw_ok yL_proudest cL_proudest 4 (some .int) [(0, 9, 12, 13)] 3 := ⟨gw_in (gt_6 (List.mem_of_getElem? (i := 134) rfl)) rfl, gw_in (gt_1 (List.mem_of_getElem? (i := 0) rfl)) rfl, by decide +kernel, by decide⟩
theorem msw_L_proudest : Cond.static yL_proudest ∈ gw_tbl := gw_in (gt_6 (List.mem_of_getElem? (i := 133) rfl)) rfl
def fn_L_havens (o : Nat) (p1 : Int32) (σ : hp_I) (τ : hp_L) : Option (Int32 × hp_I × hp_L) :=
  px_c1 (fn_X_havens o p1 σ) (fun s => some ((1 : Int32), s, τ)) (fun a => Option.bind (px_lst τ 601 (0 : Int32) a.1.toInt64) fun u2 => some ((0 : Int32), a.2, u2))
set_option maxRecDepth 100000 in
theorem okw_L_havens {G : wd_G} {l : Launch} (hN : gd_ok G) (hG2 : 601 < G.2.1) (htr : l.stackTraces = false) (o : Nat) (ho : sh_kd o = 11) (p1 : Int32) (σ : hp_I) (τ : hp_L) : cl_W G l 8 1 yL_havens cL_havens 4 (some .int) [(0, 9, 12, 13)] [.ref (wd_b G + o), .int p1, .ref (wd_b G + 601)] σ τ ci_iht (fn_L_havens o p1 σ τ) := by
  refine cl_ofH (lv0 := [(0, .ref (wd_b G + o)), (1, .int p1), (2, .ref (wd_b G + 601))]) ci_iht (by decide) (Nat.le_of_ble_eq_true rfl) rfl hN htr (fun M X C => ?_)
  have C : cx_C G M RL cL_havens 4 8 (some .int) := C
  unfold fn_L_havens
  refine dn_aload_n C dL_havens_0 rfl 2 rfl rfl ?_
  refine dn_iconst C dL_havens_1 ic_i_0 rfl ?_
  refine dn_aload_n C dL_havens_2 rfl 0 rfl rfl ?_
  refine dn_iload_n C dL_havens_3 rfl 1 rfl rfl ?_
  refine dn_catch1 (As := [.int p1]) (st := [.int (0 : Int32), .ref (wd_b G + 601)]) C X (okx_X_havens (cx_g C) X.2.2 o ho p1 σ τ) mt_X11_havens mv_X11_havens lk_L_93 (by decide) ho rfl (by decide) (by decide) (Nat.le_of_ble_eq_true rfl) dL_havens_4 rfl rfl rfl (by decide) lt_13 lx_c1 (fun a => ?_) (fun s qe => ?_)
  · show dn_D G M 4 1 6 (cm_H G M 1 ci_iht) 7 _ [.int a.1, .int 0, .ref (wd_b G + 601)] a.2 τ _
    refine dn_i2l C dL_havens_7 rfl ?_
    refine dn_last C sh_601 hG2 dL_havens_8 rfl (fun u2 => ?_)
    refine dn_goto (t := 15) C dL_havens_9 (by decide) ?_
    refine dn_iconst C dL_havens_15 ic_i_0 rfl ?_
    exact dn_iretH C dL_havens_16 rfl (by decide) (by decide)
  · refine dn_astore_n (lv0 := [(0, .ref (wd_b G + o)), (1, .int p1), (2, .ref (wd_b G + 601))]) C dL_havens_12 rfl (by decide) rfl rfl ?_
    refine dn_iconst C dL_havens_13 ic_i_1 rfl ?_
    exact dn_iretH C dL_havens_14 rfl (by decide) (by decide)
theorem mw_L_havens : mw_ok yL_havens cL_havens 4 (some .int) [(0, 9, 12, 13)] 3 := ⟨gw_in (gt_6 (List.mem_of_getElem? (i := 146) rfl)) rfl, gw_in (gt_1 (List.mem_of_getElem? (i := 0) rfl)) rfl, by decide +kernel, by decide⟩
theorem msw_L_havens : Cond.static yL_havens ∈ gw_tbl := gw_in (gt_6 (List.mem_of_getElem? (i := 145) rfl)) rfl
def fn_L_crowd (o : Nat) (p1 : Int32) (σ : hp_I) (τ : hp_L) : Option (Int32 × hp_I × hp_L) :=
  px_c1 (fn_X_crowd o p1 σ) (fun s => some ((1 : Int32), s, τ)) (fun a => Option.bind (px_lst τ 601 (0 : Int32) a.1.toInt64) fun u2 => some ((0 : Int32), a.2, u2))
set_option maxRecDepth 100000 in
theorem okw_L_crowd {G : wd_G} {l : Launch} (hN : gd_ok G) (hG2 : 601 < G.2.1) (htr : l.stackTraces = false) (o : Nat) (ho : sh_kd o = 11) (p1 : Int32) (σ : hp_I) (τ : hp_L) : cl_W G l 8 1 yL_crowd cL_crowd 4 (some .int) [(0, 9, 12, 13)] [.ref (wd_b G + o), .int p1, .ref (wd_b G + 601)] σ τ ci_iht (fn_L_crowd o p1 σ τ) := by
  refine cl_ofH (lv0 := [(0, .ref (wd_b G + o)), (1, .int p1), (2, .ref (wd_b G + 601))]) ci_iht (by decide) (Nat.le_of_ble_eq_true rfl) rfl hN htr (fun M X C => ?_)
  have C : cx_C G M RL cL_crowd 4 8 (some .int) := C
  unfold fn_L_crowd
  refine dn_aload_n C dL_crowd_0 rfl 2 rfl rfl ?_
  refine dn_iconst C dL_crowd_1 ic_i_0 rfl ?_
  refine dn_aload_n C dL_crowd_2 rfl 0 rfl rfl ?_
  refine dn_iload_n C dL_crowd_3 rfl 1 rfl rfl ?_
  refine dn_catch1 (As := [.int p1]) (st := [.int (0 : Int32), .ref (wd_b G + 601)]) C X (okx_X_crowd (cx_g C) X.2.2 o ho p1 σ τ) mt_X11_crowd mv_X11_crowd lk_L_96 (by decide) ho rfl (by decide) (by decide) (Nat.le_of_ble_eq_true rfl) dL_crowd_4 rfl rfl rfl (by decide) lt_13 lx_c1 (fun a => ?_) (fun s qe => ?_)
  · show dn_D G M 4 1 6 (cm_H G M 1 ci_iht) 7 _ [.int a.1, .int 0, .ref (wd_b G + 601)] a.2 τ _
    refine dn_i2l C dL_crowd_7 rfl ?_
    refine dn_last C sh_601 hG2 dL_crowd_8 rfl (fun u2 => ?_)
    refine dn_goto (t := 15) C dL_crowd_9 (by decide) ?_
    refine dn_iconst C dL_crowd_15 ic_i_0 rfl ?_
    exact dn_iretH C dL_crowd_16 rfl (by decide) (by decide)
  · refine dn_astore_n (lv0 := [(0, .ref (wd_b G + o)), (1, .int p1), (2, .ref (wd_b G + 601))]) C dL_crowd_12 rfl (by decide) rfl rfl ?_
    refine dn_iconst C dL_crowd_13 ic_i_1 rfl ?_
    exact dn_iretH C dL_crowd_14 rfl (by decide) (by decide)
theorem mw_L_crowd : mw_ok yL_crowd cL_crowd 4 (some .int) [(0, 9, 12, 13)] 3 := ⟨gw_in (gt_6 (List.mem_of_getElem? (i := 157) rfl)) rfl, gw_in (gt_1 (List.mem_of_getElem? (i := 0) rfl)) rfl, by decide +kernel, by decide⟩
theorem msw_L_crowd : Cond.static yL_crowd ∈ gw_tbl := gw_in (gt_6 (List.mem_of_getElem? (i := 156) rfl)) rfl
def fn_L_grown (o : Nat) (p1 : Int32) (p2 : Int32) (σ : hp_I) (τ : hp_L) : Option (Int32 × hp_I × hp_L) :=
  px_c2 (fn_X_grown o p1 p2 σ) (fun s => some ((1 : Int32), s, τ)) (fun s => some ((2 : Int32), s, τ)) (fun a => Option.bind (px_lst τ 601 (0 : Int32) a.1.toInt64) fun u2 => some ((0 : Int32), a.2, u2))
set_option maxRecDepth 100000 in
theorem okw_L_grown {G : wd_G} {l : Launch} (hN : gd_ok G) (hG2 : 601 < G.2.1) (htr : l.stackTraces = false) (o : Nat) (ho : sh_kd o = 11) (p1 : Int32) (p2 : Int32) (σ : hp_I) (τ : hp_L) : cl_W G l 8 2 yL_grown cL_grown 5 (some .int) [(0, 10, 13, 31), (0, 10, 17, 13)] [.ref (wd_b G + o), .int p1, .int p2, .ref (wd_b G + 601)] σ τ ci_iht (fn_L_grown o p1 p2 σ τ) := by
  refine cl_ofH (lv0 := [(0, .ref (wd_b G + o)), (1, .int p1), (2, .int p2), (3, .ref (wd_b G + 601))]) ci_iht (by decide) (Nat.le_of_ble_eq_true rfl) rfl hN htr (fun M X C => ?_)
  have C : cx_C G M RL cL_grown 5 8 (some .int) := C
  unfold fn_L_grown
  refine dn_aload_n C dL_grown_0 rfl 3 rfl rfl ?_
  refine dn_iconst C dL_grown_1 ic_i_0 rfl ?_
  refine dn_aload_n C dL_grown_2 rfl 0 rfl rfl ?_
  refine dn_iload_n C dL_grown_3 rfl 1 rfl rfl ?_
  refine dn_iload_n C dL_grown_4 rfl 2 rfl rfl ?_
  refine dn_catch2 (As := [.int p1, .int p2]) (st := [.int (0 : Int32), .ref (wd_b G + 601)]) C X (okx_X_grown (cx_g C) X.2.2 o ho p1 p2 σ τ) mt_X11_grown mv_X11_grown lk_L_99 (by decide) ho rfl (by decide) (by decide) (Nat.le_of_ble_eq_true rfl) dL_grown_5 rfl rfl rfl (by decide) (by decide) lt_31 lt_13 lx_c0 lx_c1 (lx_no (cx_g C) (cx_s C)) (fun a => ?_) (fun s qe => ?_) (fun s qe => ?_)
  · show dn_D G M 5 2 12 (cm_H G M 2 ci_iht) 8 _ [.int a.1, .int 0, .ref (wd_b G + 601)] a.2 τ _
    refine dn_i2l C dL_grown_8 rfl ?_
    refine dn_last C sh_601 hG2 dL_grown_9 rfl (fun u2 => ?_)
    refine dn_goto (t := 21) C dL_grown_10 (by decide) ?_
    refine dn_iconst C dL_grown_21 ic_i_0 rfl ?_
    exact dn_iretH C dL_grown_22 rfl (by decide) (by decide)
  · refine dn_astore (lv0 := [(0, .ref (wd_b G + o)), (1, .int p1), (2, .int p2), (3, .ref (wd_b G + 601))]) C dL_grown_13 (by decide) rfl rfl ?_
    refine dn_iconst C dL_grown_15 ic_i_1 rfl ?_
    exact dn_iretH C dL_grown_16 rfl (by decide) (by decide)
  · refine dn_astore (lv0 := [(0, .ref (wd_b G + o)), (1, .int p1), (2, .int p2), (3, .ref (wd_b G + 601))]) C dL_grown_17 (by decide) rfl rfl ?_
    refine dn_iconst C dL_grown_19 ic_i_2 rfl ?_
    exact dn_iretH C dL_grown_20 rfl (by decide) (by decide)
theorem mw_L_grown : mw_ok yL_grown cL_grown 5 (some .int) [(0, 10, 13, 31), (0, 10, 17, 13)] 4 := ⟨gw_in (gt_6 (List.mem_of_getElem? (i := 164) rfl)) rfl, gw_in (gt_1 (List.mem_of_getElem? (i := 0) rfl)) rfl, by decide +kernel, by decide⟩
theorem msw_L_grown : Cond.static yL_grown ∈ gw_tbl := gw_in (gt_6 (List.mem_of_getElem? (i := 163) rfl)) rfl
def fn_L_escapes (o : Nat) (p1 : Int32) (σ : hp_I) (τ : hp_L) : Option (Int32 × hp_I × hp_L) :=
  px_c0 (fn_X_escapes o p1 σ) (fun s => some ((1 : Int32), s, τ)) (fun a => Option.bind (px_lst τ 601 (0 : Int32) a.1.toInt64) fun u2 => some ((0 : Int32), a.2, u2))
set_option maxRecDepth 100000 in
theorem okw_L_escapes {G : wd_G} {l : Launch} (hN : gd_ok G) (hG2 : 601 < G.2.1) (htr : l.stackTraces = false) (o : Nat) (ho : sh_kd o = 11) (p1 : Int32) (σ : hp_I) (τ : hp_L) : cl_W G l 8 1 yL_escapes cL_escapes 4 (some .int) [(0, 9, 12, 31)] [.ref (wd_b G + o), .int p1, .ref (wd_b G + 601)] σ τ ci_iht (fn_L_escapes o p1 σ τ) := by
  refine cl_ofH (lv0 := [(0, .ref (wd_b G + o)), (1, .int p1), (2, .ref (wd_b G + 601))]) ci_iht (by decide) (Nat.le_of_ble_eq_true rfl) rfl hN htr (fun M X C => ?_)
  have C : cx_C G M RL cL_escapes 4 8 (some .int) := C
  unfold fn_L_escapes
  refine dn_aload_n C dL_escapes_0 rfl 2 rfl rfl ?_
  refine dn_iconst C dL_escapes_1 ic_i_0 rfl ?_
  refine dn_aload_n C dL_escapes_2 rfl 0 rfl rfl ?_
  refine dn_iload_n C dL_escapes_3 rfl 1 rfl rfl ?_
  refine dn_catch0 (As := [.int p1]) (st := [.int (0 : Int32), .ref (wd_b G + 601)]) C X (okx_X_escapes (cx_g C) X.2.2 o ho p1 σ τ) mt_X11_escapes mv_X11_escapes lk_L_102 (by decide) ho rfl (by decide) (by decide) (Nat.le_of_ble_eq_true rfl) dL_escapes_4 rfl rfl rfl (by decide) lt_31 lx_c0 (fun a => ?_) (fun s qe => ?_)
  · show dn_D G M 4 1 6 (cm_H G M 1 ci_iht) 7 _ [.int a.1, .int 0, .ref (wd_b G + 601)] a.2 τ _
    refine dn_i2l C dL_escapes_7 rfl ?_
    refine dn_last C sh_601 hG2 dL_escapes_8 rfl (fun u2 => ?_)
    refine dn_goto (t := 15) C dL_escapes_9 (by decide) ?_
    refine dn_iconst C dL_escapes_15 ic_i_0 rfl ?_
    exact dn_iretH C dL_escapes_16 rfl (by decide) (by decide)
  · refine dn_astore_n (lv0 := [(0, .ref (wd_b G + o)), (1, .int p1), (2, .ref (wd_b G + 601))]) C dL_escapes_12 rfl (by decide) rfl rfl ?_
    refine dn_iconst C dL_escapes_13 ic_i_1 rfl ?_
    exact dn_iretH C dL_escapes_14 rfl (by decide) (by decide)
theorem mw_L_escapes : mw_ok yL_escapes cL_escapes 4 (some .int) [(0, 9, 12, 31)] 3 := ⟨gw_in (gt_6 (List.mem_of_getElem? (i := 171) rfl)) rfl, gw_in (gt_1 (List.mem_of_getElem? (i := 0) rfl)) rfl, by decide +kernel, by decide⟩
theorem msw_L_escapes : Cond.static yL_escapes ∈ gw_tbl := gw_in (gt_6 (List.mem_of_getElem? (i := 170) rfl)) rfl
def fn_L_weight (o : Nat) (p1 : Int32) (σ : hp_I) (τ : hp_L) : Option (Int32 × hp_I × hp_L) :=
  px_c0 (fn_X_weight o p1 σ) (fun s => some ((1 : Int32), s, τ)) (fun a => Option.bind (px_lst τ 601 (0 : Int32) a.1.toInt64) fun u2 => some ((0 : Int32), a.2, u2))
set_option maxRecDepth 100000 in
theorem okw_L_weight {G : wd_G} {l : Launch} (hN : gd_ok G) (hG2 : 601 < G.2.1) (htr : l.stackTraces = false) (o : Nat) (ho : sh_kd o = 11) (p1 : Int32) (σ : hp_I) (τ : hp_L) : cl_W G l 8 1 yL_weight cL_weight 4 (some .int) [(0, 9, 12, 31)] [.ref (wd_b G + o), .int p1, .ref (wd_b G + 601)] σ τ ci_iht (fn_L_weight o p1 σ τ) := by
  refine cl_ofH (lv0 := [(0, .ref (wd_b G + o)), (1, .int p1), (2, .ref (wd_b G + 601))]) ci_iht (by decide) (Nat.le_of_ble_eq_true rfl) rfl hN htr (fun M X C => ?_)
  have C : cx_C G M RL cL_weight 4 8 (some .int) := C
  unfold fn_L_weight
  refine dn_aload_n C dL_weight_0 rfl 2 rfl rfl ?_
  refine dn_iconst C dL_weight_1 ic_i_0 rfl ?_
  refine dn_aload_n C dL_weight_2 rfl 0 rfl rfl ?_
  refine dn_iload_n C dL_weight_3 rfl 1 rfl rfl ?_
  refine dn_catch0 (As := [.int p1]) (st := [.int (0 : Int32), .ref (wd_b G + 601)]) C X (okx_X_weight (cx_g C) X.2.2 o ho p1 σ τ) mt_X11_weight mv_X11_weight lk_L_105 (by decide) ho rfl (by decide) (by decide) (Nat.le_of_ble_eq_true rfl) dL_weight_4 rfl rfl rfl (by decide) lt_31 lx_c0 (fun a => ?_) (fun s qe => ?_)
  · show dn_D G M 4 1 6 (cm_H G M 1 ci_iht) 7 _ [.int a.1, .int 0, .ref (wd_b G + 601)] a.2 τ _
    refine dn_i2l C dL_weight_7 rfl ?_
    refine dn_last C sh_601 hG2 dL_weight_8 rfl (fun u2 => ?_)
    refine dn_goto (t := 15) C dL_weight_9 (by decide) ?_
    refine dn_iconst C dL_weight_15 ic_i_0 rfl ?_
    exact dn_iretH C dL_weight_16 rfl (by decide) (by decide)
  · refine dn_astore_n (lv0 := [(0, .ref (wd_b G + o)), (1, .int p1), (2, .ref (wd_b G + 601))]) C dL_weight_12 rfl (by decide) rfl rfl ?_
    refine dn_iconst C dL_weight_13 ic_i_1 rfl ?_
    exact dn_iretH C dL_weight_14 rfl (by decide) (by decide)
theorem mw_L_weight : mw_ok yL_weight cL_weight 4 (some .int) [(0, 9, 12, 31)] 3 := ⟨gw_in (gt_6 (List.mem_of_getElem? (i := 178) rfl)) rfl, gw_in (gt_1 (List.mem_of_getElem? (i := 0) rfl)) rfl, by decide +kernel, by decide⟩
theorem msw_L_weight : Cond.static yL_weight ∈ gw_tbl := gw_in (gt_6 (List.mem_of_getElem? (i := 177) rfl)) rfl
def fn_L_season (o : Nat) (p1 : Int32) (p2 : Int32) (p3 : Int32) (p4 : Int32) (σ : hp_I) (τ : hp_L) : Option (Int32 × hp_I × hp_L) :=
  px_c1 (fn_X_season o p1 p2 p3 p4 σ) (fun s => some ((1 : Int32), s, τ)) (fun a => Option.bind (px_lst τ 601 (0 : Int32) a.1.toInt64) fun u2 => some ((0 : Int32), a.2, u2))
set_option maxRecDepth 100000 in
theorem okw_L_season {G : wd_G} {l : Launch} (hN : gd_ok G) (hG2 : 601 < G.2.1) (htr : l.stackTraces = false) (o : Nat) (ho : sh_kd o = 11) (p1 : Int32) (p2 : Int32) (p3 : Int32) (p4 : Int32) (σ : hp_I) (τ : hp_L) : cl_W G l 8 3 yL_season cL_season 7 (some .int) [(0, 14, 17, 13)] [.ref (wd_b G + o), .int p1, .int p2, .int p3, .int p4, .ref (wd_b G + 601)] σ τ ci_iht (fn_L_season o p1 p2 p3 p4 σ τ) := by
  refine cl_ofH (lv0 := [(0, .ref (wd_b G + o)), (1, .int p1), (2, .int p2), (3, .int p3), (4, .int p4), (5, .ref (wd_b G + 601))]) ci_iht (by decide) (Nat.le_of_ble_eq_true rfl) rfl hN htr (fun M X C => ?_)
  have C : cx_C G M RL cL_season 7 8 (some .int) := C
  unfold fn_L_season
  refine dn_aload C dL_season_0 5 rfl rfl ?_
  refine dn_iconst C dL_season_2 ic_i_0 rfl ?_
  refine dn_aload_n C dL_season_3 rfl 0 rfl rfl ?_
  refine dn_iload_n C dL_season_4 rfl 1 rfl rfl ?_
  refine dn_iload_n C dL_season_5 rfl 2 rfl rfl ?_
  refine dn_iload_n C dL_season_6 rfl 3 rfl rfl ?_
  refine dn_iload C dL_season_7 4 rfl rfl ?_
  refine dn_catch1 (As := [.int p1, .int p2, .int p3, .int p4]) (st := [.int (0 : Int32), .ref (wd_b G + 601)]) C X (okx_X_season (cx_g C) X.2.2 o ho p1 p2 p3 p4 σ τ) mt_X11_season mv_X11_season lk_L_108 (by decide) ho rfl (by decide) (by decide) (Nat.le_of_ble_eq_true rfl) dL_season_9 rfl rfl rfl (by decide) lt_13 lx_c1 (fun a => ?_) (fun s qe => ?_)
  · show dn_D G M 7 3 18 (cm_H G M 3 ci_iht) 12 _ [.int a.1, .int 0, .ref (wd_b G + 601)] a.2 τ _
    refine dn_i2l C dL_season_12 rfl ?_
    refine dn_last C sh_601 hG2 dL_season_13 rfl (fun u2 => ?_)
    refine dn_goto (t := 21) C dL_season_14 (by decide) ?_
    refine dn_iconst C dL_season_21 ic_i_0 rfl ?_
    exact dn_iretH C dL_season_22 rfl (by decide) (by decide)
  · refine dn_astore (lv0 := [(0, .ref (wd_b G + o)), (1, .int p1), (2, .int p2), (3, .int p3), (4, .int p4), (5, .ref (wd_b G + 601))]) C dL_season_17 (by decide) rfl rfl ?_
    refine dn_iconst C dL_season_19 ic_i_1 rfl ?_
    exact dn_iretH C dL_season_20 rfl (by decide) (by decide)
theorem mw_L_season : mw_ok yL_season cL_season 7 (some .int) [(0, 14, 17, 13)] 6 := ⟨gw_in (gt_6 (List.mem_of_getElem? (i := 185) rfl)) rfl, gw_in (gt_1 (List.mem_of_getElem? (i := 0) rfl)) rfl, by decide +kernel, by decide⟩
theorem msw_L_season : Cond.static yL_season ∈ gw_tbl := gw_in (gt_6 (List.mem_of_getElem? (i := 184) rfl)) rfl
def fn_L_span (o : Nat) (p1 : Int32) (p2 : Int32) (p3 : Int32) (p4 : Int32) (p5 : Int32) (p6 : Int32) (σ : hp_I) (τ : hp_L) : Option (Int32 × hp_I × hp_L) :=
  px_c1 (fn_X_span o p1 p2 p3 p4 p5 p6 σ) (fun s => some ((1 : Int32), s, τ)) (fun a => Option.bind (px_lst τ 601 (0 : Int32) a.1.toInt64) fun u2 => some ((0 : Int32), a.2, u2))
set_option maxRecDepth 100000 in
theorem okw_L_span {G : wd_G} {l : Launch} (hN : gd_ok G) (hG2 : 601 < G.2.1) (htr : l.stackTraces = false) (o : Nat) (ho : sh_kd o = 11) (p1 : Int32) (p2 : Int32) (p3 : Int32) (p4 : Int32) (p5 : Int32) (p6 : Int32) (σ : hp_I) (τ : hp_L) : cl_W G l 8 5 yL_span cL_span 9 (some .int) [(0, 18, 21, 13)] [.ref (wd_b G + o), .int p1, .int p2, .int p3, .int p4, .int p5, .int p6, .ref (wd_b G + 601)] σ τ ci_iht (fn_L_span o p1 p2 p3 p4 p5 p6 σ τ) := by
  refine cl_ofH (lv0 := [(0, .ref (wd_b G + o)), (1, .int p1), (2, .int p2), (3, .int p3), (4, .int p4), (5, .int p5), (6, .int p6), (7, .ref (wd_b G + 601))]) ci_iht (by decide) (Nat.le_of_ble_eq_true rfl) rfl hN htr (fun M X C => ?_)
  have C : cx_C G M RL cL_span 9 8 (some .int) := C
  unfold fn_L_span
  refine dn_aload C dL_span_0 7 rfl rfl ?_
  refine dn_iconst C dL_span_2 ic_i_0 rfl ?_
  refine dn_aload_n C dL_span_3 rfl 0 rfl rfl ?_
  refine dn_iload_n C dL_span_4 rfl 1 rfl rfl ?_
  refine dn_iload_n C dL_span_5 rfl 2 rfl rfl ?_
  refine dn_iload_n C dL_span_6 rfl 3 rfl rfl ?_
  refine dn_iload C dL_span_7 4 rfl rfl ?_
  refine dn_iload C dL_span_9 5 rfl rfl ?_
  refine dn_iload C dL_span_11 6 rfl rfl ?_
  refine dn_catch1 (As := [.int p1, .int p2, .int p3, .int p4, .int p5, .int p6]) (st := [.int (0 : Int32), .ref (wd_b G + 601)]) C X (okx_X_span (cx_g C) X.2.2 o ho p1 p2 p3 p4 p5 p6 σ τ) mt_X11_span mv_X11_span lk_L_112 (by decide) ho rfl (by decide) (by decide) (Nat.le_of_ble_eq_true rfl) dL_span_13 rfl rfl rfl (by decide) lt_13 lx_c1 (fun a => ?_) (fun s qe => ?_)
  · show dn_D G M 9 5 30 (cm_H G M 5 ci_iht) 16 _ [.int a.1, .int 0, .ref (wd_b G + 601)] a.2 τ _
    refine dn_i2l C dL_span_16 rfl ?_
    refine dn_last C sh_601 hG2 dL_span_17 rfl (fun u2 => ?_)
    refine dn_goto (t := 25) C dL_span_18 (by decide) ?_
    refine dn_iconst C dL_span_25 ic_i_0 rfl ?_
    exact dn_iretH C dL_span_26 rfl (by decide) (by decide)
  · refine dn_astore (lv0 := [(0, .ref (wd_b G + o)), (1, .int p1), (2, .int p2), (3, .int p3), (4, .int p4), (5, .int p5), (6, .int p6), (7, .ref (wd_b G + 601))]) C dL_span_21 (by decide) rfl rfl ?_
    refine dn_iconst C dL_span_23 ic_i_1 rfl ?_
    exact dn_iretH C dL_span_24 rfl (by decide) (by decide)
theorem mw_L_span : mw_ok yL_span cL_span 9 (some .int) [(0, 18, 21, 13)] 8 := ⟨gw_in (gt_6 (List.mem_of_getElem? (i := 204) rfl)) rfl, gw_in (gt_1 (List.mem_of_getElem? (i := 0) rfl)) rfl, by decide +kernel, by decide⟩
theorem msw_L_span : Cond.static yL_span ∈ gw_tbl := gw_in (gt_6 (List.mem_of_getElem? (i := 203) rfl)) rfl
