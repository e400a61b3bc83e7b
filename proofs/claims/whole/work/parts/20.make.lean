theorem kn_getP {G : wd_G} {M : wd_M} {own : String} {cc : ByteArray} {nL n cells slots : Nat} {ret : Option FieldType} {Q : State → Prop} {pc q : Nat} {lv : List (Nat × Value)} {st : List Value} {pre rest : List kd_D} {d : kd_D} {idx ci j len r K : Nat} {fs : List (Option (Nat ⊕ Int32))} {t : Bool} (hK : pre.length = K) (C : cx_C G M own cc nL n ret) (hf : fd_ok own idx ci j t) (hv : fs[j]? = some (some (.inl r))) (hd : decode cc pc = .ok (.getfield idx, 3)) (hq : pc + 3 = q) (k : kn_D G M nL cells slots Q q lv (.ref (wd_b G + r) :: st) ((pre ++ (ci, len, fs) :: rest) ++ [d])) : kn_D G M nL cells slots Q pc lv (.ref (wd_b G + K) :: st) ((pre ++ (ci, len, fs) :: rest) ++ [d]) := by
  rw [kz_app] at k ⊢
  exact kn_getZ hK C hf hv hd hq k
def kl_N (G : wd_G) (M : wd_M) (u z : Nat) (Qc : Array Value → State → Outcome → State → Prop) : State → Prop := MQ (mx_B M) Qc (mx_A M) (mx_S M) u z (wd_A G)
theorem kl_ofM {G : wd_G} {l : Launch} {n u z ml : Nat} {y : MethodName} {cy : ByteArray} {avs : List Value} {ks : List kd_D} {Qc : Array Value → State → Outcome → State → Prop} {lv0 : List (Nat × Value)} (hy : plainName y.cls = true) (hy2 : y.name = "<init>") (hlen : (lg_sl avs).length ≤ ml) (hlv : lv_args 0 avs = lv0) (hN : gd_ok G)
    (body : ∀ M : wd_M, kx_X M n u z → mx_L M = l → cx_C G M y.cls cy ml n none → kn_D G M ml 0 0 (kl_N G M u z Qc) 0 lv0 [] ks) : Met l y (Cond.code y cy ml none :: gw_tbl) (kr_R n u z) (va_Pc avs (kl_P G ks)) Qc u z (wd_A G) := by
  refine Met.ofW (cc := cy) (maxL := ml) (ret := none) hy rfl ?_
  intro p e s m args below meth c s₁ B hml hv
  obtain ⟨rfl, hP, hz, hK, hS0⟩ := hv
  have hts := atoms_spec (ws := Cond.code y cy ml none :: gw_tbl) B.pre
  have hown : s.vm.findClass y.cls = some m.cls := findClass_of_methodNamed B.named
  have hin : meth.name = "<init>" := (name_of_methodNamed B.named B.method).1.trans hy2
  have hl := lv_entry avs (n := ml) hlen
  rw [lg_entry_eq]
  rw [hlv] at hl
  exact body (p, l, e, kr_R n u z, s, m, avs.toArray, below, meth, c) ⟨rfl, hin⟩ rfl ⟨B.exec, B.bytes, hml, hown, fun w hw => hts w (List.mem_cons_of_mem _ hw), hK, hS0, hN, Nat.le_refl _, Nat.le_refl _, B.returns, B.notSynchronized⟩ s.heap [] _ hP hz va_S.rf hl
theorem kn_vretM {G : wd_G} {M : wd_M} {own : String} {cc : ByteArray} {nL n u z cells slots pc : Nat} {lv : List (Nat × Value)} {σ : hp_I} {τ : hp_L} (C : cx_C G M own cc nL n none) (hd : decode cc pc = .ok (.return_, 1)) (hc : cells ≤ u) (hs : slots ≤ z) : dn_D G M nL cells slots (fun s => kl_N G M u z (cl_Q G none s τ)) pc lv [] σ τ (some σ) := by
  intro r hr H locs ls hP hS hl
  cases hr
  unfold kl_N
  exact W.widen hc hs (W.vret (cx_x C) (cx_b C) (cx_r C) (fun t ht hW => ⟨rfl, by rw [ht]; exact hP, hS.F ht⟩) hS.2.2 hd (cx_u C))
theorem ka_int : Cond.arrayClass (newarray.typeOf .int) ∈ gw_tbl := gw_in (gt_1 (List.mem_of_getElem? (i := 62) rfl)) rfl
theorem ka_long : Cond.arrayClass (newarray.typeOf .long) ∈ gw_tbl := gw_in (gt_7 (List.mem_of_getElem? (i := 129) rfl)) rfl
theorem ka_boolean : Cond.arrayClass (newarray.typeOf .boolean) ∈ gw_tbl := gw_in (gt_7 (List.mem_of_getElem? (i := 128) rfl)) rfl
theorem ka_over : Cond.arrayOver (.array .int) ∈ lw_tbl := gt_6 (List.mem_of_getElem? (i := 217) rfl)
theorem ko_all : ko_ok := ⟨gw_in (gt_1 (List.mem_of_getElem? (i := 32) rfl)) rfl, gw_in (gt_1 (List.mem_of_getElem? (i := 33) rfl)) rfl⟩
theorem ki_X0_init : ki_ok yX0_init cX0_init 1 0 := ⟨⟨gw_in (gt_1 (List.mem_of_getElem? (i := 173) rfl)) rfl, gw_in (gt_1 (List.mem_of_getElem? (i := 5) rfl)) rfl, by decide +kernel, by decide⟩, rfl, gw_in (gt_1 (List.mem_of_getElem? (i := 172) rfl)) rfl⟩
theorem ki_X1_init : ki_ok yX1_init cX1_init 2 1 := ⟨⟨gw_in (gt_2 (List.mem_of_getElem? (i := 58) rfl)) rfl, gw_in (gt_1 (List.mem_of_getElem? (i := 10) rfl)) rfl, by decide +kernel, by decide⟩, rfl, gw_in (gt_2 (List.mem_of_getElem? (i := 57) rfl)) rfl⟩
theorem ki_X2_init : ki_ok yX2_init cX2_init 2 1 := ⟨⟨gw_in (gt_2 (List.mem_of_getElem? (i := 86) rfl)) rfl, gw_in (gt_1 (List.mem_of_getElem? (i := 11) rfl)) rfl, by decide +kernel, by decide⟩, rfl, gw_in (gt_2 (List.mem_of_getElem? (i := 85) rfl)) rfl⟩
theorem ki_X3_init : ki_ok yX3_init cX3_init 1 0 := ⟨⟨gw_in (gt_1 (List.mem_of_getElem? (i := 67) rfl)) rfl, gw_in (gt_1 (List.mem_of_getElem? (i := 3) rfl)) rfl, by decide +kernel, by decide⟩, rfl, gw_in (gt_1 (List.mem_of_getElem? (i := 66) rfl)) rfl⟩
theorem ki_X4_init : ki_ok yX4_init cX4_init 1 0 := ⟨⟨gw_in (gt_1 (List.mem_of_getElem? (i := 148) rfl)) rfl, gw_in (gt_1 (List.mem_of_getElem? (i := 4) rfl)) rfl, by decide +kernel, by decide⟩, rfl, gw_in (gt_1 (List.mem_of_getElem? (i := 147) rfl)) rfl⟩
theorem ki_X5_init : ki_ok yX5_init cX5_init 1 0 := ⟨⟨gw_in (gt_2 (List.mem_of_getElem? (i := 0) rfl)) rfl, gw_in (gt_1 (List.mem_of_getElem? (i := 8) rfl)) rfl, by decide +kernel, by decide⟩, rfl, gw_in (gt_1 (List.mem_of_getElem? (i := 239) rfl)) rfl⟩
theorem ki_X6_init : ki_ok yX6_init cX6_init 2 1 := ⟨⟨gw_in (gt_2 (List.mem_of_getElem? (i := 107) rfl)) rfl, gw_in (gt_1 (List.mem_of_getElem? (i := 12) rfl)) rfl, by decide +kernel, by decide⟩, rfl, gw_in (gt_2 (List.mem_of_getElem? (i := 106) rfl)) rfl⟩
theorem ki_X7_init : ki_ok yX7_init cX7_init 3 2 := ⟨⟨gw_in (gt_2 (List.mem_of_getElem? (i := 24) rfl)) rfl, gw_in (gt_1 (List.mem_of_getElem? (i := 9) rfl)) rfl, by decide +kernel, by decide⟩, rfl, gw_in (gt_2 (List.mem_of_getElem? (i := 23) rfl)) rfl⟩
theorem ki_X8_init : ki_ok yX8_init cX8_init 3 2 := ⟨⟨gw_in (gt_1 (List.mem_of_getElem? (i := 219) rfl)) rfl, gw_in (gt_1 (List.mem_of_getElem? (i := 7) rfl)) rfl, by decide +kernel, by decide⟩, rfl, gw_in (gt_1 (List.mem_of_getElem? (i := 218) rfl)) rfl⟩
theorem ki_X9_init : ki_ok yX9_init cX9_init 1 0 := ⟨⟨gw_in (gt_1 (List.mem_of_getElem? (i := 186) rfl)) rfl, gw_in (gt_1 (List.mem_of_getElem? (i := 6) rfl)) rfl, by decide +kernel, by decide⟩, rfl, gw_in (gt_1 (List.mem_of_getElem? (i := 185) rfl)) rfl⟩
theorem ki_X10_init : ki_ok yX10_init cX10_init 1 0 := ⟨⟨gw_in (gt_1 (List.mem_of_getElem? (i := 38) rfl)) rfl, gw_in (gt_1 (List.mem_of_getElem? (i := 2) rfl)) rfl, by decide +kernel, by decide⟩, rfl, gw_in (gt_1 (List.mem_of_getElem? (i := 37) rfl)) rfl⟩
theorem ki_X11_init : ki_ok yX11_init cX11_init 1 0 := ⟨⟨gw_in (gt_1 (List.mem_of_getElem? (i := 30) rfl)) rfl, gw_in (gt_1 (List.mem_of_getElem? (i := 1) rfl)) rfl, by decide +kernel, by decide⟩, rfl, gw_in (gt_1 (List.mem_of_getElem? (i := 29) rfl)) rfl⟩
theorem ki_X12_init : ki_ok yX12_init cX12_init 1 0 := ⟨⟨gw_in (gt_6 (List.mem_of_getElem? (i := 214) rfl)) rfl, gw_in (gt_1 (List.mem_of_getElem? (i := 13) rfl)) rfl, by decide +kernel, by decide⟩, rfl, gw_in (gt_6 (List.mem_of_getElem? (i := 213) rfl)) rfl⟩
theorem kol_X0_3 : Cond.methodLink RX0 3 Lib.objectInit ∈ gw_tbl := gw_in (gt_1 (List.mem_of_getElem? (i := 174) rfl)) rfl
def kg_X0_init (K : Nat)  : List (Option (Nat ⊕ Int32)) := [some (.inr 0), some (.inr 0)]
def kh_X0_init (_K : Nat) : List kd_D := []
theorem ct_X0_init {G : wd_G} {l : Launch} (hN : gd_ok G)  : kz_C G l 1 0 0 yX0_init cX0_init 1 0 [] [some (.inr 0), some (.inr 0)] (fun K => kg_X0_init K ) kh_X0_init := by
  intro pre K hK
  refine kl_of (lv0 := [(0, .ref (wd_b G + K))]) (by decide) rfl (Nat.le_of_ble_eq_true rfl) rfl hN (fun M X _ C => ?_)
  have C : cx_C G M RX0 cX0_init 1 1 none := C
  obtain ⟨r0, er0⟩ : ∃ r0 : List kd_D, r0 = [] := ⟨_, rfl⟩
  rw [← er0]
  have hL0 : pre.length + (r0.length + 1) = K + 1 := by rw [er0, hK]; rfl
  refine kn_aload_n C dX0_init_0 rfl 0 rfl rfl ?_
  refine kn_obj C ko_all kol_X0_3 (by decide) dX0_init_1 (Nat.le_of_ble_eq_true rfl) rfl ?_
  subst er0
  exact kn_vret C dX0_init_4 (by decide) (by decide)
theorem kol_X1_3 : Cond.methodLink RX1 3 Lib.objectInit ∈ gw_tbl := gw_in (gt_2 (List.mem_of_getElem? (i := 59) rfl)) rfl
theorem kf_X1_11 : kf_ok RX1 11 1 1 (.array .int) := ⟨_, tyX1, rfl, fw_1, by decide, gw_in (gt_2 (List.mem_of_getElem? (i := 61) rfl)) rfl, rfl, by decide, tyX1_ok, nmX1, rfl, by decide +kernel⟩
theorem kf_X1_15 : kf_ok RX1 15 1 2 (.array .int) := ⟨_, tyX1, rfl, fw_1, by decide, gw_in (gt_2 (List.mem_of_getElem? (i := 62) rfl)) rfl, rfl, by decide, tyX1_ok, nmX1, rfl, by decide +kernel⟩
theorem kf_X1_18 : kf_ok RX1 18 1 3 (.array .int) := ⟨_, tyX1, rfl, fw_1, by decide, gw_in (gt_2 (List.mem_of_getElem? (i := 63) rfl)) rfl, rfl, by decide, tyX1_ok, nmX1, rfl, by decide +kernel⟩
theorem kf_X1_21 : kf_ok RX1 21 1 0 (.object "IdeaMousers$House") := ⟨_, tyX1, rfl, fw_1, by decide, gw_in (gt_2 (List.mem_of_getElem? (i := 60) rfl)) rfl, rfl, by decide, tyX1_ok, nmX1, rfl, by decide +kernel⟩
def kg_X1_init (K : Nat) (a1 : Nat) : List (Option (Nat ⊕ Int32)) := [some (.inl a1), some (.inl (K + 1)), some (.inl (K + 2)), some (.inl (K + 3)), some (.inr 0), some (.inr 0)]
def kh_X1_init (_K : Nat) : List kd_D := [(13, 1536, []), (13, 40, []), (13, 5, [])]
theorem ct_X1_init {G : wd_G} {l : Launch} (hN : gd_ok G) (a1 : Nat) : kz_C G l 1 3 1581 yX1_init cX1_init 2 1 [.ref (wd_b G + a1)] [none, none, none, none, some (.inr 0), some (.inr 0)] (fun K => kg_X1_init K a1) kh_X1_init := by
  intro pre K hK
  refine kl_of (lv0 := [(0, .ref (wd_b G + K)), (1, .ref (wd_b G + a1))]) (by decide) rfl (Nat.le_of_ble_eq_true rfl) rfl hN (fun M X _ C => ?_)
  have C : cx_C G M RX1 cX1_init 2 1 none := C
  obtain ⟨r0, er0⟩ : ∃ r0 : List kd_D, r0 = [] := ⟨_, rfl⟩
  rw [← er0]
  have hL0 : pre.length + (r0.length + 1) = K + 1 := by rw [er0, hK]; rfl
  refine kn_aload_n C dX1_init_0 rfl 0 rfl rfl ?_
  refine kn_obj C ko_all kol_X1_3 (by decide) dX1_init_1 (Nat.le_of_ble_eq_true rfl) rfl ?_
  refine kn_aload_n C dX1_init_4 rfl 0 rfl rfl ?_
  refine kn_sipush C dX1_init_5 ic_s_1536 rfl ?_
  refine kn_newaZ (kd := 13) (len := 1536) hL0 C ka_int (Or.inl rfl) (by decide) (by decide) (by decide) (by rw [X.1]; exact Nat.le_of_ble_eq_true rfl) (by rw [X.1]; exact Nat.le_of_ble_eq_true rfl) dX1_init_8 rfl (fun r1 e1 hL1 => ?_)
  refine kn_putZ (v := some (.inl (K + 1))) hK C X.2 kf_X1_11 (Nat.le_of_ble_eq_true rfl) rfl rfl rfl dX1_init_10 rfl ?_
  refine kn_aload_n C dX1_init_13 rfl 0 rfl rfl ?_
  refine kn_bipush C dX1_init_14 ic_b_40 rfl ?_
  refine kn_newaZ (kd := 13) (len := 40) hL1 C ka_int (Or.inl rfl) (by decide) (by decide) (by decide) (by rw [X.1]; exact Nat.le_of_ble_eq_true rfl) (by rw [X.1]; exact Nat.le_of_ble_eq_true rfl) dX1_init_16 rfl (fun r2 e2 hL2 => ?_)
  refine kn_putZ (v := some (.inl (K + 2))) hK C X.2 kf_X1_15 (Nat.le_of_ble_eq_true rfl) rfl rfl rfl dX1_init_18 rfl ?_
  refine kn_aload_n C dX1_init_21 rfl 0 rfl rfl ?_
  refine kn_iconst C dX1_init_22 ic_i_5 rfl ?_
  refine kn_newaZ (kd := 13) (len := 5) hL2 C ka_int (Or.inl rfl) (by decide) (by decide) (by decide) (by rw [X.1]; exact Nat.le_of_ble_eq_true rfl) (by rw [X.1]; exact Nat.le_of_ble_eq_true rfl) dX1_init_23 rfl (fun r3 e3 hL3 => ?_)
  refine kn_putZ (v := some (.inl (K + 3))) hK C X.2 kf_X1_18 (Nat.le_of_ble_eq_true rfl) rfl rfl rfl dX1_init_25 rfl ?_
  refine kn_aload_n C dX1_init_28 rfl 0 rfl rfl ?_
  refine kn_aload_n C dX1_init_29 rfl 1 rfl rfl ?_
  refine kn_putZ (v := some (.inl a1)) hK C X.2 kf_X1_21 (Nat.le_of_ble_eq_true rfl) rfl rfl rfl dX1_init_30 rfl ?_
  subst e3
  subst e2
  subst e1
  subst er0
  exact kn_vret C dX1_init_33 (by decide) (by decide)
theorem kol_X2_3 : Cond.methodLink RX2 3 Lib.objectInit ∈ gw_tbl := gw_in (gt_2 (List.mem_of_getElem? (i := 87) rfl)) rfl
theorem kf_X2_9 : kf_ok RX2 9 2 1 (.array .int) := ⟨_, tyX2, rfl, fw_2, by decide, gw_in (gt_2 (List.mem_of_getElem? (i := 89) rfl)) rfl, rfl, by decide, tyX2_ok, nmX2, rfl, by decide +kernel⟩
theorem kf_X2_15 : kf_ok RX2 15 2 0 (.object "IdeaMousers$House") := ⟨_, tyX2, rfl, fw_2, by decide, gw_in (gt_2 (List.mem_of_getElem? (i := 88) rfl)) rfl, rfl, by decide, tyX2_ok, nmX2, rfl, by decide +kernel⟩
def kg_X2_init (K : Nat) (a1 : Nat) : List (Option (Nat ⊕ Int32)) := [some (.inl a1), some (.inl (K + 1)), some (.inr 0), some (.inr 0)]
def kh_X2_init (_K : Nat) : List kd_D := [(13, 5, [])]
theorem ct_X2_init {G : wd_G} {l : Launch} (hN : gd_ok G) (a1 : Nat) : kz_C G l 1 1 5 yX2_init cX2_init 2 2 [.ref (wd_b G + a1)] [none, none, some (.inr 0), some (.inr 0)] (fun K => kg_X2_init K a1) kh_X2_init := by
  intro pre K hK
  refine kl_of (lv0 := [(0, .ref (wd_b G + K)), (1, .ref (wd_b G + a1))]) (by decide) rfl (Nat.le_of_ble_eq_true rfl) rfl hN (fun M X _ C => ?_)
  have C : cx_C G M RX2 cX2_init 2 1 none := C
  obtain ⟨r0, er0⟩ : ∃ r0 : List kd_D, r0 = [] := ⟨_, rfl⟩
  rw [← er0]
  have hL0 : pre.length + (r0.length + 1) = K + 1 := by rw [er0, hK]; rfl
  refine kn_aload_n C dX2_init_0 rfl 0 rfl rfl ?_
  refine kn_obj C ko_all kol_X2_3 (by decide) dX2_init_1 (Nat.le_of_ble_eq_true rfl) rfl ?_
  refine kn_aload_n C dX2_init_4 rfl 0 rfl rfl ?_
  refine kn_iconst C dX2_init_5 ic_i_5 rfl ?_
  refine kn_newaZ (kd := 13) (len := 5) hL0 C ka_int (Or.inl rfl) (by decide) (by decide) (by decide) (by rw [X.1]; exact Nat.le_of_ble_eq_true rfl) (by rw [X.1]; exact Nat.le_of_ble_eq_true rfl) dX2_init_6 rfl (fun r1 e1 hL1 => ?_)
  refine kn_putZ (v := some (.inl (K + 1))) hK C X.2 kf_X2_9 (Nat.le_of_ble_eq_true rfl) rfl rfl rfl dX2_init_8 rfl ?_
  refine kn_aload_n C dX2_init_11 rfl 0 rfl rfl ?_
  refine kn_aload_n C dX2_init_12 rfl 1 rfl rfl ?_
  refine kn_putZ (v := some (.inl a1)) hK C X.2 kf_X2_15 (Nat.le_of_ble_eq_true rfl) rfl rfl rfl dX2_init_13 rfl ?_
  subst e1
  subst er0
  exact kn_vret C dX2_init_16 (by decide) (by decide)
theorem kol_X3_3 : Cond.methodLink RX3 3 Lib.objectInit ∈ gw_tbl := gw_in (gt_1 (List.mem_of_getElem? (i := 68) rfl)) rfl
theorem kf_X3_9 : kf_ok RX3 9 3 4 (.array .int) := ⟨_, tyX3, rfl, fw_3, by decide, gw_in (gt_1 (List.mem_of_getElem? (i := 95) rfl)) rfl, rfl, by decide, tyX3_ok, nmX3, rfl, by decide +kernel⟩
theorem kf_X3_15 : kf_ok RX3 15 3 5 (.array .int) := ⟨_, tyX3, rfl, fw_3, by decide, gw_in (gt_1 (List.mem_of_getElem? (i := 99) rfl)) rfl, rfl, by decide, tyX3_ok, nmX3, rfl, by decide +kernel⟩
theorem kf_X3_18 : kf_ok RX3 18 3 6 (.array .int) := ⟨_, tyX3, rfl, fw_3, by decide, gw_in (gt_1 (List.mem_of_getElem? (i := 102) rfl)) rfl, rfl, by decide, tyX3_ok, nmX3, rfl, by decide +kernel⟩
theorem kf_X3_21 : kf_ok RX3 21 3 7 (.array .int) := ⟨_, tyX3, rfl, fw_3, by decide, gw_in (gt_1 (List.mem_of_getElem? (i := 105) rfl)) rfl, rfl, by decide, tyX3_ok, nmX3, rfl, by decide +kernel⟩
theorem kf_X3_24 : kf_ok RX3 24 3 8 (.array .int) := ⟨_, tyX3, rfl, fw_3, by decide, gw_in (gt_1 (List.mem_of_getElem? (i := 107) rfl)) rfl, rfl, by decide, tyX3_ok, nmX3, rfl, by decide +kernel⟩
theorem kf_X3_27 : kf_ok RX3 27 3 9 (.array .int) := ⟨_, tyX3, rfl, fw_3, by decide, gw_in (gt_1 (List.mem_of_getElem? (i := 109) rfl)) rfl, rfl, by decide, tyX3_ok, nmX3, rfl, by decide +kernel⟩
theorem kf_X3_30 : kf_ok RX3 30 3 10 (.array .int) := ⟨_, tyX3, rfl, fw_3, by decide, gw_in (gt_1 (List.mem_of_getElem? (i := 113) rfl)) rfl, rfl, by decide, tyX3_ok, nmX3, rfl, by decide +kernel⟩
theorem kf_X3_33 : kf_ok RX3 33 3 11 (.array .int) := ⟨_, tyX3, rfl, fw_3, by decide, gw_in (gt_1 (List.mem_of_getElem? (i := 115) rfl)) rfl, rfl, by decide, tyX3_ok, nmX3, rfl, by decide +kernel⟩
def kg_X3_init (K : Nat)  : List (Option (Nat ⊕ Int32)) := [some (.inr 0), some (.inr 0), some (.inr 0), some (.inr 0), some (.inl (K + 1)), some (.inl (K + 2)), some (.inl (K + 3)), some (.inl (K + 4)), some (.inl (K + 5)), some (.inl (K + 6)), some (.inl (K + 7)), some (.inl (K + 8))]
def kh_X3_init (_K : Nat) : List kd_D := [(13, 8, []), (13, 12, []), (13, 12, []), (13, 8, []), (13, 8, []), (13, 8, []), (13, 5, []), (13, 5, [])]
theorem ct_X3_init {G : wd_G} {l : Launch} (hN : gd_ok G)  : kz_C G l 1 8 66 yX3_init cX3_init 1 3 [] [some (.inr 0), some (.inr 0), some (.inr 0), some (.inr 0), none, none, none, none, none, none, none, none] (fun K => kg_X3_init K ) kh_X3_init := by
  intro pre K hK
  refine kl_of (lv0 := [(0, .ref (wd_b G + K))]) (by decide) rfl (Nat.le_of_ble_eq_true rfl) rfl hN (fun M X _ C => ?_)
  have C : cx_C G M RX3 cX3_init 1 1 none := C
  obtain ⟨r0, er0⟩ : ∃ r0 : List kd_D, r0 = [] := ⟨_, rfl⟩
  rw [← er0]
  have hL0 : pre.length + (r0.length + 1) = K + 1 := by rw [er0, hK]; rfl
  refine kn_aload_n C dX3_init_0 rfl 0 rfl rfl ?_
  refine kn_obj C ko_all kol_X3_3 (by decide) dX3_init_1 (Nat.le_of_ble_eq_true rfl) rfl ?_
  refine kn_aload_n C dX3_init_4 rfl 0 rfl rfl ?_
  refine kn_bipush C dX3_init_5 ic_b_8 rfl ?_
  refine kn_newaZ (kd := 13) (len := 8) hL0 C ka_int (Or.inl rfl) (by decide) (by decide) (by decide) (by rw [X.1]; exact Nat.le_of_ble_eq_true rfl) (by rw [X.1]; exact Nat.le_of_ble_eq_true rfl) dX3_init_7 rfl (fun r1 e1 hL1 => ?_)
  refine kn_putZ (v := some (.inl (K + 1))) hK C X.2 kf_X3_9 (Nat.le_of_ble_eq_true rfl) rfl rfl rfl dX3_init_9 rfl ?_
  refine kn_aload_n C dX3_init_12 rfl 0 rfl rfl ?_
  refine kn_bipush C dX3_init_13 ic_b_12 rfl ?_
  refine kn_newaZ (kd := 13) (len := 12) hL1 C ka_int (Or.inl rfl) (by decide) (by decide) (by decide) (by rw [X.1]; exact Nat.le_of_ble_eq_true rfl) (by rw [X.1]; exact Nat.le_of_ble_eq_true rfl) dX3_init_15 rfl (fun r2 e2 hL2 => ?_)
  refine kn_putZ (v := some (.inl (K + 2))) hK C X.2 kf_X3_15 (Nat.le_of_ble_eq_true rfl) rfl rfl rfl dX3_init_17 rfl ?_
  refine kn_aload_n C dX3_init_20 rfl 0 rfl rfl ?_
  refine kn_bipush C dX3_init_21 ic_b_12 rfl ?_
  refine kn_newaZ (kd := 13) (len := 12) hL2 C ka_int (Or.inl rfl) (by decide) (by decide) (by decide) (by rw [X.1]; exact Nat.le_of_ble_eq_true rfl) (by rw [X.1]; exact Nat.le_of_ble_eq_true rfl) dX3_init_23 rfl (fun r3 e3 hL3 => ?_)
  refine kn_putZ (v := some (.inl (K + 3))) hK C X.2 kf_X3_18 (Nat.le_of_ble_eq_true rfl) rfl rfl rfl dX3_init_25 rfl ?_
  refine kn_aload_n C dX3_init_28 rfl 0 rfl rfl ?_
  refine kn_bipush C dX3_init_29 ic_b_8 rfl ?_
  refine kn_newaZ (kd := 13) (len := 8) hL3 C ka_int (Or.inl rfl) (by decide) (by decide) (by decide) (by rw [X.1]; exact Nat.le_of_ble_eq_true rfl) (by rw [X.1]; exact Nat.le_of_ble_eq_true rfl) dX3_init_31 rfl (fun r4 e4 hL4 => ?_)
  refine kn_putZ (v := some (.inl (K + 4))) hK C X.2 kf_X3_21 (Nat.le_of_ble_eq_true rfl) rfl rfl rfl dX3_init_33 rfl ?_
  refine kn_aload_n C dX3_init_36 rfl 0 rfl rfl ?_
  refine kn_bipush C dX3_init_37 ic_b_8 rfl ?_
  refine kn_newaZ (kd := 13) (len := 8) hL4 C ka_int (Or.inl rfl) (by decide) (by decide) (by decide) (by rw [X.1]; exact Nat.le_of_ble_eq_true rfl) (by rw [X.1]; exact Nat.le_of_ble_eq_true rfl) dX3_init_39 rfl (fun r5 e5 hL5 => ?_)
  refine kn_putZ (v := some (.inl (K + 5))) hK C X.2 kf_X3_24 (Nat.le_of_ble_eq_true rfl) rfl rfl rfl dX3_init_41 rfl ?_
  refine kn_aload_n C dX3_init_44 rfl 0 rfl rfl ?_
  refine kn_bipush C dX3_init_45 ic_b_8 rfl ?_
  refine kn_newaZ (kd := 13) (len := 8) hL5 C ka_int (Or.inl rfl) (by decide) (by decide) (by decide) (by rw [X.1]; exact Nat.le_of_ble_eq_true rfl) (by rw [X.1]; exact Nat.le_of_ble_eq_true rfl) dX3_init_47 rfl (fun r6 e6 hL6 => ?_)
  refine kn_putZ (v := some (.inl (K + 6))) hK C X.2 kf_X3_27 (Nat.le_of_ble_eq_true rfl) rfl rfl rfl dX3_init_49 rfl ?_
  refine kn_aload_n C dX3_init_52 rfl 0 rfl rfl ?_
  refine kn_iconst C dX3_init_53 ic_i_5 rfl ?_
  refine kn_newaZ (kd := 13) (len := 5) hL6 C ka_int (Or.inl rfl) (by decide) (by decide) (by decide) (by rw [X.1]; exact Nat.le_of_ble_eq_true rfl) (by rw [X.1]; exact Nat.le_of_ble_eq_true rfl) dX3_init_54 rfl (fun r7 e7 hL7 => ?_)
  refine kn_putZ (v := some (.inl (K + 7))) hK C X.2 kf_X3_30 (Nat.le_of_ble_eq_true rfl) rfl rfl rfl dX3_init_56 rfl ?_
  refine kn_aload_n C dX3_init_59 rfl 0 rfl rfl ?_
  refine kn_iconst C dX3_init_60 ic_i_5 rfl ?_
  refine kn_newaZ (kd := 13) (len := 5) hL7 C ka_int (Or.inl rfl) (by decide) (by decide) (by decide) (by rw [X.1]; exact Nat.le_of_ble_eq_true rfl) (by rw [X.1]; exact Nat.le_of_ble_eq_true rfl) dX3_init_61 rfl (fun r8 e8 hL8 => ?_)
  refine kn_putZ (v := some (.inl (K + 8))) hK C X.2 kf_X3_33 (Nat.le_of_ble_eq_true rfl) rfl rfl rfl dX3_init_63 rfl ?_
  subst e8
  subst e7
  subst e6
  subst e5
  subst e4
  subst e3
  subst e2
  subst e1
  subst er0
  exact kn_vret C dX3_init_66 (by decide) (by decide)
theorem kol_X4_3 : Cond.methodLink RX4 3 Lib.objectInit ∈ gw_tbl := gw_in (gt_1 (List.mem_of_getElem? (i := 149) rfl)) rfl
theorem kf_X4_9 : kf_ok RX4 9 4 0 (.array .int) := ⟨_, tyX4, rfl, fw_4, by decide, gw_in (gt_1 (List.mem_of_getElem? (i := 150) rfl)) rfl, rfl, by decide, tyX4_ok, nmX4, rfl, by decide +kernel⟩
theorem kf_X4_15 : kf_ok RX4 15 4 2 (.array .int) := ⟨_, tyX4, rfl, fw_4, by decide, gw_in (gt_1 (List.mem_of_getElem? (i := 152) rfl)) rfl, rfl, by decide, tyX4_ok, nmX4, rfl, by decide +kernel⟩
theorem kf_X4_18 : kf_ok RX4 18 4 4 (.array .int) := ⟨_, tyX4, rfl, fw_4, by decide, gw_in (gt_1 (List.mem_of_getElem? (i := 154) rfl)) rfl, rfl, by decide, tyX4_ok, nmX4, rfl, by decide +kernel⟩
theorem kf_X4_21 : kf_ok RX4 21 4 5 (.array .int) := ⟨_, tyX4, rfl, fw_4, by decide, gw_in (gt_1 (List.mem_of_getElem? (i := 155) rfl)) rfl, rfl, by decide, tyX4_ok, nmX4, rfl, by decide +kernel⟩
def kg_X4_init (K : Nat)  : List (Option (Nat ⊕ Int32)) := [some (.inl (K + 1)), some (.inr 0), some (.inl (K + 2)), some (.inr 0), some (.inl (K + 3)), some (.inl (K + 4))]
def kh_X4_init (_K : Nat) : List kd_D := [(13, 150, []), (13, 150, []), (13, 7, []), (13, 32, [])]
theorem ct_X4_init {G : wd_G} {l : Launch} (hN : gd_ok G)  : kz_C G l 1 4 339 yX4_init cX4_init 1 4 [] [none, some (.inr 0), none, some (.inr 0), none, none] (fun K => kg_X4_init K ) kh_X4_init := by
  intro pre K hK
  refine kl_of (lv0 := [(0, .ref (wd_b G + K))]) (by decide) rfl (Nat.le_of_ble_eq_true rfl) rfl hN (fun M X _ C => ?_)
  have C : cx_C G M RX4 cX4_init 1 1 none := C
  obtain ⟨r0, er0⟩ : ∃ r0 : List kd_D, r0 = [] := ⟨_, rfl⟩
  rw [← er0]
  have hL0 : pre.length + (r0.length + 1) = K + 1 := by rw [er0, hK]; rfl
  refine kn_aload_n C dX4_init_0 rfl 0 rfl rfl ?_
  refine kn_obj C ko_all kol_X4_3 (by decide) dX4_init_1 (Nat.le_of_ble_eq_true rfl) rfl ?_
  refine kn_aload_n C dX4_init_4 rfl 0 rfl rfl ?_
  refine kn_sipush C dX4_init_5 ic_s_150 rfl ?_
  refine kn_newaZ (kd := 13) (len := 150) hL0 C ka_int (Or.inl rfl) (by decide) (by decide) (by decide) (by rw [X.1]; exact Nat.le_of_ble_eq_true rfl) (by rw [X.1]; exact Nat.le_of_ble_eq_true rfl) dX4_init_8 rfl (fun r1 e1 hL1 => ?_)
  refine kn_putZ (v := some (.inl (K + 1))) hK C X.2 kf_X4_9 (Nat.le_of_ble_eq_true rfl) rfl rfl rfl dX4_init_10 rfl ?_
  refine kn_aload_n C dX4_init_13 rfl 0 rfl rfl ?_
  refine kn_sipush C dX4_init_14 ic_s_150 rfl ?_
  refine kn_newaZ (kd := 13) (len := 150) hL1 C ka_int (Or.inl rfl) (by decide) (by decide) (by decide) (by rw [X.1]; exact Nat.le_of_ble_eq_true rfl) (by rw [X.1]; exact Nat.le_of_ble_eq_true rfl) dX4_init_17 rfl (fun r2 e2 hL2 => ?_)
  refine kn_putZ (v := some (.inl (K + 2))) hK C X.2 kf_X4_15 (Nat.le_of_ble_eq_true rfl) rfl rfl rfl dX4_init_19 rfl ?_
  refine kn_aload_n C dX4_init_22 rfl 0 rfl rfl ?_
  refine kn_bipush C dX4_init_23 ic_b_7 rfl ?_
  refine kn_newaZ (kd := 13) (len := 7) hL2 C ka_int (Or.inl rfl) (by decide) (by decide) (by decide) (by rw [X.1]; exact Nat.le_of_ble_eq_true rfl) (by rw [X.1]; exact Nat.le_of_ble_eq_true rfl) dX4_init_25 rfl (fun r3 e3 hL3 => ?_)
  refine kn_putZ (v := some (.inl (K + 3))) hK C X.2 kf_X4_18 (Nat.le_of_ble_eq_true rfl) rfl rfl rfl dX4_init_27 rfl ?_
  refine kn_aload_n C dX4_init_30 rfl 0 rfl rfl ?_
  refine kn_bipush C dX4_init_31 ic_b_32 rfl ?_
  refine kn_newaZ (kd := 13) (len := 32) hL3 C ka_int (Or.inl rfl) (by decide) (by decide) (by decide) (by rw [X.1]; exact Nat.le_of_ble_eq_true rfl) (by rw [X.1]; exact Nat.le_of_ble_eq_true rfl) dX4_init_33 rfl (fun r4 e4 hL4 => ?_)
  refine kn_putZ (v := some (.inl (K + 4))) hK C X.2 kf_X4_21 (Nat.le_of_ble_eq_true rfl) rfl rfl rfl dX4_init_35 rfl ?_
  subst e4
  subst e3
  subst e2
  subst e1
  subst er0
  exact kn_vret C dX4_init_38 (by decide) (by decide)
theorem kol_X5_5 : Cond.methodLink RX5 5 Lib.objectInit ∈ gw_tbl := gw_in (gt_2 (List.mem_of_getElem? (i := 1) rfl)) rfl
theorem kf_X5_11 : kf_ok RX5 11 5 2 (.array .int) := ⟨_, tyX5, rfl, fw_5, by decide, gw_in (gt_2 (List.mem_of_getElem? (i := 6) rfl)) rfl, rfl, by decide, tyX5_ok, nmX5, rfl, by decide +kernel⟩
theorem kf_X5_15 : kf_ok RX5 15 5 3 (.array .int) := ⟨_, tyX5, rfl, fw_5, by decide, gw_in (gt_2 (List.mem_of_getElem? (i := 7) rfl)) rfl, rfl, by decide, tyX5_ok, nmX5, rfl, by decide +kernel⟩
theorem kf_X5_18 : kf_ok RX5 18 5 4 (.array .int) := ⟨_, tyX5, rfl, fw_5, by decide, gw_in (gt_2 (List.mem_of_getElem? (i := 8) rfl)) rfl, rfl, by decide, tyX5_ok, nmX5, rfl, by decide +kernel⟩
def kg_X5_init (K : Nat)  : List (Option (Nat ⊕ Int32)) := [some (.inr 0), some (.inr 0), some (.inl (K + 1)), some (.inl (K + 2)), some (.inl (K + 3))]
def kh_X5_init (_K : Nat) : List kd_D := [(13, 752, []), (13, 2397, []), (13, 3, [])]
theorem ct_X5_init {G : wd_G} {l : Launch} (hN : gd_ok G)  : kz_C G l 1 3 3152 yX5_init cX5_init 1 5 [] [some (.inr 0), some (.inr 0), none, none, none] (fun K => kg_X5_init K ) kh_X5_init := by
  intro pre K hK
  refine kl_of (lv0 := [(0, .ref (wd_b G + K))]) (by decide) rfl (Nat.le_of_ble_eq_true rfl) rfl hN (fun M X _ C => ?_)
  have C : cx_C G M RX5 cX5_init 1 1 none := C
  obtain ⟨r0, er0⟩ : ∃ r0 : List kd_D, r0 = [] := ⟨_, rfl⟩
  rw [← er0]
  have hL0 : pre.length + (r0.length + 1) = K + 1 := by rw [er0, hK]; rfl
  refine kn_aload_n C dX5_init_0 rfl 0 rfl rfl ?_
  refine kn_obj C ko_all kol_X5_5 (by decide) dX5_init_1 (Nat.le_of_ble_eq_true rfl) rfl ?_
  refine kn_aload_n C dX5_init_4 rfl 0 rfl rfl ?_
  refine kn_sipush C dX5_init_5 ic_s_752 rfl ?_
  refine kn_newaZ (kd := 13) (len := 752) hL0 C ka_int (Or.inl rfl) (by decide) (by decide) (by decide) (by rw [X.1]; exact Nat.le_of_ble_eq_true rfl) (by rw [X.1]; exact Nat.le_of_ble_eq_true rfl) dX5_init_8 rfl (fun r1 e1 hL1 => ?_)
  refine kn_putZ (v := some (.inl (K + 1))) hK C X.2 kf_X5_11 (Nat.le_of_ble_eq_true rfl) rfl rfl rfl dX5_init_10 rfl ?_
  refine kn_aload_n C dX5_init_13 rfl 0 rfl rfl ?_
  refine kn_sipush C dX5_init_14 ic_s_2397 rfl ?_
  refine kn_newaZ (kd := 13) (len := 2397) hL1 C ka_int (Or.inl rfl) (by decide) (by decide) (by decide) (by rw [X.1]; exact Nat.le_of_ble_eq_true rfl) (by rw [X.1]; exact Nat.le_of_ble_eq_true rfl) dX5_init_17 rfl (fun r2 e2 hL2 => ?_)
  refine kn_putZ (v := some (.inl (K + 2))) hK C X.2 kf_X5_15 (Nat.le_of_ble_eq_true rfl) rfl rfl rfl dX5_init_19 rfl ?_
  refine kn_aload_n C dX5_init_22 rfl 0 rfl rfl ?_
  refine kn_iconst C dX5_init_23 ic_i_3 rfl ?_
  refine kn_newaZ (kd := 13) (len := 3) hL2 C ka_int (Or.inl rfl) (by decide) (by decide) (by decide) (by rw [X.1]; exact Nat.le_of_ble_eq_true rfl) (by rw [X.1]; exact Nat.le_of_ble_eq_true rfl) dX5_init_24 rfl (fun r3 e3 hL3 => ?_)
  refine kn_putZ (v := some (.inl (K + 3))) hK C X.2 kf_X5_18 (Nat.le_of_ble_eq_true rfl) rfl rfl rfl dX5_init_26 rfl ?_
  subst e3
  subst e2
  subst e1
  subst er0
  exact kn_vret C dX5_init_29 (by decide) (by decide)
theorem kol_X6_3 : Cond.methodLink RX6 3 Lib.objectInit ∈ gw_tbl := gw_in (gt_2 (List.mem_of_getElem? (i := 108) rfl)) rfl
theorem kf_X6_9 : kf_ok RX6 9 6 0 (.object "IdeaMousers$House") := ⟨_, tyX6, rfl, fw_6, by decide, gw_in (gt_2 (List.mem_of_getElem? (i := 109) rfl)) rfl, rfl, by decide, tyX6_ok, nmX6, rfl, by decide +kernel⟩
def kg_X6_init (K : Nat) (a1 : Nat) : List (Option (Nat ⊕ Int32)) := [some (.inl a1), some (.inr 0)]
def kh_X6_init (_K : Nat) : List kd_D := []
theorem ct_X6_init {G : wd_G} {l : Launch} (hN : gd_ok G) (a1 : Nat) : kz_C G l 1 0 0 yX6_init cX6_init 2 6 [.ref (wd_b G + a1)] [none, some (.inr 0)] (fun K => kg_X6_init K a1) kh_X6_init := by
  intro pre K hK
  refine kl_of (lv0 := [(0, .ref (wd_b G + K)), (1, .ref (wd_b G + a1))]) (by decide) rfl (Nat.le_of_ble_eq_true rfl) rfl hN (fun M X _ C => ?_)
  have C : cx_C G M RX6 cX6_init 2 1 none := C
  obtain ⟨r0, er0⟩ : ∃ r0 : List kd_D, r0 = [] := ⟨_, rfl⟩
  rw [← er0]
  have hL0 : pre.length + (r0.length + 1) = K + 1 := by rw [er0, hK]; rfl
  refine kn_aload_n C dX6_init_0 rfl 0 rfl rfl ?_
  refine kn_obj C ko_all kol_X6_3 (by decide) dX6_init_1 (Nat.le_of_ble_eq_true rfl) rfl ?_
  refine kn_aload_n C dX6_init_4 rfl 0 rfl rfl ?_
  refine kn_aload_n C dX6_init_5 rfl 1 rfl rfl ?_
  refine kn_putZ (v := some (.inl a1)) hK C X.2 kf_X6_9 (Nat.le_of_ble_eq_true rfl) rfl rfl rfl dX6_init_6 rfl ?_
  subst er0
  exact kn_vret C dX6_init_9 (by decide) (by decide)
theorem kol_X7_3 : Cond.methodLink RX7 3 Lib.objectInit ∈ gw_tbl := gw_in (gt_2 (List.mem_of_getElem? (i := 25) rfl)) rfl
theorem kf_X7_11 : kf_ok RX7 11 7 2 (.array .int) := ⟨_, tyX7, rfl, fw_7, by decide, gw_in (gt_2 (List.mem_of_getElem? (i := 28) rfl)) rfl, rfl, by decide, tyX7_ok, nmX7, rfl, by decide +kernel⟩
theorem kf_X7_15 : kf_ok RX7 15 7 3 (.array .int) := ⟨_, tyX7, rfl, fw_7, by decide, gw_in (gt_2 (List.mem_of_getElem? (i := 29) rfl)) rfl, rfl, by decide, tyX7_ok, nmX7, rfl, by decide +kernel⟩
theorem kf_X7_18 : kf_ok RX7 18 7 7 .int := ⟨_, tyX7, rfl, fw_7, by decide, gw_in (gt_2 (List.mem_of_getElem? (i := 33) rfl)) rfl, rfl, by decide, tyX7_ok, nmX7, rfl, by decide +kernel⟩
theorem kf_X7_22 : kf_ok RX7 22 7 8 .int := ⟨_, tyX7, rfl, fw_7, by decide, gw_in (gt_2 (List.mem_of_getElem? (i := 34) rfl)) rfl, rfl, by decide, tyX7_ok, nmX7, rfl, by decide +kernel⟩
theorem kf_X7_25 : kf_ok RX7 25 7 0 (.object "IdeaMousers$House") := ⟨_, tyX7, rfl, fw_7, by decide, gw_in (gt_2 (List.mem_of_getElem? (i := 26) rfl)) rfl, rfl, by decide, tyX7_ok, nmX7, rfl, by decide +kernel⟩
theorem kf_X7_29 : kf_ok RX7 29 7 1 (.object "IdeaMousers$Law") := ⟨_, tyX7, rfl, fw_7, by decide, gw_in (gt_2 (List.mem_of_getElem? (i := 27) rfl)) rfl, rfl, by decide, tyX7_ok, nmX7, rfl, by decide +kernel⟩
def kg_X7_init (K : Nat) (a1 : Nat) (a2 : Nat) : List (Option (Nat ⊕ Int32)) := [some (.inl a1), some (.inl a2), some (.inl (K + 1)), some (.inl (K + 2)), some (.inr 0), some (.inr 0), some (.inr 0), some (.inr 32), some (.inr (-1))]
def kh_X7_init (_K : Nat) : List kd_D := [(13, 256, []), (13, 256, [])]
theorem ct_X7_init {G : wd_G} {l : Launch} (hN : gd_ok G) (a1 : Nat) (a2 : Nat) : kz_C G l 1 2 512 yX7_init cX7_init 3 7 [.ref (wd_b G + a1), .ref (wd_b G + a2)] [none, none, none, none, some (.inr 0), some (.inr 0), some (.inr 0), some (.inr 0), some (.inr 0)] (fun K => kg_X7_init K a1 a2) kh_X7_init := by
  intro pre K hK
  refine kl_of (lv0 := [(0, .ref (wd_b G + K)), (1, .ref (wd_b G + a1)), (2, .ref (wd_b G + a2))]) (by decide) rfl (Nat.le_of_ble_eq_true rfl) rfl hN (fun M X _ C => ?_)
  have C : cx_C G M RX7 cX7_init 3 1 none := C
  obtain ⟨r0, er0⟩ : ∃ r0 : List kd_D, r0 = [] := ⟨_, rfl⟩
  rw [← er0]
  have hL0 : pre.length + (r0.length + 1) = K + 1 := by rw [er0, hK]; rfl
  refine kn_aload_n C dX7_init_0 rfl 0 rfl rfl ?_
  refine kn_obj C ko_all kol_X7_3 (by decide) dX7_init_1 (Nat.le_of_ble_eq_true rfl) rfl ?_
  refine kn_aload_n C dX7_init_4 rfl 0 rfl rfl ?_
  refine kn_sipush C dX7_init_5 ic_s_256 rfl ?_
  refine kn_newaZ (kd := 13) (len := 256) hL0 C ka_int (Or.inl rfl) (by decide) (by decide) (by decide) (by rw [X.1]; exact Nat.le_of_ble_eq_true rfl) (by rw [X.1]; exact Nat.le_of_ble_eq_true rfl) dX7_init_8 rfl (fun r1 e1 hL1 => ?_)
  refine kn_putZ (v := some (.inl (K + 1))) hK C X.2 kf_X7_11 (Nat.le_of_ble_eq_true rfl) rfl rfl rfl dX7_init_10 rfl ?_
  refine kn_aload_n C dX7_init_13 rfl 0 rfl rfl ?_
  refine kn_sipush C dX7_init_14 ic_s_256 rfl ?_
  refine kn_newaZ (kd := 13) (len := 256) hL1 C ka_int (Or.inl rfl) (by decide) (by decide) (by decide) (by rw [X.1]; exact Nat.le_of_ble_eq_true rfl) (by rw [X.1]; exact Nat.le_of_ble_eq_true rfl) dX7_init_17 rfl (fun r2 e2 hL2 => ?_)
  refine kn_putZ (v := some (.inl (K + 2))) hK C X.2 kf_X7_15 (Nat.le_of_ble_eq_true rfl) rfl rfl rfl dX7_init_19 rfl ?_
  refine kn_aload_n C dX7_init_22 rfl 0 rfl rfl ?_
  refine kn_bipush C dX7_init_23 ic_b_32 rfl ?_
  refine kn_putZ (v := some (.inr 32)) hK C X.2 kf_X7_18 (Nat.le_of_ble_eq_true rfl) rfl rfl rfl dX7_init_25 rfl ?_
  refine kn_aload_n C dX7_init_28 rfl 0 rfl rfl ?_
  refine kn_iconst C dX7_init_29 ic_i_m1 rfl ?_
  refine kn_putZ (v := some (.inr (-1))) hK C X.2 kf_X7_22 (Nat.le_of_ble_eq_true rfl) rfl rfl rfl dX7_init_30 rfl ?_
  refine kn_aload_n C dX7_init_33 rfl 0 rfl rfl ?_
  refine kn_aload_n C dX7_init_34 rfl 1 rfl rfl ?_
  refine kn_putZ (v := some (.inl a1)) hK C X.2 kf_X7_25 (Nat.le_of_ble_eq_true rfl) rfl rfl rfl dX7_init_35 rfl ?_
  refine kn_aload_n C dX7_init_38 rfl 0 rfl rfl ?_
  refine kn_aload_n C dX7_init_39 rfl 2 rfl rfl ?_
  refine kn_putZ (v := some (.inl a2)) hK C X.2 kf_X7_29 (Nat.le_of_ble_eq_true rfl) rfl rfl rfl dX7_init_40 rfl ?_
  subst e2
  subst e1
  subst er0
  exact kn_vret C dX7_init_43 (by decide) (by decide)
theorem kol_X8_5 : Cond.methodLink RX8 5 Lib.objectInit ∈ gw_tbl := gw_in (gt_1 (List.mem_of_getElem? (i := 220) rfl)) rfl
theorem kf_X8_11 : kf_ok RX8 11 8 2 (.array .int) := ⟨_, tyX8, rfl, fw_8, by decide, gw_in (gt_1 (List.mem_of_getElem? (i := 223) rfl)) rfl, rfl, by decide, tyX8_ok, nmX8, rfl, by decide +kernel⟩
theorem kf_X8_15 : kf_ok RX8 15 8 3 (.array .int) := ⟨_, tyX8, rfl, fw_8, by decide, gw_in (gt_1 (List.mem_of_getElem? (i := 225) rfl)) rfl, rfl, by decide, tyX8_ok, nmX8, rfl, by decide +kernel⟩
theorem kf_X8_18 : kf_ok RX8 18 8 0 (.object "IdeaMousers$House") := ⟨_, tyX8, rfl, fw_8, by decide, gw_in (gt_1 (List.mem_of_getElem? (i := 221) rfl)) rfl, rfl, by decide, tyX8_ok, nmX8, rfl, by decide +kernel⟩
theorem kf_X8_22 : kf_ok RX8 22 8 1 (.object "IdeaMousers$Law") := ⟨_, tyX8, rfl, fw_8, by decide, gw_in (gt_1 (List.mem_of_getElem? (i := 222) rfl)) rfl, rfl, by decide, tyX8_ok, nmX8, rfl, by decide +kernel⟩
def kg_X8_init (K : Nat) (a1 : Nat) (a2 : Nat) : List (Option (Nat ⊕ Int32)) := [some (.inl a1), some (.inl a2), some (.inl (K + 1)), some (.inl (K + 2))]
def kh_X8_init (_K : Nat) : List kd_D := [(13, 47, []), (13, 5, [])]
theorem ct_X8_init {G : wd_G} {l : Launch} (hN : gd_ok G) (a1 : Nat) (a2 : Nat) : kz_C G l 1 2 52 yX8_init cX8_init 3 8 [.ref (wd_b G + a1), .ref (wd_b G + a2)] [none, none, none, none] (fun K => kg_X8_init K a1 a2) kh_X8_init := by
  intro pre K hK
  refine kl_of (lv0 := [(0, .ref (wd_b G + K)), (1, .ref (wd_b G + a1)), (2, .ref (wd_b G + a2))]) (by decide) rfl (Nat.le_of_ble_eq_true rfl) rfl hN (fun M X _ C => ?_)
  have C : cx_C G M RX8 cX8_init 3 1 none := C
  obtain ⟨r0, er0⟩ : ∃ r0 : List kd_D, r0 = [] := ⟨_, rfl⟩
  rw [← er0]
  have hL0 : pre.length + (r0.length + 1) = K + 1 := by rw [er0, hK]; rfl
  refine kn_aload_n C dX8_init_0 rfl 0 rfl rfl ?_
  refine kn_obj C ko_all kol_X8_5 (by decide) dX8_init_1 (Nat.le_of_ble_eq_true rfl) rfl ?_
  refine kn_aload_n C dX8_init_4 rfl 0 rfl rfl ?_
  refine kn_bipush C dX8_init_5 ic_b_47 rfl ?_
  refine kn_newaZ (kd := 13) (len := 47) hL0 C ka_int (Or.inl rfl) (by decide) (by decide) (by decide) (by rw [X.1]; exact Nat.le_of_ble_eq_true rfl) (by rw [X.1]; exact Nat.le_of_ble_eq_true rfl) dX8_init_7 rfl (fun r1 e1 hL1 => ?_)
  refine kn_putZ (v := some (.inl (K + 1))) hK C X.2 kf_X8_11 (Nat.le_of_ble_eq_true rfl) rfl rfl rfl dX8_init_9 rfl ?_
  refine kn_aload_n C dX8_init_12 rfl 0 rfl rfl ?_
  refine kn_iconst C dX8_init_13 ic_i_5 rfl ?_
  refine kn_newaZ (kd := 13) (len := 5) hL1 C ka_int (Or.inl rfl) (by decide) (by decide) (by decide) (by rw [X.1]; exact Nat.le_of_ble_eq_true rfl) (by rw [X.1]; exact Nat.le_of_ble_eq_true rfl) dX8_init_14 rfl (fun r2 e2 hL2 => ?_)
  refine kn_putZ (v := some (.inl (K + 2))) hK C X.2 kf_X8_15 (Nat.le_of_ble_eq_true rfl) rfl rfl rfl dX8_init_16 rfl ?_
  refine kn_aload_n C dX8_init_19 rfl 0 rfl rfl ?_
  refine kn_aload_n C dX8_init_20 rfl 1 rfl rfl ?_
  refine kn_putZ (v := some (.inl a1)) hK C X.2 kf_X8_18 (Nat.le_of_ble_eq_true rfl) rfl rfl rfl dX8_init_21 rfl ?_
  refine kn_aload_n C dX8_init_24 rfl 0 rfl rfl ?_
  refine kn_aload_n C dX8_init_25 rfl 2 rfl rfl ?_
  refine kn_putZ (v := some (.inl a2)) hK C X.2 kf_X8_22 (Nat.le_of_ble_eq_true rfl) rfl rfl rfl dX8_init_26 rfl ?_
  subst e2
  subst e1
  subst er0
  exact kn_vret C dX8_init_29 (by decide) (by decide)
theorem kol_X9_3 : Cond.methodLink RX9 3 Lib.objectInit ∈ gw_tbl := gw_in (gt_1 (List.mem_of_getElem? (i := 187) rfl)) rfl
theorem kf_X9_11 : kf_ok RX9 11 9 0 (.array .int) := ⟨_, tyX9, rfl, fw_9, by decide, gw_in (gt_1 (List.mem_of_getElem? (i := 188) rfl)) rfl, rfl, by decide, tyX9_ok, nmX9, rfl, by decide +kernel⟩
theorem kf_X9_15 : kf_ok RX9 15 9 1 (.array .int) := ⟨_, tyX9, rfl, fw_9, by decide, gw_in (gt_1 (List.mem_of_getElem? (i := 189) rfl)) rfl, rfl, by decide, tyX9_ok, nmX9, rfl, by decide +kernel⟩
theorem kf_X9_18 : kf_ok RX9 18 9 2 (.array .int) := ⟨_, tyX9, rfl, fw_9, by decide, gw_in (gt_1 (List.mem_of_getElem? (i := 190) rfl)) rfl, rfl, by decide, tyX9_ok, nmX9, rfl, by decide +kernel⟩
theorem kf_X9_21 : kf_ok RX9 21 9 3 (.array .int) := ⟨_, tyX9, rfl, fw_9, by decide, gw_in (gt_1 (List.mem_of_getElem? (i := 191) rfl)) rfl, rfl, by decide, tyX9_ok, nmX9, rfl, by decide +kernel⟩
def kg_X9_init (K : Nat)  : List (Option (Nat ⊕ Int32)) := [some (.inl (K + 1)), some (.inl (K + 2)), some (.inl (K + 3)), some (.inl (K + 4)), some (.inr 0), some (.inr 0), some (.inr 0), some (.inr 0)]
def kh_X9_init (_K : Nat) : List kd_D := [(13, 25, []), (13, 25, []), (13, 25, []), (13, 25, [])]
theorem ct_X9_init {G : wd_G} {l : Launch} (hN : gd_ok G)  : kz_C G l 1 4 100 yX9_init cX9_init 1 9 [] [none, none, none, none, some (.inr 0), some (.inr 0), some (.inr 0), some (.inr 0)] (fun K => kg_X9_init K ) kh_X9_init := by
  intro pre K hK
  refine kl_of (lv0 := [(0, .ref (wd_b G + K))]) (by decide) rfl (Nat.le_of_ble_eq_true rfl) rfl hN (fun M X _ C => ?_)
  have C : cx_C G M RX9 cX9_init 1 1 none := C
  obtain ⟨r0, er0⟩ : ∃ r0 : List kd_D, r0 = [] := ⟨_, rfl⟩
  rw [← er0]
  have hL0 : pre.length + (r0.length + 1) = K + 1 := by rw [er0, hK]; rfl
  refine kn_aload_n C dX9_init_0 rfl 0 rfl rfl ?_
  refine kn_obj C ko_all kol_X9_3 (by decide) dX9_init_1 (Nat.le_of_ble_eq_true rfl) rfl ?_
  refine kn_aload_n C dX9_init_4 rfl 0 rfl rfl ?_
  refine kn_bipush C dX9_init_5 ic_b_25 rfl ?_
  refine kn_newaZ (kd := 13) (len := 25) hL0 C ka_int (Or.inl rfl) (by decide) (by decide) (by decide) (by rw [X.1]; exact Nat.le_of_ble_eq_true rfl) (by rw [X.1]; exact Nat.le_of_ble_eq_true rfl) dX9_init_7 rfl (fun r1 e1 hL1 => ?_)
  refine kn_putZ (v := some (.inl (K + 1))) hK C X.2 kf_X9_11 (Nat.le_of_ble_eq_true rfl) rfl rfl rfl dX9_init_9 rfl ?_
  refine kn_aload_n C dX9_init_12 rfl 0 rfl rfl ?_
  refine kn_bipush C dX9_init_13 ic_b_25 rfl ?_
  refine kn_newaZ (kd := 13) (len := 25) hL1 C ka_int (Or.inl rfl) (by decide) (by decide) (by decide) (by rw [X.1]; exact Nat.le_of_ble_eq_true rfl) (by rw [X.1]; exact Nat.le_of_ble_eq_true rfl) dX9_init_15 rfl (fun r2 e2 hL2 => ?_)
  refine kn_putZ (v := some (.inl (K + 2))) hK C X.2 kf_X9_15 (Nat.le_of_ble_eq_true rfl) rfl rfl rfl dX9_init_17 rfl ?_
  refine kn_aload_n C dX9_init_20 rfl 0 rfl rfl ?_
  refine kn_bipush C dX9_init_21 ic_b_25 rfl ?_
  refine kn_newaZ (kd := 13) (len := 25) hL2 C ka_int (Or.inl rfl) (by decide) (by decide) (by decide) (by rw [X.1]; exact Nat.le_of_ble_eq_true rfl) (by rw [X.1]; exact Nat.le_of_ble_eq_true rfl) dX9_init_23 rfl (fun r3 e3 hL3 => ?_)
  refine kn_putZ (v := some (.inl (K + 3))) hK C X.2 kf_X9_18 (Nat.le_of_ble_eq_true rfl) rfl rfl rfl dX9_init_25 rfl ?_
  refine kn_aload_n C dX9_init_28 rfl 0 rfl rfl ?_
  refine kn_bipush C dX9_init_29 ic_b_25 rfl ?_
  refine kn_newaZ (kd := 13) (len := 25) hL3 C ka_int (Or.inl rfl) (by decide) (by decide) (by decide) (by rw [X.1]; exact Nat.le_of_ble_eq_true rfl) (by rw [X.1]; exact Nat.le_of_ble_eq_true rfl) dX9_init_31 rfl (fun r4 e4 hL4 => ?_)
  refine kn_putZ (v := some (.inl (K + 4))) hK C X.2 kf_X9_21 (Nat.le_of_ble_eq_true rfl) rfl rfl rfl dX9_init_33 rfl ?_
  subst e4
  subst e3
  subst e2
  subst e1
  subst er0
  exact kn_vret C dX9_init_36 (by decide) (by decide)
theorem kol_X10_3 : Cond.methodLink RX10 3 Lib.objectInit ∈ gw_tbl := gw_in (gt_1 (List.mem_of_getElem? (i := 39) rfl)) rfl
theorem kf_X10_9 : kf_ok RX10 9 10 0 (.array .int) := ⟨_, tyX10, rfl, fw_10, by decide, gw_in (gt_1 (List.mem_of_getElem? (i := 40) rfl)) rfl, rfl, by decide, tyX10_ok, nmX10, rfl, by decide +kernel⟩
theorem kf_X10_15 : kf_ok RX10 15 10 5 .int := ⟨_, tyX10, rfl, fw_10, by decide, gw_in (gt_1 (List.mem_of_getElem? (i := 45) rfl)) rfl, rfl, by decide, tyX10_ok, nmX10, rfl, by decide +kernel⟩
def kg_X10_init (K : Nat)  : List (Option (Nat ⊕ Int32)) := [some (.inl (K + 1)), some (.inr 0), some (.inr 0), some (.inr 0), some (.inr 0), some (.inr (-1)), some (.inr 0)]
def kh_X10_init (_K : Nat) : List kd_D := [(13, 600, [])]
theorem ct_X10_init {G : wd_G} {l : Launch} (hN : gd_ok G)  : kz_C G l 1 1 600 yX10_init cX10_init 1 10 [] [none, some (.inr 0), some (.inr 0), some (.inr 0), some (.inr 0), some (.inr 0), some (.inr 0)] (fun K => kg_X10_init K ) kh_X10_init := by
  intro pre K hK
  refine kl_of (lv0 := [(0, .ref (wd_b G + K))]) (by decide) rfl (Nat.le_of_ble_eq_true rfl) rfl hN (fun M X _ C => ?_)
  have C : cx_C G M RX10 cX10_init 1 1 none := C
  obtain ⟨r0, er0⟩ : ∃ r0 : List kd_D, r0 = [] := ⟨_, rfl⟩
  rw [← er0]
  have hL0 : pre.length + (r0.length + 1) = K + 1 := by rw [er0, hK]; rfl
  refine kn_aload_n C dX10_init_0 rfl 0 rfl rfl ?_
  refine kn_obj C ko_all kol_X10_3 (by decide) dX10_init_1 (Nat.le_of_ble_eq_true rfl) rfl ?_
  refine kn_aload_n C dX10_init_4 rfl 0 rfl rfl ?_
  refine kn_sipush C dX10_init_5 ic_s_600 rfl ?_
  refine kn_newaZ (kd := 13) (len := 600) hL0 C ka_int (Or.inl rfl) (by decide) (by decide) (by decide) (by rw [X.1]; exact Nat.le_of_ble_eq_true rfl) (by rw [X.1]; exact Nat.le_of_ble_eq_true rfl) dX10_init_8 rfl (fun r1 e1 hL1 => ?_)
  refine kn_putZ (v := some (.inl (K + 1))) hK C X.2 kf_X10_9 (Nat.le_of_ble_eq_true rfl) rfl rfl rfl dX10_init_10 rfl ?_
  refine kn_aload_n C dX10_init_13 rfl 0 rfl rfl ?_
  refine kn_iconst C dX10_init_14 ic_i_m1 rfl ?_
  refine kn_putZ (v := some (.inr (-1))) hK C X.2 kf_X10_15 (Nat.le_of_ble_eq_true rfl) rfl rfl rfl dX10_init_15 rfl ?_
  subst e1
  subst er0
  exact kn_vret C dX10_init_18 (by decide) (by decide)
theorem kol_X11_1 : Cond.methodLink RX11 1 Lib.objectInit ∈ gw_tbl := gw_in (gt_1 (List.mem_of_getElem? (i := 31) rfl)) rfl
theorem kc_X11_7 : kc_ok RX11 7 10 [none, some (.inr 0), some (.inr 0), some (.inr 0), some (.inr 0), some (.inr 0), some (.inr 0)] := ⟨_, tyX10, rfl, fw_10, gw_in (gt_1 (List.mem_of_getElem? (i := 34) rfl)) rfl, gw_in (gt_1 (List.mem_of_getElem? (i := 35) rfl)) rfl, gw_in (gt_1 (List.mem_of_getElem? (i := 2) rfl)) rfl, tyX10_ok, by decide, rfl, fun b j hj => by
  have hj : j < 7 := hj
  match j, hj with
  | 0, _ => rfl
  | 1, _ => rfl
  | 2, _ => rfl
  | 3, _ => rfl
  | 4, _ => rfl
  | 5, _ => rfl
  | 6, _ => rfl
  | j + 7, hj => exact absurd hj (by omega)⟩
theorem kln_X11_9 : Cond.methodLinkNest RX11 9 yX10_init "IdeaMousers" ∈ lw_tbl := gt_1 (List.mem_of_getElem? (i := 36) rfl)
theorem kf_X11_10 : kf_ok RX11 10 11 0 (.object "IdeaMousers$Tape") := ⟨_, tyX11, rfl, fw_11, by decide, gw_in (gt_2 (List.mem_of_getElem? (i := 116) rfl)) rfl, rfl, by decide, tyX11_ok, nmX11, rfl, by decide +kernel⟩
theorem kc_X11_16 : kc_ok RX11 16 3 [some (.inr 0), some (.inr 0), some (.inr 0), some (.inr 0), none, none, none, none, none, none, none, none] := ⟨_, tyX3, rfl, fw_3, gw_in (gt_1 (List.mem_of_getElem? (i := 63) rfl)) rfl, gw_in (gt_1 (List.mem_of_getElem? (i := 64) rfl)) rfl, gw_in (gt_1 (List.mem_of_getElem? (i := 3) rfl)) rfl, tyX3_ok, by decide, rfl, fun b j hj => by
  have hj : j < 12 := hj
  match j, hj with
  | 0, _ => rfl
  | 1, _ => rfl
  | 2, _ => rfl
  | 3, _ => rfl
  | 4, _ => rfl
  | 5, _ => rfl
  | 6, _ => rfl
  | 7, _ => rfl
  | 8, _ => rfl
  | 9, _ => rfl
  | 10, _ => rfl
  | 11, _ => rfl
  | j + 12, hj => exact absurd hj (by omega)⟩
theorem kln_X11_18 : Cond.methodLinkNest RX11 18 yX3_init "IdeaMousers" ∈ lw_tbl := gt_1 (List.mem_of_getElem? (i := 65) rfl)
theorem kf_X11_19 : kf_ok RX11 19 11 1 (.object "IdeaMousers$House") := ⟨_, tyX11, rfl, fw_11, by decide, gw_in (gt_2 (List.mem_of_getElem? (i := 117) rfl)) rfl, rfl, by decide, tyX11_ok, nmX11, rfl, by decide +kernel⟩
theorem kf_X11_23 : kf_ok RX11 23 11 2 (.object "IdeaMousers$House") := ⟨_, tyX11, rfl, fw_11, by decide, gw_in (gt_2 (List.mem_of_getElem? (i := 118) rfl)) rfl, rfl, by decide, tyX11_ok, nmX11, rfl, by decide +kernel⟩
theorem kc_X11_26 : kc_ok RX11 26 4 [none, some (.inr 0), none, some (.inr 0), none, none] := ⟨_, tyX4, rfl, fw_4, gw_in (gt_1 (List.mem_of_getElem? (i := 144) rfl)) rfl, gw_in (gt_1 (List.mem_of_getElem? (i := 145) rfl)) rfl, gw_in (gt_1 (List.mem_of_getElem? (i := 4) rfl)) rfl, tyX4_ok, by decide, rfl, fun b j hj => by
  have hj : j < 6 := hj
  match j, hj with
  | 0, _ => rfl
  | 1, _ => rfl
  | 2, _ => rfl
  | 3, _ => rfl
  | 4, _ => rfl
  | 5, _ => rfl
  | j + 6, hj => exact absurd hj (by omega)⟩
theorem kln_X11_28 : Cond.methodLinkNest RX11 28 yX4_init "IdeaMousers" ∈ lw_tbl := gt_1 (List.mem_of_getElem? (i := 146) rfl)
theorem kf_X11_29 : kf_ok RX11 29 11 3 (.object "IdeaMousers$Law") := ⟨_, tyX11, rfl, fw_11, by decide, gw_in (gt_2 (List.mem_of_getElem? (i := 119) rfl)) rfl, rfl, by decide, tyX11_ok, nmX11, rfl, by decide +kernel⟩
theorem kc_X11_33 : kc_ok RX11 33 0 [some (.inr 0), some (.inr 0)] := ⟨_, tyX0, rfl, fw_0, gw_in (gt_1 (List.mem_of_getElem? (i := 169) rfl)) rfl, gw_in (gt_1 (List.mem_of_getElem? (i := 170) rfl)) rfl, gw_in (gt_1 (List.mem_of_getElem? (i := 5) rfl)) rfl, tyX0_ok, by decide, rfl, fun b j hj => by
  have hj : j < 2 := hj
  match j, hj with
  | 0, _ => rfl
  | 1, _ => rfl
  | j + 2, hj => exact absurd hj (by omega)⟩
theorem kln_X11_35 : Cond.methodLinkNest RX11 35 yX0_init "IdeaMousers" ∈ lw_tbl := gt_1 (List.mem_of_getElem? (i := 171) rfl)
theorem kf_X11_36 : kf_ok RX11 36 11 4 (.object "IdeaMousers$Book") := ⟨_, tyX11, rfl, fw_11, by decide, gw_in (gt_2 (List.mem_of_getElem? (i := 120) rfl)) rfl, rfl, by decide, tyX11_ok, nmX11, rfl, by decide +kernel⟩
theorem kc_X11_40 : kc_ok RX11 40 9 [none, none, none, none, some (.inr 0), some (.inr 0), some (.inr 0), some (.inr 0)] := ⟨_, tyX9, rfl, fw_9, gw_in (gt_1 (List.mem_of_getElem? (i := 182) rfl)) rfl, gw_in (gt_1 (List.mem_of_getElem? (i := 183) rfl)) rfl, gw_in (gt_1 (List.mem_of_getElem? (i := 6) rfl)) rfl, tyX9_ok, by decide, rfl, fun b j hj => by
  have hj : j < 8 := hj
  match j, hj with
  | 0, _ => rfl
  | 1, _ => rfl
  | 2, _ => rfl
  | 3, _ => rfl
  | 4, _ => rfl
  | 5, _ => rfl
  | 6, _ => rfl
  | 7, _ => rfl
  | j + 8, hj => exact absurd hj (by omega)⟩
theorem kln_X11_42 : Cond.methodLinkNest RX11 42 yX9_init "IdeaMousers" ∈ lw_tbl := gt_1 (List.mem_of_getElem? (i := 184) rfl)
theorem kf_X11_43 : kf_ok RX11 43 11 5 (.object "IdeaMousers$Steps") := ⟨_, tyX11, rfl, fw_11, by decide, gw_in (gt_2 (List.mem_of_getElem? (i := 121) rfl)) rfl, rfl, by decide, tyX11_ok, nmX11, rfl, by decide +kernel⟩
theorem kc_X11_47 : kc_ok RX11 47 8 [none, none, none, none] := ⟨_, tyX8, rfl, fw_8, gw_in (gt_1 (List.mem_of_getElem? (i := 215) rfl)) rfl, gw_in (gt_1 (List.mem_of_getElem? (i := 216) rfl)) rfl, gw_in (gt_1 (List.mem_of_getElem? (i := 7) rfl)) rfl, tyX8_ok, by decide, rfl, fun b j hj => by
  have hj : j < 4 := hj
  match j, hj with
  | 0, _ => rfl
  | 1, _ => rfl
  | 2, _ => rfl
  | 3, _ => rfl
  | j + 4, hj => exact absurd hj (by omega)⟩
theorem kl_X11_49 : Cond.methodLink RX11 49 yX8_init ∈ gw_tbl := gw_in (gt_1 (List.mem_of_getElem? (i := 217) rfl)) rfl
theorem kf_X11_52 : kf_ok RX11 52 11 6 (.object "IdeaMousers$State") := ⟨_, tyX11, rfl, fw_11, by decide, gw_in (gt_2 (List.mem_of_getElem? (i := 122) rfl)) rfl, rfl, by decide, tyX11_ok, nmX11, rfl, by decide +kernel⟩
theorem kf_X11_56 : kf_ok RX11 56 11 7 (.object "IdeaMousers$State") := ⟨_, tyX11, rfl, fw_11, by decide, gw_in (gt_2 (List.mem_of_getElem? (i := 123) rfl)) rfl, rfl, by decide, tyX11_ok, nmX11, rfl, by decide +kernel⟩
theorem kc_X11_59 : kc_ok RX11 59 5 [some (.inr 0), some (.inr 0), none, none, none] := ⟨_, tyX5, rfl, fw_5, gw_in (gt_1 (List.mem_of_getElem? (i := 236) rfl)) rfl, gw_in (gt_1 (List.mem_of_getElem? (i := 237) rfl)) rfl, gw_in (gt_1 (List.mem_of_getElem? (i := 8) rfl)) rfl, tyX5_ok, by decide, rfl, fun b j hj => by
  have hj : j < 5 := hj
  match j, hj with
  | 0, _ => rfl
  | 1, _ => rfl
  | 2, _ => rfl
  | 3, _ => rfl
  | 4, _ => rfl
  | j + 5, hj => exact absurd hj (by omega)⟩
theorem kln_X11_61 : Cond.methodLinkNest RX11 61 yX5_init "IdeaMousers" ∈ lw_tbl := gt_1 (List.mem_of_getElem? (i := 238) rfl)
theorem kf_X11_62 : kf_ok RX11 62 11 8 (.object "IdeaMousers$Past") := ⟨_, tyX11, rfl, fw_11, by decide, gw_in (gt_2 (List.mem_of_getElem? (i := 124) rfl)) rfl, rfl, by decide, tyX11_ok, nmX11, rfl, by decide +kernel⟩
theorem kc_X11_66 : kc_ok RX11 66 7 [none, none, none, none, some (.inr 0), some (.inr 0), some (.inr 0), some (.inr 0), some (.inr 0)] := ⟨_, tyX7, rfl, fw_7, gw_in (gt_2 (List.mem_of_getElem? (i := 20) rfl)) rfl, gw_in (gt_2 (List.mem_of_getElem? (i := 21) rfl)) rfl, gw_in (gt_1 (List.mem_of_getElem? (i := 9) rfl)) rfl, tyX7_ok, by decide, rfl, fun b j hj => by
  have hj : j < 9 := hj
  match j, hj with
  | 0, _ => rfl
  | 1, _ => rfl
  | 2, _ => rfl
  | 3, _ => rfl
  | 4, _ => rfl
  | 5, _ => rfl
  | 6, _ => rfl
  | 7, _ => rfl
  | 8, _ => rfl
  | j + 9, hj => exact absurd hj (by omega)⟩
theorem kl_X11_68 : Cond.methodLink RX11 68 yX7_init ∈ gw_tbl := gw_in (gt_2 (List.mem_of_getElem? (i := 22) rfl)) rfl
theorem kf_X11_69 : kf_ok RX11 69 11 9 (.object "IdeaMousers$Slip") := ⟨_, tyX11, rfl, fw_11, by decide, gw_in (gt_2 (List.mem_of_getElem? (i := 125) rfl)) rfl, rfl, by decide, tyX11_ok, nmX11, rfl, by decide +kernel⟩
theorem kc_X11_73 : kc_ok RX11 73 1 [none, none, none, none, some (.inr 0), some (.inr 0)] := ⟨_, tyX1, rfl, fw_1, gw_in (gt_2 (List.mem_of_getElem? (i := 54) rfl)) rfl, gw_in (gt_2 (List.mem_of_getElem? (i := 55) rfl)) rfl, gw_in (gt_1 (List.mem_of_getElem? (i := 10) rfl)) rfl, tyX1_ok, by decide, rfl, fun b j hj => by
  have hj : j < 6 := hj
  match j, hj with
  | 0, _ => rfl
  | 1, _ => rfl
  | 2, _ => rfl
  | 3, _ => rfl
  | 4, _ => rfl
  | 5, _ => rfl
  | j + 6, hj => exact absurd hj (by omega)⟩
theorem kl_X11_75 : Cond.methodLink RX11 75 yX1_init ∈ gw_tbl := gw_in (gt_2 (List.mem_of_getElem? (i := 56) rfl)) rfl
theorem kf_X11_78 : kf_ok RX11 78 11 10 (.object "IdeaMousers$Chase") := ⟨_, tyX11, rfl, fw_11, by decide, gw_in (gt_2 (List.mem_of_getElem? (i := 126) rfl)) rfl, rfl, by decide, tyX11_ok, nmX11, rfl, by decide +kernel⟩
theorem kc_X11_82 : kc_ok RX11 82 2 [none, none, some (.inr 0), some (.inr 0)] := ⟨_, tyX2, rfl, fw_2, gw_in (gt_2 (List.mem_of_getElem? (i := 82) rfl)) rfl, gw_in (gt_2 (List.mem_of_getElem? (i := 83) rfl)) rfl, gw_in (gt_1 (List.mem_of_getElem? (i := 11) rfl)) rfl, tyX2_ok, by decide, rfl, fun b j hj => by
  have hj : j < 4 := hj
  match j, hj with
  | 0, _ => rfl
  | 1, _ => rfl
  | 2, _ => rfl
  | 3, _ => rfl
  | j + 4, hj => exact absurd hj (by omega)⟩
theorem kl_X11_84 : Cond.methodLink RX11 84 yX2_init ∈ gw_tbl := gw_in (gt_2 (List.mem_of_getElem? (i := 84) rfl)) rfl
theorem kf_X11_85 : kf_ok RX11 85 11 11 (.object "IdeaMousers$Guess") := ⟨_, tyX11, rfl, fw_11, by decide, gw_in (gt_2 (List.mem_of_getElem? (i := 127) rfl)) rfl, rfl, by decide, tyX11_ok, nmX11, rfl, by decide +kernel⟩
theorem kc_X11_89 : kc_ok RX11 89 6 [none, some (.inr 0)] := ⟨_, tyX6, rfl, fw_6, gw_in (gt_2 (List.mem_of_getElem? (i := 103) rfl)) rfl, gw_in (gt_2 (List.mem_of_getElem? (i := 104) rfl)) rfl, gw_in (gt_1 (List.mem_of_getElem? (i := 12) rfl)) rfl, tyX6_ok, by decide, rfl, fun b j hj => by
  have hj : j < 2 := hj
  match j, hj with
  | 0, _ => rfl
  | 1, _ => rfl
  | j + 2, hj => exact absurd hj (by omega)⟩
theorem kl_X11_91 : Cond.methodLink RX11 91 yX6_init ∈ gw_tbl := gw_in (gt_2 (List.mem_of_getElem? (i := 105) rfl)) rfl
theorem kf_X11_92 : kf_ok RX11 92 11 12 (.object "IdeaMousers$Season") := ⟨_, tyX11, rfl, fw_11, by decide, gw_in (gt_2 (List.mem_of_getElem? (i := 128) rfl)) rfl, rfl, by decide, tyX11_ok, nmX11, rfl, by decide +kernel⟩
def kX_fs : List (Option (Nat ⊕ Int32)) := [some (.inl 1), some (.inl 3), some (.inl 12), some (.inl 21), some (.inl 26), some (.inl 27), some (.inl 32), some (.inl 35), some (.inl 38), some (.inl 42), some (.inl 45), some (.inl 49), some (.inl 51), some (.inr 0), some (.inr 0), some (.inr 0)]
def kX_r : List kd_D := ((((((((((((([] ++ ((10, 0, kg_X10_init 1 ) :: kh_X10_init 1)) ++ ((3, 0, kg_X3_init 3 ) :: kh_X3_init 3)) ++ ((3, 0, kg_X3_init 12 ) :: kh_X3_init 12)) ++ ((4, 0, kg_X4_init 21 ) :: kh_X4_init 21)) ++ ((0, 0, kg_X0_init 26 ) :: kh_X0_init 26)) ++ ((9, 0, kg_X9_init 27 ) :: kh_X9_init 27)) ++ ((8, 0, kg_X8_init 32 3 21) :: kh_X8_init 32)) ++ ((8, 0, kg_X8_init 35 3 21) :: kh_X8_init 35)) ++ ((5, 0, kg_X5_init 38 ) :: kh_X5_init 38)) ++ ((7, 0, kg_X7_init 42 3 21) :: kh_X7_init 42)) ++ ((1, 0, kg_X1_init 45 3) :: kh_X1_init 45)) ++ ((2, 0, kg_X2_init 49 3) :: kh_X2_init 49)) ++ ((6, 0, kg_X6_init 51 3) :: kh_X6_init 51))
theorem ct_X11_init {G : wd_G} {l : Launch} (hN : gd_ok G) : kl_C G l 2 51 6606 yX11_init cX11_init 1 [.ref (wd_b G + 0)] [(11, 0, [none, none, none, none, none, none, none, none, none, none, none, none, none, some (.inr 0), some (.inr 0), some (.inr 0)])] ((11, 0, kX_fs) :: kX_r) := by
  refine kl_of (lv0 := [(0, .ref (wd_b G + 0))]) (by decide) rfl (Nat.le_of_ble_eq_true rfl) rfl hN (fun M X _ C => ?_)
  have C : cx_C G M RX11 cX11_init 1 2 none := C
  obtain ⟨r0, er0⟩ : ∃ r0 : List kd_D, r0 = [] := ⟨_, rfl⟩
  refine kn_ks (ks2 := [] ++ (11, 0, [none, none, none, none, none, none, none, none, none, none, none, none, none, some (.inr 0), some (.inr 0), some (.inr 0)]) :: r0) (by rw [er0]; rfl) ?_
  have hL0 : ([] : List kd_D).length + (r0.length + 1) = 1 := by rw [er0]; rfl
  refine kn_aload_n C dX11_init_0 rfl 0 rfl rfl ?_
  refine kn_obj C ko_all kol_X11_1 (by decide) dX11_init_1 (Nat.le_of_ble_eq_true rfl) rfl ?_
  refine kn_aload_n C dX11_init_4 rfl 0 rfl rfl ?_
  refine kn_newZ hL0 C kc_X11_7 (by rw [X.1]; exact Nat.le_of_ble_eq_true rfl) (by rw [X.1]; exact Nat.le_of_ble_eq_true rfl) dX11_init_5 rfl ?_
  refine kn_dup C dX11_init_8 rfl rfl ?_
  refine kn_callNZ (As := []) (st := [.ref (wd_b G + 1), .ref (wd_b G + 0)]) hL0 C (ct_X10_init (cx_g C) ) rfl ki_X10_init kln_X11_9 (by decide) rfl ⟨(by rw [X.1]; exact Nat.le_of_ble_eq_true rfl), (by rw [X.1]; exact Nat.le_of_ble_eq_true rfl)⟩ (Nat.le_of_ble_eq_true rfl) dX11_init_9 rfl rfl (fun r1 e1 hL1 => ?_)
  refine kn_putZ (v := some (.inl 1)) rfl C X.2 kf_X11_10 (Nat.le_of_ble_eq_true rfl) rfl rfl rfl dX11_init_12 rfl ?_
  refine kn_aload_n C dX11_init_15 rfl 0 rfl rfl ?_
  refine kn_newZ hL1 C kc_X11_16 (by rw [X.1]; exact Nat.le_of_ble_eq_true rfl) (by rw [X.1]; exact Nat.le_of_ble_eq_true rfl) dX11_init_16 rfl ?_
  refine kn_dup C dX11_init_19 rfl rfl ?_
  refine kn_callNZ (As := []) (st := [.ref (wd_b G + 3), .ref (wd_b G + 0)]) hL1 C (ct_X3_init (cx_g C) ) rfl ki_X3_init kln_X11_18 (by decide) rfl ⟨(by rw [X.1]; exact Nat.le_of_ble_eq_true rfl), (by rw [X.1]; exact Nat.le_of_ble_eq_true rfl)⟩ (Nat.le_of_ble_eq_true rfl) dX11_init_20 rfl rfl (fun r2 e2 hL2 => ?_)
  refine kn_putZ (v := some (.inl 3)) rfl C X.2 kf_X11_19 (Nat.le_of_ble_eq_true rfl) rfl rfl rfl dX11_init_23 rfl ?_
  refine kn_aload_n C dX11_init_26 rfl 0 rfl rfl ?_
  refine kn_newZ hL2 C kc_X11_16 (by rw [X.1]; exact Nat.le_of_ble_eq_true rfl) (by rw [X.1]; exact Nat.le_of_ble_eq_true rfl) dX11_init_27 rfl ?_
  refine kn_dup C dX11_init_30 rfl rfl ?_
  refine kn_callNZ (As := []) (st := [.ref (wd_b G + 12), .ref (wd_b G + 0)]) hL2 C (ct_X3_init (cx_g C) ) rfl ki_X3_init kln_X11_18 (by decide) rfl ⟨(by rw [X.1]; exact Nat.le_of_ble_eq_true rfl), (by rw [X.1]; exact Nat.le_of_ble_eq_true rfl)⟩ (Nat.le_of_ble_eq_true rfl) dX11_init_31 rfl rfl (fun r3 e3 hL3 => ?_)
  refine kn_putZ (v := some (.inl 12)) rfl C X.2 kf_X11_23 (Nat.le_of_ble_eq_true rfl) rfl rfl rfl dX11_init_34 rfl ?_
  refine kn_aload_n C dX11_init_37 rfl 0 rfl rfl ?_
  refine kn_newZ hL3 C kc_X11_26 (by rw [X.1]; exact Nat.le_of_ble_eq_true rfl) (by rw [X.1]; exact Nat.le_of_ble_eq_true rfl) dX11_init_38 rfl ?_
  refine kn_dup C dX11_init_41 rfl rfl ?_
  refine kn_callNZ (As := []) (st := [.ref (wd_b G + 21), .ref (wd_b G + 0)]) hL3 C (ct_X4_init (cx_g C) ) rfl ki_X4_init kln_X11_28 (by decide) rfl ⟨(by rw [X.1]; exact Nat.le_of_ble_eq_true rfl), (by rw [X.1]; exact Nat.le_of_ble_eq_true rfl)⟩ (Nat.le_of_ble_eq_true rfl) dX11_init_42 rfl rfl (fun r4 e4 hL4 => ?_)
  refine kn_putZ (v := some (.inl 21)) rfl C X.2 kf_X11_29 (Nat.le_of_ble_eq_true rfl) rfl rfl rfl dX11_init_45 rfl ?_
  refine kn_aload_n C dX11_init_48 rfl 0 rfl rfl ?_
  refine kn_newZ hL4 C kc_X11_33 (by rw [X.1]; exact Nat.le_of_ble_eq_true rfl) (by rw [X.1]; exact Nat.le_of_ble_eq_true rfl) dX11_init_49 rfl ?_
  refine kn_dup C dX11_init_52 rfl rfl ?_
  refine kn_callNZ (As := []) (st := [.ref (wd_b G + 26), .ref (wd_b G + 0)]) hL4 C (ct_X0_init (cx_g C) ) rfl ki_X0_init kln_X11_35 (by decide) rfl ⟨(by rw [X.1]; exact Nat.le_of_ble_eq_true rfl), (by rw [X.1]; exact Nat.le_of_ble_eq_true rfl)⟩ (Nat.le_of_ble_eq_true rfl) dX11_init_53 rfl rfl (fun r5 e5 hL5 => ?_)
  refine kn_putZ (v := some (.inl 26)) rfl C X.2 kf_X11_36 (Nat.le_of_ble_eq_true rfl) rfl rfl rfl dX11_init_56 rfl ?_
  refine kn_aload_n C dX11_init_59 rfl 0 rfl rfl ?_
  refine kn_newZ hL5 C kc_X11_40 (by rw [X.1]; exact Nat.le_of_ble_eq_true rfl) (by rw [X.1]; exact Nat.le_of_ble_eq_true rfl) dX11_init_60 rfl ?_
  refine kn_dup C dX11_init_63 rfl rfl ?_
  refine kn_callNZ (As := []) (st := [.ref (wd_b G + 27), .ref (wd_b G + 0)]) hL5 C (ct_X9_init (cx_g C) ) rfl ki_X9_init kln_X11_42 (by decide) rfl ⟨(by rw [X.1]; exact Nat.le_of_ble_eq_true rfl), (by rw [X.1]; exact Nat.le_of_ble_eq_true rfl)⟩ (Nat.le_of_ble_eq_true rfl) dX11_init_64 rfl rfl (fun r6 e6 hL6 => ?_)
  refine kn_putZ (v := some (.inl 27)) rfl C X.2 kf_X11_43 (Nat.le_of_ble_eq_true rfl) rfl rfl rfl dX11_init_67 rfl ?_
  refine kn_aload_n C dX11_init_70 rfl 0 rfl rfl ?_
  refine kn_newZ hL6 C kc_X11_47 (by rw [X.1]; exact Nat.le_of_ble_eq_true rfl) (by rw [X.1]; exact Nat.le_of_ble_eq_true rfl) dX11_init_71 rfl ?_
  refine kn_dup C dX11_init_74 rfl rfl ?_
  refine kn_aload_n C dX11_init_75 rfl 0 rfl rfl ?_
  refine kn_getP rfl C fd_X11_19 rfl dX11_init_76 rfl ?_
  refine kn_aload_n C dX11_init_79 rfl 0 rfl rfl ?_
  refine kn_getP rfl C fd_X11_29 rfl dX11_init_80 rfl ?_
  refine kn_callZ (As := [.ref (wd_b G + 3), .ref (wd_b G + 21)]) (st := [.ref (wd_b G + 32), .ref (wd_b G + 0)]) hL6 C (ct_X8_init (cx_g C) 3 21) rfl ki_X8_init kl_X11_49 (by decide) rfl ⟨(by rw [X.1]; exact Nat.le_of_ble_eq_true rfl), (by rw [X.1]; exact Nat.le_of_ble_eq_true rfl)⟩ (Nat.le_of_ble_eq_true rfl) dX11_init_83 rfl rfl (fun r7 e7 hL7 => ?_)
  refine kn_putZ (v := some (.inl 32)) rfl C X.2 kf_X11_52 (Nat.le_of_ble_eq_true rfl) rfl rfl rfl dX11_init_86 rfl ?_
  refine kn_aload_n C dX11_init_89 rfl 0 rfl rfl ?_
  refine kn_newZ hL7 C kc_X11_47 (by rw [X.1]; exact Nat.le_of_ble_eq_true rfl) (by rw [X.1]; exact Nat.le_of_ble_eq_true rfl) dX11_init_90 rfl ?_
  refine kn_dup C dX11_init_93 rfl rfl ?_
  refine kn_aload_n C dX11_init_94 rfl 0 rfl rfl ?_
  refine kn_getP rfl C fd_X11_19 rfl dX11_init_95 rfl ?_
  refine kn_aload_n C dX11_init_98 rfl 0 rfl rfl ?_
  refine kn_getP rfl C fd_X11_29 rfl dX11_init_99 rfl ?_
  refine kn_callZ (As := [.ref (wd_b G + 3), .ref (wd_b G + 21)]) (st := [.ref (wd_b G + 35), .ref (wd_b G + 0)]) hL7 C (ct_X8_init (cx_g C) 3 21) rfl ki_X8_init kl_X11_49 (by decide) rfl ⟨(by rw [X.1]; exact Nat.le_of_ble_eq_true rfl), (by rw [X.1]; exact Nat.le_of_ble_eq_true rfl)⟩ (Nat.le_of_ble_eq_true rfl) dX11_init_102 rfl rfl (fun r8 e8 hL8 => ?_)
  refine kn_putZ (v := some (.inl 35)) rfl C X.2 kf_X11_56 (Nat.le_of_ble_eq_true rfl) rfl rfl rfl dX11_init_105 rfl ?_
  refine kn_aload_n C dX11_init_108 rfl 0 rfl rfl ?_
  refine kn_newZ hL8 C kc_X11_59 (by rw [X.1]; exact Nat.le_of_ble_eq_true rfl) (by rw [X.1]; exact Nat.le_of_ble_eq_true rfl) dX11_init_109 rfl ?_
  refine kn_dup C dX11_init_112 rfl rfl ?_
  refine kn_callNZ (As := []) (st := [.ref (wd_b G + 38), .ref (wd_b G + 0)]) hL8 C (ct_X5_init (cx_g C) ) rfl ki_X5_init kln_X11_61 (by decide) rfl ⟨(by rw [X.1]; exact Nat.le_of_ble_eq_true rfl), (by rw [X.1]; exact Nat.le_of_ble_eq_true rfl)⟩ (Nat.le_of_ble_eq_true rfl) dX11_init_113 rfl rfl (fun r9 e9 hL9 => ?_)
  refine kn_putZ (v := some (.inl 38)) rfl C X.2 kf_X11_62 (Nat.le_of_ble_eq_true rfl) rfl rfl rfl dX11_init_116 rfl ?_
  refine kn_aload_n C dX11_init_119 rfl 0 rfl rfl ?_
  refine kn_newZ hL9 C kc_X11_66 (by rw [X.1]; exact Nat.le_of_ble_eq_true rfl) (by rw [X.1]; exact Nat.le_of_ble_eq_true rfl) dX11_init_120 rfl ?_
  refine kn_dup C dX11_init_123 rfl rfl ?_
  refine kn_aload_n C dX11_init_124 rfl 0 rfl rfl ?_
  refine kn_getP rfl C fd_X11_19 rfl dX11_init_125 rfl ?_
  refine kn_aload_n C dX11_init_128 rfl 0 rfl rfl ?_
  refine kn_getP rfl C fd_X11_29 rfl dX11_init_129 rfl ?_
  refine kn_callZ (As := [.ref (wd_b G + 3), .ref (wd_b G + 21)]) (st := [.ref (wd_b G + 42), .ref (wd_b G + 0)]) hL9 C (ct_X7_init (cx_g C) 3 21) rfl ki_X7_init kl_X11_68 (by decide) rfl ⟨(by rw [X.1]; exact Nat.le_of_ble_eq_true rfl), (by rw [X.1]; exact Nat.le_of_ble_eq_true rfl)⟩ (Nat.le_of_ble_eq_true rfl) dX11_init_132 rfl rfl (fun r10 e10 hL10 => ?_)
  refine kn_putZ (v := some (.inl 42)) rfl C X.2 kf_X11_69 (Nat.le_of_ble_eq_true rfl) rfl rfl rfl dX11_init_135 rfl ?_
  refine kn_aload_n C dX11_init_138 rfl 0 rfl rfl ?_
  refine kn_newZ hL10 C kc_X11_73 (by rw [X.1]; exact Nat.le_of_ble_eq_true rfl) (by rw [X.1]; exact Nat.le_of_ble_eq_true rfl) dX11_init_139 rfl ?_
  refine kn_dup C dX11_init_142 rfl rfl ?_
  refine kn_aload_n C dX11_init_143 rfl 0 rfl rfl ?_
  refine kn_getP rfl C fd_X11_19 rfl dX11_init_144 rfl ?_
  refine kn_callZ (As := [.ref (wd_b G + 3)]) (st := [.ref (wd_b G + 45), .ref (wd_b G + 0)]) hL10 C (ct_X1_init (cx_g C) 3) rfl ki_X1_init kl_X11_75 (by decide) rfl ⟨(by rw [X.1]; exact Nat.le_of_ble_eq_true rfl), (by rw [X.1]; exact Nat.le_of_ble_eq_true rfl)⟩ (Nat.le_of_ble_eq_true rfl) dX11_init_147 rfl rfl (fun r11 e11 hL11 => ?_)
  refine kn_putZ (v := some (.inl 45)) rfl C X.2 kf_X11_78 (Nat.le_of_ble_eq_true rfl) rfl rfl rfl dX11_init_150 rfl ?_
  refine kn_aload_n C dX11_init_153 rfl 0 rfl rfl ?_
  refine kn_newZ hL11 C kc_X11_82 (by rw [X.1]; exact Nat.le_of_ble_eq_true rfl) (by rw [X.1]; exact Nat.le_of_ble_eq_true rfl) dX11_init_154 rfl ?_
  refine kn_dup C dX11_init_157 rfl rfl ?_
  refine kn_aload_n C dX11_init_158 rfl 0 rfl rfl ?_
  refine kn_getP rfl C fd_X11_19 rfl dX11_init_159 rfl ?_
  refine kn_callZ (As := [.ref (wd_b G + 3)]) (st := [.ref (wd_b G + 49), .ref (wd_b G + 0)]) hL11 C (ct_X2_init (cx_g C) 3) rfl ki_X2_init kl_X11_84 (by decide) rfl ⟨(by rw [X.1]; exact Nat.le_of_ble_eq_true rfl), (by rw [X.1]; exact Nat.le_of_ble_eq_true rfl)⟩ (Nat.le_of_ble_eq_true rfl) dX11_init_162 rfl rfl (fun r12 e12 hL12 => ?_)
  refine kn_putZ (v := some (.inl 49)) rfl C X.2 kf_X11_85 (Nat.le_of_ble_eq_true rfl) rfl rfl rfl dX11_init_165 rfl ?_
  refine kn_aload_n C dX11_init_168 rfl 0 rfl rfl ?_
  refine kn_newZ hL12 C kc_X11_89 (by rw [X.1]; exact Nat.le_of_ble_eq_true rfl) (by rw [X.1]; exact Nat.le_of_ble_eq_true rfl) dX11_init_169 rfl ?_
  refine kn_dup C dX11_init_172 rfl rfl ?_
  refine kn_aload_n C dX11_init_173 rfl 0 rfl rfl ?_
  refine kn_getP rfl C fd_X11_19 rfl dX11_init_174 rfl ?_
  refine kn_callZ (As := [.ref (wd_b G + 3)]) (st := [.ref (wd_b G + 51), .ref (wd_b G + 0)]) hL12 C (ct_X6_init (cx_g C) 3) rfl ki_X6_init kl_X11_91 (by decide) rfl ⟨(by rw [X.1]; exact Nat.le_of_ble_eq_true rfl), (by rw [X.1]; exact Nat.le_of_ble_eq_true rfl)⟩ (Nat.le_of_ble_eq_true rfl) dX11_init_177 rfl rfl (fun r13 e13 hL13 => ?_)
  refine kn_putZ (v := some (.inl 51)) rfl C X.2 kf_X11_92 (Nat.le_of_ble_eq_true rfl) rfl rfl rfl dX11_init_180 rfl ?_
  refine kn_ks (ks2 := (11, 0, kX_fs) :: kX_r) ?_ (kn_vret C dX11_init_183 (by decide) (by decide))
  unfold kX_r kX_fs
  rw [e13, e12, e11, e10, e9, e8, e7, e6, e5, e4, e3, e2, e1, er0]
  rfl
def kX_all : List kd_D := (11, 0, kX_fs) :: kX_r
theorem kX_len : kX_all.length = 52 := by decide +kernel
theorem kol_X12_1 : Cond.methodLink RX12 1 Lib.objectInit ∈ gw_tbl := gw_in (gt_6 (List.mem_of_getElem? (i := 215) rfl)) rfl
theorem kf_X12_9 : kf_ok RX12 9 12 3 .int := ⟨_, tyX12, rfl, fw_12, by decide, gw_in (gt_6 (List.mem_of_getElem? (i := 235) rfl)) rfl, rfl, by decide, tyX12_ok, nmX12, rfl, by decide +kernel⟩
theorem kf_X12_13 : kf_ok RX12 13 12 9 (.array .int) := ⟨_, tyX12, rfl, fw_12, by decide, gw_in (gt_7 (List.mem_of_getElem? (i := 1) rfl)) rfl, rfl, by decide, tyX12_ok, nmX12, rfl, by decide +kernel⟩
theorem kf_X12_17 : kf_ok RX12 17 12 10 (.array .int) := ⟨_, tyX12, rfl, fw_12, by decide, gw_in (gt_7 (List.mem_of_getElem? (i := 2) rfl)) rfl, rfl, by decide, tyX12_ok, nmX12, rfl, by decide +kernel⟩
theorem kf_X12_20 : kf_ok RX12 20 12 11 (.array .int) := ⟨_, tyX12, rfl, fw_12, by decide, gw_in (gt_7 (List.mem_of_getElem? (i := 3) rfl)) rfl, rfl, by decide, tyX12_ok, nmX12, rfl, by decide +kernel⟩
theorem kf_X12_23 : kf_ok RX12 23 12 12 (.array .int) := ⟨_, tyX12, rfl, fw_12, by decide, gw_in (gt_7 (List.mem_of_getElem? (i := 4) rfl)) rfl, rfl, by decide, tyX12_ok, nmX12, rfl, by decide +kernel⟩
theorem kq_X12_26 : Cond.classLink RX12 26 "[[I" ∈ gw_tbl := gw_in (gt_6 (List.mem_of_getElem? (i := 216) rfl)) rfl
theorem kf_X12_28 : kf_ok RX12 28 12 13 (.array (.array .int)) := ⟨_, tyX12, rfl, fw_12, by decide, gw_in (gt_7 (List.mem_of_getElem? (i := 5) rfl)) rfl, rfl, by decide, tyX12_ok, nmX12, rfl, by decide +kernel⟩
theorem kf_X12_31 : kf_ok RX12 31 12 14 (.array (.array .int)) := ⟨_, tyX12, rfl, fw_12, by decide, gw_in (gt_7 (List.mem_of_getElem? (i := 6) rfl)) rfl, rfl, by decide, tyX12_ok, nmX12, rfl, by decide +kernel⟩
theorem kf_X12_34 : kf_ok RX12 34 12 17 (.array (.array .int)) := ⟨_, tyX12, rfl, fw_12, by decide, gw_in (gt_7 (List.mem_of_getElem? (i := 9) rfl)) rfl, rfl, by decide, tyX12_ok, nmX12, rfl, by decide +kernel⟩
theorem kf_X12_37 : kf_ok RX12 37 12 18 (.array (.array .int)) := ⟨_, tyX12, rfl, fw_12, by decide, gw_in (gt_7 (List.mem_of_getElem? (i := 10) rfl)) rfl, rfl, by decide, tyX12_ok, nmX12, rfl, by decide +kernel⟩
theorem kf_X12_40 : kf_ok RX12 40 12 19 (.array (.array .int)) := ⟨_, tyX12, rfl, fw_12, by decide, gw_in (gt_7 (List.mem_of_getElem? (i := 11) rfl)) rfl, rfl, by decide, tyX12_ok, nmX12, rfl, by decide +kernel⟩
theorem kf_X12_43 : kf_ok RX12 43 12 20 (.array (.array .int)) := ⟨_, tyX12, rfl, fw_12, by decide, gw_in (gt_7 (List.mem_of_getElem? (i := 12) rfl)) rfl, rfl, by decide, tyX12_ok, nmX12, rfl, by decide +kernel⟩
theorem kf_X12_46 : kf_ok RX12 46 12 21 (.array .int) := ⟨_, tyX12, rfl, fw_12, by decide, gw_in (gt_7 (List.mem_of_getElem? (i := 13) rfl)) rfl, rfl, by decide, tyX12_ok, nmX12, rfl, by decide +kernel⟩
theorem kf_X12_49 : kf_ok RX12 49 12 22 (.array .int) := ⟨_, tyX12, rfl, fw_12, by decide, gw_in (gt_7 (List.mem_of_getElem? (i := 14) rfl)) rfl, rfl, by decide, tyX12_ok, nmX12, rfl, by decide +kernel⟩
theorem kf_X12_52 : kf_ok RX12 52 12 23 (.array (.array .int)) := ⟨_, tyX12, rfl, fw_12, by decide, gw_in (gt_7 (List.mem_of_getElem? (i := 15) rfl)) rfl, rfl, by decide, tyX12_ok, nmX12, rfl, by decide +kernel⟩
theorem kf_X12_55 : kf_ok RX12 55 12 25 (.array .int) := ⟨_, tyX12, rfl, fw_12, by decide, gw_in (gt_7 (List.mem_of_getElem? (i := 17) rfl)) rfl, rfl, by decide, tyX12_ok, nmX12, rfl, by decide +kernel⟩
theorem kf_X12_58 : kf_ok RX12 58 12 26 (.array .int) := ⟨_, tyX12, rfl, fw_12, by decide, gw_in (gt_7 (List.mem_of_getElem? (i := 18) rfl)) rfl, rfl, by decide, tyX12_ok, nmX12, rfl, by decide +kernel⟩
theorem kf_X12_61 : kf_ok RX12 61 12 27 (.array .int) := ⟨_, tyX12, rfl, fw_12, by decide, gw_in (gt_7 (List.mem_of_getElem? (i := 19) rfl)) rfl, rfl, by decide, tyX12_ok, nmX12, rfl, by decide +kernel⟩
theorem kf_X12_64 : kf_ok RX12 64 12 28 (.array (.array .int)) := ⟨_, tyX12, rfl, fw_12, by decide, gw_in (gt_7 (List.mem_of_getElem? (i := 20) rfl)) rfl, rfl, by decide, tyX12_ok, nmX12, rfl, by decide +kernel⟩
theorem kf_X12_67 : kf_ok RX12 67 12 29 (.array (.array .int)) := ⟨_, tyX12, rfl, fw_12, by decide, gw_in (gt_7 (List.mem_of_getElem? (i := 21) rfl)) rfl, rfl, by decide, tyX12_ok, nmX12, rfl, by decide +kernel⟩
theorem kf_X12_70 : kf_ok RX12 70 12 37 (.array .boolean) := ⟨_, tyX12, rfl, fw_12, by decide, gw_in (gt_7 (List.mem_of_getElem? (i := 29) rfl)) rfl, rfl, by decide, tyX12_ok, nmX12, rfl, by decide +kernel⟩
theorem kf_X12_74 : kf_ok RX12 74 12 38 (.array .boolean) := ⟨_, tyX12, rfl, fw_12, by decide, gw_in (gt_7 (List.mem_of_getElem? (i := 30) rfl)) rfl, rfl, by decide, tyX12_ok, nmX12, rfl, by decide +kernel⟩
theorem kf_X12_77 : kf_ok RX12 77 12 39 (.array .int) := ⟨_, tyX12, rfl, fw_12, by decide, gw_in (gt_7 (List.mem_of_getElem? (i := 31) rfl)) rfl, rfl, by decide, tyX12_ok, nmX12, rfl, by decide +kernel⟩
theorem kf_X12_80 : kf_ok RX12 80 12 40 (.array .int) := ⟨_, tyX12, rfl, fw_12, by decide, gw_in (gt_7 (List.mem_of_getElem? (i := 32) rfl)) rfl, rfl, by decide, tyX12_ok, nmX12, rfl, by decide +kernel⟩
theorem kf_X12_83 : kf_ok RX12 83 12 43 (.array .long) := ⟨_, tyX12, rfl, fw_12, by decide, gw_in (gt_7 (List.mem_of_getElem? (i := 35) rfl)) rfl, rfl, by decide, tyX12_ok, nmX12, rfl, by decide +kernel⟩
def kM_fs : List (Option (Nat ⊕ Int32)) := [some (.inr 0), some (.inr 0), some (.inr 0), some (.inr (-1)), some (.inr 0), some (.inr 0), some (.inr 0), some (.inr 0), some (.inr 0), some (.inl 53), some (.inl 54), some (.inl 55), some (.inl 56), some (.inl 57), some (.inl 106), some (.inr 0), some (.inr 0), some (.inl 155), some (.inl 316), some (.inl 477), some (.inl 483), some (.inl 489), some (.inl 490), some (.inl 491), some (.inr 0), some (.inl 572), some (.inl 573), some (.inl 574), some (.inl 575), some (.inl 592), some (.inr 0), some (.inr 0), some (.inr 0), some (.inr 0), some (.inr 0), some (.inr 0), some (.inr 0), some (.inl 596), some (.inl 597), some (.inl 598), some (.inl 599), some (.inr 0), some (.inr 0), some (.inl 600), some (.inr 0)]
def kM_0 : List kd_D := []
def kM_1 : List kd_D := kM_0 ++ ([(13, 600, [])])
def kM_2 : List kd_D := kM_1 ++ ([(13, 2, [])])
def kM_3 : List kd_D := kM_2 ++ ([(13, 4, [])])
def kM_4 : List kd_D := kM_3 ++ ([(13, 4, [])])
def kM_5 : List kd_D := kM_4 ++ ((16, 48, [some (.inl 58)]) :: kr_rows 3 48)
def kM_6 : List kd_D := kM_5 ++ ((16, 48, [some (.inl 107)]) :: kr_rows 3 48)
def kM_7 : List kd_D := kM_6 ++ ((16, 160, [some (.inl 156)]) :: kr_rows 2 160)
def kM_8 : List kd_D := kM_7 ++ ((16, 160, [some (.inl 317)]) :: kr_rows 2 160)
def kM_9 : List kd_D := kM_8 ++ ((16, 5, [some (.inl 478)]) :: kr_rows 2 5)
def kM_10 : List kd_D := kM_9 ++ ((16, 5, [some (.inl 484)]) :: kr_rows 2 5)
def kM_11 : List kd_D := kM_10 ++ ([(13, 160, [])])
def kM_12 : List kd_D := kM_11 ++ ([(13, 7, [])])
def kM_13 : List kd_D := kM_12 ++ ((16, 80, [some (.inl 492)]) :: kr_rows 4 80)
def kM_14 : List kd_D := kM_13 ++ ([(13, 47, [])])
def kM_15 : List kd_D := kM_14 ++ ([(13, 47, [])])
def kM_16 : List kd_D := kM_15 ++ ([(13, 47, [])])
def kM_17 : List kd_D := kM_16 ++ ((16, 16, [some (.inl 576)]) :: kr_rows 47 16)
def kM_18 : List kd_D := kM_17 ++ ((16, 3, [some (.inl 593)]) :: kr_rows 800 3)
def kM_19 : List kd_D := kM_18 ++ ([(15, 8000, [])])
def kM_20 : List kd_D := kM_19 ++ ([(15, 8000, [])])
def kM_21 : List kd_D := kM_20 ++ ([(13, 5, [])])
def kM_22 : List kd_D := kM_21 ++ ([(13, 5, [])])
def kM_23 : List kd_D := kM_22 ++ ([(14, 14, [])])
def kS_i : hp_I := hp_s (hp_s (hp_s (hp_s (fun _ _ => 0) 1 5 (-1)) 42 7 32) 42 8 (-1)) 52 3 (-1)
def kT_i : hp_L := fun _ _ => 0
set_option maxRecDepth 100000 in
theorem kM_ok : ((kX_all ++ (12, 0, kM_fs) :: kM_23).zipIdx.all fun q => kd_ok kS_i q.2 q.1) = true := by decide +kernel
theorem kM_len : (kX_all ++ (12, 0, kM_fs) :: kM_23).length = 601 := by decide +kernel
theorem kS_0 : ∀ i, (sh_kd i = 13 ∨ sh_kd i = 15) → kS_i i = fun _ => 0 := by
  intro i h
  have h1 : i ≠ 1 := fun e => by subst e; rcases h with h | h <;> exact absurd h (by decide +kernel)
  have h2 : i ≠ 42 := fun e => by subst e; rcases h with h | h <;> exact absurd h (by decide +kernel)
  have h3 : i ≠ 52 := fun e => by subst e; rcases h with h | h <;> exact absurd h (by decide +kernel)
  unfold kS_i
  rw [hp_s_n h3, hp_s_n h2, hp_s_n h2, hp_s_n h1]
def fn_M_made (σ : hp_I) : Option hp_I := Option.bind (fn_M_tellsNothing 52 σ) fun s1 => Option.bind (fn_M_beginsAnew 52 s1) fun s2 => some s2
set_option maxHeartbeats 4000000 in
set_option maxRecDepth 100000 in
theorem ct_X12_init {G : wd_G} {l : Launch} (hN : gd_ok G) (hG1 : G.2.1 = 601) {σ1 : hp_I} (hr : fn_M_made kS_i = some σ1) : Met l yX12_init (Cond.code yX12_init cX12_init 1 none :: gw_tbl) (kr_R 3 548 21887) (va_Pc [.ref (wd_b G + 52)] (kl_P G (kX_all ++ [(12, 0, [some (.inr 0), some (.inr 0), some (.inr 0), some (.inr 0), some (.inr 0), some (.inr 0), some (.inr 0), some (.inr 0), some (.inr 0), none, none, none, none, none, none, some (.inr 0), some (.inr 0), none, none, none, none, none, none, none, some (.inr 0), none, none, none, none, none, some (.inr 0), some (.inr 0), some (.inr 0), some (.inr 0), some (.inr 0), some (.inr 0), some (.inr 0), none, none, none, none, some (.inr 0), some (.inr 0), none, some (.inr 0)])]))) (cl_Q G none σ1 kT_i) 548 21887 (wd_A G) := by
  refine kl_ofM (Qc := cl_Q G none σ1 kT_i) (lv0 := [(0, .ref (wd_b G + 52))]) (by decide) rfl (Nat.le_of_ble_eq_true rfl) rfl hN (fun M X _ C => ?_)
  have C : cx_C G M RX12 cX12_init 1 3 none := C
  obtain ⟨r0, er0⟩ : ∃ r0 : List kd_D, r0 = kM_0 := ⟨_, rfl⟩
  refine kn_ks (ks2 := kX_all ++ (12, 0, [some (.inr 0), some (.inr 0), some (.inr 0), some (.inr 0), some (.inr 0), some (.inr 0), some (.inr 0), some (.inr 0), some (.inr 0), none, none, none, none, none, none, some (.inr 0), some (.inr 0), none, none, none, none, none, none, none, some (.inr 0), none, none, none, none, none, some (.inr 0), some (.inr 0), some (.inr 0), some (.inr 0), some (.inr 0), some (.inr 0), some (.inr 0), none, none, none, none, some (.inr 0), some (.inr 0), none, some (.inr 0)]) :: r0) (by rw [er0]; rfl) ?_
  have hL0 : kX_all.length + (r0.length + 1) = 53 := by rw [er0, kX_len]; rfl
  refine kn_aload_n C dX12_init_0 rfl 0 rfl rfl ?_
  refine kn_obj C ko_all kol_X12_1 (by decide) dX12_init_1 (Nat.le_of_ble_eq_true rfl) rfl ?_
  refine kn_aload_n C dX12_init_4 rfl 0 rfl rfl ?_
  refine kn_iconst C dX12_init_5 ic_i_m1 rfl ?_
  refine kn_putZ (v := some (.inr (-1))) kX_len C X.2 kf_X12_9 (Nat.le_of_ble_eq_true rfl) rfl rfl rfl dX12_init_6 rfl ?_
  refine kn_aload_n C dX12_init_9 rfl 0 rfl rfl ?_
  refine kn_sipush C dX12_init_10 ic_s_600 rfl ?_
  refine kn_newaZ (kd := 13) (len := 600) hL0 C ka_int (Or.inl rfl) (by decide) (by decide) (by decide) (by rw [X.1]; exact Nat.le_of_ble_eq_true rfl) (by rw [X.1]; exact Nat.le_of_ble_eq_true rfl) dX12_init_13 rfl (fun r1 e1 hL1 => ?_)
  have er1 : r1 = kM_1 := by rw [e1, er0]; rfl
  clear e1
  refine kn_putZ (v := some (.inl 53)) kX_len C X.2 kf_X12_13 (Nat.le_of_ble_eq_true rfl) rfl rfl rfl dX12_init_15 rfl ?_
  refine kn_aload_n C dX12_init_18 rfl 0 rfl rfl ?_
  refine kn_iconst C dX12_init_19 ic_i_2 rfl ?_
  refine kn_newaZ (kd := 13) (len := 2) hL1 C ka_int (Or.inl rfl) (by decide) (by decide) (by decide) (by rw [X.1]; exact Nat.le_of_ble_eq_true rfl) (by rw [X.1]; exact Nat.le_of_ble_eq_true rfl) dX12_init_20 rfl (fun r2 e2 hL2 => ?_)
  have er2 : r2 = kM_2 := by rw [e2, er1]; rfl
  clear e2
  refine kn_putZ (v := some (.inl 54)) kX_len C X.2 kf_X12_17 (Nat.le_of_ble_eq_true rfl) rfl rfl rfl dX12_init_22 rfl ?_
  refine kn_aload_n C dX12_init_25 rfl 0 rfl rfl ?_
  refine kn_iconst C dX12_init_26 ic_i_4 rfl ?_
  refine kn_newaZ (kd := 13) (len := 4) hL2 C ka_int (Or.inl rfl) (by decide) (by decide) (by decide) (by rw [X.1]; exact Nat.le_of_ble_eq_true rfl) (by rw [X.1]; exact Nat.le_of_ble_eq_true rfl) dX12_init_27 rfl (fun r3 e3 hL3 => ?_)
  have er3 : r3 = kM_3 := by rw [e3, er2]; rfl
  clear e3
  refine kn_putZ (v := some (.inl 55)) kX_len C X.2 kf_X12_20 (Nat.le_of_ble_eq_true rfl) rfl rfl rfl dX12_init_29 rfl ?_
  refine kn_aload_n C dX12_init_32 rfl 0 rfl rfl ?_
  refine kn_iconst C dX12_init_33 ic_i_4 rfl ?_
  refine kn_newaZ (kd := 13) (len := 4) hL3 C ka_int (Or.inl rfl) (by decide) (by decide) (by decide) (by rw [X.1]; exact Nat.le_of_ble_eq_true rfl) (by rw [X.1]; exact Nat.le_of_ble_eq_true rfl) dX12_init_34 rfl (fun r4 e4 hL4 => ?_)
  have er4 : r4 = kM_4 := by rw [e4, er3]; rfl
  clear e4
  refine kn_putZ (v := some (.inl 56)) kX_len C X.2 kf_X12_23 (Nat.le_of_ble_eq_true rfl) rfl rfl rfl dX12_init_36 rfl ?_
  refine kn_aload_n C dX12_init_39 rfl 0 rfl rfl ?_
  refine kn_bipush C dX12_init_40 ic_b_48 rfl ?_
  refine kn_iconst C dX12_init_42 ic_i_3 rfl ?_
  refine kn_mnaZ (n' := 48) (k' := 3) hL4 C kq_X12_26 ka_over ka_int (by decide) (by decide) (by decide) (by decide) (by decide) (by rw [X.1]; exact Nat.le_of_ble_eq_true rfl) (by rw [X.1]; exact Nat.le_of_ble_eq_true rfl) dX12_init_43 rfl (fun r5 e5 hL5 => ?_)
  have er5 : r5 = kM_5 := by rw [e5, er4]; rfl
  clear e5
  refine kn_putZ (v := some (.inl 57)) kX_len C X.2 kf_X12_28 (Nat.le_of_ble_eq_true rfl) rfl rfl rfl dX12_init_47 rfl ?_
  refine kn_aload_n C dX12_init_50 rfl 0 rfl rfl ?_
  refine kn_bipush C dX12_init_51 ic_b_48 rfl ?_
  refine kn_iconst C dX12_init_53 ic_i_3 rfl ?_
  refine kn_mnaZ (n' := 48) (k' := 3) hL5 C kq_X12_26 ka_over ka_int (by decide) (by decide) (by decide) (by decide) (by decide) (by rw [X.1]; exact Nat.le_of_ble_eq_true rfl) (by rw [X.1]; exact Nat.le_of_ble_eq_true rfl) dX12_init_54 rfl (fun r6 e6 hL6 => ?_)
  have er6 : r6 = kM_6 := by rw [e6, er5]; rfl
  clear e6
  refine kn_putZ (v := some (.inl 106)) kX_len C X.2 kf_X12_31 (Nat.le_of_ble_eq_true rfl) rfl rfl rfl dX12_init_58 rfl ?_
  refine kn_aload_n C dX12_init_61 rfl 0 rfl rfl ?_
  refine kn_sipush C dX12_init_62 ic_s_160 rfl ?_
  refine kn_iconst C dX12_init_65 ic_i_2 rfl ?_
  refine kn_mnaZ (n' := 160) (k' := 2) hL6 C kq_X12_26 ka_over ka_int (by decide) (by decide) (by decide) (by decide) (by decide) (by rw [X.1]; exact Nat.le_of_ble_eq_true rfl) (by rw [X.1]; exact Nat.le_of_ble_eq_true rfl) dX12_init_66 rfl (fun r7 e7 hL7 => ?_)
  have er7 : r7 = kM_7 := by rw [e7, er6]; rfl
  clear e7
  refine kn_putZ (v := some (.inl 155)) kX_len C X.2 kf_X12_34 (Nat.le_of_ble_eq_true rfl) rfl rfl rfl dX12_init_70 rfl ?_
  refine kn_aload_n C dX12_init_73 rfl 0 rfl rfl ?_
  refine kn_sipush C dX12_init_74 ic_s_160 rfl ?_
  refine kn_iconst C dX12_init_77 ic_i_2 rfl ?_
  refine kn_mnaZ (n' := 160) (k' := 2) hL7 C kq_X12_26 ka_over ka_int (by decide) (by decide) (by decide) (by decide) (by decide) (by rw [X.1]; exact Nat.le_of_ble_eq_true rfl) (by rw [X.1]; exact Nat.le_of_ble_eq_true rfl) dX12_init_78 rfl (fun r8 e8 hL8 => ?_)
  have er8 : r8 = kM_8 := by rw [e8, er7]; rfl
  clear e8
  refine kn_putZ (v := some (.inl 316)) kX_len C X.2 kf_X12_37 (Nat.le_of_ble_eq_true rfl) rfl rfl rfl dX12_init_82 rfl ?_
  refine kn_aload_n C dX12_init_85 rfl 0 rfl rfl ?_
  refine kn_iconst C dX12_init_86 ic_i_5 rfl ?_
  refine kn_iconst C dX12_init_87 ic_i_2 rfl ?_
  refine kn_mnaZ (n' := 5) (k' := 2) hL8 C kq_X12_26 ka_over ka_int (by decide) (by decide) (by decide) (by decide) (by decide) (by rw [X.1]; exact Nat.le_of_ble_eq_true rfl) (by rw [X.1]; exact Nat.le_of_ble_eq_true rfl) dX12_init_88 rfl (fun r9 e9 hL9 => ?_)
  have er9 : r9 = kM_9 := by rw [e9, er8]; rfl
  clear e9
  refine kn_putZ (v := some (.inl 477)) kX_len C X.2 kf_X12_40 (Nat.le_of_ble_eq_true rfl) rfl rfl rfl dX12_init_92 rfl ?_
  refine kn_aload_n C dX12_init_95 rfl 0 rfl rfl ?_
  refine kn_iconst C dX12_init_96 ic_i_5 rfl ?_
  refine kn_iconst C dX12_init_97 ic_i_2 rfl ?_
  refine kn_mnaZ (n' := 5) (k' := 2) hL9 C kq_X12_26 ka_over ka_int (by decide) (by decide) (by decide) (by decide) (by decide) (by rw [X.1]; exact Nat.le_of_ble_eq_true rfl) (by rw [X.1]; exact Nat.le_of_ble_eq_true rfl) dX12_init_98 rfl (fun r10 e10 hL10 => ?_)
  have er10 : r10 = kM_10 := by rw [e10, er9]; rfl
  clear e10
  refine kn_putZ (v := some (.inl 483)) kX_len C X.2 kf_X12_43 (Nat.le_of_ble_eq_true rfl) rfl rfl rfl dX12_init_102 rfl ?_
  refine kn_aload_n C dX12_init_105 rfl 0 rfl rfl ?_
  refine kn_sipush C dX12_init_106 ic_s_160 rfl ?_
  refine kn_newaZ (kd := 13) (len := 160) hL10 C ka_int (Or.inl rfl) (by decide) (by decide) (by decide) (by rw [X.1]; exact Nat.le_of_ble_eq_true rfl) (by rw [X.1]; exact Nat.le_of_ble_eq_true rfl) dX12_init_109 rfl (fun r11 e11 hL11 => ?_)
  have er11 : r11 = kM_11 := by rw [e11, er10]; rfl
  clear e11
  refine kn_putZ (v := some (.inl 489)) kX_len C X.2 kf_X12_46 (Nat.le_of_ble_eq_true rfl) rfl rfl rfl dX12_init_111 rfl ?_
  refine kn_aload_n C dX12_init_114 rfl 0 rfl rfl ?_
  refine kn_bipush C dX12_init_115 ic_b_7 rfl ?_
  refine kn_newaZ (kd := 13) (len := 7) hL11 C ka_int (Or.inl rfl) (by decide) (by decide) (by decide) (by rw [X.1]; exact Nat.le_of_ble_eq_true rfl) (by rw [X.1]; exact Nat.le_of_ble_eq_true rfl) dX12_init_117 rfl (fun r12 e12 hL12 => ?_)
  have er12 : r12 = kM_12 := by rw [e12, er11]; rfl
  clear e12
  refine kn_putZ (v := some (.inl 490)) kX_len C X.2 kf_X12_49 (Nat.le_of_ble_eq_true rfl) rfl rfl rfl dX12_init_119 rfl ?_
  refine kn_aload_n C dX12_init_122 rfl 0 rfl rfl ?_
  refine kn_bipush C dX12_init_123 ic_b_80 rfl ?_
  refine kn_iconst C dX12_init_125 ic_i_4 rfl ?_
  refine kn_mnaZ (n' := 80) (k' := 4) hL12 C kq_X12_26 ka_over ka_int (by decide) (by decide) (by decide) (by decide) (by decide) (by rw [X.1]; exact Nat.le_of_ble_eq_true rfl) (by rw [X.1]; exact Nat.le_of_ble_eq_true rfl) dX12_init_126 rfl (fun r13 e13 hL13 => ?_)
  have er13 : r13 = kM_13 := by rw [e13, er12]; rfl
  clear e13
  refine kn_putZ (v := some (.inl 491)) kX_len C X.2 kf_X12_52 (Nat.le_of_ble_eq_true rfl) rfl rfl rfl dX12_init_130 rfl ?_
  refine kn_aload_n C dX12_init_133 rfl 0 rfl rfl ?_
  refine kn_bipush C dX12_init_134 ic_b_47 rfl ?_
  refine kn_newaZ (kd := 13) (len := 47) hL13 C ka_int (Or.inl rfl) (by decide) (by decide) (by decide) (by rw [X.1]; exact Nat.le_of_ble_eq_true rfl) (by rw [X.1]; exact Nat.le_of_ble_eq_true rfl) dX12_init_136 rfl (fun r14 e14 hL14 => ?_)
  have er14 : r14 = kM_14 := by rw [e14, er13]; rfl
  clear e14
  refine kn_putZ (v := some (.inl 572)) kX_len C X.2 kf_X12_55 (Nat.le_of_ble_eq_true rfl) rfl rfl rfl dX12_init_138 rfl ?_
  refine kn_aload_n C dX12_init_141 rfl 0 rfl rfl ?_
  refine kn_bipush C dX12_init_142 ic_b_47 rfl ?_
  refine kn_newaZ (kd := 13) (len := 47) hL14 C ka_int (Or.inl rfl) (by decide) (by decide) (by decide) (by rw [X.1]; exact Nat.le_of_ble_eq_true rfl) (by rw [X.1]; exact Nat.le_of_ble_eq_true rfl) dX12_init_144 rfl (fun r15 e15 hL15 => ?_)
  have er15 : r15 = kM_15 := by rw [e15, er14]; rfl
  clear e15
  refine kn_putZ (v := some (.inl 573)) kX_len C X.2 kf_X12_58 (Nat.le_of_ble_eq_true rfl) rfl rfl rfl dX12_init_146 rfl ?_
  refine kn_aload_n C dX12_init_149 rfl 0 rfl rfl ?_
  refine kn_bipush C dX12_init_150 ic_b_47 rfl ?_
  refine kn_newaZ (kd := 13) (len := 47) hL15 C ka_int (Or.inl rfl) (by decide) (by decide) (by decide) (by rw [X.1]; exact Nat.le_of_ble_eq_true rfl) (by rw [X.1]; exact Nat.le_of_ble_eq_true rfl) dX12_init_152 rfl (fun r16 e16 hL16 => ?_)
  have er16 : r16 = kM_16 := by rw [e16, er15]; rfl
  clear e16
  refine kn_putZ (v := some (.inl 574)) kX_len C X.2 kf_X12_61 (Nat.le_of_ble_eq_true rfl) rfl rfl rfl dX12_init_154 rfl ?_
  refine kn_aload_n C dX12_init_157 rfl 0 rfl rfl ?_
  refine kn_bipush C dX12_init_158 ic_b_16 rfl ?_
  refine kn_bipush C dX12_init_160 ic_b_47 rfl ?_
  refine kn_mnaZ (n' := 16) (k' := 47) hL16 C kq_X12_26 ka_over ka_int (by decide) (by decide) (by decide) (by decide) (by decide) (by rw [X.1]; exact Nat.le_of_ble_eq_true rfl) (by rw [X.1]; exact Nat.le_of_ble_eq_true rfl) dX12_init_162 rfl (fun r17 e17 hL17 => ?_)
  have er17 : r17 = kM_17 := by rw [e17, er16]; rfl
  clear e17
  refine kn_putZ (v := some (.inl 575)) kX_len C X.2 kf_X12_64 (Nat.le_of_ble_eq_true rfl) rfl rfl rfl dX12_init_166 rfl ?_
  refine kn_aload_n C dX12_init_169 rfl 0 rfl rfl ?_
  refine kn_iconst C dX12_init_170 ic_i_3 rfl ?_
  refine kn_sipush C dX12_init_171 ic_s_800 rfl ?_
  refine kn_mnaZ (n' := 3) (k' := 800) hL17 C kq_X12_26 ka_over ka_int (by decide) (by decide) (by decide) (by decide) (by decide) (by rw [X.1]; exact Nat.le_of_ble_eq_true rfl) (by rw [X.1]; exact Nat.le_of_ble_eq_true rfl) dX12_init_174 rfl (fun r18 e18 hL18 => ?_)
  have er18 : r18 = kM_18 := by rw [e18, er17]; rfl
  clear e18
  refine kn_putZ (v := some (.inl 592)) kX_len C X.2 kf_X12_67 (Nat.le_of_ble_eq_true rfl) rfl rfl rfl dX12_init_178 rfl ?_
  refine kn_aload_n C dX12_init_181 rfl 0 rfl rfl ?_
  refine kn_sipush C dX12_init_182 ic_s_8000 rfl ?_
  refine kn_newaZ (kd := 15) (len := 8000) hL18 C ka_boolean (Or.inr (Or.inr rfl)) (by decide) (by decide) (by decide) (by rw [X.1]; exact Nat.le_of_ble_eq_true rfl) (by rw [X.1]; exact Nat.le_of_ble_eq_true rfl) dX12_init_185 rfl (fun r19 e19 hL19 => ?_)
  have er19 : r19 = kM_19 := by rw [e19, er18]; rfl
  clear e19
  refine kn_putZ (v := some (.inl 596)) kX_len C X.2 kf_X12_70 (Nat.le_of_ble_eq_true rfl) rfl rfl rfl dX12_init_187 rfl ?_
  refine kn_aload_n C dX12_init_190 rfl 0 rfl rfl ?_
  refine kn_sipush C dX12_init_191 ic_s_8000 rfl ?_
  refine kn_newaZ (kd := 15) (len := 8000) hL19 C ka_boolean (Or.inr (Or.inr rfl)) (by decide) (by decide) (by decide) (by rw [X.1]; exact Nat.le_of_ble_eq_true rfl) (by rw [X.1]; exact Nat.le_of_ble_eq_true rfl) dX12_init_194 rfl (fun r20 e20 hL20 => ?_)
  have er20 : r20 = kM_20 := by rw [e20, er19]; rfl
  clear e20
  refine kn_putZ (v := some (.inl 597)) kX_len C X.2 kf_X12_74 (Nat.le_of_ble_eq_true rfl) rfl rfl rfl dX12_init_196 rfl ?_
  refine kn_aload_n C dX12_init_199 rfl 0 rfl rfl ?_
  refine kn_iconst C dX12_init_200 ic_i_5 rfl ?_
  refine kn_newaZ (kd := 13) (len := 5) hL20 C ka_int (Or.inl rfl) (by decide) (by decide) (by decide) (by rw [X.1]; exact Nat.le_of_ble_eq_true rfl) (by rw [X.1]; exact Nat.le_of_ble_eq_true rfl) dX12_init_201 rfl (fun r21 e21 hL21 => ?_)
  have er21 : r21 = kM_21 := by rw [e21, er20]; rfl
  clear e21
  refine kn_putZ (v := some (.inl 598)) kX_len C X.2 kf_X12_77 (Nat.le_of_ble_eq_true rfl) rfl rfl rfl dX12_init_203 rfl ?_
  refine kn_aload_n C dX12_init_206 rfl 0 rfl rfl ?_
  refine kn_iconst C dX12_init_207 ic_i_5 rfl ?_
  refine kn_newaZ (kd := 13) (len := 5) hL21 C ka_int (Or.inl rfl) (by decide) (by decide) (by decide) (by rw [X.1]; exact Nat.le_of_ble_eq_true rfl) (by rw [X.1]; exact Nat.le_of_ble_eq_true rfl) dX12_init_208 rfl (fun r22 e22 hL22 => ?_)
  have er22 : r22 = kM_22 := by rw [e22, er21]; rfl
  clear e22
  refine kn_putZ (v := some (.inl 599)) kX_len C X.2 kf_X12_80 (Nat.le_of_ble_eq_true rfl) rfl rfl rfl dX12_init_210 rfl ?_
  refine kn_aload_n C dX12_init_213 rfl 0 rfl rfl ?_
  refine kn_bipush C dX12_init_214 ic_b_14 rfl ?_
  refine kn_newaZ (kd := 14) (len := 14) hL22 C ka_long (Or.inr (Or.inl rfl)) (by decide) (by decide) (by decide) (by rw [X.1]; exact Nat.le_of_ble_eq_true rfl) (by rw [X.1]; exact Nat.le_of_ble_eq_true rfl) dX12_init_216 rfl (fun r23 e23 hL23 => ?_)
  have er23 : r23 = kM_23 := by rw [e23, er22]; rfl
  clear e23
  refine kn_putZ (v := some (.inl 600)) kX_len C X.2 kf_X12_83 (Nat.le_of_ble_eq_true rfl) rfl rfl rfl dX12_init_218 rfl ?_
  refine kn_aload_n C dX12_init_221 rfl 0 rfl rfl ?_
  refine kn_ks (ks2 := kX_all ++ (12, 0, kM_fs) :: kM_23) (by rw [er23]; rfl) ?_
  refine kn_dn (Q := fun s => kl_N G M 548 21887 (cl_Q G none s kT_i)) (kd_all (kM_len.trans hG1.symm) kM_ok kS_0 (fun _ => rfl)) hr ?_
  unfold fn_M_made
  refine dn_callV_h (As := []) (st := []) C (ok_M_tellsNothing (cx_g C) 52 k52_12 kS_i kT_i) mt_X12_tellsNothing mv_X12_tellsNothing lk_X12_87 (by decide) k52_12 rfl ⟨(by rw [X.1]; exact Nat.le_of_ble_eq_true rfl), (by rw [X.1]; exact Nat.le_of_ble_eq_true rfl)⟩ (Nat.le_of_ble_eq_true rfl) dX12_init_222 rfl rfl (fun s1 => ?_)
  refine dn_aload_n C dX12_init_225 rfl 0 rfl rfl ?_
  refine dn_callV_h (As := []) (st := []) C (ok_M_beginsAnew (cx_g C) 52 k52_12 s1 kT_i) mt_X12_beginsAnew mv_X12_beginsAnew lk_X12_90 (by decide) k52_12 rfl ⟨(by rw [X.1]; exact Nat.le_of_ble_eq_true rfl), (by rw [X.1]; exact Nat.le_of_ble_eq_true rfl)⟩ (Nat.le_of_ble_eq_true rfl) dX12_init_226 rfl rfl (fun s2 => ?_)
  exact kn_vretM C dX12_init_229 (by decide) (by decide)
