def ci_l2 (τ : hp_L) : Int64 × hp_I → Option Value × hp_I × hp_L := fun r => (some (.long r.1), r.2, τ)
theorem cs_ok {M : wd_M} {n u cells slots : Nat} (X : cx_X M n u) (h1 : cells ≤ u) (h2 : slots ≤ 6 * u) : cells ≤ (mx_R M).cells ∧ slots ≤ (mx_R M).slots := by
  rw [X.1]; exact ⟨h1, h2⟩
theorem dn_callX_h {G : wd_G} {M : wd_M} {own : String} {cc : ByteArray} {nL n u cells slots : Nat} {ret : Option FieldType} {ρ : Type} {pc q : Nat} {lv : List (Nat × Value)} {st : List Value} {σ : hp_I} {τ : hp_L} {y : MethodName} {cy : ByteArray} {ml : Nat} {I : ρ → Option Value × hp_I × hp_L} {n' u' na idx o ci : Nat} {ry : Option FieldType} {As st0 : List Value} {e0 : Option (px_X hp_I)} {f : hp_I → Option (px_X ρ)} (C : cx_C G M own cc nL n ret) (X : cx_X M n u) (K : cl_X G (mx_L M) n' u' y cy ml ry (.ref (wd_b G + o) :: As) σ τ (ci_h τ) e0) (hm : mt_ok y cy ml ry na) (hv : mt_v y ci) (hlk : Cond.methodLink own idx y ∈ gw_tbl) (hn : n' < n) (ho : sh_kd o = ci) (hna : As.length = na) (hc : cells + u' ≤ u) (hs : slots + 6 * u' ≤ 6 * u) (hcat : (st.map fun v => v.category).sum ≤ 8) (hd : decode cc pc = .ok (.invokevirtual idx, 3)) (hst : st0 = As.reverse ++ .ref (wd_b G + o) :: st) (hq : pc + 3 = q)
    (k : ∀ s : hp_I, dn_D G M nL (cells + u') (slots + 6 * u') (cm_X G M τ u I) q lv st s τ (f s)) : dn_D G M nL cells slots (cm_X G M τ u I) pc lv st0 σ τ (px_bx e0 f) := dn_callX C X K hm hv hlk hn ho hna hc hs hcat hd hst hq k
def fn_X_commonDivisor_L9   (k : Int64 → Option (Int64)) : Nat → Int64 → Int64 → Int32 → Option (Int64)
  | 0, _, _, _ => none
  | fu + 1, x4, x6, x8 =>
    if x8 < (100 : Int32) then (
      if (lg_cmp x6 (0 : Int64)) = 0 then (
        k x4
      ) else (
        Option.bind (px_lrm x4 x6) fun z4 =>
        px_let z4 fun v9_5 =>
        px_let x6 fun v4_6 =>
        px_let v9_5 fun v6_7 =>
        px_let (x8 + 1) fun v8_8 =>
        fn_X_commonDivisor_L9 k fu v4_6 v6_7 v8_8
      )
    ) else (
      k x4
    )
def fn_X_commonDivisor  (p1 : Int64) (p2 : Int64) : Option (Int64) :=
  px_let p1 fun v4_1 =>
  px_let p2 fun v6_2 =>
  px_let (0 : Int32) fun v8_3 =>
  fn_X_commonDivisor_L9 
    (fun (y_9 : Int64) =>
      some y_9
    )
    FU v4_1 v6_2 v8_3
set_option maxHeartbeats 4000000 in
set_option maxRecDepth 100000 in
theorem pf_X_commonDivisor_L9 {G : wd_G} {M : wd_M}  (C : cx_C G M RX11 cX11_commonDivisor 11 0 (some .long))  (σ : hp_I) (τ : hp_L) (k : Int64 → Option (Int64)) (hk : ∀ (y4 : Int64), dn_D G M 11 0 0 (cl_M G M (ci_l σ τ)) 44 [(4, .long y4)] [] σ τ (k y4)) : ∀ (fu : Nat) (x4 : Int64) (x6 : Int64) (x8 : Int32), dn_D G M 11 0 0 (cl_M G M (ci_l σ τ)) 9 [(4, .long x4), (6, .long x6), (8, .int x8)] [] σ τ (fn_X_commonDivisor_L9 k fu x4 x6 x8) := by
  intro fu
  induction fu with
  | zero => exact fun x4 x6 x8 => dn_none
  | succ fu ih =>
    intro x4 x6 x8
    unfold fn_X_commonDivisor_L9
    refine dn_iload C dX11_commonDivisor_9 2 rfl rfl ?_
    refine dn_bipush C dX11_commonDivisor_11 ic_b_100 rfl ?_
    refine dn_icmp_ge (t := 44) C dX11_commonDivisor_13 (by decide) rfl ?_ ?_
    · refine dn_lload C dX11_commonDivisor_16 1 rfl rfl ?_
      refine dn_lconst (v := 0) C dX11_commonDivisor_18 (by decide) rfl ?_
      refine dn_lcmp C dX11_commonDivisor_19 rfl ?_
      refine dn_if_eq (t := 44) C dX11_commonDivisor_20 (by decide) rfl ?_ ?_
      · refine dn_pick [0] rfl ?_
        exact hk x4
      · refine dn_lload C dX11_commonDivisor_23 0 rfl rfl ?_
        refine dn_lload C dX11_commonDivisor_25 1 rfl rfl ?_
        refine dn_lrem C dX11_commonDivisor_27 rfl (fun z4 => ?_)
        refine dn_lstore (lv0 := [(4, .long x4), (6, .long x6), (8, .int x8)]) C dX11_commonDivisor_28 (by decide) rfl rfl (fun v9_5 => ?_)
        refine dn_lload C dX11_commonDivisor_30 2 rfl rfl ?_
        refine dn_lstore (lv0 := [(9, .long v9_5), (6, .long x6), (8, .int x8)]) C dX11_commonDivisor_32 (by decide) rfl rfl (fun v4_6 => ?_)
        refine dn_lload C dX11_commonDivisor_34 1 rfl rfl ?_
        refine dn_lstore (lv0 := [(4, .long v4_6), (9, .long v9_5), (8, .int x8)]) C dX11_commonDivisor_36 (by decide) rfl rfl (fun v6_7 => ?_)
        refine dn_iinc (lv0 := [(6, .long v6_7), (4, .long v4_6), (9, .long v9_5)]) (v := x8 + 1) C dX11_commonDivisor_38 3 rfl rfl (by decide) rfl rfl (fun v8_8 => ?_)
        refine dn_goto (t := 9) C dX11_commonDivisor_41 (by decide) ?_
        refine dn_pick [2, 1, 0] rfl ?_
        exact ih v4_6 v6_7 v8_8
    · refine dn_pick [0] rfl ?_
      exact hk x4
set_option maxHeartbeats 4000000 in
set_option maxRecDepth 100000 in
theorem ok_X_commonDivisor {G : wd_G} {l : Launch} (hN : gd_ok G)  (p1 : Int64) (p2 : Int64) (σ : hp_I) (τ : hp_L) : cl_C G l 0 yX11_commonDivisor cX11_commonDivisor 11 (some .long) [.long p1, .long p2] σ τ (ci_l σ τ) (fn_X_commonDivisor p1 p2) := by
  refine cl_of (lv0 := [(0, .long p1), (2, .long p2)]) (ci_l σ τ) (by decide) (Nat.le_of_ble_eq_true rfl) rfl hN (fun M hM C => ?_)
  have C : cx_C G M RX11 cX11_commonDivisor 11 0 (some .long) := C
  unfold fn_X_commonDivisor
  refine dn_lload_n C dX11_commonDivisor_0 rfl 0 rfl rfl ?_
  refine dn_lstore (lv0 := [(0, .long p1), (2, .long p2)]) C dX11_commonDivisor_1 (by decide) rfl rfl (fun v4_1 => ?_)
  refine dn_lload_n C dX11_commonDivisor_3 rfl 2 rfl rfl ?_
  refine dn_lstore (lv0 := [(4, .long v4_1), (0, .long p1), (2, .long p2)]) C dX11_commonDivisor_4 (by decide) rfl rfl (fun v6_2 => ?_)
  refine dn_iconst C dX11_commonDivisor_6 ic_i_0 rfl ?_
  refine dn_istore (lv0 := [(6, .long v6_2), (4, .long v4_1), (0, .long p1), (2, .long p2)]) C dX11_commonDivisor_7 (by decide) rfl rfl (fun v8_3 => ?_)
  refine dn_pick [2, 1, 0] rfl ?_
  refine pf_X_commonDivisor_L9  C   σ τ _ (fun y_9 => ?_) FU v4_1 v6_2 v8_3
  refine dn_lload C dX11_commonDivisor_44 0 rfl rfl ?_
  exact dn_lret C dX11_commonDivisor_46 rfl
def fn_X_gain  (p1 : Int32) (p2 : Int32) (p3 : Int32) (p4 : Int32) : Option (Int32) :=
  px_jn (fun (t1 : Int32) =>
    px_jn (fun (t2 : Int32) =>
      some (t1 - t2)
    ) fun j3 =>
      if p3 = 0 then (
        j3 p2
      ) else (
        j3 (0 : Int32)
      )
  ) fun j4 =>
    if p4 = 0 then (
      j4 p1
    ) else (
      j4 (0 : Int32)
    )
set_option maxHeartbeats 4000000 in
set_option maxRecDepth 100000 in
theorem ok_X_gain {G : wd_G} {l : Launch} (hN : gd_ok G)  (p1 : Int32) (p2 : Int32) (p3 : Int32) (p4 : Int32) (σ : hp_I) (τ : hp_L) : cl_C G l 0 yX11_gain cX11_gain 4 (some .int) [.int p1, .int p2, .int p3, .int p4] σ τ (ci_i σ τ) (fn_X_gain p1 p2 p3 p4) := by
  refine cl_of (lv0 := [(0, .int p1), (1, .int p2), (2, .int p3), (3, .int p4)]) (ci_i σ τ) (by decide) (Nat.le_of_ble_eq_true rfl) rfl hN (fun M hM C => ?_)
  have C : cx_C G M RX11 cX11_gain 4 0 (some .int) := C
  unfold fn_X_gain
  refine dn_iload_n C dX11_gain_0 rfl 3 rfl rfl ?_
  refine dn_jn (fun z => ∀ (t1 : Int32), dn_D G M 4 0 0 (cl_M G M (ci_i σ τ)) 9 [(1, .int p2), (2, .int p3)] [.int t1] σ τ (z t1)) (fun t1 => ?_) (fun j4 hj4 => ?_)
  · refine dn_iload_n C dX11_gain_9 rfl 1 rfl rfl ?_
    refine dn_jn (fun z => ∀ (t2 : Int32), dn_D G M 4 0 0 (cl_M G M (ci_i σ τ)) 18 [] [.int t2, .int t1] σ τ (z t2)) (fun t2 => ?_) (fun j3 hj3 => ?_)
    · refine dn_isub C dX11_gain_18 rfl ?_
      exact dn_iret C dX11_gain_19 rfl
    · refine dn_if_ne (t := 17) C dX11_gain_10 (by decide) rfl ?_ ?_
      · refine dn_iload_n C dX11_gain_13 rfl 0 rfl rfl ?_
        refine dn_goto (t := 18) C dX11_gain_14 (by decide) ?_
        refine dn_pick [] rfl ?_
        exact hj3 p2
      · refine dn_iconst C dX11_gain_17 ic_i_0 rfl ?_
        refine dn_pick [] rfl ?_
        exact hj3 (0 : Int32)
  · refine dn_if_ne (t := 8) C dX11_gain_1 (by decide) rfl ?_ ?_
    · refine dn_iload_n C dX11_gain_4 rfl 0 rfl rfl ?_
      refine dn_goto (t := 9) C dX11_gain_5 (by decide) ?_
      refine dn_pick [1, 2] rfl ?_
      exact hj4 p1
    · refine dn_iconst C dX11_gain_8 ic_i_0 rfl ?_
      refine dn_pick [1, 2] rfl ?_
      exact hj4 (0 : Int32)
def fn_X_power_L5  (a0 : Int32) (a1 : Int32) (k : Int64 → Option (Int64)) : Nat → Int64 → Int32 → Option (Int64)
  | 0, _, _ => none
  | fu + 1, x2, x4 =>
    if x4 < a1 then (
      px_let (x2 * a0.toInt64) fun v2_3 =>
      px_let (x4 + 1) fun v4_4 =>
      fn_X_power_L5 a0 a1 k fu v2_3 v4_4
    ) else (
      k x2
    )
def fn_X_power  (p1 : Int32) (p2 : Int32) : Option (Int64) :=
  px_let (1 : Int64) fun v2_1 =>
  px_let (0 : Int32) fun v4_2 =>
  fn_X_power_L5 p1 p2
    (fun (y_5 : Int64) =>
      some y_5
    )
    FU v2_1 v4_2
set_option maxHeartbeats 4000000 in
set_option maxRecDepth 100000 in
theorem pf_X_power_L5 {G : wd_G} {M : wd_M}  (C : cx_C G M RX11 cX11_power 5 0 (some .long)) (a0 : Int32) (a1 : Int32) (σ : hp_I) (τ : hp_L) (k : Int64 → Option (Int64)) (hk : ∀ (y2 : Int64), dn_D G M 5 0 0 (cl_M G M (ci_l σ τ)) 22 [(2, .long y2)] [] σ τ (k y2)) : ∀ (fu : Nat) (x2 : Int64) (x4 : Int32), dn_D G M 5 0 0 (cl_M G M (ci_l σ τ)) 5 [(0, .int a0), (1, .int a1), (2, .long x2), (4, .int x4)] [] σ τ (fn_X_power_L5 a0 a1 k fu x2 x4) := by
  intro fu
  induction fu with
  | zero => exact fun x2 x4 => dn_none
  | succ fu ih =>
    intro x2 x4
    unfold fn_X_power_L5
    refine dn_iload C dX11_power_5 3 rfl rfl ?_
    refine dn_iload_n C dX11_power_7 rfl 1 rfl rfl ?_
    refine dn_icmp_ge (t := 22) C dX11_power_8 (by decide) rfl ?_ ?_
    · refine dn_lload_n C dX11_power_11 rfl 2 rfl rfl ?_
      refine dn_iload_n C dX11_power_12 rfl 0 rfl rfl ?_
      refine dn_i2l C dX11_power_13 rfl ?_
      refine dn_lmul C dX11_power_14 rfl ?_
      refine dn_lstore_n (lv0 := [(0, .int a0), (1, .int a1), (4, .int x4)]) C dX11_power_15 rfl (by decide) rfl rfl (fun v2_3 => ?_)
      refine dn_iinc (lv0 := [(2, .long v2_3), (0, .int a0), (1, .int a1)]) (v := x4 + 1) C dX11_power_16 3 rfl rfl (by decide) rfl rfl (fun v4_4 => ?_)
      refine dn_goto (t := 5) C dX11_power_19 (by decide) ?_
      refine dn_pick [2, 3, 1, 0] rfl ?_
      exact ih v2_3 v4_4
    · refine dn_pick [2] rfl ?_
      exact hk x2
set_option maxHeartbeats 4000000 in
set_option maxRecDepth 100000 in
theorem ok_X_power {G : wd_G} {l : Launch} (hN : gd_ok G)  (p1 : Int32) (p2 : Int32) (σ : hp_I) (τ : hp_L) : cl_C G l 0 yX11_power cX11_power 5 (some .long) [.int p1, .int p2] σ τ (ci_l σ τ) (fn_X_power p1 p2) := by
  refine cl_of (lv0 := [(0, .int p1), (1, .int p2)]) (ci_l σ τ) (by decide) (Nat.le_of_ble_eq_true rfl) rfl hN (fun M hM C => ?_)
  have C : cx_C G M RX11 cX11_power 5 0 (some .long) := C
  unfold fn_X_power
  refine dn_lconst (v := 1) C dX11_power_0 (by decide) rfl ?_
  refine dn_lstore_n (lv0 := [(0, .int p1), (1, .int p2)]) C dX11_power_1 rfl (by decide) rfl rfl (fun v2_1 => ?_)
  refine dn_iconst C dX11_power_2 ic_i_0 rfl ?_
  refine dn_istore (lv0 := [(2, .long v2_1), (0, .int p1), (1, .int p2)]) C dX11_power_3 (by decide) rfl rfl (fun v4_2 => ?_)
  refine dn_pick [2, 3, 1, 0] rfl ?_
  refine pf_X_power_L5  C  p1 p2 σ τ _ (fun y_5 => ?_) FU v2_1 v4_2
  refine dn_lload_n C dX11_power_22 rfl 0 rfl rfl ?_
  exact dn_lret C dX11_power_23 rfl
def fn_X_status  (o : Nat) (p1 : Int32) (σ : hp_I) : Option (Int32) :=
  px_sw p1 [
    ((0 : Int32), (
      some (σ o 14)
    )),
    ((1 : Int32), (
      some (σ o 15)
    ))
  ] (
    some (-1 : Int32)
  )
set_option maxHeartbeats 4000000 in
set_option maxRecDepth 100000 in
theorem ok_X_status {G : wd_G} {l : Launch} (hN : gd_ok G)  (o : Nat) (ho : sh_kd o = 11) (p1 : Int32) (σ : hp_I) (τ : hp_L) : cl_C G l 0 yX11_status cX11_status 2 (some .int) [.ref (wd_b G + o), .int p1] σ τ (ci_i σ τ) (fn_X_status o p1 σ) := by
  refine cl_of (lv0 := [(0, .ref (wd_b G + o)), (1, .int p1)]) (ci_i σ τ) (by decide) (Nat.le_of_ble_eq_true rfl) rfl hN (fun M hM C => ?_)
  have C : cx_C G M RX11 cX11_status 2 0 (some .int) := C
  unfold fn_X_status
  refine dn_iload_n C dX11_status_0 rfl 1 rfl rfl ?_
  refine dn_look (t0 := 38) _ C dX11_status_1 (by decide) (by decide) ?_ ⟨⟨28, by decide, by decide, ?_⟩, ⟨33, by decide, by decide, ?_⟩, trivial⟩
  · refine dn_iconst C dX11_status_38 ic_i_m1 rfl ?_
    exact dn_iret C dX11_status_39 rfl
  · refine dn_aload_n C dX11_status_28 rfl 0 rfl rfl ?_
    refine dn_getI C fd_X11_369 ho dX11_status_29 rfl ?_
    exact dn_iret C dX11_status_32 rfl
  · refine dn_aload_n C dX11_status_33 rfl 0 rfl rfl ?_
    refine dn_getI C fd_X11_372 ho dX11_status_34 rfl ?_
    exact dn_iret C dX11_status_37 rfl
def fn_X_count  (o : Nat) (p1 : Int32) (σ : hp_I) : Option (Int32) :=
  px_sw p1 [
    ((0 : Int32), (
      some (σ (sh_rf o 8) 1)
    )),
    ((1 : Int32), (
      Option.bind (fn_Tape_bytesOnIt (sh_rf o 0) σ) fun z1 =>
      some z1
    )),
    ((2 : Int32), (
      some (σ (sh_rf o 8) 0)
    ))
  ] (
    some (-1 : Int32)
  )
set_option maxHeartbeats 4000000 in
set_option maxRecDepth 100000 in
theorem ok_X_count {G : wd_G} {l : Launch} (hN : gd_ok G)  (o : Nat) (ho : sh_kd o = 11) (p1 : Int32) (σ : hp_I) (τ : hp_L) : cl_C G l 1 yX11_count cX11_count 2 (some .int) [.ref (wd_b G + o), .int p1] σ τ (ci_i σ τ) (fn_X_count o p1 σ) := by
  refine cl_of (lv0 := [(0, .ref (wd_b G + o)), (1, .int p1)]) (ci_i σ τ) (by decide) (Nat.le_of_ble_eq_true rfl) rfl hN (fun M hM C => ?_)
  have C : cx_C G M RX11 cX11_count 2 1 (some .int) := C
  unfold fn_X_count
  refine dn_iload_n C dX11_count_0 rfl 1 rfl rfl ?_
  refine dn_table (t0 := 52) _ C dX11_count_1 (by decide) rfl ?_ ⟨⟨27, 28, by decide, rfl, by decide, ?_⟩, ⟨35, 36, by decide, rfl, by decide, ?_⟩, ⟨43, 44, by decide, rfl, by decide, ?_⟩, trivial⟩
  · refine dn_iconst C dX11_count_52 ic_i_m1 rfl ?_
    exact dn_iret C dX11_count_53 rfl
  · refine dn_aload_n C dX11_count_28 rfl 0 rfl rfl ?_
    refine dn_getR C fd_X11_62 ho dX11_count_29 rfl ?_
    refine dn_getI C fd_X11_363 (kt_11_8 ho) dX11_count_32 rfl ?_
    exact dn_iret C dX11_count_35 rfl
  · refine dn_aload_n C dX11_count_36 rfl 0 rfl rfl ?_
    refine dn_getR C fd_X11_10 ho dX11_count_37 rfl ?_
    refine dn_callV_i (As := []) (st := []) C (ok_Tape_bytesOnIt (cx_g C) (sh_rf o 0) (kt_11_0 ho) σ τ) mt_X10_bytesOnIt mv_X10_bytesOnIt lk_X11_104 (by decide) (kt_11_0 ho) rfl ⟨Nat.zero_le _, Nat.zero_le _⟩ (Nat.le_of_ble_eq_true rfl) dX11_count_40 rfl rfl (fun z1 => ?_)
    exact dn_iret C dX11_count_43 rfl
  · refine dn_aload_n C dX11_count_44 rfl 0 rfl rfl ?_
    refine dn_getR C fd_X11_62 ho dX11_count_45 rfl ?_
    refine dn_getI C fd_X11_179 (kt_11_8 ho) dX11_count_48 rfl ?_
    exact dn_iret C dX11_count_51 rfl
def fn_X_fault  (o : Nat) (σ : hp_I) : Option (Int32) :=
  Option.bind (fn_Tape_faultPlace (sh_rf o 0) σ) fun z1 =>
  some z1
set_option maxHeartbeats 4000000 in
set_option maxRecDepth 100000 in
theorem ok_X_fault {G : wd_G} {l : Launch} (hN : gd_ok G)  (o : Nat) (ho : sh_kd o = 11) (σ : hp_I) (τ : hp_L) : cl_C G l 1 yX11_fault cX11_fault 1 (some .int) [.ref (wd_b G + o)] σ τ (ci_i σ τ) (fn_X_fault o σ) := by
  refine cl_of (lv0 := [(0, .ref (wd_b G + o))]) (ci_i σ τ) (by decide) (Nat.le_of_ble_eq_true rfl) rfl hN (fun M hM C => ?_)
  have C : cx_C G M RX11 cX11_fault 1 1 (some .int) := C
  unfold fn_X_fault
  refine dn_aload_n C dX11_fault_0 rfl 0 rfl rfl ?_
  refine dn_getR C fd_X11_10 ho dX11_fault_1 rfl ?_
  refine dn_callV_i (As := []) (st := []) C (ok_Tape_faultPlace (cx_g C) (sh_rf o 0) (kt_11_0 ho) σ τ) mt_X10_faultPlace mv_X10_faultPlace lk_X11_172 (by decide) (kt_11_0 ho) rfl ⟨Nat.zero_le _, Nat.zero_le _⟩ (Nat.le_of_ble_eq_true rfl) dX11_fault_4 rfl rfl (fun z1 => ?_)
  exact dn_iret C dX11_fault_7 rfl
def fn_X_feed  (o : Nat) (p1 : Int32) (p2 : Int32) (p3 : Int32) (p4 : Int32) (p5 : Int32) (σ : hp_I) : Option (Int32 × hp_I) :=
  Option.bind (fn_Tape_hasRoomForFive (sh_rf o 0) σ) fun z1 =>
  if z1 = 0 then (
    some ((-1 : Int32), σ)
  ) else (
    Option.bind (fn_Tape_put (sh_rf o 0) p1 σ) fun s3 =>
    Option.bind (fn_Tape_put (sh_rf o 0) p2 s3) fun s5 =>
    Option.bind (fn_Tape_put (sh_rf o 0) p3 s5) fun s7 =>
    Option.bind (fn_Tape_put (sh_rf o 0) p4 s7) fun s9 =>
    Option.bind (fn_Tape_put (sh_rf o 0) p5 s9) fun s11 =>
    Option.bind (fn_Tape_bytesOnIt (sh_rf o 0) s11) fun z12 =>
    some (z12, s11)
  )
set_option maxHeartbeats 4000000 in
set_option maxRecDepth 100000 in
theorem ok_X_feed {G : wd_G} {l : Launch} (hN : gd_ok G)  (o : Nat) (ho : sh_kd o = 11) (p1 : Int32) (p2 : Int32) (p3 : Int32) (p4 : Int32) (p5 : Int32) (σ : hp_I) (τ : hp_L) : cl_C G l 1 yX11_feed cX11_feed 6 (some .int) [.ref (wd_b G + o), .int p1, .int p2, .int p3, .int p4, .int p5] σ τ (ci_ih τ) (fn_X_feed o p1 p2 p3 p4 p5 σ) := by
  refine cl_of (lv0 := [(0, .ref (wd_b G + o)), (1, .int p1), (2, .int p2), (3, .int p3), (4, .int p4), (5, .int p5)]) (ci_ih τ) (by decide) (Nat.le_of_ble_eq_true rfl) rfl hN (fun M hM C => ?_)
  have C : cx_C G M RX11 cX11_feed 6 1 (some .int) := C
  unfold fn_X_feed
  refine dn_aload_n C dX11_feed_0 rfl 0 rfl rfl ?_
  refine dn_getR C fd_X11_10 ho dX11_feed_1 rfl ?_
  refine dn_callV_i (As := []) (st := []) C (ok_Tape_hasRoomForFive (cx_g C) (sh_rf o 0) (kt_11_0 ho) σ τ) mt_X10_hasRoomForFive mv_X10_hasRoomForFive lk_X11_96 (by decide) (kt_11_0 ho) rfl ⟨Nat.zero_le _, Nat.zero_le _⟩ (Nat.le_of_ble_eq_true rfl) dX11_feed_4 rfl rfl (fun z1 => ?_)
  refine dn_if_ne (t := 12) C dX11_feed_7 (by decide) rfl ?_ ?_
  · refine dn_iconst C dX11_feed_10 ic_i_m1 rfl ?_
    exact dn_iret C dX11_feed_11 rfl
  · refine dn_aload_n C dX11_feed_12 rfl 0 rfl rfl ?_
    refine dn_getR C fd_X11_10 ho dX11_feed_13 rfl ?_
    refine dn_iload_n C dX11_feed_16 rfl 1 rfl rfl ?_
    refine dn_callV_h (As := [.int p1]) (st := []) C (ok_Tape_put (cx_g C) (sh_rf o 0) (kt_11_0 ho) p1 σ τ) mt_X10_put mv_X10_put lk_X11_100 (by decide) (kt_11_0 ho) rfl ⟨Nat.zero_le _, Nat.zero_le _⟩ (Nat.le_of_ble_eq_true rfl) dX11_feed_17 rfl rfl (fun s3 => ?_)
    refine dn_aload_n C dX11_feed_20 rfl 0 rfl rfl ?_
    refine dn_getR C fd_X11_10 ho dX11_feed_21 rfl ?_
    refine dn_iload_n C dX11_feed_24 rfl 2 rfl rfl ?_
    refine dn_callV_h (As := [.int p2]) (st := []) C (ok_Tape_put (cx_g C) (sh_rf o 0) (kt_11_0 ho) p2 s3 τ) mt_X10_put mv_X10_put lk_X11_100 (by decide) (kt_11_0 ho) rfl ⟨Nat.zero_le _, Nat.zero_le _⟩ (Nat.le_of_ble_eq_true rfl) dX11_feed_25 rfl rfl (fun s5 => ?_)
    refine dn_aload_n C dX11_feed_28 rfl 0 rfl rfl ?_
    refine dn_getR C fd_X11_10 ho dX11_feed_29 rfl ?_
    refine dn_iload_n C dX11_feed_32 rfl 3 rfl rfl ?_
    refine dn_callV_h (As := [.int p3]) (st := []) C (ok_Tape_put (cx_g C) (sh_rf o 0) (kt_11_0 ho) p3 s5 τ) mt_X10_put mv_X10_put lk_X11_100 (by decide) (kt_11_0 ho) rfl ⟨Nat.zero_le _, Nat.zero_le _⟩ (Nat.le_of_ble_eq_true rfl) dX11_feed_33 rfl rfl (fun s7 => ?_)
    refine dn_aload_n C dX11_feed_36 rfl 0 rfl rfl ?_
    refine dn_getR C fd_X11_10 ho dX11_feed_37 rfl ?_
    refine dn_iload C dX11_feed_40 4 rfl rfl ?_
    refine dn_callV_h (As := [.int p4]) (st := []) C (ok_Tape_put (cx_g C) (sh_rf o 0) (kt_11_0 ho) p4 s7 τ) mt_X10_put mv_X10_put lk_X11_100 (by decide) (kt_11_0 ho) rfl ⟨Nat.zero_le _, Nat.zero_le _⟩ (Nat.le_of_ble_eq_true rfl) dX11_feed_42 rfl rfl (fun s9 => ?_)
    refine dn_aload_n C dX11_feed_45 rfl 0 rfl rfl ?_
    refine dn_getR C fd_X11_10 ho dX11_feed_46 rfl ?_
    refine dn_iload C dX11_feed_49 5 rfl rfl ?_
    refine dn_callV_h (As := [.int p5]) (st := []) C (ok_Tape_put (cx_g C) (sh_rf o 0) (kt_11_0 ho) p5 s9 τ) mt_X10_put mv_X10_put lk_X11_100 (by decide) (kt_11_0 ho) rfl ⟨Nat.zero_le _, Nat.zero_le _⟩ (Nat.le_of_ble_eq_true rfl) dX11_feed_51 rfl rfl (fun s11 => ?_)
    refine dn_aload_n C dX11_feed_54 rfl 0 rfl rfl ?_
    refine dn_getR C fd_X11_10 ho dX11_feed_55 rfl ?_
    refine dn_callV_i (As := []) (st := []) C (ok_Tape_bytesOnIt (cx_g C) (sh_rf o 0) (kt_11_0 ho) s11 τ) mt_X10_bytesOnIt mv_X10_bytesOnIt lk_X11_104 (by decide) (kt_11_0 ho) rfl ⟨Nat.zero_le _, Nat.zero_le _⟩ (Nat.le_of_ble_eq_true rfl) dX11_feed_58 rfl rfl (fun z12 => ?_)
    exact dn_iret C dX11_feed_61 rfl
def fn_X_givenBelow_L5  (a0 : Nat) (a1 : Int32) (a2 : Int32) (σ : hp_I) (k : Int32 → Option (Int32)) : Nat → Int32 → Int32 → Option (Int32)
  | 0, _, _ => none
  | fu + 1, x3, x4 =>
    if x4 < (σ (sh_rf a0 1) 2) then (
      px_jn (fun (a3_3 : Int32) =>
        px_let (x4 + 1) fun v4_4 =>
        fn_X_givenBelow_L5 a0 a1 a2 σ k fu a3_3 v4_4
      ) fun j5 =>
        if ((a1 >>> (x4 &&& 31)) &&& (1 : Int32)) = (1 : Int32) then (
          Option.bind (fn_State_size (sh_rf a0 6) x4 σ) fun z6 =>
          px_let (x3 + (px_min z6 a2)) fun v3_7 =>
          j5 v3_7
        ) else (
          j5 x3
        )
    ) else (
      k x3
    )
def fn_X_givenBelow  (o : Nat) (p1 : Int32) (p2 : Int32) (σ : hp_I) : Option (Int32) :=
  px_let (0 : Int32) fun v3_1 =>
  px_let (0 : Int32) fun v4_2 =>
  fn_X_givenBelow_L5 o p1 p2 σ
    (fun (y_8 : Int32) =>
      some y_8
    )
    FU v3_1 v4_2
set_option maxHeartbeats 4000000 in
set_option maxRecDepth 100000 in
theorem pf_X_givenBelow_L5 {G : wd_G} {M : wd_M}  (C : cx_C G M RX11 cX11_givenBelow 5 1 (some .int)) (a0 : Nat) (ha0 : sh_kd a0 = 11) (a1 : Int32) (a2 : Int32) (σ : hp_I) (τ : hp_L) (k : Int32 → Option (Int32)) (hk : ∀ (y3 : Int32), dn_D G M 5 0 0 (cl_M G M (ci_i σ τ)) 49 [(3, .int y3)] [] σ τ (k y3)) : ∀ (fu : Nat) (x3 : Int32) (x4 : Int32), dn_D G M 5 0 0 (cl_M G M (ci_i σ τ)) 5 [(0, .ref (wd_b G + a0)), (1, .int a1), (2, .int a2), (3, .int x3), (4, .int x4)] [] σ τ (fn_X_givenBelow_L5 a0 a1 a2 σ k fu x3 x4) := by
  intro fu
  induction fu with
  | zero => exact fun x3 x4 => dn_none
  | succ fu ih =>
    intro x3 x4
    unfold fn_X_givenBelow_L5
    refine dn_iload C dX11_givenBelow_5 4 rfl rfl ?_
    refine dn_aload_n C dX11_givenBelow_7 rfl 0 rfl rfl ?_
    refine dn_getR C fd_X11_19 ha0 dX11_givenBelow_8 rfl ?_
    refine dn_getI C fd_X11_137 (kt_11_1 ha0) dX11_givenBelow_11 rfl ?_
    refine dn_icmp_ge (t := 49) C dX11_givenBelow_14 (by decide) rfl ?_ ?_
    · refine dn_iload_n C dX11_givenBelow_17 rfl 1 rfl rfl ?_
      refine dn_iload C dX11_givenBelow_18 4 rfl rfl ?_
      refine dn_ishr C dX11_givenBelow_20 rfl ?_
      refine dn_iconst C dX11_givenBelow_21 ic_i_1 rfl ?_
      refine dn_iand C dX11_givenBelow_22 rfl ?_
      refine dn_iconst C dX11_givenBelow_23 ic_i_1 rfl ?_
      refine dn_jn (fun z => ∀ (a3_3 : Int32), dn_D G M 5 0 0 (cl_M G M (ci_i σ τ)) 43 [(0, .ref (wd_b G + a0)), (1, .int a1), (2, .int a2), (3, .int a3_3), (4, .int x4)] [] σ τ (z a3_3)) (fun a3_3 => ?_) (fun j5 hj5 => ?_)
      · refine dn_iinc (lv0 := [(0, .ref (wd_b G + a0)), (1, .int a1), (2, .int a2), (3, .int a3_3)]) (v := x4 + 1) C dX11_givenBelow_43 4 rfl rfl (by decide) rfl rfl (fun v4_4 => ?_)
        refine dn_goto (t := 5) C dX11_givenBelow_46 (by decide) ?_
        refine dn_pick [1, 2, 3, 4, 0] rfl ?_
        exact ih a3_3 v4_4
      · refine dn_icmp_ne (t := 43) C dX11_givenBelow_24 (by decide) rfl ?_ ?_
        · refine dn_iload_n C dX11_givenBelow_27 rfl 3 rfl rfl ?_
          refine dn_aload_n C dX11_givenBelow_28 rfl 0 rfl rfl ?_
          refine dn_getR C fd_X11_52 ha0 dX11_givenBelow_29 rfl ?_
          refine dn_iload C dX11_givenBelow_32 4 rfl rfl ?_
          refine dn_callV_i (As := [.int x4]) (st := [.int x3]) C (ok_State_size (cx_g C) (sh_rf a0 6) (kt_11_6 ha0) x4 σ τ) mt_X8_size mv_X8_size lk_X11_236 (by decide) (kt_11_6 ha0) rfl ⟨Nat.zero_le _, Nat.zero_le _⟩ (Nat.le_of_ble_eq_true rfl) dX11_givenBelow_34 rfl rfl (fun z6 => ?_)
          refine dn_iload_n C dX11_givenBelow_37 rfl 2 rfl rfl ?_
          refine dn_min C mm_all lk_X11_333 (by decide) ⟨Nat.zero_le _, Nat.zero_le _⟩ (Nat.le_of_ble_eq_true rfl) dX11_givenBelow_38 rfl ?_
          refine dn_iadd C dX11_givenBelow_41 rfl ?_
          refine dn_istore_n (lv0 := [(0, .ref (wd_b G + a0)), (1, .int a1), (2, .int a2), (4, .int x4)]) C dX11_givenBelow_42 rfl (by decide) rfl rfl (fun v3_7 => ?_)
          refine dn_pick [1, 2, 3, 0, 4] rfl ?_
          exact hj5 v3_7
        · exact hj5 x3
    · refine dn_pick [3] rfl ?_
      exact hk x3
set_option maxHeartbeats 4000000 in
set_option maxRecDepth 100000 in
theorem ok_X_givenBelow {G : wd_G} {l : Launch} (hN : gd_ok G)  (o : Nat) (ho : sh_kd o = 11) (p1 : Int32) (p2 : Int32) (σ : hp_I) (τ : hp_L) : cl_C G l 1 yX11_givenBelow cX11_givenBelow 5 (some .int) [.ref (wd_b G + o), .int p1, .int p2] σ τ (ci_i σ τ) (fn_X_givenBelow o p1 p2 σ) := by
  refine cl_of (lv0 := [(0, .ref (wd_b G + o)), (1, .int p1), (2, .int p2)]) (ci_i σ τ) (by decide) (Nat.le_of_ble_eq_true rfl) rfl hN (fun M hM C => ?_)
  have C : cx_C G M RX11 cX11_givenBelow 5 1 (some .int) := C
  unfold fn_X_givenBelow
  refine dn_iconst C dX11_givenBelow_0 ic_i_0 rfl ?_
  refine dn_istore_n (lv0 := [(0, .ref (wd_b G + o)), (1, .int p1), (2, .int p2)]) C dX11_givenBelow_1 rfl (by decide) rfl rfl (fun v3_1 => ?_)
  refine dn_iconst C dX11_givenBelow_2 ic_i_0 rfl ?_
  refine dn_istore (lv0 := [(3, .int v3_1), (0, .ref (wd_b G + o)), (1, .int p1), (2, .int p2)]) C dX11_givenBelow_3 (by decide) rfl rfl (fun v4_2 => ?_)
  refine dn_pick [2, 3, 4, 1, 0] rfl ?_
  refine pf_X_givenBelow_L5  C  o ho p1 p2 σ τ _ (fun y_8 => ?_) FU v3_1 v4_2
  refine dn_iload_n C dX11_givenBelow_49 rfl 0 rfl rfl ?_
  exact dn_iret C dX11_givenBelow_50 rfl
def fn_X_isRest  (p1 : Int32) (p2 : Int32) (p3 : Int32) (p4 : Int32) : Option (Int32) :=
  Option.bind (fn_X_gain p1 p2 p3 p4) fun z1 =>
  Option.bind (fn_X_gain p1 p2 ((1 : Int32) - p3) p4) fun z2 =>
  px_jn (fun (t3 : Int32) =>
    px_z t3 t3
  ) fun j4 =>
    px_jn (
      j4 (0 : Int32)
    ) fun j5 =>
      if z2 ≤ z1 then (
        Option.bind (fn_X_gain p1 p2 p4 p3) fun z6 =>
        Option.bind (fn_X_gain p1 p2 ((1 : Int32) - p4) p3) fun z7 =>
        if z7 ≤ z6 then (
          j4 (1 : Int32)
        ) else (
          j5
        )
      ) else (
        j5
      )
set_option maxHeartbeats 4000000 in
set_option maxRecDepth 100000 in
theorem ok_X_isRest {G : wd_G} {l : Launch} (hN : gd_ok G)  (p1 : Int32) (p2 : Int32) (p3 : Int32) (p4 : Int32) (σ : hp_I) (τ : hp_L) : cl_C G l 1 yX11_isRest cX11_isRest 4 (some .boolean) [.int p1, .int p2, .int p3, .int p4] σ τ (ci_i σ τ) (fn_X_isRest p1 p2 p3 p4) := by
  refine cl_of (lv0 := [(0, .int p1), (1, .int p2), (2, .int p3), (3, .int p4)]) (ci_i σ τ) (by decide) (Nat.le_of_ble_eq_true rfl) rfl hN (fun M hM C => ?_)
  have C : cx_C G M RX11 cX11_isRest 4 1 (some .boolean) := C
  unfold fn_X_isRest
  refine dn_iload_n C dX11_isRest_0 rfl 0 rfl rfl ?_
  refine dn_iload_n C dX11_isRest_1 rfl 1 rfl rfl ?_
  refine dn_iload_n C dX11_isRest_2 rfl 2 rfl rfl ?_
  refine dn_iload_n C dX11_isRest_3 rfl 3 rfl rfl ?_
  refine dn_callS_i (As := [.int p1, .int p2, .int p3, .int p4]) (st := []) C (ok_X_gain (cx_g C) p1 p2 p3 p4 σ τ) mt_X11_gain ms_X11_gain lk_X11_345 (by decide) rfl ⟨Nat.zero_le _, Nat.zero_le _⟩ (Nat.le_of_ble_eq_true rfl) dX11_isRest_4 rfl rfl (fun z1 => ?_)
  refine dn_iload_n C dX11_isRest_7 rfl 0 rfl rfl ?_
  refine dn_iload_n C dX11_isRest_8 rfl 1 rfl rfl ?_
  refine dn_iconst C dX11_isRest_9 ic_i_1 rfl ?_
  refine dn_iload_n C dX11_isRest_10 rfl 2 rfl rfl ?_
  refine dn_isub C dX11_isRest_11 rfl ?_
  refine dn_iload_n C dX11_isRest_12 rfl 3 rfl rfl ?_
  refine dn_callS_i (As := [.int p1, .int p2, .int ((1 : Int32) - p3), .int p4]) (st := [.int z1]) C (ok_X_gain (cx_g C) p1 p2 ((1 : Int32) - p3) p4 σ τ) mt_X11_gain ms_X11_gain lk_X11_345 (by decide) rfl ⟨Nat.zero_le _, Nat.zero_le _⟩ (Nat.le_of_ble_eq_true rfl) dX11_isRest_13 rfl rfl (fun z2 => ?_)
  refine dn_jn (fun z => ∀ (t3 : Int32), dn_D G M 4 0 0 (cl_M G M (ci_i σ τ)) 43 [] [.int t3] σ τ (z t3)) (fun t3 => ?_) (fun j4 hj4 => ?_)
  · exact dn_zret C dX11_isRest_43 rfl
  · refine dn_jn (fun z => dn_D G M 4 0 0 (cl_M G M (ci_i σ τ)) 42 [] [] σ τ z) ?_ (fun j5 hj5 => ?_)
    · refine dn_iconst C dX11_isRest_42 ic_i_0 rfl ?_
      exact hj4 (0 : Int32)
    · refine dn_icmp_lt (t := 42) C dX11_isRest_16 (by decide) rfl ?_ ?_
      · refine dn_iload_n C dX11_isRest_19 rfl 0 rfl rfl ?_
        refine dn_iload_n C dX11_isRest_20 rfl 1 rfl rfl ?_
        refine dn_iload_n C dX11_isRest_21 rfl 3 rfl rfl ?_
        refine dn_iload_n C dX11_isRest_22 rfl 2 rfl rfl ?_
        refine dn_callS_i (As := [.int p1, .int p2, .int p4, .int p3]) (st := []) C (ok_X_gain (cx_g C) p1 p2 p4 p3 σ τ) mt_X11_gain ms_X11_gain lk_X11_345 (by decide) rfl ⟨Nat.zero_le _, Nat.zero_le _⟩ (Nat.le_of_ble_eq_true rfl) dX11_isRest_23 rfl rfl (fun z6 => ?_)
        refine dn_iload_n C dX11_isRest_26 rfl 0 rfl rfl ?_
        refine dn_iload_n C dX11_isRest_27 rfl 1 rfl rfl ?_
        refine dn_iconst C dX11_isRest_28 ic_i_1 rfl ?_
        refine dn_iload_n C dX11_isRest_29 rfl 3 rfl rfl ?_
        refine dn_isub C dX11_isRest_30 rfl ?_
        refine dn_iload_n C dX11_isRest_31 rfl 2 rfl rfl ?_
        refine dn_callS_i (As := [.int p1, .int p2, .int ((1 : Int32) - p4), .int p3]) (st := [.int z6]) C (ok_X_gain (cx_g C) p1 p2 ((1 : Int32) - p4) p3 σ τ) mt_X11_gain ms_X11_gain lk_X11_345 (by decide) rfl ⟨Nat.zero_le _, Nat.zero_le _⟩ (Nat.le_of_ble_eq_true rfl) dX11_isRest_32 rfl rfl (fun z7 => ?_)
        refine dn_icmp_lt (t := 42) C dX11_isRest_35 (by decide) rfl ?_ ?_
        · refine dn_iconst C dX11_isRest_38 ic_i_1 rfl ?_
          refine dn_goto (t := 43) C dX11_isRest_39 (by decide) ?_
          refine dn_pick [] rfl ?_
          exact hj4 (1 : Int32)
        · refine dn_pick [] rfl ?_
          exact hj5
      · refine dn_pick [] rfl ?_
        exact hj5
def fn_X_hungry_L4  (a0 : Nat) (σ : hp_I) (k : Int32 → Option (Int32)) : Nat → Int32 → Int32 → Option (Int32)
  | 0, _, _ => none
  | fu + 1, x1, x2 =>
    if x2 < (σ (sh_rf a0 1) 3) then (
      Option.bind (fn_State_seenBy (sh_rf a0 6) x2 σ) fun z3 =>
      px_jn (fun (a1_4 : Int32) =>
        px_let (x2 + 1) fun v2_5 =>
        fn_X_hungry_L4 a0 σ k fu a1_4 v2_5
      ) fun j6 =>
        if z3 = 0 then (
          px_let (x1 ||| ((1 : Int32) <<< (x2 &&& 31))) fun v1_7 =>
          j6 v1_7
        ) else (
          j6 x1
        )
    ) else (
      k x1
    )
def fn_X_hungry  (o : Nat) (σ : hp_I) : Option (Int32) :=
  px_let (0 : Int32) fun v1_1 =>
  px_let (0 : Int32) fun v2_2 =>
  fn_X_hungry_L4 o σ
    (fun (y_8 : Int32) =>
      some y_8
    )
    FU v1_1 v2_2
set_option maxHeartbeats 4000000 in
set_option maxRecDepth 100000 in
theorem pf_X_hungry_L4 {G : wd_G} {M : wd_M}  (C : cx_C G M RX11 cX11_hungry 3 2 (some .int)) (a0 : Nat) (ha0 : sh_kd a0 = 11) (σ : hp_I) (τ : hp_L) (k : Int32 → Option (Int32)) (hk : ∀ (y1 : Int32), dn_D G M 3 0 0 (cl_M G M (ci_i σ τ)) 38 [(1, .int y1)] [] σ τ (k y1)) : ∀ (fu : Nat) (x1 : Int32) (x2 : Int32), dn_D G M 3 0 0 (cl_M G M (ci_i σ τ)) 4 [(0, .ref (wd_b G + a0)), (1, .int x1), (2, .int x2)] [] σ τ (fn_X_hungry_L4 a0 σ k fu x1 x2) := by
  intro fu
  induction fu with
  | zero => exact fun x1 x2 => dn_none
  | succ fu ih =>
    intro x1 x2
    unfold fn_X_hungry_L4
    refine dn_iload_n C dX11_hungry_4 rfl 2 rfl rfl ?_
    refine dn_aload_n C dX11_hungry_5 rfl 0 rfl rfl ?_
    refine dn_getR C fd_X11_19 ha0 dX11_hungry_6 rfl ?_
    refine dn_getI C fd_X11_165 (kt_11_1 ha0) dX11_hungry_9 rfl ?_
    refine dn_icmp_ge (t := 38) C dX11_hungry_12 (by decide) rfl ?_ ?_
    · refine dn_aload_n C dX11_hungry_15 rfl 0 rfl rfl ?_
      refine dn_getR C fd_X11_52 ha0 dX11_hungry_16 rfl ?_
      refine dn_iload_n C dX11_hungry_19 rfl 2 rfl rfl ?_
      refine dn_callV_i (As := [.int x2]) (st := []) C (ok_State_seenBy (cx_g C) (sh_rf a0 6) (kt_11_6 ha0) x2 σ τ) mt_X8_seenBy mv_X8_seenBy lk_X11_261 (by decide) (kt_11_6 ha0) rfl ⟨Nat.zero_le _, Nat.zero_le _⟩ (Nat.le_of_ble_eq_true rfl) dX11_hungry_20 rfl rfl (fun z3 => ?_)
      refine dn_jn (fun z => ∀ (a1_4 : Int32), dn_D G M 3 0 0 (cl_M G M (ci_i σ τ)) 32 [(0, .ref (wd_b G + a0)), (1, .int a1_4), (2, .int x2)] [] σ τ (z a1_4)) (fun a1_4 => ?_) (fun j6 hj6 => ?_)
      · refine dn_iinc (lv0 := [(0, .ref (wd_b G + a0)), (1, .int a1_4)]) (v := x2 + 1) C dX11_hungry_32 2 rfl rfl (by decide) rfl rfl (fun v2_5 => ?_)
        refine dn_goto (t := 4) C dX11_hungry_35 (by decide) ?_
        refine dn_pick [1, 2, 0] rfl ?_
        exact ih a1_4 v2_5
      · refine dn_if_ne (t := 32) C dX11_hungry_23 (by decide) rfl ?_ ?_
        · refine dn_iload_n C dX11_hungry_26 rfl 1 rfl rfl ?_
          refine dn_iconst C dX11_hungry_27 ic_i_1 rfl ?_
          refine dn_iload_n C dX11_hungry_28 rfl 2 rfl rfl ?_
          refine dn_ishl C dX11_hungry_29 rfl ?_
          refine dn_ior C dX11_hungry_30 rfl ?_
          refine dn_istore_n (lv0 := [(0, .ref (wd_b G + a0)), (2, .int x2)]) C dX11_hungry_31 rfl (by decide) rfl rfl (fun v1_7 => ?_)
          refine dn_pick [1, 0, 2] rfl ?_
          exact hj6 v1_7
        · exact hj6 x1
    · refine dn_pick [1] rfl ?_
      exact hk x1
set_option maxHeartbeats 4000000 in
set_option maxRecDepth 100000 in
theorem ok_X_hungry {G : wd_G} {l : Launch} (hN : gd_ok G)  (o : Nat) (ho : sh_kd o = 11) (σ : hp_I) (τ : hp_L) : cl_C G l 2 yX11_hungry cX11_hungry 3 (some .int) [.ref (wd_b G + o)] σ τ (ci_i σ τ) (fn_X_hungry o σ) := by
  refine cl_of (lv0 := [(0, .ref (wd_b G + o))]) (ci_i σ τ) (by decide) (Nat.le_of_ble_eq_true rfl) rfl hN (fun M hM C => ?_)
  have C : cx_C G M RX11 cX11_hungry 3 2 (some .int) := C
  unfold fn_X_hungry
  refine dn_iconst C dX11_hungry_0 ic_i_0 rfl ?_
  refine dn_istore_n (lv0 := [(0, .ref (wd_b G + o))]) C dX11_hungry_1 rfl (by decide) rfl rfl (fun v1_1 => ?_)
  refine dn_iconst C dX11_hungry_2 ic_i_0 rfl ?_
  refine dn_istore_n (lv0 := [(1, .int v1_1), (0, .ref (wd_b G + o))]) C dX11_hungry_3 rfl (by decide) rfl rfl (fun v2_2 => ?_)
  refine dn_pick [2, 1, 0] rfl ?_
  refine pf_X_hungry_L4  C  o ho σ τ _ (fun y_8 => ?_) FU v1_1 v2_2
  refine dn_iload_n C dX11_hungry_38 rfl 0 rfl rfl ?_
  exact dn_iret C dX11_hungry_39 rfl
def fn_X_image  (o : Nat) (σ : hp_I) : Option (Int32 × hp_I) :=
  px_b2 (fn_Past_keepImage (sh_rf o 8) (sh_rf o 6) σ) fun z1 s2 =>
  px_jn (fun (t3 : Int32) =>
    some (t3, s2)
  ) fun j4 =>
    if z1 = 0 then (
      j4 (-1 : Int32)
    ) else (
      j4 (s2 (sh_rf o 8) 1)
    )
set_option maxHeartbeats 4000000 in
set_option maxRecDepth 100000 in
theorem ok_X_image {G : wd_G} {l : Launch} (hN : gd_ok G)  (o : Nat) (ho : sh_kd o = 11) (σ : hp_I) (τ : hp_L) : cl_C G l 2 yX11_image cX11_image 1 (some .int) [.ref (wd_b G + o)] σ τ (ci_ih τ) (fn_X_image o σ) := by
  refine cl_of (lv0 := [(0, .ref (wd_b G + o))]) (ci_ih τ) (by decide) (Nat.le_of_ble_eq_true rfl) rfl hN (fun M hM C => ?_)
  have C : cx_C G M RX11 cX11_image 1 2 (some .int) := C
  unfold fn_X_image
  refine dn_aload_n C dX11_image_0 rfl 0 rfl rfl ?_
  refine dn_getR C fd_X11_62 ho dX11_image_1 rfl ?_
  refine dn_aload_n C dX11_image_4 rfl 0 rfl rfl ?_
  refine dn_getR C fd_X11_52 ho dX11_image_5 rfl ?_
  refine dn_callV_ih (As := [.ref (wd_b G + sh_rf o 6)]) (st := []) C (ok_Past_keepImage (cx_g C) (sh_rf o 8) (kt_11_8 ho) (sh_rf o 6) (kt_11_6 ho) σ τ) mt_X5_keepImage mv_X5_keepImage lk_X11_360 (by decide) (kt_11_8 ho) rfl ⟨Nat.zero_le _, Nat.zero_le _⟩ (Nat.le_of_ble_eq_true rfl) dX11_image_8 rfl rfl (fun z1 s2 => ?_)
  refine dn_jn (fun z => ∀ (t3 : Int32), dn_D G M 1 0 0 (cl_M G M (ci_ih τ)) 25 [] [.int t3] s2 τ (z t3)) (fun t3 => ?_) (fun j4 hj4 => ?_)
  · exact dn_iret C dX11_image_25 rfl
  · refine dn_if_eq (t := 24) C dX11_image_11 (by decide) rfl ?_ ?_
    · refine dn_iconst C dX11_image_24 ic_i_m1 rfl ?_
      refine dn_pick [] rfl ?_
      exact hj4 (-1 : Int32)
    · refine dn_aload_n C dX11_image_14 rfl 0 rfl rfl ?_
      refine dn_getR C fd_X11_62 ho dX11_image_15 rfl ?_
      refine dn_getI C fd_X11_363 (kt_11_8 ho) dX11_image_18 rfl ?_
      refine dn_goto (t := 25) C dX11_image_21 (by decide) ?_
      refine dn_pick [] rfl ?_
      exact hj4 (s2 (sh_rf o 8) 1)
def fn_X_restore  (o : Nat) (σ : hp_I) : Option (Int32 × hp_I) :=
  px_b2 (fn_Past_takeBackImage (sh_rf o 8) (sh_rf o 6) σ) fun z1 s2 =>
  if z1 = 0 then (
    some ((-1 : Int32), s2)
  ) else (
    px_let (hp_s s2 o 13 (0 : Int32)) fun s3 =>
    some (s3 (sh_rf o 8) 1, s3)
  )
set_option maxHeartbeats 4000000 in
set_option maxRecDepth 100000 in
theorem ok_X_restore {G : wd_G} {l : Launch} (hN : gd_ok G)  (o : Nat) (ho : sh_kd o = 11) (σ : hp_I) (τ : hp_L) : cl_C G l 2 yX11_restore cX11_restore 1 (some .int) [.ref (wd_b G + o)] σ τ (ci_ih τ) (fn_X_restore o σ) := by
  refine cl_of (lv0 := [(0, .ref (wd_b G + o))]) (ci_ih τ) (by decide) (Nat.le_of_ble_eq_true rfl) rfl hN (fun M hM C => ?_)
  have C : cx_C G M RX11 cX11_restore 1 2 (some .int) := C
  unfold fn_X_restore
  refine dn_aload_n C dX11_restore_0 rfl 0 rfl rfl ?_
  refine dn_getR C fd_X11_62 ho dX11_restore_1 rfl ?_
  refine dn_aload_n C dX11_restore_4 rfl 0 rfl rfl ?_
  refine dn_getR C fd_X11_52 ho dX11_restore_5 rfl ?_
  refine dn_callV_ih (As := [.ref (wd_b G + sh_rf o 6)]) (st := []) C (ok_Past_takeBackImage (cx_g C) (sh_rf o 8) (kt_11_8 ho) (sh_rf o 6) (kt_11_6 ho) σ τ) mt_X5_takeBackImage mv_X5_takeBackImage lk_X11_366 (by decide) (kt_11_8 ho) rfl ⟨Nat.zero_le _, Nat.zero_le _⟩ (Nat.le_of_ble_eq_true rfl) dX11_restore_8 rfl rfl (fun z1 s2 => ?_)
  refine dn_if_ne (t := 16) C dX11_restore_11 (by decide) rfl ?_ ?_
  · refine dn_iconst C dX11_restore_14 ic_i_m1 rfl ?_
    exact dn_iret C dX11_restore_15 rfl
  · refine dn_aload_n C dX11_restore_16 rfl 0 rfl rfl ?_
    refine dn_iconst C dX11_restore_17 ic_i_0 rfl ?_
    refine dn_putI C fp_X11_133 ho dX11_restore_18 rfl (fun s3 => ?_)
    refine dn_aload_n C dX11_restore_21 rfl 0 rfl rfl ?_
    refine dn_getR C fd_X11_62 ho dX11_restore_22 rfl ?_
    refine dn_getI C fd_X11_363 (kt_11_8 ho) dX11_restore_25 rfl ?_
    exact dn_iret C dX11_restore_28 rfl
def fn_X_safe_L4  (a0 : Nat) (σ : hp_I) (k : Int32 → Option (Int32)) : Nat → Int32 → Int32 → Option (Int32)
  | 0, _, _ => none
  | fu + 1, x1, x2 =>
    if x2 < (σ (sh_rf a0 1) 3) then (
      Option.bind (fn_State_seenBy (sh_rf a0 6) x2 σ) fun z3 =>
      px_let (x1 ||| z3) fun v1_4 =>
      px_let (x2 + 1) fun v2_5 =>
      fn_X_safe_L4 a0 σ k fu v1_4 v2_5
    ) else (
      k x1
    )
def fn_X_safe  (o : Nat) (σ : hp_I) : Option (Int32) :=
  px_let (0 : Int32) fun v1_1 =>
  px_let (0 : Int32) fun v2_2 =>
  fn_X_safe_L4 o σ
    (fun (y_6 : Int32) =>
      Option.bind (fn_State_living (sh_rf o 6) σ) fun z7 =>
      some (z7 &&& (y_6 ^^^ (-1 : Int32)))
    )
    FU v1_1 v2_2
set_option maxHeartbeats 4000000 in
set_option maxRecDepth 100000 in
theorem pf_X_safe_L4 {G : wd_G} {M : wd_M}  (C : cx_C G M RX11 cX11_safe 3 2 (some .int)) (a0 : Nat) (ha0 : sh_kd a0 = 11) (σ : hp_I) (τ : hp_L) (k : Int32 → Option (Int32)) (hk : ∀ (y1 : Int32), dn_D G M 3 0 0 (cl_M G M (ci_i σ τ)) 32 [(0, .ref (wd_b G + a0)), (1, .int y1)] [] σ τ (k y1)) : ∀ (fu : Nat) (x1 : Int32) (x2 : Int32), dn_D G M 3 0 0 (cl_M G M (ci_i σ τ)) 4 [(0, .ref (wd_b G + a0)), (1, .int x1), (2, .int x2)] [] σ τ (fn_X_safe_L4 a0 σ k fu x1 x2) := by
  intro fu
  induction fu with
  | zero => exact fun x1 x2 => dn_none
  | succ fu ih =>
    intro x1 x2
    unfold fn_X_safe_L4
    refine dn_iload_n C dX11_safe_4 rfl 2 rfl rfl ?_
    refine dn_aload_n C dX11_safe_5 rfl 0 rfl rfl ?_
    refine dn_getR C fd_X11_19 ha0 dX11_safe_6 rfl ?_
    refine dn_getI C fd_X11_165 (kt_11_1 ha0) dX11_safe_9 rfl ?_
    refine dn_icmp_ge (t := 32) C dX11_safe_12 (by decide) rfl ?_ ?_
    · refine dn_iload_n C dX11_safe_15 rfl 1 rfl rfl ?_
      refine dn_aload_n C dX11_safe_16 rfl 0 rfl rfl ?_
      refine dn_getR C fd_X11_52 ha0 dX11_safe_17 rfl ?_
      refine dn_iload_n C dX11_safe_20 rfl 2 rfl rfl ?_
      refine dn_callV_i (As := [.int x2]) (st := [.int x1]) C (ok_State_seenBy (cx_g C) (sh_rf a0 6) (kt_11_6 ha0) x2 σ τ) mt_X8_seenBy mv_X8_seenBy lk_X11_261 (by decide) (kt_11_6 ha0) rfl ⟨Nat.zero_le _, Nat.zero_le _⟩ (Nat.le_of_ble_eq_true rfl) dX11_safe_21 rfl rfl (fun z3 => ?_)
      refine dn_ior C dX11_safe_24 rfl ?_
      refine dn_istore_n (lv0 := [(0, .ref (wd_b G + a0)), (2, .int x2)]) C dX11_safe_25 rfl (by decide) rfl rfl (fun v1_4 => ?_)
      refine dn_iinc (lv0 := [(1, .int v1_4), (0, .ref (wd_b G + a0))]) (v := x2 + 1) C dX11_safe_26 2 rfl rfl (by decide) rfl rfl (fun v2_5 => ?_)
      refine dn_goto (t := 4) C dX11_safe_29 (by decide) ?_
      refine dn_pick [2, 1, 0] rfl ?_
      exact ih v1_4 v2_5
    · refine dn_pick [0, 1] rfl ?_
      exact hk x1
set_option maxHeartbeats 4000000 in
set_option maxRecDepth 100000 in
theorem ok_X_safe {G : wd_G} {l : Launch} (hN : gd_ok G)  (o : Nat) (ho : sh_kd o = 11) (σ : hp_I) (τ : hp_L) : cl_C G l 2 yX11_safe cX11_safe 3 (some .int) [.ref (wd_b G + o)] σ τ (ci_i σ τ) (fn_X_safe o σ) := by
  refine cl_of (lv0 := [(0, .ref (wd_b G + o))]) (ci_i σ τ) (by decide) (Nat.le_of_ble_eq_true rfl) rfl hN (fun M hM C => ?_)
  have C : cx_C G M RX11 cX11_safe 3 2 (some .int) := C
  unfold fn_X_safe
  refine dn_iconst C dX11_safe_0 ic_i_0 rfl ?_
  refine dn_istore_n (lv0 := [(0, .ref (wd_b G + o))]) C dX11_safe_1 rfl (by decide) rfl rfl (fun v1_1 => ?_)
  refine dn_iconst C dX11_safe_2 ic_i_0 rfl ?_
  refine dn_istore_n (lv0 := [(1, .int v1_1), (0, .ref (wd_b G + o))]) C dX11_safe_3 rfl (by decide) rfl rfl (fun v2_2 => ?_)
  refine dn_pick [2, 1, 0] rfl ?_
  refine pf_X_safe_L4  C  o ho σ τ _ (fun y_6 => ?_) FU v1_1 v2_2
  refine dn_aload_n C dX11_safe_32 rfl 0 rfl rfl ?_
  refine dn_getR C fd_X11_52 ho dX11_safe_33 rfl ?_
  refine dn_callV_i (As := []) (st := []) C (ok_State_living (cx_g C) (sh_rf o 6) (kt_11_6 ho) σ τ) mt_X8_living mv_X8_living lk_X11_195 (by decide) (kt_11_6 ho) rfl ⟨Nat.zero_le _, Nat.zero_le _⟩ (Nat.le_of_ble_eq_true rfl) dX11_safe_36 rfl rfl (fun z7 => ?_)
  refine dn_iload_n C dX11_safe_39 rfl 1 rfl rfl ?_
  refine dn_iconst C dX11_safe_40 ic_i_m1 rfl ?_
  refine dn_ixor C dX11_safe_41 rfl ?_
  refine dn_iand C dX11_safe_42 rfl ?_
  exact dn_iret C dX11_safe_43 rfl
def fn_X_undo  (o : Nat) (σ : hp_I) : Option (Int32 × hp_I) :=
  px_b2 (fn_Past_takeBackWork (sh_rf o 8) (sh_rf o 6) σ) fun z1 s2 =>
  if z1 = 0 then (
    some ((-1 : Int32), s2)
  ) else (
    px_let (hp_s s2 o 13 (0 : Int32)) fun s3 =>
    some (s3 (sh_rf o 8) 0, s3)
  )
set_option maxHeartbeats 4000000 in
set_option maxRecDepth 100000 in
theorem ok_X_undo {G : wd_G} {l : Launch} (hN : gd_ok G)  (o : Nat) (ho : sh_kd o = 11) (σ : hp_I) (τ : hp_L) : cl_C G l 2 yX11_undo cX11_undo 1 (some .int) [.ref (wd_b G + o)] σ τ (ci_ih τ) (fn_X_undo o σ) := by
  refine cl_of (lv0 := [(0, .ref (wd_b G + o))]) (ci_ih τ) (by decide) (Nat.le_of_ble_eq_true rfl) rfl hN (fun M hM C => ?_)
  have C : cx_C G M RX11 cX11_undo 1 2 (some .int) := C
  unfold fn_X_undo
  refine dn_aload_n C dX11_undo_0 rfl 0 rfl rfl ?_
  refine dn_getR C fd_X11_62 ho dX11_undo_1 rfl ?_
  refine dn_aload_n C dX11_undo_4 rfl 0 rfl rfl ?_
  refine dn_getR C fd_X11_52 ho dX11_undo_5 rfl ?_
  refine dn_callV_ih (As := [.ref (wd_b G + sh_rf o 6)]) (st := []) C (ok_Past_takeBackWork (cx_g C) (sh_rf o 8) (kt_11_8 ho) (sh_rf o 6) (kt_11_6 ho) σ τ) mt_X5_takeBackWork mv_X5_takeBackWork lk_X11_175 (by decide) (kt_11_8 ho) rfl ⟨Nat.zero_le _, Nat.zero_le _⟩ (Nat.le_of_ble_eq_true rfl) dX11_undo_8 rfl rfl (fun z1 s2 => ?_)
  refine dn_if_ne (t := 16) C dX11_undo_11 (by decide) rfl ?_ ?_
  · refine dn_iconst C dX11_undo_14 ic_i_m1 rfl ?_
    exact dn_iret C dX11_undo_15 rfl
  · refine dn_aload_n C dX11_undo_16 rfl 0 rfl rfl ?_
    refine dn_iconst C dX11_undo_17 ic_i_0 rfl ?_
    refine dn_putI C fp_X11_133 ho dX11_undo_18 rfl (fun s3 => ?_)
    refine dn_aload_n C dX11_undo_21 rfl 0 rfl rfl ?_
    refine dn_getR C fd_X11_62 ho dX11_undo_22 rfl ?_
    refine dn_getI C fd_X11_179 (kt_11_8 ho) dX11_undo_25 rfl ?_
    exact dn_iret C dX11_undo_28 rfl
def fn_X_tryNights_L13  (a0 : Nat) (a1 : Int32) (k : hp_I → Option (hp_I)) : Nat → Int32 → hp_I → Option (hp_I)
  | 0, _, _ => none
  | fu + 1, x2, s0 =>
    if x2 < a1 then (
      px_b2 (fn_State_passNight (sh_rf a0 7) s0) fun z4 s5 =>
      px_let (x2 + 1) fun v2_6 =>
      fn_X_tryNights_L13 a0 a1 k fu v2_6 s5
    ) else (
      k s0
    )
def fn_X_tryNights  (o : Nat) (p1 : Int32) (σ : hp_I) : Option (hp_I) :=
  Option.bind (fn_State_copyFrom (sh_rf o 7) (sh_rf o 6) σ) fun s2 =>
  px_let (0 : Int32) fun v2_3 =>
  fn_X_tryNights_L13 o p1
    (fun (s_7 : hp_I) =>
      some s_7
    )
    FU v2_3 s2
set_option maxHeartbeats 4000000 in
set_option maxRecDepth 100000 in
theorem pf_X_tryNights_L13 {G : wd_G} {M : wd_M}  (C : cx_C G M RX11 cX11_tryNights 3 5 none) (a0 : Nat) (ha0 : sh_kd a0 = 11) (a1 : Int32)  (τ : hp_L) (k : hp_I → Option (hp_I)) (hk : ∀ (s : hp_I), dn_D G M 3 0 0 (cl_M G M (ci_h τ)) 32 [] [] s τ (k s)) : ∀ (fu : Nat) (x2 : Int32) (s0 : hp_I), dn_D G M 3 0 0 (cl_M G M (ci_h τ)) 13 [(0, .ref (wd_b G + a0)), (1, .int a1), (2, .int x2)] [] s0 τ (fn_X_tryNights_L13 a0 a1 k fu x2 s0) := by
  intro fu
  induction fu with
  | zero => exact fun x2 s0 => dn_none
  | succ fu ih =>
    intro x2 s0
    unfold fn_X_tryNights_L13
    refine dn_iload_n C dX11_tryNights_13 rfl 2 rfl rfl ?_
    refine dn_iload_n C dX11_tryNights_14 rfl 1 rfl rfl ?_
    refine dn_icmp_ge (t := 32) C dX11_tryNights_15 (by decide) rfl ?_ ?_
    · refine dn_aload_n C dX11_tryNights_18 rfl 0 rfl rfl ?_
      refine dn_getR C fd_X11_56 ha0 dX11_tryNights_19 rfl ?_
      refine dn_callV_ih (As := []) (st := []) C (ok_State_passNight (cx_g C) (sh_rf a0 7) (kt_11_7 ha0) s0 τ) mt_X8_passNight mv_X8_passNight lk_X11_294 (by decide) (kt_11_7 ha0) rfl ⟨Nat.zero_le _, Nat.zero_le _⟩ (Nat.le_of_ble_eq_true rfl) dX11_tryNights_22 rfl rfl (fun z4 s5 => ?_)
      refine dn_pop C dX11_tryNights_25 rfl rfl ?_
      refine dn_iinc (lv0 := [(0, .ref (wd_b G + a0)), (1, .int a1)]) (v := x2 + 1) C dX11_tryNights_26 2 rfl rfl (by decide) rfl rfl (fun v2_6 => ?_)
      refine dn_goto (t := 13) C dX11_tryNights_29 (by decide) ?_
      refine dn_pick [1, 2, 0] rfl ?_
      exact ih v2_6 s5
    · refine dn_pick [] rfl ?_
      exact hk s0
set_option maxHeartbeats 4000000 in
set_option maxRecDepth 100000 in
theorem ok_X_tryNights {G : wd_G} {l : Launch} (hN : gd_ok G)  (o : Nat) (ho : sh_kd o = 11) (p1 : Int32) (σ : hp_I) (τ : hp_L) : cl_C G l 5 yX11_tryNights cX11_tryNights 3 none [.ref (wd_b G + o), .int p1] σ τ (ci_h τ) (fn_X_tryNights o p1 σ) := by
  refine cl_of (lv0 := [(0, .ref (wd_b G + o)), (1, .int p1)]) (ci_h τ) (by decide) (Nat.le_of_ble_eq_true rfl) rfl hN (fun M hM C => ?_)
  have C : cx_C G M RX11 cX11_tryNights 3 5 none := C
  unfold fn_X_tryNights
  refine dn_aload_n C dX11_tryNights_0 rfl 0 rfl rfl ?_
  refine dn_getR C fd_X11_56 ho dX11_tryNights_1 rfl ?_
  refine dn_aload_n C dX11_tryNights_4 rfl 0 rfl rfl ?_
  refine dn_getR C fd_X11_52 ho dX11_tryNights_5 rfl ?_
  refine dn_callV_h (As := [.ref (wd_b G + sh_rf o 6)]) (st := []) C (ok_State_copyFrom (cx_g C) (sh_rf o 7) (kt_11_7 ho) (sh_rf o 6) (kt_11_6 ho) σ τ) mt_X8_copyFrom mv_X8_copyFrom lk_X11_292 (by decide) (kt_11_7 ho) rfl ⟨Nat.zero_le _, Nat.zero_le _⟩ (Nat.le_of_ble_eq_true rfl) dX11_tryNights_8 rfl rfl (fun s2 => ?_)
  refine dn_iconst C dX11_tryNights_11 ic_i_0 rfl ?_
  refine dn_istore_n (lv0 := [(0, .ref (wd_b G + o)), (1, .int p1)]) C dX11_tryNights_12 rfl (by decide) rfl rfl (fun v2_3 => ?_)
  refine dn_pick [1, 2, 0] rfl ?_
  refine pf_X_tryNights_L13  C  o ho p1  τ _ (fun s_7 => ?_) FU v2_3 s2
  exact dn_vret C dX11_tryNights_32 rfl
def fn_X_demandOneOf  (o : Nat) (p1 : Int32) (p2 : Int32) (σ : hp_I) : Option (px_X (hp_I)) :=
  px_jn (
    px_let (hp_s σ o 14 ((σ o 14) + (1 : Int32))) fun s1 =>
    some (.inl (0, s1))
  ) fun j2 =>
    if 0 ≤ p1 then (
      if p2 ≤ p1 then (
        j2
      ) else (
        some (.inr σ)
      )
    ) else (
      j2
    )
set_option maxHeartbeats 4000000 in
set_option maxRecDepth 100000 in
theorem okx_X_demandOneOf {G : wd_G} {l : Launch} (hN : gd_ok G) (htr : l.stackTraces = false) (o : Nat) (ho : sh_kd o = 11) (p1 : Int32) (p2 : Int32) (σ : hp_I) (τ : hp_L) : cl_X G l 6 1 yX11_demandOneOf cX11_demandOneOf 3 none [.ref (wd_b G + o), .int p1, .int p2] σ τ (ci_h τ) (fn_X_demandOneOf o p1 p2 σ) := by
  refine cl_ofX (lv0 := [(0, .ref (wd_b G + o)), (1, .int p1), (2, .int p2)]) (ci_h τ) (by decide) (Nat.le_of_ble_eq_true rfl) rfl hN htr (fun M X C => ?_)
  have C : cx_C G M RX11 cX11_demandOneOf 3 6 none := C
  unfold fn_X_demandOneOf
  refine dn_iload_n C dX11_demandOneOf_0 rfl 1 rfl rfl ?_
  refine dn_jn (fun z => dn_D G M 3 0 0 (cm_X G M τ 1 (ci_h τ)) 9 [(0, .ref (wd_b G + o))] [] σ τ z) ?_ (fun j2 hj2 => ?_)
  · refine dn_aload_n C dX11_demandOneOf_9 rfl 0 rfl rfl ?_
    refine dn_dup C dX11_demandOneOf_10 rfl rfl ?_
    refine dn_getI C fd_X11_369 ho dX11_demandOneOf_11 rfl ?_
    refine dn_iconst C dX11_demandOneOf_14 ic_i_1 rfl ?_
    refine dn_iadd C dX11_demandOneOf_15 rfl ?_
    refine dn_putI C fp_X11_369 ho dX11_demandOneOf_16 rfl (fun s1 => ?_)
    obtain ⟨sa, hsa, -⟩ := sc_X11_377 (cx_g C)
    exact dn_throw0 C X tz_NSE (th_all (cx_g C)) hsa dX11_demandOneOf_19 dX11_demandOneOf_22 dX11_demandOneOf_23 dX11_demandOneOf_26 dX11_demandOneOf_29 (by decide) (by decide) (by decide) (Nat.le_of_ble_eq_true rfl)
  · refine dn_if_lt (t := 9) C dX11_demandOneOf_1 (by decide) rfl ?_ ?_
    · refine dn_iload_n C dX11_demandOneOf_4 rfl 1 rfl rfl ?_
      refine dn_iload_n C dX11_demandOneOf_5 rfl 2 rfl rfl ?_
      refine dn_icmp_lt (t := 30) C dX11_demandOneOf_6 (by decide) rfl ?_ ?_
      · refine dn_pick [0] rfl ?_
        exact hj2
      · exact dn_vretX C dX11_demandOneOf_30 rfl (by decide) (by decide)
    · refine dn_pick [0] rfl ?_
      exact hj2
def fn_X_demandWithin  (o : Nat) (p1 : Int32) (p2 : Int32) (p3 : Int32) (σ : hp_I) : Option (px_X (hp_I)) :=
  px_jn (
    px_let (hp_s σ o 15 ((σ o 15) + (1 : Int32))) fun s1 =>
    some (.inl (1, s1))
  ) fun j2 =>
    if p2 ≤ p1 then (
      if p3 < p1 then (
        j2
      ) else (
        some (.inr σ)
      )
    ) else (
      j2
    )
set_option maxHeartbeats 4000000 in
set_option maxRecDepth 100000 in
theorem okx_X_demandWithin {G : wd_G} {l : Launch} (hN : gd_ok G) (htr : l.stackTraces = false) (o : Nat) (ho : sh_kd o = 11) (p1 : Int32) (p2 : Int32) (p3 : Int32) (σ : hp_I) (τ : hp_L) : cl_X G l 6 1 yX11_demandWithin cX11_demandWithin 4 none [.ref (wd_b G + o), .int p1, .int p2, .int p3] σ τ (ci_h τ) (fn_X_demandWithin o p1 p2 p3 σ) := by
  refine cl_ofX (lv0 := [(0, .ref (wd_b G + o)), (1, .int p1), (2, .int p2), (3, .int p3)]) (ci_h τ) (by decide) (Nat.le_of_ble_eq_true rfl) rfl hN htr (fun M X C => ?_)
  have C : cx_C G M RX11 cX11_demandWithin 4 6 none := C
  unfold fn_X_demandWithin
  refine dn_iload_n C dX11_demandWithin_0 rfl 1 rfl rfl ?_
  refine dn_iload_n C dX11_demandWithin_1 rfl 2 rfl rfl ?_
  refine dn_jn (fun z => dn_D G M 4 0 0 (cm_X G M τ 1 (ci_h τ)) 10 [(0, .ref (wd_b G + o))] [] σ τ z) ?_ (fun j2 hj2 => ?_)
  · refine dn_aload_n C dX11_demandWithin_10 rfl 0 rfl rfl ?_
    refine dn_dup C dX11_demandWithin_11 rfl rfl ?_
    refine dn_getI C fd_X11_372 ho dX11_demandWithin_12 rfl ?_
    refine dn_iconst C dX11_demandWithin_15 ic_i_1 rfl ?_
    refine dn_iadd C dX11_demandWithin_16 rfl ?_
    refine dn_putI C fp_X11_372 ho dX11_demandWithin_17 rfl (fun s1 => ?_)
    obtain ⟨sa, hsa, -⟩ := sc_X11_384 (cx_g C)
    exact dn_throw C X th_IAE (th_all (cx_g C)) hsa dX11_demandWithin_20 dX11_demandWithin_23 dX11_demandWithin_24 dX11_demandWithin_27 dX11_demandWithin_30 (by decide) (by decide) (by decide) (Nat.le_of_ble_eq_true rfl)
  · refine dn_icmp_lt (t := 10) C dX11_demandWithin_2 (by decide) rfl ?_ ?_
    · refine dn_iload_n C dX11_demandWithin_5 rfl 1 rfl rfl ?_
      refine dn_iload_n C dX11_demandWithin_6 rfl 3 rfl rfl ?_
      refine dn_icmp_le (t := 31) C dX11_demandWithin_7 (by decide) rfl ?_ ?_
      · refine dn_pick [0] rfl ?_
        exact hj2
      · exact dn_vretX C dX11_demandWithin_31 rfl (by decide) (by decide)
    · refine dn_pick [0] rfl ?_
      exact hj2
def fn_X_doomed  (o : Nat) (σ : hp_I) : Option (Int32 × hp_I) :=
  Option.bind (fn_X_tryNights o (1 : Int32) σ) fun s2 =>
  Option.bind (fn_State_onMat (sh_rf o 7) s2) fun z3 =>
  Option.bind (fn_State_onMat (sh_rf o 6) s2) fun z4 =>
  some (z3 &&& (z4 ^^^ (-1 : Int32)), s2)
set_option maxHeartbeats 4000000 in
set_option maxRecDepth 100000 in
theorem ok_X_doomed {G : wd_G} {l : Launch} (hN : gd_ok G)  (o : Nat) (ho : sh_kd o = 11) (σ : hp_I) (τ : hp_L) : cl_C G l 6 yX11_doomed cX11_doomed 1 (some .int) [.ref (wd_b G + o)] σ τ (ci_ih τ) (fn_X_doomed o σ) := by
  refine cl_of (lv0 := [(0, .ref (wd_b G + o))]) (ci_ih τ) (by decide) (Nat.le_of_ble_eq_true rfl) rfl hN (fun M hM C => ?_)
  have C : cx_C G M RX11 cX11_doomed 1 6 (some .int) := C
  unfold fn_X_doomed
  refine dn_aload_n C dX11_doomed_0 rfl 0 rfl rfl ?_
  refine dn_iconst C dX11_doomed_1 ic_i_1 rfl ?_
  refine dn_callV_h (As := [.int (1 : Int32)]) (st := []) C (ok_X_tryNights (cx_g C) o ho (1 : Int32) σ τ) mt_X11_tryNights mv_X11_tryNights lk_X11_285 (by decide) ho rfl ⟨Nat.zero_le _, Nat.zero_le _⟩ (Nat.le_of_ble_eq_true rfl) dX11_doomed_2 rfl rfl (fun s2 => ?_)
  refine dn_aload_n C dX11_doomed_5 rfl 0 rfl rfl ?_
  refine dn_getR C fd_X11_56 ho dX11_doomed_6 rfl ?_
  refine dn_callV_i (As := []) (st := []) C (ok_State_onMat (cx_g C) (sh_rf o 7) (kt_11_7 ho) s2 τ) mt_X8_onMat mv_X8_onMat lk_X11_198 (by decide) (kt_11_7 ho) rfl ⟨Nat.zero_le _, Nat.zero_le _⟩ (Nat.le_of_ble_eq_true rfl) dX11_doomed_9 rfl rfl (fun z3 => ?_)
  refine dn_aload_n C dX11_doomed_12 rfl 0 rfl rfl ?_
  refine dn_getR C fd_X11_52 ho dX11_doomed_13 rfl ?_
  refine dn_callV_i (As := []) (st := [.int z3]) C (ok_State_onMat (cx_g C) (sh_rf o 6) (kt_11_6 ho) s2 τ) mt_X8_onMat mv_X8_onMat lk_X11_198 (by decide) (kt_11_6 ho) rfl ⟨Nat.zero_le _, Nat.zero_le _⟩ (Nat.le_of_ble_eq_true rfl) dX11_doomed_16 rfl rfl (fun z4 => ?_)
  refine dn_iconst C dX11_doomed_19 ic_i_m1 rfl ?_
  refine dn_ixor C dX11_doomed_20 rfl ?_
  refine dn_iand C dX11_doomed_21 rfl ?_
  exact dn_iret C dX11_doomed_22 rfl
def fn_X_ahead  (o : Nat) (p1 : Int32) (p2 : Int32) (σ : hp_I) : Option (px_X (Int32 × hp_I)) :=
  px_bx (fn_X_demandWithin o p1 (0 : Int32) (99 : Int32) σ) fun s1 =>
  px_bx (fn_X_demandWithin o p2 (0 : Int32) (2 : Int32) s1) fun s2 =>
  Option.bind (fn_X_tryNights o p1 s2) fun s4 =>
  px_sw p2 [
    ((0 : Int32), (
      Option.bind (fn_State_living (sh_rf o 7) s4) fun z7 =>
      some (.inr (z7, s4))
    )),
    ((1 : Int32), (
      Option.bind (fn_State_living (sh_rf o 7) s4) fun z8 =>
      Option.bind (fn_State_sizeOf (sh_rf o 7) z8 s4) fun z9 =>
      some (.inr (z9, s4))
    ))
  ] (
    Option.bind (fn_State_onMat (sh_rf o 7) s4) fun z5 =>
    Option.bind (fn_J6_bitCount_0f7a4 z5) fun z6 =>
    some (.inr (z6, s4))
  )
set_option maxHeartbeats 4000000 in
set_option maxRecDepth 100000 in
theorem okx_X_ahead {G : wd_G} {l : Launch} (hN : gd_ok G) (htr : l.stackTraces = false) (o : Nat) (ho : sh_kd o = 11) (p1 : Int32) (p2 : Int32) (σ : hp_I) (τ : hp_L) : cl_X G l 7 2 yX11_ahead cX11_ahead 3 (some .int) [.ref (wd_b G + o), .int p1, .int p2] σ τ (ci_ih τ) (fn_X_ahead o p1 p2 σ) := by
  refine cl_ofX (lv0 := [(0, .ref (wd_b G + o)), (1, .int p1), (2, .int p2)]) (ci_ih τ) (by decide) (Nat.le_of_ble_eq_true rfl) rfl hN htr (fun M X C => ?_)
  have C : cx_C G M RX11 cX11_ahead 3 7 (some .int) := C
  unfold fn_X_ahead
  refine dn_aload_n C dX11_ahead_0 rfl 0 rfl rfl ?_
  refine dn_iload_n C dX11_ahead_1 rfl 1 rfl rfl ?_
  refine dn_iconst C dX11_ahead_2 ic_i_0 rfl ?_
  refine dn_bipush C dX11_ahead_3 ic_b_99 rfl ?_
  refine dn_callX_h (As := [.int p1, .int (0 : Int32), .int (99 : Int32)]) (st := []) C X (okx_X_demandWithin (cx_g C) X.2.2 o ho p1 (0 : Int32) (99 : Int32) σ τ) mt_X11_demandWithin mv_X11_demandWithin lk_X11_182 (by decide) ho rfl (by decide) (by decide) (Nat.le_of_ble_eq_true rfl) dX11_ahead_5 rfl rfl (fun s1 => ?_)
  refine dn_aload_n C dX11_ahead_8 rfl 0 rfl rfl ?_
  refine dn_iload_n C dX11_ahead_9 rfl 2 rfl rfl ?_
  refine dn_iconst C dX11_ahead_10 ic_i_0 rfl ?_
  refine dn_iconst C dX11_ahead_11 ic_i_2 rfl ?_
  refine dn_callX_h (As := [.int p2, .int (0 : Int32), .int (2 : Int32)]) (st := []) C X (okx_X_demandWithin (cx_g C) X.2.2 o ho p2 (0 : Int32) (2 : Int32) s1 τ) mt_X11_demandWithin mv_X11_demandWithin lk_X11_182 (by decide) ho rfl (by decide) (by decide) (Nat.le_of_ble_eq_true rfl) dX11_ahead_12 rfl rfl (fun s2 => ?_)
  refine dn_aload_n C dX11_ahead_15 rfl 0 rfl rfl ?_
  refine dn_iload_n C dX11_ahead_16 rfl 1 rfl rfl ?_
  refine dn_callV_h (As := [.int p1]) (st := []) C (ok_X_tryNights (cx_g C) o ho p1 s2 τ) mt_X11_tryNights mv_X11_tryNights lk_X11_285 (by decide) ho rfl (cs_ok X (by decide) (by decide)) (Nat.le_of_ble_eq_true rfl) dX11_ahead_17 rfl rfl (fun s4 => ?_)
  refine dn_iload_n C dX11_ahead_20 rfl 2 rfl rfl ?_
  refine dn_look (t0 := 71) _ C dX11_ahead_21 (by decide) (by decide) ?_ ⟨⟨48, by decide, by decide, ?_⟩, ⟨56, by decide, by decide, ?_⟩, trivial⟩
  · refine dn_aload_n C dX11_ahead_71 rfl 0 rfl rfl ?_
    refine dn_getR C fd_X11_56 ho dX11_ahead_72 rfl ?_
    refine dn_callV_i (As := []) (st := []) C (ok_State_onMat (cx_g C) (sh_rf o 7) (kt_11_7 ho) s4 τ) mt_X8_onMat mv_X8_onMat lk_X11_198 (by decide) (kt_11_7 ho) rfl (cs_ok X (by decide) (by decide)) (Nat.le_of_ble_eq_true rfl) dX11_ahead_75 rfl rfl (fun z5 => ?_)
    refine dn_callS_i (As := [.int z5]) (st := []) C (ok_J6_bitCount_0f7a4 (cx_g C) z5 s4 τ) mt_J6_bitCount_0f7a4 ms_J6_bitCount_0f7a4 lk_X11_280 (by decide) rfl (cs_ok X (by decide) (by decide)) (Nat.le_of_ble_eq_true rfl) dX11_ahead_78 rfl rfl (fun z6 => ?_)
    exact dn_iretX C dX11_ahead_81 rfl (by decide) (by decide)
  · refine dn_aload_n C dX11_ahead_48 rfl 0 rfl rfl ?_
    refine dn_getR C fd_X11_56 ho dX11_ahead_49 rfl ?_
    refine dn_callV_i (As := []) (st := []) C (ok_State_living (cx_g C) (sh_rf o 7) (kt_11_7 ho) s4 τ) mt_X8_living mv_X8_living lk_X11_195 (by decide) (kt_11_7 ho) rfl (cs_ok X (by decide) (by decide)) (Nat.le_of_ble_eq_true rfl) dX11_ahead_52 rfl rfl (fun z7 => ?_)
    exact dn_iretX C dX11_ahead_55 rfl (by decide) (by decide)
  · refine dn_aload_n C dX11_ahead_56 rfl 0 rfl rfl ?_
    refine dn_getR C fd_X11_56 ho dX11_ahead_57 rfl ?_
    refine dn_aload_n C dX11_ahead_60 rfl 0 rfl rfl ?_
    refine dn_getR C fd_X11_56 ho dX11_ahead_61 rfl ?_
    refine dn_callV_i (As := []) (st := [.ref (wd_b G + sh_rf o 7)]) C (ok_State_living (cx_g C) (sh_rf o 7) (kt_11_7 ho) s4 τ) mt_X8_living mv_X8_living lk_X11_195 (by decide) (kt_11_7 ho) rfl (cs_ok X (by decide) (by decide)) (Nat.le_of_ble_eq_true rfl) dX11_ahead_64 rfl rfl (fun z8 => ?_)
    refine dn_callV_i (As := [.int z8]) (st := []) C (ok_State_sizeOf (cx_g C) (sh_rf o 7) (kt_11_7 ho) z8 s4 τ) mt_X8_sizeOf mv_X8_sizeOf lk_X11_207 (by decide) (kt_11_7 ho) rfl (cs_ok X (by decide) (by decide)) (Nat.le_of_ble_eq_true rfl) dX11_ahead_67 rfl rfl (fun z9 => ?_)
    exact dn_iretX C dX11_ahead_70 rfl (by decide) (by decide)
def fn_X_boat_L41  (a1 : Int32) (a2 : Int32) (a3 : Int32) (a4 : Int32) (σ : hp_I) (k : Int64 → Option (px_X (Int64 × hp_I))) : Nat → Int64 → Int64 → Int32 → Option (px_X (Int64 × hp_I))
  | 0, _, _, _ => none
  | fu + 1, x5, x7, x9 =>
    if x9 ≤ a1 then (
      px_jn (fun (a5_8 : Int64) =>
        Option.bind (px_ldv (x7 * ((a1 - x9).toInt64)) ((x9 + (1 : Int32)).toInt64)) fun z9 =>
        px_let z9 fun v7_10 =>
        px_let (x9 + 1) fun v9_11 =>
        fn_X_boat_L41 a1 a2 a3 a4 σ k fu a5_8 v7_10 v9_11
      ) fun j12 =>
        if a2 ≤ x9 then (
          Option.bind (fn_X_power ((16 : Int32) - a3) x9) fun z13 =>
          Option.bind (fn_X_power a3 (a1 - x9)) fun z14 =>
          px_let (x5 + ((x7 * z13) * z14)) fun v5_15 =>
          j12 v5_15
        ) else (
          j12 x5
        )
    ) else (
      k x5
    )
def fn_X_boat  (o : Nat) (p1 : Int32) (p2 : Int32) (p3 : Int32) (p4 : Int32) (σ : hp_I) : Option (px_X (Int64 × hp_I)) :=
  px_bx (fn_X_demandWithin o p1 (0 : Int32) (12 : Int32) σ) fun s1 =>
  px_bx (fn_X_demandWithin o p2 (0 : Int32) (13 : Int32) s1) fun s2 =>
  px_bx (fn_X_demandWithin o p3 (0 : Int32) (16 : Int32) s2) fun s3 =>
  px_bx (fn_X_demandWithin o p4 (0 : Int32) (1 : Int32) s3) fun s4 =>
  px_let (0 : Int64) fun v5_5 =>
  px_let (1 : Int64) fun v7_6 =>
  px_let (0 : Int32) fun v9_7 =>
  fn_X_boat_L41 p1 p2 p3 p4 s4
    (fun (y_16 : Int64) =>
      Option.bind (fn_X_power (16 : Int32) p1) fun z17 =>
      px_let z17 fun v9_18 =>
      Option.bind (fn_X_commonDivisor v9_18 y_16) fun z19 =>
      px_let z19 fun v11_20 =>
      if (lg_cmp v11_20 (0 : Int64)) = 0 then (
        some (.inr ((0 : Int64), s4))
      ) else (
        px_jn (fun (t21 : Int64) =>
          Option.bind (px_ldv t21 v11_20) fun z22 =>
          some (.inr (z22, s4))
        ) fun j23 =>
          if p4 = 0 then (
            j23 y_16
          ) else (
            j23 v9_18
          )
      )
    )
    FU v5_5 v7_6 v9_7
set_option maxHeartbeats 4000000 in
set_option maxRecDepth 100000 in
theorem pf_X_boat_L41 {G : wd_G} {M : wd_M}  (C : cx_C G M RX11 cX11_boat 13 7 (some .long)) (X : cx_X M 7 4) (a1 : Int32) (a2 : Int32) (a3 : Int32) (a4 : Int32) (σ : hp_I) (τ : hp_L) (k : Int64 → Option (px_X (Int64 × hp_I))) (hk : ∀ (y5 : Int64), dn_D G M 13 4 24 (cm_X G M τ 4 (ci_l2 τ)) 101 [(1, .int a1), (4, .int a4), (5, .long y5)] [] σ τ (k y5)) : ∀ (fu : Nat) (x5 : Int64) (x7 : Int64) (x9 : Int32), dn_D G M 13 4 24 (cm_X G M τ 4 (ci_l2 τ)) 41 [(1, .int a1), (2, .int a2), (3, .int a3), (4, .int a4), (5, .long x5), (7, .long x7), (9, .int x9)] [] σ τ (fn_X_boat_L41 a1 a2 a3 a4 σ k fu x5 x7 x9) := by
  intro fu
  induction fu with
  | zero => exact fun x5 x7 x9 => dn_none
  | succ fu ih =>
    intro x5 x7 x9
    unfold fn_X_boat_L41
    refine dn_iload C dX11_boat_41 6 rfl rfl ?_
    refine dn_iload_n C dX11_boat_43 rfl 0 rfl rfl ?_
    refine dn_icmp_gt (t := 101) C dX11_boat_44 (by decide) rfl ?_ ?_
    · refine dn_iload C dX11_boat_47 6 rfl rfl ?_
      refine dn_iload_n C dX11_boat_49 rfl 1 rfl rfl ?_
      refine dn_jn (fun z => ∀ (a5_8 : Int64), dn_D G M 13 4 24 (cm_X G M τ 4 (ci_l2 τ)) 79 [(1, .int a1), (2, .int a2), (3, .int a3), (4, .int a4), (5, .long a5_8), (7, .long x7), (9, .int x9)] [] σ τ (z a5_8)) (fun a5_8 => ?_) (fun j12 hj12 => ?_)
      · refine dn_lload C dX11_boat_79 5 rfl rfl ?_
        refine dn_iload_n C dX11_boat_81 rfl 0 rfl rfl ?_
        refine dn_iload C dX11_boat_82 6 rfl rfl ?_
        refine dn_isub C dX11_boat_84 rfl ?_
        refine dn_i2l C dX11_boat_85 rfl ?_
        refine dn_lmul C dX11_boat_86 rfl ?_
        refine dn_iload C dX11_boat_87 6 rfl rfl ?_
        refine dn_iconst C dX11_boat_89 ic_i_1 rfl ?_
        refine dn_iadd C dX11_boat_90 rfl ?_
        refine dn_i2l C dX11_boat_91 rfl ?_
        refine dn_ldiv C dX11_boat_92 rfl (fun z9 => ?_)
        refine dn_lstore (lv0 := [(1, .int a1), (2, .int a2), (3, .int a3), (4, .int a4), (5, .long a5_8), (9, .int x9)]) C dX11_boat_93 (by decide) rfl rfl (fun v7_10 => ?_)
        refine dn_iinc (lv0 := [(7, .long v7_10), (1, .int a1), (2, .int a2), (3, .int a3), (4, .int a4), (5, .long a5_8)]) (v := x9 + 1) C dX11_boat_95 6 rfl rfl (by decide) rfl rfl (fun v9_11 => ?_)
        refine dn_goto (t := 41) C dX11_boat_98 (by decide) ?_
        refine dn_pick [2, 3, 4, 5, 6, 1, 0] rfl ?_
        exact ih a5_8 v7_10 v9_11
      · refine dn_icmp_lt (t := 79) C dX11_boat_50 (by decide) rfl ?_ ?_
        · refine dn_lload C dX11_boat_53 4 rfl rfl ?_
          refine dn_lload C dX11_boat_55 5 rfl rfl ?_
          refine dn_bipush C dX11_boat_57 ic_b_16 rfl ?_
          refine dn_iload_n C dX11_boat_59 rfl 2 rfl rfl ?_
          refine dn_isub C dX11_boat_60 rfl ?_
          refine dn_iload C dX11_boat_61 6 rfl rfl ?_
          refine dn_callS_l (As := [.int ((16 : Int32) - a3), .int x9]) (st := [.long x7, .long x5]) C (ok_X_power (cx_g C) ((16 : Int32) - a3) x9 σ τ) mt_X11_power ms_X11_power lk_X11_349 (by decide) rfl (cs_ok X (by decide) (by decide)) (Nat.le_of_ble_eq_true rfl) dX11_boat_63 rfl rfl (fun z13 => ?_)
          refine dn_lmul C dX11_boat_66 rfl ?_
          refine dn_iload_n C dX11_boat_67 rfl 2 rfl rfl ?_
          refine dn_iload_n C dX11_boat_68 rfl 0 rfl rfl ?_
          refine dn_iload C dX11_boat_69 6 rfl rfl ?_
          refine dn_isub C dX11_boat_71 rfl ?_
          refine dn_callS_l (As := [.int a3, .int (a1 - x9)]) (st := [.long (x7 * z13), .long x5]) C (ok_X_power (cx_g C) a3 (a1 - x9) σ τ) mt_X11_power ms_X11_power lk_X11_349 (by decide) rfl (cs_ok X (by decide) (by decide)) (Nat.le_of_ble_eq_true rfl) dX11_boat_72 rfl rfl (fun z14 => ?_)
          refine dn_lmul C dX11_boat_75 rfl ?_
          refine dn_ladd C dX11_boat_76 rfl ?_
          refine dn_lstore (lv0 := [(1, .int a1), (2, .int a2), (3, .int a3), (4, .int a4), (7, .long x7), (9, .int x9)]) C dX11_boat_77 (by decide) rfl rfl (fun v5_15 => ?_)
          refine dn_pick [1, 2, 3, 4, 0, 5, 6] rfl ?_
          exact hj12 v5_15
        · exact hj12 x5
    · refine dn_pick [0, 3, 4] rfl ?_
      exact hk x5
set_option maxHeartbeats 4000000 in
set_option maxRecDepth 100000 in
theorem okx_X_boat {G : wd_G} {l : Launch} (hN : gd_ok G) (htr : l.stackTraces = false) (o : Nat) (ho : sh_kd o = 11) (p1 : Int32) (p2 : Int32) (p3 : Int32) (p4 : Int32) (σ : hp_I) (τ : hp_L) : cl_X G l 7 4 yX11_boat cX11_boat 13 (some .long) [.ref (wd_b G + o), .int p1, .int p2, .int p3, .int p4] σ τ (ci_l2 τ) (fn_X_boat o p1 p2 p3 p4 σ) := by
  refine cl_ofX (lv0 := [(0, .ref (wd_b G + o)), (1, .int p1), (2, .int p2), (3, .int p3), (4, .int p4)]) (ci_l2 τ) (by decide) (Nat.le_of_ble_eq_true rfl) rfl hN htr (fun M X C => ?_)
  have C : cx_C G M RX11 cX11_boat 13 7 (some .long) := C
  unfold fn_X_boat
  refine dn_aload_n C dX11_boat_0 rfl 0 rfl rfl ?_
  refine dn_iload_n C dX11_boat_1 rfl 1 rfl rfl ?_
  refine dn_iconst C dX11_boat_2 ic_i_0 rfl ?_
  refine dn_bipush C dX11_boat_3 ic_b_12 rfl ?_
  refine dn_callX_h (As := [.int p1, .int (0 : Int32), .int (12 : Int32)]) (st := []) C X (okx_X_demandWithin (cx_g C) X.2.2 o ho p1 (0 : Int32) (12 : Int32) σ τ) mt_X11_demandWithin mv_X11_demandWithin lk_X11_182 (by decide) ho rfl (by decide) (by decide) (Nat.le_of_ble_eq_true rfl) dX11_boat_5 rfl rfl (fun s1 => ?_)
  refine dn_aload_n C dX11_boat_8 rfl 0 rfl rfl ?_
  refine dn_iload_n C dX11_boat_9 rfl 2 rfl rfl ?_
  refine dn_iconst C dX11_boat_10 ic_i_0 rfl ?_
  refine dn_bipush C dX11_boat_11 ic_b_13 rfl ?_
  refine dn_callX_h (As := [.int p2, .int (0 : Int32), .int (13 : Int32)]) (st := []) C X (okx_X_demandWithin (cx_g C) X.2.2 o ho p2 (0 : Int32) (13 : Int32) s1 τ) mt_X11_demandWithin mv_X11_demandWithin lk_X11_182 (by decide) ho rfl (by decide) (by decide) (Nat.le_of_ble_eq_true rfl) dX11_boat_13 rfl rfl (fun s2 => ?_)
  refine dn_aload_n C dX11_boat_16 rfl 0 rfl rfl ?_
  refine dn_iload_n C dX11_boat_17 rfl 3 rfl rfl ?_
  refine dn_iconst C dX11_boat_18 ic_i_0 rfl ?_
  refine dn_bipush C dX11_boat_19 ic_b_16 rfl ?_
  refine dn_callX_h (As := [.int p3, .int (0 : Int32), .int (16 : Int32)]) (st := []) C X (okx_X_demandWithin (cx_g C) X.2.2 o ho p3 (0 : Int32) (16 : Int32) s2 τ) mt_X11_demandWithin mv_X11_demandWithin lk_X11_182 (by decide) ho rfl (by decide) (by decide) (Nat.le_of_ble_eq_true rfl) dX11_boat_21 rfl rfl (fun s3 => ?_)
  refine dn_aload_n C dX11_boat_24 rfl 0 rfl rfl ?_
  refine dn_iload C dX11_boat_25 4 rfl rfl ?_
  refine dn_iconst C dX11_boat_27 ic_i_0 rfl ?_
  refine dn_iconst C dX11_boat_28 ic_i_1 rfl ?_
  refine dn_callX_h (As := [.int p4, .int (0 : Int32), .int (1 : Int32)]) (st := []) C X (okx_X_demandWithin (cx_g C) X.2.2 o ho p4 (0 : Int32) (1 : Int32) s3 τ) mt_X11_demandWithin mv_X11_demandWithin lk_X11_182 (by decide) ho rfl (by decide) (by decide) (Nat.le_of_ble_eq_true rfl) dX11_boat_29 rfl rfl (fun s4 => ?_)
  refine dn_lconst (v := 0) C dX11_boat_32 (by decide) rfl ?_
  refine dn_lstore (lv0 := [(0, .ref (wd_b G + o)), (1, .int p1), (2, .int p2), (3, .int p3), (4, .int p4)]) C dX11_boat_33 (by decide) rfl rfl (fun v5_5 => ?_)
  refine dn_lconst (v := 1) C dX11_boat_35 (by decide) rfl ?_
  refine dn_lstore (lv0 := [(5, .long v5_5), (0, .ref (wd_b G + o)), (1, .int p1), (2, .int p2), (3, .int p3), (4, .int p4)]) C dX11_boat_36 (by decide) rfl rfl (fun v7_6 => ?_)
  refine dn_iconst C dX11_boat_38 ic_i_0 rfl ?_
  refine dn_istore (lv0 := [(7, .long v7_6), (5, .long v5_5), (0, .ref (wd_b G + o)), (1, .int p1), (2, .int p2), (3, .int p3), (4, .int p4)]) C dX11_boat_39 (by decide) rfl rfl (fun v9_7 => ?_)
  refine dn_pick [4, 5, 6, 7, 2, 1, 0] rfl ?_
  refine pf_X_boat_L41  C X p1 p2 p3 p4 s4 τ _ (fun y_16 => ?_) FU v5_5 v7_6 v9_7
  refine dn_bipush C dX11_boat_101 ic_b_16 rfl ?_
  refine dn_iload_n C dX11_boat_103 rfl 0 rfl rfl ?_
  refine dn_callS_l (As := [.int (16 : Int32), .int p1]) (st := []) C (ok_X_power (cx_g C) (16 : Int32) p1 s4 τ) mt_X11_power ms_X11_power lk_X11_349 (by decide) rfl (cs_ok X (by decide) (by decide)) (Nat.le_of_ble_eq_true rfl) dX11_boat_104 rfl rfl (fun z17 => ?_)
  refine dn_lstore (lv0 := [(1, .int p1), (4, .int p4), (5, .long y_16)]) C dX11_boat_107 (by decide) rfl rfl (fun v9_18 => ?_)
  refine dn_lload C dX11_boat_109 0 rfl rfl ?_
  refine dn_lload C dX11_boat_111 3 rfl rfl ?_
  refine dn_callS_l (As := [.long v9_18, .long y_16]) (st := []) C (ok_X_commonDivisor (cx_g C) v9_18 y_16 s4 τ) mt_X11_commonDivisor ms_X11_commonDivisor lk_X11_353 (by decide) rfl (cs_ok X (by decide) (by decide)) (Nat.le_of_ble_eq_true rfl) dX11_boat_113 rfl rfl (fun z19 => ?_)
  refine dn_lstore (lv0 := [(9, .long v9_18), (1, .int p1), (4, .int p4), (5, .long y_16)]) C dX11_boat_116 (by decide) rfl rfl (fun v11_20 => ?_)
  refine dn_lload C dX11_boat_118 0 rfl rfl ?_
  refine dn_lconst (v := 0) C dX11_boat_120 (by decide) rfl ?_
  refine dn_lcmp C dX11_boat_121 rfl ?_
  refine dn_if_ne (t := 127) C dX11_boat_122 (by decide) rfl ?_ ?_
  · refine dn_lconst (v := 0) C dX11_boat_125 (by decide) rfl ?_
    exact dn_lretX C dX11_boat_126 rfl (by decide) (by decide)
  · refine dn_iload C dX11_boat_127 3 rfl rfl ?_
    refine dn_jn (fun z => ∀ (t21 : Int64), dn_D G M 13 4 24 (cm_X G M τ 4 (ci_l2 τ)) 139 [(11, .long v11_20)] [.long t21] s4 τ (z t21)) (fun t21 => ?_) (fun j23 hj23 => ?_)
    · refine dn_lload C dX11_boat_139 0 rfl rfl ?_
      refine dn_ldiv C dX11_boat_141 rfl (fun z22 => ?_)
      exact dn_lretX C dX11_boat_142 rfl (by decide) (by decide)
    · refine dn_if_ne (t := 137) C dX11_boat_129 (by decide) rfl ?_ ?_
      · refine dn_lload C dX11_boat_132 4 rfl rfl ?_
        refine dn_goto (t := 139) C dX11_boat_134 (by decide) ?_
        refine dn_pick [0] rfl ?_
        exact hj23 y_16
      · refine dn_lload C dX11_boat_137 1 rfl rfl ?_
        refine dn_pick [0] rfl ?_
        exact hj23 v9_18
def fn_X_cat  (o : Nat) (p1 : Int32) (p2 : Int32) (σ : hp_I) : Option (px_X (Int32 × hp_I)) :=
  px_bx (fn_X_demandOneOf o p1 (σ (sh_rf o 1) 3) σ) fun s1 =>
  px_bx (fn_X_demandWithin o p2 (0 : Int32) (3 : Int32) s1) fun s2 =>
  px_sw p2 [
    ((0 : Int32), (
      Option.bind (fn_State_roomOfCat (sh_rf o 6) p1 s2) fun z4 =>
      some (.inr (z4, s2))
    )),
    ((1 : Int32), (
      Option.bind (px_ald s2 (sh_rf (sh_rf o 1) 11) p1) fun z5 =>
      some (.inr (z5, s2))
    )),
    ((2 : Int32), (
      Option.bind (fn_State_took (sh_rf o 6) p1 s2) fun z6 =>
      some (.inr (z6, s2))
    ))
  ] (
    Option.bind (fn_State_seenBy (sh_rf o 6) p1 s2) fun z3 =>
    some (.inr (z3, s2))
  )
set_option maxHeartbeats 4000000 in
set_option maxRecDepth 100000 in
theorem okx_X_cat {G : wd_G} {l : Launch} (hN : gd_ok G) (htr : l.stackTraces = false) (o : Nat) (ho : sh_kd o = 11) (p1 : Int32) (p2 : Int32) (σ : hp_I) (τ : hp_L) : cl_X G l 7 2 yX11_cat cX11_cat 3 (some .int) [.ref (wd_b G + o), .int p1, .int p2] σ τ (ci_ih τ) (fn_X_cat o p1 p2 σ) := by
  refine cl_ofX (lv0 := [(0, .ref (wd_b G + o)), (1, .int p1), (2, .int p2)]) (ci_ih τ) (by decide) (Nat.le_of_ble_eq_true rfl) rfl hN htr (fun M X C => ?_)
  have C : cx_C G M RX11 cX11_cat 3 7 (some .int) := C
  unfold fn_X_cat
  refine dn_aload_n C dX11_cat_0 rfl 0 rfl rfl ?_
  refine dn_iload_n C dX11_cat_1 rfl 1 rfl rfl ?_
  refine dn_aload_n C dX11_cat_2 rfl 0 rfl rfl ?_
  refine dn_getR C fd_X11_19 ho dX11_cat_3 rfl ?_
  refine dn_getI C fd_X11_165 (kt_11_1 ho) dX11_cat_6 rfl ?_
  refine dn_callX_h (As := [.int p1, .int (σ (sh_rf o 1) 3)]) (st := []) C X (okx_X_demandOneOf (cx_g C) X.2.2 o ho p1 (σ (sh_rf o 1) 3) σ τ) mt_X11_demandOneOf mv_X11_demandOneOf lk_X11_211 (by decide) ho rfl (by decide) (by decide) (Nat.le_of_ble_eq_true rfl) dX11_cat_9 rfl rfl (fun s1 => ?_)
  refine dn_aload_n C dX11_cat_12 rfl 0 rfl rfl ?_
  refine dn_iload_n C dX11_cat_13 rfl 2 rfl rfl ?_
  refine dn_iconst C dX11_cat_14 ic_i_0 rfl ?_
  refine dn_iconst C dX11_cat_15 ic_i_3 rfl ?_
  refine dn_callX_h (As := [.int p2, .int (0 : Int32), .int (3 : Int32)]) (st := []) C X (okx_X_demandWithin (cx_g C) X.2.2 o ho p2 (0 : Int32) (3 : Int32) s1 τ) mt_X11_demandWithin mv_X11_demandWithin lk_X11_182 (by decide) ho rfl (by decide) (by decide) (Nat.le_of_ble_eq_true rfl) dX11_cat_16 rfl rfl (fun s2 => ?_)
  refine dn_iload_n C dX11_cat_19 rfl 2 rfl rfl ?_
  refine dn_table (t0 := 76) _ C dX11_cat_20 (by decide) rfl ?_ ⟨⟨28, 48, by decide, rfl, by decide, ?_⟩, ⟨37, 57, by decide, rfl, by decide, ?_⟩, ⟨47, 67, by decide, rfl, by decide, ?_⟩, trivial⟩
  · refine dn_aload_n C dX11_cat_76 rfl 0 rfl rfl ?_
    refine dn_getR C fd_X11_52 ho dX11_cat_77 rfl ?_
    refine dn_iload_n C dX11_cat_80 rfl 1 rfl rfl ?_
    refine dn_callV_i (As := [.int p1]) (st := []) C (ok_State_seenBy (cx_g C) (sh_rf o 6) (kt_11_6 ho) p1 s2 τ) mt_X8_seenBy mv_X8_seenBy lk_X11_261 (by decide) (kt_11_6 ho) rfl (cs_ok X (by decide) (by decide)) (Nat.le_of_ble_eq_true rfl) dX11_cat_81 rfl rfl (fun z3 => ?_)
    exact dn_iretX C dX11_cat_84 rfl (by decide) (by decide)
  · refine dn_aload_n C dX11_cat_48 rfl 0 rfl rfl ?_
    refine dn_getR C fd_X11_52 ho dX11_cat_49 rfl ?_
    refine dn_iload_n C dX11_cat_52 rfl 1 rfl rfl ?_
    refine dn_callV_i (As := [.int p1]) (st := []) C (ok_State_roomOfCat (cx_g C) (sh_rf o 6) (kt_11_6 ho) p1 s2 τ) mt_X8_roomOfCat mv_X8_roomOfCat lk_X11_252 (by decide) (kt_11_6 ho) rfl (cs_ok X (by decide) (by decide)) (Nat.le_of_ble_eq_true rfl) dX11_cat_53 rfl rfl (fun z4 => ?_)
    exact dn_iretX C dX11_cat_56 rfl (by decide) (by decide)
  · refine dn_aload_n C dX11_cat_57 rfl 0 rfl rfl ?_
    refine dn_getR C fd_X11_19 ho dX11_cat_58 rfl ?_
    refine dn_getR C fd_X11_255 (kt_11_1 ho) dX11_cat_61 rfl ?_
    refine dn_iload_n C dX11_cat_64 rfl 1 rfl rfl ?_
    refine dn_iald C (kt_3_11 (kt_11_1 ho)) dX11_cat_65 rfl (fun z5 => ?_)
    exact dn_iretX C dX11_cat_66 rfl (by decide) (by decide)
  · refine dn_aload_n C dX11_cat_67 rfl 0 rfl rfl ?_
    refine dn_getR C fd_X11_52 ho dX11_cat_68 rfl ?_
    refine dn_iload_n C dX11_cat_71 rfl 1 rfl rfl ?_
    refine dn_callV_i (As := [.int p1]) (st := []) C (ok_State_took (cx_g C) (sh_rf o 6) (kt_11_6 ho) p1 s2 τ) mt_X8_took mv_X8_took lk_X11_258 (by decide) (kt_11_6 ho) rfl (cs_ok X (by decide) (by decide)) (Nat.le_of_ble_eq_true rfl) dX11_cat_72 rfl rfl (fun z6 => ?_)
    exact dn_iretX C dX11_cat_75 rfl (by decide) (by decide)
def fn_X_crowd_L14  (a0 : Nat) (a1 : Int32) (σ : hp_I) (k : Int32 → Int32 → Option (px_X (Int32 × hp_I))) : Nat → Int32 → Int32 → Int32 → Option (px_X (Int32 × hp_I))
  | 0, _, _, _ => none
  | fu + 1, x2, x3, x4 =>
    if x4 < (σ (sh_rf a0 1) 0) then (
      Option.bind (fn_State_livingIn (sh_rf a0 6) x4 σ) fun z5 =>
      Option.bind (fn_J6_bitCount_0f7a4 z5) fun z6 =>
      px_let z6 fun v5_7 =>
      px_jn (fun (a2_8 : Int32) (a3_9 : Int32) =>
        px_let (x4 + 1) fun v4_10 =>
        fn_X_crowd_L14 a0 a1 σ k fu a2_8 a3_9 v4_10
      ) fun j11 =>
        if x2 < v5_7 then (
          px_let v5_7 fun v2_12 =>
          px_let x4 fun v3_13 =>
          j11 v2_12 v3_13
        ) else (
          j11 x2 x3
        )
    ) else (
      k x2 x3
    )
def fn_X_crowd  (o : Nat) (p1 : Int32) (σ : hp_I) : Option (px_X (Int32 × hp_I)) :=
  px_bx (fn_X_demandWithin o p1 (0 : Int32) (1 : Int32) σ) fun s1 =>
  px_let (0 : Int32) fun v2_2 =>
  px_let (-1 : Int32) fun v3_3 =>
  px_let (0 : Int32) fun v4_4 =>
  fn_X_crowd_L14 o p1 s1
    (fun (y_14 : Int32) (y_15 : Int32) =>
      px_jn (fun (t16 : Int32) =>
        some (.inr (t16, s1))
      ) fun j17 =>
        px_jn (
          j17 y_15
        ) fun j18 =>
          if p1 = 0 then (
            j18
          ) else (
            if y_15 = (-1 : Int32) then (
              j18
            ) else (
              j17 y_14
            )
          )
    )
    FU v2_2 v3_3 v4_4
set_option maxHeartbeats 4000000 in
set_option maxRecDepth 100000 in
theorem pf_X_crowd_L14 {G : wd_G} {M : wd_M}  (C : cx_C G M RX11 cX11_crowd 6 7 (some .int)) (X : cx_X M 7 1) (a0 : Nat) (ha0 : sh_kd a0 = 11) (a1 : Int32) (σ : hp_I) (τ : hp_L) (k : Int32 → Int32 → Option (px_X (Int32 × hp_I))) (hk : ∀ (y2 : Int32) (y3 : Int32), dn_D G M 6 1 6 (cm_X G M τ 1 (ci_ih τ)) 58 [(1, .int a1), (2, .int y2), (3, .int y3)] [] σ τ (k y2 y3)) : ∀ (fu : Nat) (x2 : Int32) (x3 : Int32) (x4 : Int32), dn_D G M 6 1 6 (cm_X G M τ 1 (ci_ih τ)) 14 [(0, .ref (wd_b G + a0)), (1, .int a1), (2, .int x2), (3, .int x3), (4, .int x4)] [] σ τ (fn_X_crowd_L14 a0 a1 σ k fu x2 x3 x4) := by
  intro fu
  induction fu with
  | zero => exact fun x2 x3 x4 => dn_none
  | succ fu ih =>
    intro x2 x3 x4
    unfold fn_X_crowd_L14
    refine dn_iload C dX11_crowd_14 4 rfl rfl ?_
    refine dn_aload_n C dX11_crowd_16 rfl 0 rfl rfl ?_
    refine dn_getR C fd_X11_19 ha0 dX11_crowd_17 rfl ?_
    refine dn_getI C fd_X11_186 (kt_11_1 ha0) dX11_crowd_20 rfl ?_
    refine dn_icmp_ge (t := 58) C dX11_crowd_23 (by decide) rfl ?_ ?_
    · refine dn_aload_n C dX11_crowd_26 rfl 0 rfl rfl ?_
      refine dn_getR C fd_X11_52 ha0 dX11_crowd_27 rfl ?_
      refine dn_iload C dX11_crowd_30 4 rfl rfl ?_
      refine dn_callV_i (As := [.int x4]) (st := []) C (ok_State_livingIn (cx_g C) (sh_rf a0 6) (kt_11_6 ha0) x4 σ τ) mt_X8_livingIn mv_X8_livingIn lk_X11_218 (by decide) (kt_11_6 ha0) rfl (cs_ok X (by decide) (by decide)) (Nat.le_of_ble_eq_true rfl) dX11_crowd_32 rfl rfl (fun z5 => ?_)
      refine dn_callS_i (As := [.int z5]) (st := []) C (ok_J6_bitCount_0f7a4 (cx_g C) z5 σ τ) mt_J6_bitCount_0f7a4 ms_J6_bitCount_0f7a4 lk_X11_280 (by decide) rfl (cs_ok X (by decide) (by decide)) (Nat.le_of_ble_eq_true rfl) dX11_crowd_35 rfl rfl (fun z6 => ?_)
      refine dn_istore (lv0 := [(0, .ref (wd_b G + a0)), (1, .int a1), (2, .int x2), (3, .int x3), (4, .int x4)]) C dX11_crowd_38 (by decide) rfl rfl (fun v5_7 => ?_)
      refine dn_iload C dX11_crowd_40 0 rfl rfl ?_
      refine dn_iload_n C dX11_crowd_42 rfl 3 rfl rfl ?_
      refine dn_jn (fun z => ∀ (a2_8 : Int32) (a3_9 : Int32), dn_D G M 6 1 6 (cm_X G M τ 1 (ci_ih τ)) 52 [(0, .ref (wd_b G + a0)), (1, .int a1), (2, .int a2_8), (3, .int a3_9), (4, .int x4)] [] σ τ (z a2_8 a3_9)) (fun a2_8 a3_9 => ?_) (fun j11 hj11 => ?_)
      · refine dn_iinc (lv0 := [(0, .ref (wd_b G + a0)), (1, .int a1), (2, .int a2_8), (3, .int a3_9)]) (v := x4 + 1) C dX11_crowd_52 4 rfl rfl (by decide) rfl rfl (fun v4_10 => ?_)
        refine dn_goto (t := 14) C dX11_crowd_55 (by decide) ?_
        refine dn_pick [1, 2, 3, 4, 0] rfl ?_
        exact ih a2_8 a3_9 v4_10
      · refine dn_icmp_le (t := 52) C dX11_crowd_43 (by decide) rfl ?_ ?_
        · refine dn_iload C dX11_crowd_46 0 rfl rfl ?_
          refine dn_istore_n (lv0 := [(5, .int v5_7), (0, .ref (wd_b G + a0)), (1, .int a1), (3, .int x3), (4, .int x4)]) C dX11_crowd_48 rfl (by decide) rfl rfl (fun v2_12 => ?_)
          refine dn_iload C dX11_crowd_49 5 rfl rfl ?_
          refine dn_istore_n (lv0 := [(2, .int v2_12), (5, .int v5_7), (0, .ref (wd_b G + a0)), (1, .int a1), (4, .int x4)]) C dX11_crowd_51 rfl (by decide) rfl rfl (fun v3_13 => ?_)
          refine dn_pick [3, 4, 1, 0, 5] rfl ?_
          exact hj11 v2_12 v3_13
        · refine dn_pick [1, 2, 3, 4, 5] rfl ?_
          exact hj11 x2 x3
    · refine dn_pick [1, 2, 3] rfl ?_
      exact hk x2 x3
set_option maxHeartbeats 4000000 in
set_option maxRecDepth 100000 in
theorem okx_X_crowd {G : wd_G} {l : Launch} (hN : gd_ok G) (htr : l.stackTraces = false) (o : Nat) (ho : sh_kd o = 11) (p1 : Int32) (σ : hp_I) (τ : hp_L) : cl_X G l 7 1 yX11_crowd cX11_crowd 6 (some .int) [.ref (wd_b G + o), .int p1] σ τ (ci_ih τ) (fn_X_crowd o p1 σ) := by
  refine cl_ofX (lv0 := [(0, .ref (wd_b G + o)), (1, .int p1)]) (ci_ih τ) (by decide) (Nat.le_of_ble_eq_true rfl) rfl hN htr (fun M X C => ?_)
  have C : cx_C G M RX11 cX11_crowd 6 7 (some .int) := C
  unfold fn_X_crowd
  refine dn_aload_n C dX11_crowd_0 rfl 0 rfl rfl ?_
  refine dn_iload_n C dX11_crowd_1 rfl 1 rfl rfl ?_
  refine dn_iconst C dX11_crowd_2 ic_i_0 rfl ?_
  refine dn_iconst C dX11_crowd_3 ic_i_1 rfl ?_
  refine dn_callX_h (As := [.int p1, .int (0 : Int32), .int (1 : Int32)]) (st := []) C X (okx_X_demandWithin (cx_g C) X.2.2 o ho p1 (0 : Int32) (1 : Int32) σ τ) mt_X11_demandWithin mv_X11_demandWithin lk_X11_182 (by decide) ho rfl (by decide) (by decide) (Nat.le_of_ble_eq_true rfl) dX11_crowd_4 rfl rfl (fun s1 => ?_)
  refine dn_iconst C dX11_crowd_7 ic_i_0 rfl ?_
  refine dn_istore_n (lv0 := [(0, .ref (wd_b G + o)), (1, .int p1)]) C dX11_crowd_8 rfl (by decide) rfl rfl (fun v2_2 => ?_)
  refine dn_iconst C dX11_crowd_9 ic_i_m1 rfl ?_
  refine dn_istore_n (lv0 := [(2, .int v2_2), (0, .ref (wd_b G + o)), (1, .int p1)]) C dX11_crowd_10 rfl (by decide) rfl rfl (fun v3_3 => ?_)
  refine dn_iconst C dX11_crowd_11 ic_i_0 rfl ?_
  refine dn_istore (lv0 := [(3, .int v3_3), (2, .int v2_2), (0, .ref (wd_b G + o)), (1, .int p1)]) C dX11_crowd_12 (by decide) rfl rfl (fun v4_4 => ?_)
  refine dn_pick [3, 4, 2, 1, 0] rfl ?_
  refine pf_X_crowd_L14  C X o ho p1 s1 τ _ (fun y_14 y_15 => ?_) FU v2_2 v3_3 v4_4
  refine dn_iload_n C dX11_crowd_58 rfl 0 rfl rfl ?_
  refine dn_jn (fun z => ∀ (t16 : Int32), dn_D G M 6 1 6 (cm_X G M τ 1 (ci_ih τ)) 72 [] [.int t16] s1 τ (z t16)) (fun t16 => ?_) (fun j17 hj17 => ?_)
  · exact dn_iretX C dX11_crowd_72 rfl (by decide) (by decide)
  · refine dn_jn (fun z => dn_D G M 6 1 6 (cm_X G M τ 1 (ci_ih τ)) 67 [(3, .int y_15)] [] s1 τ z) ?_ (fun j18 hj18 => ?_)
    · refine dn_iload_n C dX11_crowd_67 rfl 0 rfl rfl ?_
      refine dn_goto (t := 72) C dX11_crowd_68 (by decide) ?_
      refine dn_pick [] rfl ?_
      exact hj17 y_15
    · refine dn_if_eq (t := 67) C dX11_crowd_59 (by decide) rfl ?_ ?_
      · refine dn_pick [2] rfl ?_
        exact hj18
      · refine dn_iload_n C dX11_crowd_62 rfl 2 rfl rfl ?_
        refine dn_iconst C dX11_crowd_63 ic_i_m1 rfl ?_
        refine dn_icmp_ne (t := 71) C dX11_crowd_64 (by decide) rfl ?_ ?_
        · refine dn_pick [2] rfl ?_
          exact hj18
        · refine dn_iload_n C dX11_crowd_71 rfl 1 rfl rfl ?_
          refine dn_pick [] rfl ?_
          exact hj17 y_14
def fn_X_crumbs_L68  (a0 : Nat) (a1 : Int32) (a3 : Int32) (a4 : Int32) (σ : hp_I) (k : Int32 → Option (px_X (Int32 × hp_I))) : Nat → Int32 → Int32 → Option (px_X (Int32 × hp_I))
  | 0, _, _ => none
  | fu + 1, x5, x6 =>
    if 0 < x6 then (
      Option.bind (fn_X_givenBelow a0 a4 (x5 + x6) σ) fun z8 =>
      px_jn (fun (a5_9 : Int32) =>
        Option.bind (px_div x6 (2 : Int32)) fun z10 =>
        px_let z10 fun v6_11 =>
        fn_X_crumbs_L68 a0 a1 a3 a4 σ k fu a5_9 v6_11
      ) fun j12 =>
        if z8 ≤ a3 then (
          px_let (x5 + x6) fun v5_13 =>
          j12 v5_13
        ) else (
          j12 x5
        )
    ) else (
      k x5
    )
def fn_X_crumbs  (o : Nat) (p1 : Int32) (p2 : Int32) (p3 : Int32) (σ : hp_I) : Option (px_X (Int32 × hp_I)) :=
  px_bx (fn_X_demandOneOf o p1 (σ (sh_rf o 1) 2) σ) fun s1 =>
  px_bx (fn_X_demandWithin o p2 (0 : Int32) (((1 : Int32) <<< ((s1 (sh_rf o 1) 2) &&& 31)) - (1 : Int32)) s1) fun s2 =>
  px_bx (fn_X_demandWithin o p3 (0 : Int32) (999 : Int32) s2) fun s3 =>
  Option.bind (fn_State_living (sh_rf o 6) s3) fun z4 =>
  px_let (p2 &&& z4) fun v4_5 =>
  if ((v4_5 >>> (p1 &&& 31)) &&& (1 : Int32)) = 0 then (
    some (.inr ((0 : Int32), s3))
  ) else (
    px_let (0 : Int32) fun v5_6 =>
    px_let (512 : Int32) fun v6_7 =>
    fn_X_crumbs_L68 o p1 p3 v4_5 s3
      (fun (y_14 : Int32) =>
        Option.bind (fn_State_size (sh_rf o 6) p1 s3) fun z15 =>
        some (.inr (px_min z15 y_14, s3))
      )
      FU v5_6 v6_7
  )
set_option maxHeartbeats 4000000 in
set_option maxRecDepth 100000 in
theorem pf_X_crumbs_L68 {G : wd_G} {M : wd_M}  (C : cx_C G M RX11 cX11_crumbs 7 7 (some .int)) (X : cx_X M 7 3) (a0 : Nat) (ha0 : sh_kd a0 = 11) (a1 : Int32) (a3 : Int32) (a4 : Int32) (σ : hp_I) (τ : hp_L) (k : Int32 → Option (px_X (Int32 × hp_I))) (hk : ∀ (y5 : Int32), dn_D G M 7 3 18 (cm_X G M τ 3 (ci_ih τ)) 104 [(0, .ref (wd_b G + a0)), (1, .int a1), (5, .int y5)] [] σ τ (k y5)) : ∀ (fu : Nat) (x5 : Int32) (x6 : Int32), dn_D G M 7 3 18 (cm_X G M τ 3 (ci_ih τ)) 68 [(0, .ref (wd_b G + a0)), (1, .int a1), (3, .int a3), (4, .int a4), (5, .int x5), (6, .int x6)] [] σ τ (fn_X_crumbs_L68 a0 a1 a3 a4 σ k fu x5 x6) := by
  intro fu
  induction fu with
  | zero => exact fun x5 x6 => dn_none
  | succ fu ih =>
    intro x5 x6
    unfold fn_X_crumbs_L68
    refine dn_iload C dX11_crumbs_68 5 rfl rfl ?_
    refine dn_if_le (t := 104) C dX11_crumbs_70 (by decide) rfl ?_ ?_
    · refine dn_aload_n C dX11_crumbs_73 rfl 0 rfl rfl ?_
      refine dn_iload C dX11_crumbs_74 3 rfl rfl ?_
      refine dn_iload C dX11_crumbs_76 4 rfl rfl ?_
      refine dn_iload C dX11_crumbs_78 5 rfl rfl ?_
      refine dn_iadd C dX11_crumbs_80 rfl ?_
      refine dn_callV_i (As := [.int a4, .int (x5 + x6)]) (st := []) C (ok_X_givenBelow (cx_g C) a0 ha0 a4 (x5 + x6) σ τ) mt_X11_givenBelow mv_X11_givenBelow lk_X11_357 (by decide) ha0 rfl (cs_ok X (by decide) (by decide)) (Nat.le_of_ble_eq_true rfl) dX11_crumbs_81 rfl rfl (fun z8 => ?_)
      refine dn_iload_n C dX11_crumbs_84 rfl 2 rfl rfl ?_
      refine dn_jn (fun z => ∀ (a5_9 : Int32), dn_D G M 7 3 18 (cm_X G M τ 3 (ci_ih τ)) 95 [(0, .ref (wd_b G + a0)), (1, .int a1), (3, .int a3), (4, .int a4), (5, .int a5_9), (6, .int x6)] [] σ τ (z a5_9)) (fun a5_9 => ?_) (fun j12 hj12 => ?_)
      · refine dn_iload C dX11_crumbs_95 5 rfl rfl ?_
        refine dn_iconst C dX11_crumbs_97 ic_i_2 rfl ?_
        refine dn_idiv C dX11_crumbs_98 rfl (fun z10 => ?_)
        refine dn_istore (lv0 := [(0, .ref (wd_b G + a0)), (1, .int a1), (3, .int a3), (4, .int a4), (5, .int a5_9)]) C dX11_crumbs_99 (by decide) rfl rfl (fun v6_11 => ?_)
        refine dn_goto (t := 68) C dX11_crumbs_101 (by decide) ?_
        refine dn_pick [1, 2, 3, 4, 5, 0] rfl ?_
        exact ih a5_9 v6_11
      · refine dn_icmp_gt (t := 95) C dX11_crumbs_85 (by decide) rfl ?_ ?_
        · refine dn_iload C dX11_crumbs_88 4 rfl rfl ?_
          refine dn_iload C dX11_crumbs_90 5 rfl rfl ?_
          refine dn_iadd C dX11_crumbs_92 rfl ?_
          refine dn_istore (lv0 := [(0, .ref (wd_b G + a0)), (1, .int a1), (3, .int a3), (4, .int a4), (6, .int x6)]) C dX11_crumbs_93 (by decide) rfl rfl (fun v5_13 => ?_)
          refine dn_pick [1, 2, 3, 4, 0, 5] rfl ?_
          exact hj12 v5_13
        · exact hj12 x5
    · refine dn_pick [0, 1, 4] rfl ?_
      exact hk x5
set_option maxHeartbeats 4000000 in
set_option maxRecDepth 100000 in
theorem okx_X_crumbs {G : wd_G} {l : Launch} (hN : gd_ok G) (htr : l.stackTraces = false) (o : Nat) (ho : sh_kd o = 11) (p1 : Int32) (p2 : Int32) (p3 : Int32) (σ : hp_I) (τ : hp_L) : cl_X G l 7 3 yX11_crumbs cX11_crumbs 7 (some .int) [.ref (wd_b G + o), .int p1, .int p2, .int p3] σ τ (ci_ih τ) (fn_X_crumbs o p1 p2 p3 σ) := by
  refine cl_ofX (lv0 := [(0, .ref (wd_b G + o)), (1, .int p1), (2, .int p2), (3, .int p3)]) (ci_ih τ) (by decide) (Nat.le_of_ble_eq_true rfl) rfl hN htr (fun M X C => ?_)
  have C : cx_C G M RX11 cX11_crumbs 7 7 (some .int) := C
  unfold fn_X_crumbs
  refine dn_aload_n C dX11_crumbs_0 rfl 0 rfl rfl ?_
  refine dn_iload_n C dX11_crumbs_1 rfl 1 rfl rfl ?_
  refine dn_aload_n C dX11_crumbs_2 rfl 0 rfl rfl ?_
  refine dn_getR C fd_X11_19 ho dX11_crumbs_3 rfl ?_
  refine dn_getI C fd_X11_137 (kt_11_1 ho) dX11_crumbs_6 rfl ?_
  refine dn_callX_h (As := [.int p1, .int (σ (sh_rf o 1) 2)]) (st := []) C X (okx_X_demandOneOf (cx_g C) X.2.2 o ho p1 (σ (sh_rf o 1) 2) σ τ) mt_X11_demandOneOf mv_X11_demandOneOf lk_X11_211 (by decide) ho rfl (by decide) (by decide) (Nat.le_of_ble_eq_true rfl) dX11_crumbs_9 rfl rfl (fun s1 => ?_)
  refine dn_aload_n C dX11_crumbs_12 rfl 0 rfl rfl ?_
  refine dn_iload_n C dX11_crumbs_13 rfl 2 rfl rfl ?_
  refine dn_iconst C dX11_crumbs_14 ic_i_0 rfl ?_
  refine dn_iconst C dX11_crumbs_15 ic_i_1 rfl ?_
  refine dn_aload_n C dX11_crumbs_16 rfl 0 rfl rfl ?_
  refine dn_getR C fd_X11_19 ho dX11_crumbs_17 rfl ?_
  refine dn_getI C fd_X11_137 (kt_11_1 ho) dX11_crumbs_20 rfl ?_
  refine dn_ishl C dX11_crumbs_23 rfl ?_
  refine dn_iconst C dX11_crumbs_24 ic_i_1 rfl ?_
  refine dn_isub C dX11_crumbs_25 rfl ?_
  refine dn_callX_h (As := [.int p2, .int (0 : Int32), .int (((1 : Int32) <<< ((s1 (sh_rf o 1) 2) &&& 31)) - (1 : Int32))]) (st := []) C X (okx_X_demandWithin (cx_g C) X.2.2 o ho p2 (0 : Int32) (((1 : Int32) <<< ((s1 (sh_rf o 1) 2) &&& 31)) - (1 : Int32)) s1 τ) mt_X11_demandWithin mv_X11_demandWithin lk_X11_182 (by decide) ho rfl (by decide) (by decide) (Nat.le_of_ble_eq_true rfl) dX11_crumbs_26 rfl rfl (fun s2 => ?_)
  refine dn_aload_n C dX11_crumbs_29 rfl 0 rfl rfl ?_
  refine dn_iload_n C dX11_crumbs_30 rfl 3 rfl rfl ?_
  refine dn_iconst C dX11_crumbs_31 ic_i_0 rfl ?_
  refine dn_sipush C dX11_crumbs_32 ic_s_999 rfl ?_
  refine dn_callX_h (As := [.int p3, .int (0 : Int32), .int (999 : Int32)]) (st := []) C X (okx_X_demandWithin (cx_g C) X.2.2 o ho p3 (0 : Int32) (999 : Int32) s2 τ) mt_X11_demandWithin mv_X11_demandWithin lk_X11_182 (by decide) ho rfl (by decide) (by decide) (Nat.le_of_ble_eq_true rfl) dX11_crumbs_35 rfl rfl (fun s3 => ?_)
  refine dn_iload_n C dX11_crumbs_38 rfl 2 rfl rfl ?_
  refine dn_aload_n C dX11_crumbs_39 rfl 0 rfl rfl ?_
  refine dn_getR C fd_X11_52 ho dX11_crumbs_40 rfl ?_
  refine dn_callV_i (As := []) (st := [.int p2]) C (ok_State_living (cx_g C) (sh_rf o 6) (kt_11_6 ho) s3 τ) mt_X8_living mv_X8_living lk_X11_195 (by decide) (kt_11_6 ho) rfl (cs_ok X (by decide) (by decide)) (Nat.le_of_ble_eq_true rfl) dX11_crumbs_43 rfl rfl (fun z4 => ?_)
  refine dn_iand C dX11_crumbs_46 rfl ?_
  refine dn_istore (lv0 := [(0, .ref (wd_b G + o)), (1, .int p1), (2, .int p2), (3, .int p3)]) C dX11_crumbs_47 (by decide) rfl rfl (fun v4_5 => ?_)
  refine dn_iload C dX11_crumbs_49 0 rfl rfl ?_
  refine dn_iload_n C dX11_crumbs_51 rfl 2 rfl rfl ?_
  refine dn_ishr C dX11_crumbs_52 rfl ?_
  refine dn_iconst C dX11_crumbs_53 ic_i_1 rfl ?_
  refine dn_iand C dX11_crumbs_54 rfl ?_
  refine dn_if_ne (t := 60) C dX11_crumbs_55 (by decide) rfl ?_ ?_
  · refine dn_iconst C dX11_crumbs_58 ic_i_0 rfl ?_
    exact dn_iretX C dX11_crumbs_59 rfl (by decide) (by decide)
  · refine dn_iconst C dX11_crumbs_60 ic_i_0 rfl ?_
    refine dn_istore (lv0 := [(4, .int v4_5), (0, .ref (wd_b G + o)), (1, .int p1), (2, .int p2), (3, .int p3)]) C dX11_crumbs_61 (by decide) rfl rfl (fun v5_6 => ?_)
    refine dn_sipush C dX11_crumbs_63 ic_s_512 rfl ?_
    refine dn_istore (lv0 := [(5, .int v5_6), (4, .int v4_5), (0, .ref (wd_b G + o)), (1, .int p1), (2, .int p2), (3, .int p3)]) C dX11_crumbs_66 (by decide) rfl rfl (fun v6_7 => ?_)
    refine dn_pick [3, 4, 6, 2, 1, 0] rfl ?_
    refine pf_X_crumbs_L68  C X o ho p1 p3 v4_5 s3 τ _ (fun y_14 => ?_) FU v5_6 v6_7
    refine dn_aload_n C dX11_crumbs_104 rfl 0 rfl rfl ?_
    refine dn_getR C fd_X11_52 ho dX11_crumbs_105 rfl ?_
    refine dn_iload_n C dX11_crumbs_108 rfl 1 rfl rfl ?_
    refine dn_callV_i (As := [.int p1]) (st := []) C (ok_State_size (cx_g C) (sh_rf o 6) (kt_11_6 ho) p1 s3 τ) mt_X8_size mv_X8_size lk_X11_236 (by decide) (kt_11_6 ho) rfl (cs_ok X (by decide) (by decide)) (Nat.le_of_ble_eq_true rfl) dX11_crumbs_109 rfl rfl (fun z15 => ?_)
    refine dn_iload C dX11_crumbs_112 2 rfl rfl ?_
    refine dn_min C mm_all lk_X11_333 (by decide) (cs_ok X (by decide) (by decide)) (Nat.le_of_ble_eq_true rfl) dX11_crumbs_114 rfl ?_
    exact dn_iretX C dX11_crumbs_117 rfl (by decide) (by decide)
def fn_X_escapes  (o : Nat) (p1 : Int32) (σ : hp_I) : Option (px_X (Int32 × hp_I)) :=
  px_bx (fn_X_demandOneOf o p1 (σ (sh_rf o 1) 2) σ) fun s1 =>
  Option.bind (fn_State_lives (sh_rf o 6) p1 s1) fun z2 =>
  if z2 = 0 then (
    some (.inr ((0 : Int32), s1))
  ) else (
    Option.bind (fn_State_roomOf (sh_rf o 6) p1 s1) fun z3 =>
    px_let z3 fun v2_4 =>
    Option.bind (fn_State_size (sh_rf o 6) p1 s1) fun z5 =>
    Option.bind (fn_State_hiddenRooms (sh_rf o 6) z5 s1) fun z6 =>
    Option.bind (fn_State_besides (sh_rf o 6) v2_4 s1) fun z7 =>
    some (.inr (z6 &&& (z7 ||| ((1 : Int32) <<< (v2_4 &&& 31))), s1))
  )
set_option maxHeartbeats 4000000 in
set_option maxRecDepth 100000 in
theorem okx_X_escapes {G : wd_G} {l : Launch} (hN : gd_ok G) (htr : l.stackTraces = false) (o : Nat) (ho : sh_kd o = 11) (p1 : Int32) (σ : hp_I) (τ : hp_L) : cl_X G l 7 1 yX11_escapes cX11_escapes 3 (some .int) [.ref (wd_b G + o), .int p1] σ τ (ci_ih τ) (fn_X_escapes o p1 σ) := by
  refine cl_ofX (lv0 := [(0, .ref (wd_b G + o)), (1, .int p1)]) (ci_ih τ) (by decide) (Nat.le_of_ble_eq_true rfl) rfl hN htr (fun M X C => ?_)
  have C : cx_C G M RX11 cX11_escapes 3 7 (some .int) := C
  unfold fn_X_escapes
  refine dn_aload_n C dX11_escapes_0 rfl 0 rfl rfl ?_
  refine dn_iload_n C dX11_escapes_1 rfl 1 rfl rfl ?_
  refine dn_aload_n C dX11_escapes_2 rfl 0 rfl rfl ?_
  refine dn_getR C fd_X11_19 ho dX11_escapes_3 rfl ?_
  refine dn_getI C fd_X11_137 (kt_11_1 ho) dX11_escapes_6 rfl ?_
  refine dn_callX_h (As := [.int p1, .int (σ (sh_rf o 1) 2)]) (st := []) C X (okx_X_demandOneOf (cx_g C) X.2.2 o ho p1 (σ (sh_rf o 1) 2) σ τ) mt_X11_demandOneOf mv_X11_demandOneOf lk_X11_211 (by decide) ho rfl (by decide) (by decide) (Nat.le_of_ble_eq_true rfl) dX11_escapes_9 rfl rfl (fun s1 => ?_)
  refine dn_aload_n C dX11_escapes_12 rfl 0 rfl rfl ?_
  refine dn_getR C fd_X11_52 ho dX11_escapes_13 rfl ?_
  refine dn_iload_n C dX11_escapes_16 rfl 1 rfl rfl ?_
  refine dn_callV_i (As := [.int p1]) (st := []) C (ok_State_lives (cx_g C) (sh_rf o 6) (kt_11_6 ho) p1 s1 τ) mt_X8_lives mv_X8_lives lk_X11_242 (by decide) (kt_11_6 ho) rfl (cs_ok X (by decide) (by decide)) (Nat.le_of_ble_eq_true rfl) dX11_escapes_17 rfl rfl (fun z2 => ?_)
  refine dn_if_ne (t := 25) C dX11_escapes_20 (by decide) rfl ?_ ?_
  · refine dn_iconst C dX11_escapes_23 ic_i_0 rfl ?_
    exact dn_iretX C dX11_escapes_24 rfl (by decide) (by decide)
  · refine dn_aload_n C dX11_escapes_25 rfl 0 rfl rfl ?_
    refine dn_getR C fd_X11_52 ho dX11_escapes_26 rfl ?_
    refine dn_iload_n C dX11_escapes_29 rfl 1 rfl rfl ?_
    refine dn_callV_i (As := [.int p1]) (st := []) C (ok_State_roomOf (cx_g C) (sh_rf o 6) (kt_11_6 ho) p1 s1 τ) mt_X8_roomOf mv_X8_roomOf lk_X11_233 (by decide) (kt_11_6 ho) rfl (cs_ok X (by decide) (by decide)) (Nat.le_of_ble_eq_true rfl) dX11_escapes_30 rfl rfl (fun z3 => ?_)
    refine dn_istore_n (lv0 := [(0, .ref (wd_b G + o)), (1, .int p1)]) C dX11_escapes_33 rfl (by decide) rfl rfl (fun v2_4 => ?_)
    refine dn_aload_n C dX11_escapes_34 rfl 1 rfl rfl ?_
    refine dn_getR C fd_X11_52 ho dX11_escapes_35 rfl ?_
    refine dn_aload_n C dX11_escapes_38 rfl 1 rfl rfl ?_
    refine dn_getR C fd_X11_52 ho dX11_escapes_39 rfl ?_
    refine dn_iload_n C dX11_escapes_42 rfl 2 rfl rfl ?_
    refine dn_callV_i (As := [.int p1]) (st := [.ref (wd_b G + sh_rf o 6)]) C (ok_State_size (cx_g C) (sh_rf o 6) (kt_11_6 ho) p1 s1 τ) mt_X8_size mv_X8_size lk_X11_236 (by decide) (kt_11_6 ho) rfl (cs_ok X (by decide) (by decide)) (Nat.le_of_ble_eq_true rfl) dX11_escapes_43 rfl rfl (fun z5 => ?_)
    refine dn_callV_i (As := [.int z5]) (st := []) C (ok_State_hiddenRooms (cx_g C) (sh_rf o 6) (kt_11_6 ho) z5 s1 τ) mt_X8_hiddenRooms mv_X8_hiddenRooms lk_X11_277 (by decide) (kt_11_6 ho) rfl (cs_ok X (by decide) (by decide)) (Nat.le_of_ble_eq_true rfl) dX11_escapes_46 rfl rfl (fun z6 => ?_)
    refine dn_aload_n C dX11_escapes_49 rfl 1 rfl rfl ?_
    refine dn_getR C fd_X11_52 ho dX11_escapes_50 rfl ?_
    refine dn_iload_n C dX11_escapes_53 rfl 0 rfl rfl ?_
    refine dn_callV_i (As := [.int v2_4]) (st := [.int z6]) C (ok_State_besides (cx_g C) (sh_rf o 6) (kt_11_6 ho) v2_4 s1 τ) mt_X8_besides mv_X8_besides lk_X11_224 (by decide) (kt_11_6 ho) rfl (cs_ok X (by decide) (by decide)) (Nat.le_of_ble_eq_true rfl) dX11_escapes_54 rfl rfl (fun z7 => ?_)
    refine dn_iconst C dX11_escapes_57 ic_i_1 rfl ?_
    refine dn_iload_n C dX11_escapes_58 rfl 0 rfl rfl ?_
    refine dn_ishl C dX11_escapes_59 rfl ?_
    refine dn_ior C dX11_escapes_60 rfl ?_
    refine dn_iand C dX11_escapes_61 rfl ?_
    exact dn_iretX C dX11_escapes_62 rfl (by decide) (by decide)
def fn_X_far  (o : Nat) (p1 : Int32) (p2 : Int32) (σ : hp_I) : Option (px_X (Int32 × hp_I)) :=
  px_bx (fn_X_demandOneOf o p1 (σ (sh_rf o 1) 0) σ) fun s1 =>
  px_bx (fn_X_demandOneOf o p2 (s1 (sh_rf o 1) 0) s1) fun s2 =>
  Option.bind (fn_State_distance (sh_rf o 6) p1 p2 s2) fun z3 =>
  some (.inr (z3, s2))
set_option maxHeartbeats 4000000 in
set_option maxRecDepth 100000 in
theorem okx_X_far {G : wd_G} {l : Launch} (hN : gd_ok G) (htr : l.stackTraces = false) (o : Nat) (ho : sh_kd o = 11) (p1 : Int32) (p2 : Int32) (σ : hp_I) (τ : hp_L) : cl_X G l 7 2 yX11_far cX11_far 3 (some .int) [.ref (wd_b G + o), .int p1, .int p2] σ τ (ci_ih τ) (fn_X_far o p1 p2 σ) := by
  refine cl_ofX (lv0 := [(0, .ref (wd_b G + o)), (1, .int p1), (2, .int p2)]) (ci_ih τ) (by decide) (Nat.le_of_ble_eq_true rfl) rfl hN htr (fun M X C => ?_)
  have C : cx_C G M RX11 cX11_far 3 7 (some .int) := C
  unfold fn_X_far
  refine dn_aload_n C dX11_far_0 rfl 0 rfl rfl ?_
  refine dn_iload_n C dX11_far_1 rfl 1 rfl rfl ?_
  refine dn_aload_n C dX11_far_2 rfl 0 rfl rfl ?_
  refine dn_getR C fd_X11_19 ho dX11_far_3 rfl ?_
  refine dn_getI C fd_X11_186 (kt_11_1 ho) dX11_far_6 rfl ?_
  refine dn_callX_h (As := [.int p1, .int (σ (sh_rf o 1) 0)]) (st := []) C X (okx_X_demandOneOf (cx_g C) X.2.2 o ho p1 (σ (sh_rf o 1) 0) σ τ) mt_X11_demandOneOf mv_X11_demandOneOf lk_X11_211 (by decide) ho rfl (by decide) (by decide) (Nat.le_of_ble_eq_true rfl) dX11_far_9 rfl rfl (fun s1 => ?_)
  refine dn_aload_n C dX11_far_12 rfl 0 rfl rfl ?_
  refine dn_iload_n C dX11_far_13 rfl 2 rfl rfl ?_
  refine dn_aload_n C dX11_far_14 rfl 0 rfl rfl ?_
  refine dn_getR C fd_X11_19 ho dX11_far_15 rfl ?_
  refine dn_getI C fd_X11_186 (kt_11_1 ho) dX11_far_18 rfl ?_
  refine dn_callX_h (As := [.int p2, .int (s1 (sh_rf o 1) 0)]) (st := []) C X (okx_X_demandOneOf (cx_g C) X.2.2 o ho p2 (s1 (sh_rf o 1) 0) s1 τ) mt_X11_demandOneOf mv_X11_demandOneOf lk_X11_211 (by decide) ho rfl (by decide) (by decide) (Nat.le_of_ble_eq_true rfl) dX11_far_21 rfl rfl (fun s2 => ?_)
  refine dn_aload_n C dX11_far_24 rfl 0 rfl rfl ?_
  refine dn_getR C fd_X11_52 ho dX11_far_25 rfl ?_
  refine dn_iload_n C dX11_far_28 rfl 1 rfl rfl ?_
  refine dn_iload_n C dX11_far_29 rfl 2 rfl rfl ?_
  refine dn_callV_i (As := [.int p1, .int p2]) (st := []) C (ok_State_distance (cx_g C) (sh_rf o 6) (kt_11_6 ho) p1 p2 s2 τ) mt_X8_distance mv_X8_distance lk_X11_288 (by decide) (kt_11_6 ho) rfl (cs_ok X (by decide) (by decide)) (Nat.le_of_ble_eq_true rfl) dX11_far_30 rfl rfl (fun z3 => ?_)
  exact dn_iretX C dX11_far_33 rfl (by decide) (by decide)
def fn_X_fits  (o : Nat) (p1 : Int32) (σ : hp_I) : Option (px_X (Int32 × hp_I)) :=
  px_bx (fn_X_demandWithin o p1 (0 : Int32) (1 : Int32) σ) fun s1 =>
  Option.bind (fn_Guess_weigh (sh_rf o 11) (sh_rf o 6) (sh_rf o 7) (sh_rf o 4) s1) fun s3 =>
  px_jn (fun (t4 : Int32) =>
    some (.inr (t4, s3))
  ) fun j5 =>
    if p1 = 0 then (
      j5 (s3 (sh_rf o 11) 2)
    ) else (
      j5 (s3 (sh_rf o 11) 3)
    )
set_option maxHeartbeats 4000000 in
set_option maxRecDepth 100000 in
theorem okx_X_fits {G : wd_G} {l : Launch} (hN : gd_ok G) (htr : l.stackTraces = false) (o : Nat) (ho : sh_kd o = 11) (p1 : Int32) (σ : hp_I) (τ : hp_L) : cl_X G l 7 1 yX11_fits cX11_fits 2 (some .int) [.ref (wd_b G + o), .int p1] σ τ (ci_ih τ) (fn_X_fits o p1 σ) := by
  refine cl_ofX (lv0 := [(0, .ref (wd_b G + o)), (1, .int p1)]) (ci_ih τ) (by decide) (Nat.le_of_ble_eq_true rfl) rfl hN htr (fun M X C => ?_)
  have C : cx_C G M RX11 cX11_fits 2 7 (some .int) := C
  unfold fn_X_fits
  refine dn_aload_n C dX11_fits_0 rfl 0 rfl rfl ?_
  refine dn_iload_n C dX11_fits_1 rfl 1 rfl rfl ?_
  refine dn_iconst C dX11_fits_2 ic_i_0 rfl ?_
  refine dn_iconst C dX11_fits_3 ic_i_1 rfl ?_
  refine dn_callX_h (As := [.int p1, .int (0 : Int32), .int (1 : Int32)]) (st := []) C X (okx_X_demandWithin (cx_g C) X.2.2 o ho p1 (0 : Int32) (1 : Int32) σ τ) mt_X11_demandWithin mv_X11_demandWithin lk_X11_182 (by decide) ho rfl (by decide) (by decide) (Nat.le_of_ble_eq_true rfl) dX11_fits_4 rfl rfl (fun s1 => ?_)
  refine dn_aload_n C dX11_fits_7 rfl 0 rfl rfl ?_
  refine dn_getR C fd_X11_85 ho dX11_fits_8 rfl ?_
  refine dn_aload_n C dX11_fits_11 rfl 0 rfl rfl ?_
  refine dn_getR C fd_X11_52 ho dX11_fits_12 rfl ?_
  refine dn_aload_n C dX11_fits_15 rfl 0 rfl rfl ?_
  refine dn_getR C fd_X11_56 ho dX11_fits_16 rfl ?_
  refine dn_aload_n C dX11_fits_19 rfl 0 rfl rfl ?_
  refine dn_getR C fd_X11_36 ho dX11_fits_20 rfl ?_
  refine dn_callV_h (As := [.ref (wd_b G + sh_rf o 6), .ref (wd_b G + sh_rf o 7), .ref (wd_b G + sh_rf o 4)]) (st := []) C (ok_Guess_weigh (cx_g C) (sh_rf o 11) (kt_11_11 ho) (sh_rf o 6) (kt_11_6 ho) (sh_rf o 7) (kt_11_7 ho) (sh_rf o 4) (kt_11_4 ho) s1 τ) mt_X2_weigh mv_X2_weigh lk_X11_313 (by decide) (kt_11_11 ho) rfl (cs_ok X (by decide) (by decide)) (Nat.le_of_ble_eq_true rfl) dX11_fits_23 rfl rfl (fun s3 => ?_)
  refine dn_iload_n C dX11_fits_26 rfl 1 rfl rfl ?_
  refine dn_jn (fun z => ∀ (t4 : Int32), dn_D G M 2 1 6 (cm_X G M τ 1 (ci_ih τ)) 47 [] [.int t4] s3 τ (z t4)) (fun t4 => ?_) (fun j5 hj5 => ?_)
  · exact dn_iretX C dX11_fits_47 rfl (by decide) (by decide)
  · refine dn_if_ne (t := 40) C dX11_fits_27 (by decide) rfl ?_ ?_
    · refine dn_aload_n C dX11_fits_30 rfl 0 rfl rfl ?_
      refine dn_getR C fd_X11_85 ho dX11_fits_31 rfl ?_
      refine dn_getI C fd_X11_317 (kt_11_11 ho) dX11_fits_34 rfl ?_
      refine dn_goto (t := 47) C dX11_fits_37 (by decide) ?_
      refine dn_pick [] rfl ?_
      exact hj5 (s3 (sh_rf o 11) 2)
    · refine dn_aload_n C dX11_fits_40 rfl 0 rfl rfl ?_
      refine dn_getR C fd_X11_85 ho dX11_fits_41 rfl ?_
      refine dn_getI C fd_X11_320 (kt_11_11 ho) dX11_fits_44 rfl ?_
      refine dn_pick [] rfl ?_
      exact hj5 (s3 (sh_rf o 11) 3)
def fn_X_greatest  (o : Nat) (p1 : Int32) (σ : hp_I) : Option (px_X (Int32 × hp_I)) :=
  px_bx (fn_X_demandWithin o p1 (0 : Int32) (1 : Int32) σ) fun s1 =>
  Option.bind (fn_State_living (sh_rf o 6) s1) fun z2 =>
  Option.bind (fn_State_greatestOf (sh_rf o 6) z2 s1) fun z3 =>
  px_let z3 fun v2_4 =>
  if v2_4 = (-1 : Int32) then (
    some (.inr ((-1 : Int32), s1))
  ) else (
    px_jn (fun (t5 : Int32) =>
      some (.inr (t5, s1))
    ) fun j6 =>
      if p1 = 0 then (
        j6 v2_4
      ) else (
        Option.bind (fn_State_size (sh_rf o 6) v2_4 s1) fun z7 =>
        j6 z7
      )
  )
set_option maxHeartbeats 4000000 in
set_option maxRecDepth 100000 in
theorem okx_X_greatest {G : wd_G} {l : Launch} (hN : gd_ok G) (htr : l.stackTraces = false) (o : Nat) (ho : sh_kd o = 11) (p1 : Int32) (σ : hp_I) (τ : hp_L) : cl_X G l 7 1 yX11_greatest cX11_greatest 3 (some .int) [.ref (wd_b G + o), .int p1] σ τ (ci_ih τ) (fn_X_greatest o p1 σ) := by
  refine cl_ofX (lv0 := [(0, .ref (wd_b G + o)), (1, .int p1)]) (ci_ih τ) (by decide) (Nat.le_of_ble_eq_true rfl) rfl hN htr (fun M X C => ?_)
  have C : cx_C G M RX11 cX11_greatest 3 7 (some .int) := C
  unfold fn_X_greatest
  refine dn_aload_n C dX11_greatest_0 rfl 0 rfl rfl ?_
  refine dn_iload_n C dX11_greatest_1 rfl 1 rfl rfl ?_
  refine dn_iconst C dX11_greatest_2 ic_i_0 rfl ?_
  refine dn_iconst C dX11_greatest_3 ic_i_1 rfl ?_
  refine dn_callX_h (As := [.int p1, .int (0 : Int32), .int (1 : Int32)]) (st := []) C X (okx_X_demandWithin (cx_g C) X.2.2 o ho p1 (0 : Int32) (1 : Int32) σ τ) mt_X11_demandWithin mv_X11_demandWithin lk_X11_182 (by decide) ho rfl (by decide) (by decide) (Nat.le_of_ble_eq_true rfl) dX11_greatest_4 rfl rfl (fun s1 => ?_)
  refine dn_aload_n C dX11_greatest_7 rfl 0 rfl rfl ?_
  refine dn_getR C fd_X11_52 ho dX11_greatest_8 rfl ?_
  refine dn_aload_n C dX11_greatest_11 rfl 0 rfl rfl ?_
  refine dn_getR C fd_X11_52 ho dX11_greatest_12 rfl ?_
  refine dn_callV_i (As := []) (st := [.ref (wd_b G + sh_rf o 6)]) C (ok_State_living (cx_g C) (sh_rf o 6) (kt_11_6 ho) s1 τ) mt_X8_living mv_X8_living lk_X11_195 (by decide) (kt_11_6 ho) rfl (cs_ok X (by decide) (by decide)) (Nat.le_of_ble_eq_true rfl) dX11_greatest_15 rfl rfl (fun z2 => ?_)
  refine dn_callV_i (As := [.int z2]) (st := []) C (ok_State_greatestOf (cx_g C) (sh_rf o 6) (kt_11_6 ho) z2 s1 τ) mt_X8_greatestOf mv_X8_greatestOf lk_X11_271 (by decide) (kt_11_6 ho) rfl (cs_ok X (by decide) (by decide)) (Nat.le_of_ble_eq_true rfl) dX11_greatest_18 rfl rfl (fun z3 => ?_)
  refine dn_istore_n (lv0 := [(0, .ref (wd_b G + o)), (1, .int p1)]) C dX11_greatest_21 rfl (by decide) rfl rfl (fun v2_4 => ?_)
  refine dn_iload_n C dX11_greatest_22 rfl 0 rfl rfl ?_
  refine dn_iconst C dX11_greatest_23 ic_i_m1 rfl ?_
  refine dn_icmp_ne (t := 29) C dX11_greatest_24 (by decide) rfl ?_ ?_
  · refine dn_iconst C dX11_greatest_27 ic_i_m1 rfl ?_
    exact dn_iretX C dX11_greatest_28 rfl (by decide) (by decide)
  · refine dn_iload_n C dX11_greatest_29 rfl 2 rfl rfl ?_
    refine dn_jn (fun z => ∀ (t5 : Int32), dn_D G M 3 1 6 (cm_X G M τ 1 (ci_ih τ)) 45 [] [.int t5] s1 τ (z t5)) (fun t5 => ?_) (fun j6 hj6 => ?_)
    · exact dn_iretX C dX11_greatest_45 rfl (by decide) (by decide)
    · refine dn_if_ne (t := 37) C dX11_greatest_30 (by decide) rfl ?_ ?_
      · refine dn_iload_n C dX11_greatest_33 rfl 0 rfl rfl ?_
        refine dn_goto (t := 45) C dX11_greatest_34 (by decide) ?_
        refine dn_pick [] rfl ?_
        exact hj6 v2_4
      · refine dn_aload_n C dX11_greatest_37 rfl 1 rfl rfl ?_
        refine dn_getR C fd_X11_52 ho dX11_greatest_38 rfl ?_
        refine dn_iload_n C dX11_greatest_41 rfl 0 rfl rfl ?_
        refine dn_callV_i (As := [.int v2_4]) (st := []) C (ok_State_size (cx_g C) (sh_rf o 6) (kt_11_6 ho) v2_4 s1 τ) mt_X8_size mv_X8_size lk_X11_236 (by decide) (kt_11_6 ho) rfl (cs_ok X (by decide) (by decide)) (Nat.le_of_ble_eq_true rfl) dX11_greatest_42 rfl rfl (fun z7 => ?_)
        refine dn_pick [] rfl ?_
        exact hj6 z7
def fn_X_grown  (o : Nat) (p1 : Int32) (p2 : Int32) (σ : hp_I) : Option (px_X (Int32 × hp_I)) :=
  px_bx (fn_X_demandOneOf o p1 (σ (sh_rf o 1) 2) σ) fun s1 =>
  px_bx (fn_X_demandWithin o p2 (0 : Int32) (99 : Int32) s1) fun s2 =>
  Option.bind (fn_X_tryNights o p2 s2) fun s4 =>
  Option.bind (fn_State_lives (sh_rf o 7) p1 s4) fun z5 =>
  px_jn (fun (t6 : Int32) =>
    some (.inr (t6, s4))
  ) fun j7 =>
    if z5 = 0 then (
      j7 (-1 : Int32)
    ) else (
      Option.bind (fn_State_size (sh_rf o 7) p1 s4) fun z8 =>
      j7 z8
    )
set_option maxHeartbeats 4000000 in
set_option maxRecDepth 100000 in
theorem okx_X_grown {G : wd_G} {l : Launch} (hN : gd_ok G) (htr : l.stackTraces = false) (o : Nat) (ho : sh_kd o = 11) (p1 : Int32) (p2 : Int32) (σ : hp_I) (τ : hp_L) : cl_X G l 7 2 yX11_grown cX11_grown 3 (some .int) [.ref (wd_b G + o), .int p1, .int p2] σ τ (ci_ih τ) (fn_X_grown o p1 p2 σ) := by
  refine cl_ofX (lv0 := [(0, .ref (wd_b G + o)), (1, .int p1), (2, .int p2)]) (ci_ih τ) (by decide) (Nat.le_of_ble_eq_true rfl) rfl hN htr (fun M X C => ?_)
  have C : cx_C G M RX11 cX11_grown 3 7 (some .int) := C
  unfold fn_X_grown
  refine dn_aload_n C dX11_grown_0 rfl 0 rfl rfl ?_
  refine dn_iload_n C dX11_grown_1 rfl 1 rfl rfl ?_
  refine dn_aload_n C dX11_grown_2 rfl 0 rfl rfl ?_
  refine dn_getR C fd_X11_19 ho dX11_grown_3 rfl ?_
  refine dn_getI C fd_X11_137 (kt_11_1 ho) dX11_grown_6 rfl ?_
  refine dn_callX_h (As := [.int p1, .int (σ (sh_rf o 1) 2)]) (st := []) C X (okx_X_demandOneOf (cx_g C) X.2.2 o ho p1 (σ (sh_rf o 1) 2) σ τ) mt_X11_demandOneOf mv_X11_demandOneOf lk_X11_211 (by decide) ho rfl (by decide) (by decide) (Nat.le_of_ble_eq_true rfl) dX11_grown_9 rfl rfl (fun s1 => ?_)
  refine dn_aload_n C dX11_grown_12 rfl 0 rfl rfl ?_
  refine dn_iload_n C dX11_grown_13 rfl 2 rfl rfl ?_
  refine dn_iconst C dX11_grown_14 ic_i_0 rfl ?_
  refine dn_bipush C dX11_grown_15 ic_b_99 rfl ?_
  refine dn_callX_h (As := [.int p2, .int (0 : Int32), .int (99 : Int32)]) (st := []) C X (okx_X_demandWithin (cx_g C) X.2.2 o ho p2 (0 : Int32) (99 : Int32) s1 τ) mt_X11_demandWithin mv_X11_demandWithin lk_X11_182 (by decide) ho rfl (by decide) (by decide) (Nat.le_of_ble_eq_true rfl) dX11_grown_17 rfl rfl (fun s2 => ?_)
  refine dn_aload_n C dX11_grown_20 rfl 0 rfl rfl ?_
  refine dn_iload_n C dX11_grown_21 rfl 2 rfl rfl ?_
  refine dn_callV_h (As := [.int p2]) (st := []) C (ok_X_tryNights (cx_g C) o ho p2 s2 τ) mt_X11_tryNights mv_X11_tryNights lk_X11_285 (by decide) ho rfl (cs_ok X (by decide) (by decide)) (Nat.le_of_ble_eq_true rfl) dX11_grown_22 rfl rfl (fun s4 => ?_)
  refine dn_aload_n C dX11_grown_25 rfl 0 rfl rfl ?_
  refine dn_getR C fd_X11_56 ho dX11_grown_26 rfl ?_
  refine dn_iload_n C dX11_grown_29 rfl 1 rfl rfl ?_
  refine dn_callV_i (As := [.int p1]) (st := []) C (ok_State_lives (cx_g C) (sh_rf o 7) (kt_11_7 ho) p1 s4 τ) mt_X8_lives mv_X8_lives lk_X11_242 (by decide) (kt_11_7 ho) rfl (cs_ok X (by decide) (by decide)) (Nat.le_of_ble_eq_true rfl) dX11_grown_30 rfl rfl (fun z5 => ?_)
  refine dn_jn (fun z => ∀ (t6 : Int32), dn_D G M 3 2 12 (cm_X G M τ 2 (ci_ih τ)) 48 [] [.int t6] s4 τ (z t6)) (fun t6 => ?_) (fun j7 hj7 => ?_)
  · exact dn_iretX C dX11_grown_48 rfl (by decide) (by decide)
  · refine dn_if_eq (t := 47) C dX11_grown_33 (by decide) rfl ?_ ?_
    · refine dn_iconst C dX11_grown_47 ic_i_m1 rfl ?_
      refine dn_pick [] rfl ?_
      exact hj7 (-1 : Int32)
    · refine dn_aload_n C dX11_grown_36 rfl 0 rfl rfl ?_
      refine dn_getR C fd_X11_56 ho dX11_grown_37 rfl ?_
      refine dn_iload_n C dX11_grown_40 rfl 1 rfl rfl ?_
      refine dn_callV_i (As := [.int p1]) (st := []) C (ok_State_size (cx_g C) (sh_rf o 7) (kt_11_7 ho) p1 s4 τ) mt_X8_size mv_X8_size lk_X11_236 (by decide) (kt_11_7 ho) rfl (cs_ok X (by decide) (by decide)) (Nat.le_of_ble_eq_true rfl) dX11_grown_41 rfl rfl (fun z8 => ?_)
      refine dn_goto (t := 48) C dX11_grown_44 (by decide) ?_
      refine dn_pick [] rfl ?_
      exact hj7 z8
def fn_X_havens  (o : Nat) (p1 : Int32) (σ : hp_I) : Option (px_X (Int32 × hp_I)) :=
  px_bx (fn_X_demandWithin o p1 (1 : Int32) (999 : Int32) σ) fun s1 =>
  Option.bind (fn_State_hiddenRooms (sh_rf o 6) p1 s1) fun z2 =>
  some (.inr (z2, s1))
set_option maxHeartbeats 4000000 in
set_option maxRecDepth 100000 in
theorem okx_X_havens {G : wd_G} {l : Launch} (hN : gd_ok G) (htr : l.stackTraces = false) (o : Nat) (ho : sh_kd o = 11) (p1 : Int32) (σ : hp_I) (τ : hp_L) : cl_X G l 7 1 yX11_havens cX11_havens 2 (some .int) [.ref (wd_b G + o), .int p1] σ τ (ci_ih τ) (fn_X_havens o p1 σ) := by
  refine cl_ofX (lv0 := [(0, .ref (wd_b G + o)), (1, .int p1)]) (ci_ih τ) (by decide) (Nat.le_of_ble_eq_true rfl) rfl hN htr (fun M X C => ?_)
  have C : cx_C G M RX11 cX11_havens 2 7 (some .int) := C
  unfold fn_X_havens
  refine dn_aload_n C dX11_havens_0 rfl 0 rfl rfl ?_
  refine dn_iload_n C dX11_havens_1 rfl 1 rfl rfl ?_
  refine dn_iconst C dX11_havens_2 ic_i_1 rfl ?_
  refine dn_sipush C dX11_havens_3 ic_s_999 rfl ?_
  refine dn_callX_h (As := [.int p1, .int (1 : Int32), .int (999 : Int32)]) (st := []) C X (okx_X_demandWithin (cx_g C) X.2.2 o ho p1 (1 : Int32) (999 : Int32) σ τ) mt_X11_demandWithin mv_X11_demandWithin lk_X11_182 (by decide) ho rfl (by decide) (by decide) (Nat.le_of_ble_eq_true rfl) dX11_havens_6 rfl rfl (fun s1 => ?_)
  refine dn_aload_n C dX11_havens_9 rfl 0 rfl rfl ?_
  refine dn_getR C fd_X11_52 ho dX11_havens_10 rfl ?_
  refine dn_iload_n C dX11_havens_13 rfl 1 rfl rfl ?_
  refine dn_callV_i (As := [.int p1]) (st := []) C (ok_State_hiddenRooms (cx_g C) (sh_rf o 6) (kt_11_6 ho) p1 s1 τ) mt_X8_hiddenRooms mv_X8_hiddenRooms lk_X11_277 (by decide) (kt_11_6 ho) rfl (cs_ok X (by decide) (by decide)) (Nat.le_of_ble_eq_true rfl) dX11_havens_14 rfl rfl (fun z2 => ?_)
  exact dn_iretX C dX11_havens_17 rfl (by decide) (by decide)
def fn_X_hunt  (o : Nat) (p1 : Int32) (σ : hp_I) : Option (px_X (Int32 × hp_I)) :=
  px_bx (fn_X_demandWithin o p1 (0 : Int32) (1 : Int32) σ) fun s1 =>
  Option.bind (fn_Chase_solve (sh_rf o 10) (sh_rf o 6) s1) fun s3 =>
  px_jn (fun (t4 : Int32) =>
    some (.inr (t4, s3))
  ) fun j5 =>
    if p1 = 0 then (
      j5 (s3 (sh_rf o 10) 4)
    ) else (
      j5 (s3 (sh_rf o 10) 5)
    )
set_option maxHeartbeats 4000000 in
set_option maxRecDepth 100000 in
theorem okx_X_hunt {G : wd_G} {l : Launch} (hN : gd_ok G) (htr : l.stackTraces = false) (o : Nat) (ho : sh_kd o = 11) (p1 : Int32) (σ : hp_I) (τ : hp_L) : cl_X G l 7 1 yX11_hunt cX11_hunt 2 (some .int) [.ref (wd_b G + o), .int p1] σ τ (ci_ih τ) (fn_X_hunt o p1 σ) := by
  refine cl_ofX (lv0 := [(0, .ref (wd_b G + o)), (1, .int p1)]) (ci_ih τ) (by decide) (Nat.le_of_ble_eq_true rfl) rfl hN htr (fun M X C => ?_)
  have C : cx_C G M RX11 cX11_hunt 2 7 (some .int) := C
  unfold fn_X_hunt
  refine dn_aload_n C dX11_hunt_0 rfl 0 rfl rfl ?_
  refine dn_iload_n C dX11_hunt_1 rfl 1 rfl rfl ?_
  refine dn_iconst C dX11_hunt_2 ic_i_0 rfl ?_
  refine dn_iconst C dX11_hunt_3 ic_i_1 rfl ?_
  refine dn_callX_h (As := [.int p1, .int (0 : Int32), .int (1 : Int32)]) (st := []) C X (okx_X_demandWithin (cx_g C) X.2.2 o ho p1 (0 : Int32) (1 : Int32) σ τ) mt_X11_demandWithin mv_X11_demandWithin lk_X11_182 (by decide) ho rfl (by decide) (by decide) (Nat.le_of_ble_eq_true rfl) dX11_hunt_4 rfl rfl (fun s1 => ?_)
  refine dn_aload_n C dX11_hunt_7 rfl 0 rfl rfl ?_
  refine dn_getR C fd_X11_78 ho dX11_hunt_8 rfl ?_
  refine dn_aload_n C dX11_hunt_11 rfl 0 rfl rfl ?_
  refine dn_getR C fd_X11_52 ho dX11_hunt_12 rfl ?_
  refine dn_callV_h (As := [.ref (wd_b G + sh_rf o 6)]) (st := []) C (ok_Chase_solve (cx_g C) (sh_rf o 10) (kt_11_10 ho) (sh_rf o 6) (kt_11_6 ho) s1 τ) mt_X1_solve mv_X1_solve lk_X11_301 (by decide) (kt_11_10 ho) rfl (cs_ok X (by decide) (by decide)) (Nat.le_of_ble_eq_true rfl) dX11_hunt_15 rfl rfl (fun s3 => ?_)
  refine dn_iload_n C dX11_hunt_18 rfl 1 rfl rfl ?_
  refine dn_jn (fun z => ∀ (t4 : Int32), dn_D G M 2 1 6 (cm_X G M τ 1 (ci_ih τ)) 39 [] [.int t4] s3 τ (z t4)) (fun t4 => ?_) (fun j5 hj5 => ?_)
  · exact dn_iretX C dX11_hunt_39 rfl (by decide) (by decide)
  · refine dn_if_ne (t := 32) C dX11_hunt_19 (by decide) rfl ?_ ?_
    · refine dn_aload_n C dX11_hunt_22 rfl 0 rfl rfl ?_
      refine dn_getR C fd_X11_78 ho dX11_hunt_23 rfl ?_
      refine dn_getI C fd_X11_304 (kt_11_10 ho) dX11_hunt_26 rfl ?_
      refine dn_goto (t := 39) C dX11_hunt_29 (by decide) ?_
      refine dn_pick [] rfl ?_
      exact hj5 (s3 (sh_rf o 10) 4)
    · refine dn_aload_n C dX11_hunt_32 rfl 0 rfl rfl ?_
      refine dn_getR C fd_X11_78 ho dX11_hunt_33 rfl ?_
      refine dn_getI C fd_X11_307 (kt_11_10 ho) dX11_hunt_36 rfl ?_
      refine dn_pick [] rfl ?_
      exact hj5 (s3 (sh_rf o 10) 5)
def fn_X_lasts_L38  (a0 : Nat) (a1 : Int32) (k : hp_I → Option (px_X (Int32 × hp_I))) : Nat → Int32 → hp_I → Option (px_X (Int32 × hp_I))
  | 0, _, _ => none
  | fu + 1, x2, s0 =>
    if x2 ≤ (99 : Int32) then (
      px_b2 (fn_State_passNight (sh_rf a0 7) s0) fun z6 s7 =>
      Option.bind (fn_State_lives (sh_rf a0 7) a1 s7) fun z8 =>
      if z8 = 0 then (
        some (.inr (x2, s7))
      ) else (
        px_let (x2 + 1) fun v2_9 =>
        fn_X_lasts_L38 a0 a1 k fu v2_9 s7
      )
    ) else (
      k s0
    )
def fn_X_lasts  (o : Nat) (p1 : Int32) (σ : hp_I) : Option (px_X (Int32 × hp_I)) :=
  px_bx (fn_X_demandOneOf o p1 (σ (sh_rf o 1) 2) σ) fun s1 =>
  Option.bind (fn_State_lives (sh_rf o 6) p1 s1) fun z2 =>
  if z2 = 0 then (
    some (.inr ((-1 : Int32), s1))
  ) else (
    Option.bind (fn_State_copyFrom (sh_rf o 7) (sh_rf o 6) s1) fun s4 =>
    px_let (1 : Int32) fun v2_5 =>
    fn_X_lasts_L38 o p1
      (fun (s_10 : hp_I) =>
        some (.inr ((-1 : Int32), s_10))
      )
      FU v2_5 s4
  )
set_option maxHeartbeats 4000000 in
set_option maxRecDepth 100000 in
theorem pf_X_lasts_L38 {G : wd_G} {M : wd_M}  (C : cx_C G M RX11 cX11_lasts 3 7 (some .int)) (X : cx_X M 7 1) (a0 : Nat) (ha0 : sh_kd a0 = 11) (a1 : Int32)  (τ : hp_L) (k : hp_I → Option (px_X (Int32 × hp_I))) (hk : ∀ (s : hp_I), dn_D G M 3 1 6 (cm_X G M τ 1 (ci_ih τ)) 71 [] [] s τ (k s)) : ∀ (fu : Nat) (x2 : Int32) (s0 : hp_I), dn_D G M 3 1 6 (cm_X G M τ 1 (ci_ih τ)) 38 [(0, .ref (wd_b G + a0)), (1, .int a1), (2, .int x2)] [] s0 τ (fn_X_lasts_L38 a0 a1 k fu x2 s0) := by
  intro fu
  induction fu with
  | zero => exact fun x2 s0 => dn_none
  | succ fu ih =>
    intro x2 s0
    unfold fn_X_lasts_L38
    refine dn_iload_n C dX11_lasts_38 rfl 2 rfl rfl ?_
    refine dn_bipush C dX11_lasts_39 ic_b_99 rfl ?_
    refine dn_icmp_gt (t := 71) C dX11_lasts_41 (by decide) rfl ?_ ?_
    · refine dn_aload_n C dX11_lasts_44 rfl 0 rfl rfl ?_
      refine dn_getR C fd_X11_56 ha0 dX11_lasts_45 rfl ?_
      refine dn_callV_ih (As := []) (st := []) C (ok_State_passNight (cx_g C) (sh_rf a0 7) (kt_11_7 ha0) s0 τ) mt_X8_passNight mv_X8_passNight lk_X11_294 (by decide) (kt_11_7 ha0) rfl (cs_ok X (by decide) (by decide)) (Nat.le_of_ble_eq_true rfl) dX11_lasts_48 rfl rfl (fun z6 s7 => ?_)
      refine dn_pop C dX11_lasts_51 rfl rfl ?_
      refine dn_aload_n C dX11_lasts_52 rfl 0 rfl rfl ?_
      refine dn_getR C fd_X11_56 ha0 dX11_lasts_53 rfl ?_
      refine dn_iload_n C dX11_lasts_56 rfl 1 rfl rfl ?_
      refine dn_callV_i (As := [.int a1]) (st := []) C (ok_State_lives (cx_g C) (sh_rf a0 7) (kt_11_7 ha0) a1 s7 τ) mt_X8_lives mv_X8_lives lk_X11_242 (by decide) (kt_11_7 ha0) rfl (cs_ok X (by decide) (by decide)) (Nat.le_of_ble_eq_true rfl) dX11_lasts_57 rfl rfl (fun z8 => ?_)
      refine dn_if_ne (t := 65) C dX11_lasts_60 (by decide) rfl ?_ ?_
      · refine dn_iload_n C dX11_lasts_63 rfl 2 rfl rfl ?_
        exact dn_iretX C dX11_lasts_64 rfl (by decide) (by decide)
      · refine dn_iinc (lv0 := [(0, .ref (wd_b G + a0)), (1, .int a1)]) (v := x2 + 1) C dX11_lasts_65 2 rfl rfl (by decide) rfl rfl (fun v2_9 => ?_)
        refine dn_goto (t := 38) C dX11_lasts_68 (by decide) ?_
        refine dn_pick [1, 2, 0] rfl ?_
        exact ih v2_9 s7
    · refine dn_pick [] rfl ?_
      exact hk s0
set_option maxHeartbeats 4000000 in
set_option maxRecDepth 100000 in
theorem okx_X_lasts {G : wd_G} {l : Launch} (hN : gd_ok G) (htr : l.stackTraces = false) (o : Nat) (ho : sh_kd o = 11) (p1 : Int32) (σ : hp_I) (τ : hp_L) : cl_X G l 7 1 yX11_lasts cX11_lasts 3 (some .int) [.ref (wd_b G + o), .int p1] σ τ (ci_ih τ) (fn_X_lasts o p1 σ) := by
  refine cl_ofX (lv0 := [(0, .ref (wd_b G + o)), (1, .int p1)]) (ci_ih τ) (by decide) (Nat.le_of_ble_eq_true rfl) rfl hN htr (fun M X C => ?_)
  have C : cx_C G M RX11 cX11_lasts 3 7 (some .int) := C
  unfold fn_X_lasts
  refine dn_aload_n C dX11_lasts_0 rfl 0 rfl rfl ?_
  refine dn_iload_n C dX11_lasts_1 rfl 1 rfl rfl ?_
  refine dn_aload_n C dX11_lasts_2 rfl 0 rfl rfl ?_
  refine dn_getR C fd_X11_19 ho dX11_lasts_3 rfl ?_
  refine dn_getI C fd_X11_137 (kt_11_1 ho) dX11_lasts_6 rfl ?_
  refine dn_callX_h (As := [.int p1, .int (σ (sh_rf o 1) 2)]) (st := []) C X (okx_X_demandOneOf (cx_g C) X.2.2 o ho p1 (σ (sh_rf o 1) 2) σ τ) mt_X11_demandOneOf mv_X11_demandOneOf lk_X11_211 (by decide) ho rfl (by decide) (by decide) (Nat.le_of_ble_eq_true rfl) dX11_lasts_9 rfl rfl (fun s1 => ?_)
  refine dn_aload_n C dX11_lasts_12 rfl 0 rfl rfl ?_
  refine dn_getR C fd_X11_52 ho dX11_lasts_13 rfl ?_
  refine dn_iload_n C dX11_lasts_16 rfl 1 rfl rfl ?_
  refine dn_callV_i (As := [.int p1]) (st := []) C (ok_State_lives (cx_g C) (sh_rf o 6) (kt_11_6 ho) p1 s1 τ) mt_X8_lives mv_X8_lives lk_X11_242 (by decide) (kt_11_6 ho) rfl (cs_ok X (by decide) (by decide)) (Nat.le_of_ble_eq_true rfl) dX11_lasts_17 rfl rfl (fun z2 => ?_)
  refine dn_if_ne (t := 25) C dX11_lasts_20 (by decide) rfl ?_ ?_
  · refine dn_iconst C dX11_lasts_23 ic_i_m1 rfl ?_
    exact dn_iretX C dX11_lasts_24 rfl (by decide) (by decide)
  · refine dn_aload_n C dX11_lasts_25 rfl 0 rfl rfl ?_
    refine dn_getR C fd_X11_56 ho dX11_lasts_26 rfl ?_
    refine dn_aload_n C dX11_lasts_29 rfl 0 rfl rfl ?_
    refine dn_getR C fd_X11_52 ho dX11_lasts_30 rfl ?_
    refine dn_callV_h (As := [.ref (wd_b G + sh_rf o 6)]) (st := []) C (ok_State_copyFrom (cx_g C) (sh_rf o 7) (kt_11_7 ho) (sh_rf o 6) (kt_11_6 ho) s1 τ) mt_X8_copyFrom mv_X8_copyFrom lk_X11_292 (by decide) (kt_11_7 ho) rfl (cs_ok X (by decide) (by decide)) (Nat.le_of_ble_eq_true rfl) dX11_lasts_33 rfl rfl (fun s4 => ?_)
    refine dn_iconst C dX11_lasts_36 ic_i_1 rfl ?_
    refine dn_istore_n (lv0 := [(0, .ref (wd_b G + o)), (1, .int p1)]) C dX11_lasts_37 rfl (by decide) rfl rfl (fun v2_5 => ?_)
    refine dn_pick [1, 2, 0] rfl ?_
    refine pf_X_lasts_L38  C X o ho p1  τ _ (fun s_10 => ?_) FU v2_5 s4
    refine dn_iconst C dX11_lasts_71 ic_i_m1 rfl ?_
    exact dn_iretX C dX11_lasts_72 rfl (by decide) (by decide)
def fn_X_look  (o : Nat) (p1 : Int32) (σ : hp_I) : Option (px_X (Int32 × hp_I)) :=
  px_bx (fn_X_demandWithin o p1 (0 : Int32) (1 : Int32) σ) fun s1 =>
  Option.bind (fn_Guess_weigh (sh_rf o 11) (sh_rf o 6) (sh_rf o 7) (sh_rf o 4) s1) fun s3 =>
  Option.bind (fn_Guess_bestToWatch (sh_rf o 11) (sh_rf o 4) s3) fun z4 =>
  px_let z4 fun v2_5 =>
  px_jn (fun (t6 : Int32) =>
    some (.inr (t6, s3))
  ) fun j7 =>
    px_jn (
      j7 v2_5
    ) fun j8 =>
      if p1 = 0 then (
        j8
      ) else (
        if v2_5 = (-1 : Int32) then (
          j8
        ) else (
          Option.bind (fn_Guess_leftAtWorst (sh_rf o 11) v2_5 s3) fun z9 =>
          j7 z9
        )
      )
set_option maxHeartbeats 4000000 in
set_option maxRecDepth 100000 in
theorem okx_X_look {G : wd_G} {l : Launch} (hN : gd_ok G) (htr : l.stackTraces = false) (o : Nat) (ho : sh_kd o = 11) (p1 : Int32) (σ : hp_I) (τ : hp_L) : cl_X G l 7 1 yX11_look cX11_look 3 (some .int) [.ref (wd_b G + o), .int p1] σ τ (ci_ih τ) (fn_X_look o p1 σ) := by
  refine cl_ofX (lv0 := [(0, .ref (wd_b G + o)), (1, .int p1)]) (ci_ih τ) (by decide) (Nat.le_of_ble_eq_true rfl) rfl hN htr (fun M X C => ?_)
  have C : cx_C G M RX11 cX11_look 3 7 (some .int) := C
  unfold fn_X_look
  refine dn_aload_n C dX11_look_0 rfl 0 rfl rfl ?_
  refine dn_iload_n C dX11_look_1 rfl 1 rfl rfl ?_
  refine dn_iconst C dX11_look_2 ic_i_0 rfl ?_
  refine dn_iconst C dX11_look_3 ic_i_1 rfl ?_
  refine dn_callX_h (As := [.int p1, .int (0 : Int32), .int (1 : Int32)]) (st := []) C X (okx_X_demandWithin (cx_g C) X.2.2 o ho p1 (0 : Int32) (1 : Int32) σ τ) mt_X11_demandWithin mv_X11_demandWithin lk_X11_182 (by decide) ho rfl (by decide) (by decide) (Nat.le_of_ble_eq_true rfl) dX11_look_4 rfl rfl (fun s1 => ?_)
  refine dn_aload_n C dX11_look_7 rfl 0 rfl rfl ?_
  refine dn_getR C fd_X11_85 ho dX11_look_8 rfl ?_
  refine dn_aload_n C dX11_look_11 rfl 0 rfl rfl ?_
  refine dn_getR C fd_X11_52 ho dX11_look_12 rfl ?_
  refine dn_aload_n C dX11_look_15 rfl 0 rfl rfl ?_
  refine dn_getR C fd_X11_56 ho dX11_look_16 rfl ?_
  refine dn_aload_n C dX11_look_19 rfl 0 rfl rfl ?_
  refine dn_getR C fd_X11_36 ho dX11_look_20 rfl ?_
  refine dn_callV_h (As := [.ref (wd_b G + sh_rf o 6), .ref (wd_b G + sh_rf o 7), .ref (wd_b G + sh_rf o 4)]) (st := []) C (ok_Guess_weigh (cx_g C) (sh_rf o 11) (kt_11_11 ho) (sh_rf o 6) (kt_11_6 ho) (sh_rf o 7) (kt_11_7 ho) (sh_rf o 4) (kt_11_4 ho) s1 τ) mt_X2_weigh mv_X2_weigh lk_X11_313 (by decide) (kt_11_11 ho) rfl (cs_ok X (by decide) (by decide)) (Nat.le_of_ble_eq_true rfl) dX11_look_23 rfl rfl (fun s3 => ?_)
  refine dn_aload_n C dX11_look_26 rfl 0 rfl rfl ?_
  refine dn_getR C fd_X11_85 ho dX11_look_27 rfl ?_
  refine dn_aload_n C dX11_look_30 rfl 0 rfl rfl ?_
  refine dn_getR C fd_X11_36 ho dX11_look_31 rfl ?_
  refine dn_callV_i (As := [.ref (wd_b G + sh_rf o 4)]) (st := []) C (ok_Guess_bestToWatch (cx_g C) (sh_rf o 11) (kt_11_11 ho) (sh_rf o 4) (kt_11_4 ho) s3 τ) mt_X2_bestToWatch mv_X2_bestToWatch lk_X11_323 (by decide) (kt_11_11 ho) rfl (cs_ok X (by decide) (by decide)) (Nat.le_of_ble_eq_true rfl) dX11_look_34 rfl rfl (fun z4 => ?_)
  refine dn_istore_n (lv0 := [(0, .ref (wd_b G + o)), (1, .int p1)]) C dX11_look_37 rfl (by decide) rfl rfl (fun v2_5 => ?_)
  refine dn_iload_n C dX11_look_38 rfl 2 rfl rfl ?_
  refine dn_jn (fun z => ∀ (t6 : Int32), dn_D G M 3 1 6 (cm_X G M τ 1 (ci_ih τ)) 59 [] [.int t6] s3 τ (z t6)) (fun t6 => ?_) (fun j7 hj7 => ?_)
  · exact dn_iretX C dX11_look_59 rfl (by decide) (by decide)
  · refine dn_jn (fun z => dn_D G M 3 1 6 (cm_X G M τ 1 (ci_ih τ)) 47 [(2, .int v2_5)] [] s3 τ z) ?_ (fun j8 hj8 => ?_)
    · refine dn_iload_n C dX11_look_47 rfl 0 rfl rfl ?_
      refine dn_goto (t := 59) C dX11_look_48 (by decide) ?_
      refine dn_pick [] rfl ?_
      exact hj7 v2_5
    · refine dn_if_eq (t := 47) C dX11_look_39 (by decide) rfl ?_ ?_
      · refine dn_pick [0] rfl ?_
        exact hj8
      · refine dn_iload_n C dX11_look_42 rfl 0 rfl rfl ?_
        refine dn_iconst C dX11_look_43 ic_i_m1 rfl ?_
        refine dn_icmp_ne (t := 51) C dX11_look_44 (by decide) rfl ?_ ?_
        · refine dn_pick [0] rfl ?_
          exact hj8
        · refine dn_aload_n C dX11_look_51 rfl 1 rfl rfl ?_
          refine dn_getR C fd_X11_85 ho dX11_look_52 rfl ?_
          refine dn_iload_n C dX11_look_55 rfl 0 rfl rfl ?_
          refine dn_callV_i (As := [.int v2_5]) (st := []) C (ok_Guess_leftAtWorst (cx_g C) (sh_rf o 11) (kt_11_11 ho) v2_5 s3 τ) mt_X2_leftAtWorst mv_X2_leftAtWorst lk_X11_327 (by decide) (kt_11_11 ho) rfl (cs_ok X (by decide) (by decide)) (Nat.le_of_ble_eq_true rfl) dX11_look_56 rfl rfl (fun z9 => ?_)
          refine dn_pick [] rfl ?_
          exact hj7 z9
def fn_X_more  (o : Nat) (p1 : Int32) (σ : hp_I) : Option (px_X (Int32 × hp_I)) :=
  px_bx (fn_X_demandOneOf o p1 (σ (sh_rf o 1) 2) σ) fun s1 =>
  px_b2 (fn_State_growthOf (sh_rf o 6) p1 s1) fun z2 s3 =>
  some (.inr (z2, s3))
set_option maxHeartbeats 4000000 in
set_option maxRecDepth 100000 in
theorem okx_X_more {G : wd_G} {l : Launch} (hN : gd_ok G) (htr : l.stackTraces = false) (o : Nat) (ho : sh_kd o = 11) (p1 : Int32) (σ : hp_I) (τ : hp_L) : cl_X G l 7 1 yX11_more cX11_more 2 (some .int) [.ref (wd_b G + o), .int p1] σ τ (ci_ih τ) (fn_X_more o p1 σ) := by
  refine cl_ofX (lv0 := [(0, .ref (wd_b G + o)), (1, .int p1)]) (ci_ih τ) (by decide) (Nat.le_of_ble_eq_true rfl) rfl hN htr (fun M X C => ?_)
  have C : cx_C G M RX11 cX11_more 2 7 (some .int) := C
  unfold fn_X_more
  refine dn_aload_n C dX11_more_0 rfl 0 rfl rfl ?_
  refine dn_iload_n C dX11_more_1 rfl 1 rfl rfl ?_
  refine dn_aload_n C dX11_more_2 rfl 0 rfl rfl ?_
  refine dn_getR C fd_X11_19 ho dX11_more_3 rfl ?_
  refine dn_getI C fd_X11_137 (kt_11_1 ho) dX11_more_6 rfl ?_
  refine dn_callX_h (As := [.int p1, .int (σ (sh_rf o 1) 2)]) (st := []) C X (okx_X_demandOneOf (cx_g C) X.2.2 o ho p1 (σ (sh_rf o 1) 2) σ τ) mt_X11_demandOneOf mv_X11_demandOneOf lk_X11_211 (by decide) ho rfl (by decide) (by decide) (Nat.le_of_ble_eq_true rfl) dX11_more_9 rfl rfl (fun s1 => ?_)
  refine dn_aload_n C dX11_more_12 rfl 0 rfl rfl ?_
  refine dn_getR C fd_X11_52 ho dX11_more_13 rfl ?_
  refine dn_iload_n C dX11_more_16 rfl 1 rfl rfl ?_
  refine dn_callV_ih (As := [.int p1]) (st := []) C (ok_State_growthOf (cx_g C) (sh_rf o 6) (kt_11_6 ho) p1 s1 τ) mt_X8_growthOf mv_X8_growthOf lk_X11_264 (by decide) (kt_11_6 ho) rfl (cs_ok X (by decide) (by decide)) (Nat.le_of_ble_eq_true rfl) dX11_more_17 rfl rfl (fun z2 s3 => ?_)
  exact dn_iretX C dX11_more_20 rfl (by decide) (by decide)
def fn_X_openText  (o : Nat) (p1 : Int32) (p2 : Int32) (σ : hp_I) : Option (px_X (hp_I)) :=
  Option.bind (fn_Tape_bytesOnIt (sh_rf o 0) σ) fun z1 =>
  px_bx (fn_X_demandWithin o p1 (0 : Int32) (px_min z1 p2) σ) fun s2 =>
  Option.bind (fn_Tape_open (sh_rf o 0) p1 s2) fun s4 =>
  some (.inr s4)
set_option maxHeartbeats 4000000 in
set_option maxRecDepth 100000 in
theorem okx_X_openText {G : wd_G} {l : Launch} (hN : gd_ok G) (htr : l.stackTraces = false) (o : Nat) (ho : sh_kd o = 11) (p1 : Int32) (p2 : Int32) (σ : hp_I) (τ : hp_L) : cl_X G l 7 1 yX11_openText cX11_openText 3 none [.ref (wd_b G + o), .int p1, .int p2] σ τ (ci_h τ) (fn_X_openText o p1 p2 σ) := by
  refine cl_ofX (lv0 := [(0, .ref (wd_b G + o)), (1, .int p1), (2, .int p2)]) (ci_h τ) (by decide) (Nat.le_of_ble_eq_true rfl) rfl hN htr (fun M X C => ?_)
  have C : cx_C G M RX11 cX11_openText 3 7 none := C
  unfold fn_X_openText
  refine dn_aload_n C dX11_openText_0 rfl 0 rfl rfl ?_
  refine dn_iload_n C dX11_openText_1 rfl 1 rfl rfl ?_
  refine dn_iconst C dX11_openText_2 ic_i_0 rfl ?_
  refine dn_aload_n C dX11_openText_3 rfl 0 rfl rfl ?_
  refine dn_getR C fd_X11_10 ho dX11_openText_4 rfl ?_
  refine dn_callV_i (As := []) (st := [.int (0 : Int32), .int p1, .ref (wd_b G + o)]) C (ok_Tape_bytesOnIt (cx_g C) (sh_rf o 0) (kt_11_0 ho) σ τ) mt_X10_bytesOnIt mv_X10_bytesOnIt lk_X11_104 (by decide) (kt_11_0 ho) rfl (cs_ok X (by decide) (by decide)) (Nat.le_of_ble_eq_true rfl) dX11_openText_7 rfl rfl (fun z1 => ?_)
  refine dn_iload_n C dX11_openText_10 rfl 2 rfl rfl ?_
  refine dn_min C mm_all lk_X11_333 (by decide) (cs_ok X (by decide) (by decide)) (Nat.le_of_ble_eq_true rfl) dX11_openText_11 rfl ?_
  refine dn_callX_h (As := [.int p1, .int (0 : Int32), .int (px_min z1 p2)]) (st := []) C X (okx_X_demandWithin (cx_g C) X.2.2 o ho p1 (0 : Int32) (px_min z1 p2) σ τ) mt_X11_demandWithin mv_X11_demandWithin lk_X11_182 (by decide) ho rfl (by decide) (by decide) (Nat.le_of_ble_eq_true rfl) dX11_openText_14 rfl rfl (fun s2 => ?_)
  refine dn_aload_n C dX11_openText_17 rfl 0 rfl rfl ?_
  refine dn_getR C fd_X11_10 ho dX11_openText_18 rfl ?_
  refine dn_iload_n C dX11_openText_21 rfl 1 rfl rfl ?_
  refine dn_callV_h (As := [.int p1]) (st := []) C (ok_Tape_open (cx_g C) (sh_rf o 0) (kt_11_0 ho) p1 s2 τ) mt_X10_open mv_X10_open lk_X11_387 (by decide) (kt_11_0 ho) rfl (cs_ok X (by decide) (by decide)) (Nat.le_of_ble_eq_true rfl) dX11_openText_22 rfl rfl (fun s4 => ?_)
  exact dn_vretX C dX11_openText_25 rfl (by decide) (by decide)
def fn_X_prey  (o : Nat) (p1 : Int32) (σ : hp_I) : Option (px_X (Int32 × hp_I)) :=
  px_bx (fn_X_demandOneOf o p1 (σ (sh_rf o 1) 3) σ) fun s1 =>
  Option.bind (fn_Chase_solve (sh_rf o 10) (sh_rf o 6) s1) fun s3 =>
  Option.bind (px_ald s3 (sh_rf (sh_rf o 10) 3) p1) fun z4 =>
  some (.inr (z4, s3))
set_option maxHeartbeats 4000000 in
set_option maxRecDepth 100000 in
theorem okx_X_prey {G : wd_G} {l : Launch} (hN : gd_ok G) (htr : l.stackTraces = false) (o : Nat) (ho : sh_kd o = 11) (p1 : Int32) (σ : hp_I) (τ : hp_L) : cl_X G l 7 1 yX11_prey cX11_prey 2 (some .int) [.ref (wd_b G + o), .int p1] σ τ (ci_ih τ) (fn_X_prey o p1 σ) := by
  refine cl_ofX (lv0 := [(0, .ref (wd_b G + o)), (1, .int p1)]) (ci_ih τ) (by decide) (Nat.le_of_ble_eq_true rfl) rfl hN htr (fun M X C => ?_)
  have C : cx_C G M RX11 cX11_prey 2 7 (some .int) := C
  unfold fn_X_prey
  refine dn_aload_n C dX11_prey_0 rfl 0 rfl rfl ?_
  refine dn_iload_n C dX11_prey_1 rfl 1 rfl rfl ?_
  refine dn_aload_n C dX11_prey_2 rfl 0 rfl rfl ?_
  refine dn_getR C fd_X11_19 ho dX11_prey_3 rfl ?_
  refine dn_getI C fd_X11_165 (kt_11_1 ho) dX11_prey_6 rfl ?_
  refine dn_callX_h (As := [.int p1, .int (σ (sh_rf o 1) 3)]) (st := []) C X (okx_X_demandOneOf (cx_g C) X.2.2 o ho p1 (σ (sh_rf o 1) 3) σ τ) mt_X11_demandOneOf mv_X11_demandOneOf lk_X11_211 (by decide) ho rfl (by decide) (by decide) (Nat.le_of_ble_eq_true rfl) dX11_prey_9 rfl rfl (fun s1 => ?_)
  refine dn_aload_n C dX11_prey_12 rfl 0 rfl rfl ?_
  refine dn_getR C fd_X11_78 ho dX11_prey_13 rfl ?_
  refine dn_aload_n C dX11_prey_16 rfl 0 rfl rfl ?_
  refine dn_getR C fd_X11_52 ho dX11_prey_17 rfl ?_
  refine dn_callV_h (As := [.ref (wd_b G + sh_rf o 6)]) (st := []) C (ok_Chase_solve (cx_g C) (sh_rf o 10) (kt_11_10 ho) (sh_rf o 6) (kt_11_6 ho) s1 τ) mt_X1_solve mv_X1_solve lk_X11_301 (by decide) (kt_11_10 ho) rfl (cs_ok X (by decide) (by decide)) (Nat.le_of_ble_eq_true rfl) dX11_prey_20 rfl rfl (fun s3 => ?_)
  refine dn_aload_n C dX11_prey_23 rfl 0 rfl rfl ?_
  refine dn_getR C fd_X11_78 ho dX11_prey_24 rfl ?_
  refine dn_getR C fd_X11_310 (kt_11_10 ho) dX11_prey_27 rfl ?_
  refine dn_iload_n C dX11_prey_30 rfl 1 rfl rfl ?_
  refine dn_iald C (kt_1_3 (kt_11_10 ho)) dX11_prey_31 rfl (fun z4 => ?_)
  exact dn_iretX C dX11_prey_32 rfl (by decide) (by decide)
def fn_X_proudest  (o : Nat) (p1 : Int32) (σ : hp_I) : Option (px_X (Int32 × hp_I)) :=
  px_bx (fn_X_demandWithin o p1 (0 : Int32) (1 : Int32) σ) fun s1 =>
  Option.bind (fn_State_catThatTookMost (sh_rf o 6) s1) fun z2 =>
  px_let z2 fun v2_3 =>
  if v2_3 = (-1 : Int32) then (
    some (.inr ((-1 : Int32), s1))
  ) else (
    px_jn (fun (t4 : Int32) =>
      some (.inr (t4, s1))
    ) fun j5 =>
      if p1 = 0 then (
        j5 v2_3
      ) else (
        Option.bind (fn_State_took (sh_rf o 6) v2_3 s1) fun z6 =>
        j5 z6
      )
  )
set_option maxHeartbeats 4000000 in
set_option maxRecDepth 100000 in
theorem okx_X_proudest {G : wd_G} {l : Launch} (hN : gd_ok G) (htr : l.stackTraces = false) (o : Nat) (ho : sh_kd o = 11) (p1 : Int32) (σ : hp_I) (τ : hp_L) : cl_X G l 7 1 yX11_proudest cX11_proudest 3 (some .int) [.ref (wd_b G + o), .int p1] σ τ (ci_ih τ) (fn_X_proudest o p1 σ) := by
  refine cl_ofX (lv0 := [(0, .ref (wd_b G + o)), (1, .int p1)]) (ci_ih τ) (by decide) (Nat.le_of_ble_eq_true rfl) rfl hN htr (fun M X C => ?_)
  have C : cx_C G M RX11 cX11_proudest 3 7 (some .int) := C
  unfold fn_X_proudest
  refine dn_aload_n C dX11_proudest_0 rfl 0 rfl rfl ?_
  refine dn_iload_n C dX11_proudest_1 rfl 1 rfl rfl ?_
  refine dn_iconst C dX11_proudest_2 ic_i_0 rfl ?_
  refine dn_iconst C dX11_proudest_3 ic_i_1 rfl ?_
  refine dn_callX_h (As := [.int p1, .int (0 : Int32), .int (1 : Int32)]) (st := []) C X (okx_X_demandWithin (cx_g C) X.2.2 o ho p1 (0 : Int32) (1 : Int32) σ τ) mt_X11_demandWithin mv_X11_demandWithin lk_X11_182 (by decide) ho rfl (by decide) (by decide) (Nat.le_of_ble_eq_true rfl) dX11_proudest_4 rfl rfl (fun s1 => ?_)
  refine dn_aload_n C dX11_proudest_7 rfl 0 rfl rfl ?_
  refine dn_getR C fd_X11_52 ho dX11_proudest_8 rfl ?_
  refine dn_callV_i (As := []) (st := []) C (ok_State_catThatTookMost (cx_g C) (sh_rf o 6) (kt_11_6 ho) s1 τ) mt_X8_catThatTookMost mv_X8_catThatTookMost lk_X11_274 (by decide) (kt_11_6 ho) rfl (cs_ok X (by decide) (by decide)) (Nat.le_of_ble_eq_true rfl) dX11_proudest_11 rfl rfl (fun z2 => ?_)
  refine dn_istore_n (lv0 := [(0, .ref (wd_b G + o)), (1, .int p1)]) C dX11_proudest_14 rfl (by decide) rfl rfl (fun v2_3 => ?_)
  refine dn_iload_n C dX11_proudest_15 rfl 0 rfl rfl ?_
  refine dn_iconst C dX11_proudest_16 ic_i_m1 rfl ?_
  refine dn_icmp_ne (t := 22) C dX11_proudest_17 (by decide) rfl ?_ ?_
  · refine dn_iconst C dX11_proudest_20 ic_i_m1 rfl ?_
    exact dn_iretX C dX11_proudest_21 rfl (by decide) (by decide)
  · refine dn_iload_n C dX11_proudest_22 rfl 2 rfl rfl ?_
    refine dn_jn (fun z => ∀ (t4 : Int32), dn_D G M 3 1 6 (cm_X G M τ 1 (ci_ih τ)) 38 [] [.int t4] s1 τ (z t4)) (fun t4 => ?_) (fun j5 hj5 => ?_)
    · exact dn_iretX C dX11_proudest_38 rfl (by decide) (by decide)
    · refine dn_if_ne (t := 30) C dX11_proudest_23 (by decide) rfl ?_ ?_
      · refine dn_iload_n C dX11_proudest_26 rfl 0 rfl rfl ?_
        refine dn_goto (t := 38) C dX11_proudest_27 (by decide) ?_
        refine dn_pick [] rfl ?_
        exact hj5 v2_3
      · refine dn_aload_n C dX11_proudest_30 rfl 1 rfl rfl ?_
        refine dn_getR C fd_X11_52 ho dX11_proudest_31 rfl ?_
        refine dn_iload_n C dX11_proudest_34 rfl 0 rfl rfl ?_
        refine dn_callV_i (As := [.int v2_3]) (st := []) C (ok_State_took (cx_g C) (sh_rf o 6) (kt_11_6 ho) v2_3 s1 τ) mt_X8_took mv_X8_took lk_X11_258 (by decide) (kt_11_6 ho) rfl (cs_ok X (by decide) (by decide)) (Nat.le_of_ble_eq_true rfl) dX11_proudest_35 rfl rfl (fun z6 => ?_)
        refine dn_pick [] rfl ?_
        exact hj5 z6
def fn_X_room  (o : Nat) (p1 : Int32) (p2 : Int32) (σ : hp_I) : Option (px_X (Int32 × hp_I)) :=
  px_bx (fn_X_demandOneOf o p1 (σ (sh_rf o 1) 0) σ) fun s1 =>
  px_bx (fn_X_demandWithin o p2 (0 : Int32) (3 : Int32) s1) fun s2 =>
  px_sw p2 [
    ((0 : Int32), (
      Option.bind (px_ald s2 (sh_rf (sh_rf o 1) 4) p1) fun z4 =>
      some (.inr (z4, s2))
    )),
    ((1 : Int32), (
      Option.bind (fn_State_livingIn (sh_rf o 6) p1 s2) fun z5 =>
      some (.inr (z5, s2))
    )),
    ((2 : Int32), (
      Option.bind (fn_State_catsIn (sh_rf o 6) p1 s2) fun z6 =>
      some (.inr (z6, s2))
    ))
  ] (
    Option.bind (fn_State_besides (sh_rf o 6) p1 s2) fun z3 =>
    some (.inr (z3, s2))
  )
set_option maxHeartbeats 4000000 in
set_option maxRecDepth 100000 in
theorem okx_X_room {G : wd_G} {l : Launch} (hN : gd_ok G) (htr : l.stackTraces = false) (o : Nat) (ho : sh_kd o = 11) (p1 : Int32) (p2 : Int32) (σ : hp_I) (τ : hp_L) : cl_X G l 7 2 yX11_room cX11_room 3 (some .int) [.ref (wd_b G + o), .int p1, .int p2] σ τ (ci_ih τ) (fn_X_room o p1 p2 σ) := by
  refine cl_ofX (lv0 := [(0, .ref (wd_b G + o)), (1, .int p1), (2, .int p2)]) (ci_ih τ) (by decide) (Nat.le_of_ble_eq_true rfl) rfl hN htr (fun M X C => ?_)
  have C : cx_C G M RX11 cX11_room 3 7 (some .int) := C
  unfold fn_X_room
  refine dn_aload_n C dX11_room_0 rfl 0 rfl rfl ?_
  refine dn_iload_n C dX11_room_1 rfl 1 rfl rfl ?_
  refine dn_aload_n C dX11_room_2 rfl 0 rfl rfl ?_
  refine dn_getR C fd_X11_19 ho dX11_room_3 rfl ?_
  refine dn_getI C fd_X11_186 (kt_11_1 ho) dX11_room_6 rfl ?_
  refine dn_callX_h (As := [.int p1, .int (σ (sh_rf o 1) 0)]) (st := []) C X (okx_X_demandOneOf (cx_g C) X.2.2 o ho p1 (σ (sh_rf o 1) 0) σ τ) mt_X11_demandOneOf mv_X11_demandOneOf lk_X11_211 (by decide) ho rfl (by decide) (by decide) (Nat.le_of_ble_eq_true rfl) dX11_room_9 rfl rfl (fun s1 => ?_)
  refine dn_aload_n C dX11_room_12 rfl 0 rfl rfl ?_
  refine dn_iload_n C dX11_room_13 rfl 2 rfl rfl ?_
  refine dn_iconst C dX11_room_14 ic_i_0 rfl ?_
  refine dn_iconst C dX11_room_15 ic_i_3 rfl ?_
  refine dn_callX_h (As := [.int p2, .int (0 : Int32), .int (3 : Int32)]) (st := []) C X (okx_X_demandWithin (cx_g C) X.2.2 o ho p2 (0 : Int32) (3 : Int32) s1 τ) mt_X11_demandWithin mv_X11_demandWithin lk_X11_182 (by decide) ho rfl (by decide) (by decide) (Nat.le_of_ble_eq_true rfl) dX11_room_16 rfl rfl (fun s2 => ?_)
  refine dn_iload_n C dX11_room_19 rfl 2 rfl rfl ?_
  refine dn_table (t0 := 76) _ C dX11_room_20 (by decide) rfl ?_ ⟨⟨28, 48, by decide, rfl, by decide, ?_⟩, ⟨38, 58, by decide, rfl, by decide, ?_⟩, ⟨47, 67, by decide, rfl, by decide, ?_⟩, trivial⟩
  · refine dn_aload_n C dX11_room_76 rfl 0 rfl rfl ?_
    refine dn_getR C fd_X11_52 ho dX11_room_77 rfl ?_
    refine dn_iload_n C dX11_room_80 rfl 1 rfl rfl ?_
    refine dn_callV_i (As := [.int p1]) (st := []) C (ok_State_besides (cx_g C) (sh_rf o 6) (kt_11_6 ho) p1 s2 τ) mt_X8_besides mv_X8_besides lk_X11_224 (by decide) (kt_11_6 ho) rfl (cs_ok X (by decide) (by decide)) (Nat.le_of_ble_eq_true rfl) dX11_room_81 rfl rfl (fun z3 => ?_)
    exact dn_iretX C dX11_room_84 rfl (by decide) (by decide)
  · refine dn_aload_n C dX11_room_48 rfl 0 rfl rfl ?_
    refine dn_getR C fd_X11_19 ho dX11_room_49 rfl ?_
    refine dn_getR C fd_X11_214 (kt_11_1 ho) dX11_room_52 rfl ?_
    refine dn_iload_n C dX11_room_55 rfl 1 rfl rfl ?_
    refine dn_iald C (kt_3_4 (kt_11_1 ho)) dX11_room_56 rfl (fun z4 => ?_)
    exact dn_iretX C dX11_room_57 rfl (by decide) (by decide)
  · refine dn_aload_n C dX11_room_58 rfl 0 rfl rfl ?_
    refine dn_getR C fd_X11_52 ho dX11_room_59 rfl ?_
    refine dn_iload_n C dX11_room_62 rfl 1 rfl rfl ?_
    refine dn_callV_i (As := [.int p1]) (st := []) C (ok_State_livingIn (cx_g C) (sh_rf o 6) (kt_11_6 ho) p1 s2 τ) mt_X8_livingIn mv_X8_livingIn lk_X11_218 (by decide) (kt_11_6 ho) rfl (cs_ok X (by decide) (by decide)) (Nat.le_of_ble_eq_true rfl) dX11_room_63 rfl rfl (fun z5 => ?_)
    exact dn_iretX C dX11_room_66 rfl (by decide) (by decide)
  · refine dn_aload_n C dX11_room_67 rfl 0 rfl rfl ?_
    refine dn_getR C fd_X11_52 ho dX11_room_68 rfl ?_
    refine dn_iload_n C dX11_room_71 rfl 1 rfl rfl ?_
    refine dn_callV_i (As := [.int p1]) (st := []) C (ok_State_catsIn (cx_g C) (sh_rf o 6) (kt_11_6 ho) p1 s2 τ) mt_X8_catsIn mv_X8_catsIn lk_X11_221 (by decide) (kt_11_6 ho) rfl (cs_ok X (by decide) (by decide)) (Nat.le_of_ble_eq_true rfl) dX11_room_72 rfl rfl (fun z6 => ?_)
    exact dn_iretX C dX11_room_75 rfl (by decide) (by decide)
def fn_X_scheme  (o : Nat) (p1 : Int32) (p2 : Int32) (σ : hp_I) : Option (px_X (Int32 × hp_I)) :=
  px_bx (fn_X_demandOneOf o p1 (σ (sh_rf o 1) 2) σ) fun s1 =>
  px_bx (fn_X_demandWithin o p2 (0 : Int32) (5 : Int32) s1) fun s2 =>
  px_sw p2 [
    ((0 : Int32), (
      Option.bind (fn_State_roomOf (sh_rf o 6) p1 s2) fun z4 =>
      some (.inr (z4, s2))
    )),
    ((1 : Int32), (
      Option.bind (fn_State_size (sh_rf o 6) p1 s2) fun z5 =>
      some (.inr (z5, s2))
    )),
    ((2 : Int32), (
      Option.bind (px_ald s2 (sh_rf (sh_rf o 1) 9) p1) fun z6 =>
      some (.inr (z6, s2))
    )),
    ((3 : Int32), (
      Option.bind (fn_State_lives (sh_rf o 6) p1 s2) fun z7 =>
      px_jn (fun (t8 : Int32) =>
        some (.inr (t8, s2))
      ) fun j9 =>
        if z7 = 0 then (
          j9 (0 : Int32)
        ) else (
          j9 (1 : Int32)
        )
    )),
    ((4 : Int32), (
      Option.bind (fn_State_takenWhen (sh_rf o 6) p1 s2) fun z10 =>
      some (.inr (z10, s2))
    ))
  ] (
    Option.bind (fn_State_takenBy (sh_rf o 6) p1 s2) fun z3 =>
    some (.inr (z3, s2))
  )
set_option maxHeartbeats 4000000 in
set_option maxRecDepth 100000 in
theorem okx_X_scheme {G : wd_G} {l : Launch} (hN : gd_ok G) (htr : l.stackTraces = false) (o : Nat) (ho : sh_kd o = 11) (p1 : Int32) (p2 : Int32) (σ : hp_I) (τ : hp_L) : cl_X G l 7 2 yX11_scheme cX11_scheme 3 (some .int) [.ref (wd_b G + o), .int p1, .int p2] σ τ (ci_ih τ) (fn_X_scheme o p1 p2 σ) := by
  refine cl_ofX (lv0 := [(0, .ref (wd_b G + o)), (1, .int p1), (2, .int p2)]) (ci_ih τ) (by decide) (Nat.le_of_ble_eq_true rfl) rfl hN htr (fun M X C => ?_)
  have C : cx_C G M RX11 cX11_scheme 3 7 (some .int) := C
  unfold fn_X_scheme
  refine dn_aload_n C dX11_scheme_0 rfl 0 rfl rfl ?_
  refine dn_iload_n C dX11_scheme_1 rfl 1 rfl rfl ?_
  refine dn_aload_n C dX11_scheme_2 rfl 0 rfl rfl ?_
  refine dn_getR C fd_X11_19 ho dX11_scheme_3 rfl ?_
  refine dn_getI C fd_X11_137 (kt_11_1 ho) dX11_scheme_6 rfl ?_
  refine dn_callX_h (As := [.int p1, .int (σ (sh_rf o 1) 2)]) (st := []) C X (okx_X_demandOneOf (cx_g C) X.2.2 o ho p1 (σ (sh_rf o 1) 2) σ τ) mt_X11_demandOneOf mv_X11_demandOneOf lk_X11_211 (by decide) ho rfl (by decide) (by decide) (Nat.le_of_ble_eq_true rfl) dX11_scheme_9 rfl rfl (fun s1 => ?_)
  refine dn_aload_n C dX11_scheme_12 rfl 0 rfl rfl ?_
  refine dn_iload_n C dX11_scheme_13 rfl 2 rfl rfl ?_
  refine dn_iconst C dX11_scheme_14 ic_i_0 rfl ?_
  refine dn_iconst C dX11_scheme_15 ic_i_5 rfl ?_
  refine dn_callX_h (As := [.int p2, .int (0 : Int32), .int (5 : Int32)]) (st := []) C X (okx_X_demandWithin (cx_g C) X.2.2 o ho p2 (0 : Int32) (5 : Int32) s1 τ) mt_X11_demandWithin mv_X11_demandWithin lk_X11_182 (by decide) ho rfl (by decide) (by decide) (Nat.le_of_ble_eq_true rfl) dX11_scheme_16 rfl rfl (fun s2 => ?_)
  refine dn_iload_n C dX11_scheme_19 rfl 2 rfl rfl ?_
  refine dn_table (t0 := 110) _ C dX11_scheme_20 (by decide) rfl ?_ ⟨⟨36, 56, by decide, rfl, by decide, ?_⟩, ⟨45, 65, by decide, rfl, by decide, ?_⟩, ⟨54, 74, by decide, rfl, by decide, ?_⟩, ⟨64, 84, by decide, rfl, by decide, ?_⟩, ⟨81, 101, by decide, rfl, by decide, ?_⟩, trivial⟩
  · refine dn_aload_n C dX11_scheme_110 rfl 0 rfl rfl ?_
    refine dn_getR C fd_X11_52 ho dX11_scheme_111 rfl ?_
    refine dn_iload_n C dX11_scheme_114 rfl 1 rfl rfl ?_
    refine dn_callV_i (As := [.int p1]) (st := []) C (ok_State_takenBy (cx_g C) (sh_rf o 6) (kt_11_6 ho) p1 s2 τ) mt_X8_takenBy mv_X8_takenBy lk_X11_249 (by decide) (kt_11_6 ho) rfl (cs_ok X (by decide) (by decide)) (Nat.le_of_ble_eq_true rfl) dX11_scheme_115 rfl rfl (fun z3 => ?_)
    exact dn_iretX C dX11_scheme_118 rfl (by decide) (by decide)
  · refine dn_aload_n C dX11_scheme_56 rfl 0 rfl rfl ?_
    refine dn_getR C fd_X11_52 ho dX11_scheme_57 rfl ?_
    refine dn_iload_n C dX11_scheme_60 rfl 1 rfl rfl ?_
    refine dn_callV_i (As := [.int p1]) (st := []) C (ok_State_roomOf (cx_g C) (sh_rf o 6) (kt_11_6 ho) p1 s2 τ) mt_X8_roomOf mv_X8_roomOf lk_X11_233 (by decide) (kt_11_6 ho) rfl (cs_ok X (by decide) (by decide)) (Nat.le_of_ble_eq_true rfl) dX11_scheme_61 rfl rfl (fun z4 => ?_)
    exact dn_iretX C dX11_scheme_64 rfl (by decide) (by decide)
  · refine dn_aload_n C dX11_scheme_65 rfl 0 rfl rfl ?_
    refine dn_getR C fd_X11_52 ho dX11_scheme_66 rfl ?_
    refine dn_iload_n C dX11_scheme_69 rfl 1 rfl rfl ?_
    refine dn_callV_i (As := [.int p1]) (st := []) C (ok_State_size (cx_g C) (sh_rf o 6) (kt_11_6 ho) p1 s2 τ) mt_X8_size mv_X8_size lk_X11_236 (by decide) (kt_11_6 ho) rfl (cs_ok X (by decide) (by decide)) (Nat.le_of_ble_eq_true rfl) dX11_scheme_70 rfl rfl (fun z5 => ?_)
    exact dn_iretX C dX11_scheme_73 rfl (by decide) (by decide)
  · refine dn_aload_n C dX11_scheme_74 rfl 0 rfl rfl ?_
    refine dn_getR C fd_X11_19 ho dX11_scheme_75 rfl ?_
    refine dn_getR C fd_X11_239 (kt_11_1 ho) dX11_scheme_78 rfl ?_
    refine dn_iload_n C dX11_scheme_81 rfl 1 rfl rfl ?_
    refine dn_iald C (kt_3_9 (kt_11_1 ho)) dX11_scheme_82 rfl (fun z6 => ?_)
    exact dn_iretX C dX11_scheme_83 rfl (by decide) (by decide)
  · refine dn_aload_n C dX11_scheme_84 rfl 0 rfl rfl ?_
    refine dn_getR C fd_X11_52 ho dX11_scheme_85 rfl ?_
    refine dn_iload_n C dX11_scheme_88 rfl 1 rfl rfl ?_
    refine dn_callV_i (As := [.int p1]) (st := []) C (ok_State_lives (cx_g C) (sh_rf o 6) (kt_11_6 ho) p1 s2 τ) mt_X8_lives mv_X8_lives lk_X11_242 (by decide) (kt_11_6 ho) rfl (cs_ok X (by decide) (by decide)) (Nat.le_of_ble_eq_true rfl) dX11_scheme_89 rfl rfl (fun z7 => ?_)
    refine dn_jn (fun z => ∀ (t8 : Int32), dn_D G M 3 2 12 (cm_X G M τ 2 (ci_ih τ)) 100 [] [.int t8] s2 τ (z t8)) (fun t8 => ?_) (fun j9 hj9 => ?_)
    · exact dn_iretX C dX11_scheme_100 rfl (by decide) (by decide)
    · refine dn_if_eq (t := 99) C dX11_scheme_92 (by decide) rfl ?_ ?_
      · refine dn_iconst C dX11_scheme_99 ic_i_0 rfl ?_
        refine dn_pick [] rfl ?_
        exact hj9 (0 : Int32)
      · refine dn_iconst C dX11_scheme_95 ic_i_1 rfl ?_
        refine dn_goto (t := 100) C dX11_scheme_96 (by decide) ?_
        refine dn_pick [] rfl ?_
        exact hj9 (1 : Int32)
  · refine dn_aload_n C dX11_scheme_101 rfl 0 rfl rfl ?_
    refine dn_getR C fd_X11_52 ho dX11_scheme_102 rfl ?_
    refine dn_iload_n C dX11_scheme_105 rfl 1 rfl rfl ?_
    refine dn_callV_i (As := [.int p1]) (st := []) C (ok_State_takenWhen (cx_g C) (sh_rf o 6) (kt_11_6 ho) p1 s2 τ) mt_X8_takenWhen mv_X8_takenWhen lk_X11_246 (by decide) (kt_11_6 ho) rfl (cs_ok X (by decide) (by decide)) (Nat.le_of_ble_eq_true rfl) dX11_scheme_106 rfl rfl (fun z10 => ?_)
    exact dn_iretX C dX11_scheme_109 rfl (by decide) (by decide)
def fn_X_season  (o : Nat) (p1 : Int32) (p2 : Int32) (p3 : Int32) (p4 : Int32) (σ : hp_I) : Option (px_X (Int32 × hp_I)) :=
  px_bx (fn_X_demandWithin o p2 (1 : Int32) (96 : Int32) σ) fun s1 =>
  px_bx (fn_X_demandWithin o p3 (0 : Int32) (16 : Int32) s1) fun s2 =>
  px_bx (fn_X_demandWithin o p4 (0 : Int32) (3 : Int32) s2) fun s3 =>
  Option.bind (fn_State_copyFrom (sh_rf o 7) (sh_rf o 6) s3) fun s5 =>
  Option.bind (fn_Season_play (sh_rf o 12) (sh_rf o 7) p1 p2 p3 s5) fun s7 =>
  px_sw p4 [
    ((0 : Int32), (
      Option.bind (fn_State_living (sh_rf o 7) s7) fun z9 =>
      some (.inr (z9, s7))
    )),
    ((1 : Int32), (
      Option.bind (fn_State_living (sh_rf o 7) s7) fun z10 =>
      Option.bind (fn_State_sizeOf (sh_rf o 7) z10 s7) fun z11 =>
      some (.inr (z11, s7))
    )),
    ((2 : Int32), (
      Option.bind (fn_State_onMat (sh_rf o 7) s7) fun z12 =>
      Option.bind (fn_J6_bitCount_0f7a4 z12) fun z13 =>
      some (.inr (z13, s7))
    ))
  ] (
    Option.bind (fn_State_catThatTookMost (sh_rf o 7) s7) fun z8 =>
    some (.inr (z8, s7))
  )
set_option maxHeartbeats 4000000 in
set_option maxRecDepth 100000 in
theorem okx_X_season {G : wd_G} {l : Launch} (hN : gd_ok G) (htr : l.stackTraces = false) (o : Nat) (ho : sh_kd o = 11) (p1 : Int32) (p2 : Int32) (p3 : Int32) (p4 : Int32) (σ : hp_I) (τ : hp_L) : cl_X G l 7 3 yX11_season cX11_season 5 (some .int) [.ref (wd_b G + o), .int p1, .int p2, .int p3, .int p4] σ τ (ci_ih τ) (fn_X_season o p1 p2 p3 p4 σ) := by
  refine cl_ofX (lv0 := [(0, .ref (wd_b G + o)), (1, .int p1), (2, .int p2), (3, .int p3), (4, .int p4)]) (ci_ih τ) (by decide) (Nat.le_of_ble_eq_true rfl) rfl hN htr (fun M X C => ?_)
  have C : cx_C G M RX11 cX11_season 5 7 (some .int) := C
  unfold fn_X_season
  refine dn_aload_n C dX11_season_0 rfl 0 rfl rfl ?_
  refine dn_iload_n C dX11_season_1 rfl 2 rfl rfl ?_
  refine dn_iconst C dX11_season_2 ic_i_1 rfl ?_
  refine dn_bipush C dX11_season_3 ic_b_96 rfl ?_
  refine dn_callX_h (As := [.int p2, .int (1 : Int32), .int (96 : Int32)]) (st := []) C X (okx_X_demandWithin (cx_g C) X.2.2 o ho p2 (1 : Int32) (96 : Int32) σ τ) mt_X11_demandWithin mv_X11_demandWithin lk_X11_182 (by decide) ho rfl (by decide) (by decide) (Nat.le_of_ble_eq_true rfl) dX11_season_5 rfl rfl (fun s1 => ?_)
  refine dn_aload_n C dX11_season_8 rfl 0 rfl rfl ?_
  refine dn_iload_n C dX11_season_9 rfl 3 rfl rfl ?_
  refine dn_iconst C dX11_season_10 ic_i_0 rfl ?_
  refine dn_bipush C dX11_season_11 ic_b_16 rfl ?_
  refine dn_callX_h (As := [.int p3, .int (0 : Int32), .int (16 : Int32)]) (st := []) C X (okx_X_demandWithin (cx_g C) X.2.2 o ho p3 (0 : Int32) (16 : Int32) s1 τ) mt_X11_demandWithin mv_X11_demandWithin lk_X11_182 (by decide) ho rfl (by decide) (by decide) (Nat.le_of_ble_eq_true rfl) dX11_season_13 rfl rfl (fun s2 => ?_)
  refine dn_aload_n C dX11_season_16 rfl 0 rfl rfl ?_
  refine dn_iload C dX11_season_17 4 rfl rfl ?_
  refine dn_iconst C dX11_season_19 ic_i_0 rfl ?_
  refine dn_iconst C dX11_season_20 ic_i_3 rfl ?_
  refine dn_callX_h (As := [.int p4, .int (0 : Int32), .int (3 : Int32)]) (st := []) C X (okx_X_demandWithin (cx_g C) X.2.2 o ho p4 (0 : Int32) (3 : Int32) s2 τ) mt_X11_demandWithin mv_X11_demandWithin lk_X11_182 (by decide) ho rfl (by decide) (by decide) (Nat.le_of_ble_eq_true rfl) dX11_season_21 rfl rfl (fun s3 => ?_)
  refine dn_aload_n C dX11_season_24 rfl 0 rfl rfl ?_
  refine dn_getR C fd_X11_56 ho dX11_season_25 rfl ?_
  refine dn_aload_n C dX11_season_28 rfl 0 rfl rfl ?_
  refine dn_getR C fd_X11_52 ho dX11_season_29 rfl ?_
  refine dn_callV_h (As := [.ref (wd_b G + sh_rf o 6)]) (st := []) C (ok_State_copyFrom (cx_g C) (sh_rf o 7) (kt_11_7 ho) (sh_rf o 6) (kt_11_6 ho) s3 τ) mt_X8_copyFrom mv_X8_copyFrom lk_X11_292 (by decide) (kt_11_7 ho) rfl (cs_ok X (by decide) (by decide)) (Nat.le_of_ble_eq_true rfl) dX11_season_32 rfl rfl (fun s5 => ?_)
  refine dn_aload_n C dX11_season_35 rfl 0 rfl rfl ?_
  refine dn_getR C fd_X11_92 ho dX11_season_36 rfl ?_
  refine dn_aload_n C dX11_season_39 rfl 0 rfl rfl ?_
  refine dn_getR C fd_X11_56 ho dX11_season_40 rfl ?_
  refine dn_iload_n C dX11_season_43 rfl 1 rfl rfl ?_
  refine dn_iload_n C dX11_season_44 rfl 2 rfl rfl ?_
  refine dn_iload_n C dX11_season_45 rfl 3 rfl rfl ?_
  refine dn_callV_h (As := [.ref (wd_b G + sh_rf o 7), .int p1, .int p2, .int p3]) (st := []) C (ok_Season_play (cx_g C) (sh_rf o 12) (kt_11_12 ho) (sh_rf o 7) (kt_11_7 ho) p1 p2 p3 s5 τ) mt_X6_play mv_X6_play lk_X11_330 (by decide) (kt_11_12 ho) rfl (cs_ok X (by decide) (by decide)) (Nat.le_of_ble_eq_true rfl) dX11_season_46 rfl rfl (fun s7 => ?_)
  refine dn_iload C dX11_season_49 4 rfl rfl ?_
  refine dn_table (t0 := 110) _ C dX11_season_51 (by decide) rfl ?_ ⟨⟨25, 76, by decide, rfl, by decide, ?_⟩, ⟨33, 84, by decide, rfl, by decide, ?_⟩, ⟨48, 99, by decide, rfl, by decide, ?_⟩, trivial⟩
  · refine dn_aload_n C dX11_season_110 rfl 0 rfl rfl ?_
    refine dn_getR C fd_X11_56 ho dX11_season_111 rfl ?_
    refine dn_callV_i (As := []) (st := []) C (ok_State_catThatTookMost (cx_g C) (sh_rf o 7) (kt_11_7 ho) s7 τ) mt_X8_catThatTookMost mv_X8_catThatTookMost lk_X11_274 (by decide) (kt_11_7 ho) rfl (cs_ok X (by decide) (by decide)) (Nat.le_of_ble_eq_true rfl) dX11_season_114 rfl rfl (fun z8 => ?_)
    exact dn_iretX C dX11_season_117 rfl (by decide) (by decide)
  · refine dn_aload_n C dX11_season_76 rfl 0 rfl rfl ?_
    refine dn_getR C fd_X11_56 ho dX11_season_77 rfl ?_
    refine dn_callV_i (As := []) (st := []) C (ok_State_living (cx_g C) (sh_rf o 7) (kt_11_7 ho) s7 τ) mt_X8_living mv_X8_living lk_X11_195 (by decide) (kt_11_7 ho) rfl (cs_ok X (by decide) (by decide)) (Nat.le_of_ble_eq_true rfl) dX11_season_80 rfl rfl (fun z9 => ?_)
    exact dn_iretX C dX11_season_83 rfl (by decide) (by decide)
  · refine dn_aload_n C dX11_season_84 rfl 0 rfl rfl ?_
    refine dn_getR C fd_X11_56 ho dX11_season_85 rfl ?_
    refine dn_aload_n C dX11_season_88 rfl 0 rfl rfl ?_
    refine dn_getR C fd_X11_56 ho dX11_season_89 rfl ?_
    refine dn_callV_i (As := []) (st := [.ref (wd_b G + sh_rf o 7)]) C (ok_State_living (cx_g C) (sh_rf o 7) (kt_11_7 ho) s7 τ) mt_X8_living mv_X8_living lk_X11_195 (by decide) (kt_11_7 ho) rfl (cs_ok X (by decide) (by decide)) (Nat.le_of_ble_eq_true rfl) dX11_season_92 rfl rfl (fun z10 => ?_)
    refine dn_callV_i (As := [.int z10]) (st := []) C (ok_State_sizeOf (cx_g C) (sh_rf o 7) (kt_11_7 ho) z10 s7 τ) mt_X8_sizeOf mv_X8_sizeOf lk_X11_207 (by decide) (kt_11_7 ho) rfl (cs_ok X (by decide) (by decide)) (Nat.le_of_ble_eq_true rfl) dX11_season_95 rfl rfl (fun z11 => ?_)
    exact dn_iretX C dX11_season_98 rfl (by decide) (by decide)
  · refine dn_aload_n C dX11_season_99 rfl 0 rfl rfl ?_
    refine dn_getR C fd_X11_56 ho dX11_season_100 rfl ?_
    refine dn_callV_i (As := []) (st := []) C (ok_State_onMat (cx_g C) (sh_rf o 7) (kt_11_7 ho) s7 τ) mt_X8_onMat mv_X8_onMat lk_X11_198 (by decide) (kt_11_7 ho) rfl (cs_ok X (by decide) (by decide)) (Nat.le_of_ble_eq_true rfl) dX11_season_103 rfl rfl (fun z12 => ?_)
    refine dn_callS_i (As := [.int z12]) (st := []) C (ok_J6_bitCount_0f7a4 (cx_g C) z12 s7 τ) mt_J6_bitCount_0f7a4 ms_J6_bitCount_0f7a4 lk_X11_280 (by decide) rfl (cs_ok X (by decide) (by decide)) (Nat.le_of_ble_eq_true rfl) dX11_season_106 rfl rfl (fun z13 => ?_)
    exact dn_iretX C dX11_season_109 rfl (by decide) (by decide)
def fn_X_slips  (o : Nat) (p1 : Int32) (p2 : Int32) (σ : hp_I) : Option (px_X (Int32 × hp_I)) :=
  px_bx (fn_X_demandOneOf o p1 (σ (sh_rf o 1) 2) σ) fun s1 =>
  px_bx (fn_X_demandOneOf o p2 (s1 (sh_rf o 1) 0) s1) fun s2 =>
  Option.bind (fn_State_copyFrom (sh_rf o 7) (sh_rf o 6) s2) fun s4 =>
  px_b2 (fn_Slip_fewestNights (sh_rf o 9) (sh_rf o 7) p1 p2 s4) fun z5 s6 =>
  some (.inr (z5, s6))
set_option maxHeartbeats 4000000 in
set_option maxRecDepth 100000 in
theorem okx_X_slips {G : wd_G} {l : Launch} (hN : gd_ok G) (htr : l.stackTraces = false) (o : Nat) (ho : sh_kd o = 11) (p1 : Int32) (p2 : Int32) (σ : hp_I) (τ : hp_L) : cl_X G l 7 2 yX11_slips cX11_slips 3 (some .int) [.ref (wd_b G + o), .int p1, .int p2] σ τ (ci_ih τ) (fn_X_slips o p1 p2 σ) := by
  refine cl_ofX (lv0 := [(0, .ref (wd_b G + o)), (1, .int p1), (2, .int p2)]) (ci_ih τ) (by decide) (Nat.le_of_ble_eq_true rfl) rfl hN htr (fun M X C => ?_)
  have C : cx_C G M RX11 cX11_slips 3 7 (some .int) := C
  unfold fn_X_slips
  refine dn_aload_n C dX11_slips_0 rfl 0 rfl rfl ?_
  refine dn_iload_n C dX11_slips_1 rfl 1 rfl rfl ?_
  refine dn_aload_n C dX11_slips_2 rfl 0 rfl rfl ?_
  refine dn_getR C fd_X11_19 ho dX11_slips_3 rfl ?_
  refine dn_getI C fd_X11_137 (kt_11_1 ho) dX11_slips_6 rfl ?_
  refine dn_callX_h (As := [.int p1, .int (σ (sh_rf o 1) 2)]) (st := []) C X (okx_X_demandOneOf (cx_g C) X.2.2 o ho p1 (σ (sh_rf o 1) 2) σ τ) mt_X11_demandOneOf mv_X11_demandOneOf lk_X11_211 (by decide) ho rfl (by decide) (by decide) (Nat.le_of_ble_eq_true rfl) dX11_slips_9 rfl rfl (fun s1 => ?_)
  refine dn_aload_n C dX11_slips_12 rfl 0 rfl rfl ?_
  refine dn_iload_n C dX11_slips_13 rfl 2 rfl rfl ?_
  refine dn_aload_n C dX11_slips_14 rfl 0 rfl rfl ?_
  refine dn_getR C fd_X11_19 ho dX11_slips_15 rfl ?_
  refine dn_getI C fd_X11_186 (kt_11_1 ho) dX11_slips_18 rfl ?_
  refine dn_callX_h (As := [.int p2, .int (s1 (sh_rf o 1) 0)]) (st := []) C X (okx_X_demandOneOf (cx_g C) X.2.2 o ho p2 (s1 (sh_rf o 1) 0) s1 τ) mt_X11_demandOneOf mv_X11_demandOneOf lk_X11_211 (by decide) ho rfl (by decide) (by decide) (Nat.le_of_ble_eq_true rfl) dX11_slips_21 rfl rfl (fun s2 => ?_)
  refine dn_aload_n C dX11_slips_24 rfl 0 rfl rfl ?_
  refine dn_getR C fd_X11_56 ho dX11_slips_25 rfl ?_
  refine dn_aload_n C dX11_slips_28 rfl 0 rfl rfl ?_
  refine dn_getR C fd_X11_52 ho dX11_slips_29 rfl ?_
  refine dn_callV_h (As := [.ref (wd_b G + sh_rf o 6)]) (st := []) C (ok_State_copyFrom (cx_g C) (sh_rf o 7) (kt_11_7 ho) (sh_rf o 6) (kt_11_6 ho) s2 τ) mt_X8_copyFrom mv_X8_copyFrom lk_X11_292 (by decide) (kt_11_7 ho) rfl (cs_ok X (by decide) (by decide)) (Nat.le_of_ble_eq_true rfl) dX11_slips_32 rfl rfl (fun s4 => ?_)
  refine dn_aload_n C dX11_slips_35 rfl 0 rfl rfl ?_
  refine dn_getR C fd_X11_69 ho dX11_slips_36 rfl ?_
  refine dn_aload_n C dX11_slips_39 rfl 0 rfl rfl ?_
  refine dn_getR C fd_X11_56 ho dX11_slips_40 rfl ?_
  refine dn_iload_n C dX11_slips_43 rfl 1 rfl rfl ?_
  refine dn_iload_n C dX11_slips_44 rfl 2 rfl rfl ?_
  refine dn_callV_ih (As := [.ref (wd_b G + sh_rf o 7), .int p1, .int p2]) (st := []) C (ok_Slip_fewestNights (cx_g C) (sh_rf o 9) (kt_11_9 ho) (sh_rf o 7) (kt_11_7 ho) p1 p2 s4 τ) mt_X7_fewestNights mv_X7_fewestNights lk_X11_297 (by decide) (kt_11_9 ho) rfl (cs_ok X (by decide) (by decide)) (Nat.le_of_ble_eq_true rfl) dX11_slips_45 rfl rfl (fun z5 s6 => ?_)
  exact dn_iretX C dX11_slips_48 rfl (by decide) (by decide)
def fn_X_span_L62  (a0 : Nat) (a1 : Int32) (a2 : Int32) (a3 : Int32) (a4 : Int32) (a5 : Int32) (a6 : Int32) (k : Int32 → Int32 → Int32 → hp_I → Option (px_X (Int32 × hp_I))) : Nat → Int32 → Int32 → Int32 → Int32 → hp_I → Option (px_X (Int32 × hp_I))
  | 0, _, _, _, _, _ => none
  | fu + 1, x7, x8, x9, x10, s0 =>
    if x10 < a2 then (
      Option.bind (fn_State_copyFrom (sh_rf a0 7) (sh_rf a0 6) s0) fun s11 =>
      Option.bind (fn_Season_play (sh_rf a0 12) (sh_rf a0 7) (a1 + x10) a3 a4 s11) fun s13 =>
      Option.bind (fn_State_living (sh_rf a0 7) s13) fun z14 =>
      Option.bind (fn_J6_bitCount_0f7a4 z14) fun z15 =>
      px_let z15 fun v11_16 =>
      px_let (px_min x7 v11_16) fun v7_17 =>
      px_let (px_max x8 v11_16) fun v8_18 =>
      Option.bind (fn_State_lives (sh_rf a0 7) a6 s13) fun z19 =>
      px_jn (fun (t20 : Int32) =>
        px_let (x9 + t20) fun v9_21 =>
        px_let (x10 + 1) fun v10_22 =>
        fn_X_span_L62 a0 a1 a2 a3 a4 a5 a6 k fu v7_17 v8_18 v9_21 v10_22 s13
      ) fun j23 =>
        if z19 = 0 then (
          j23 (0 : Int32)
        ) else (
          j23 (1 : Int32)
        )
    ) else (
      k x7 x8 x9 s0
    )
def fn_X_span  (o : Nat) (p1 : Int32) (p2 : Int32) (p3 : Int32) (p4 : Int32) (p5 : Int32) (p6 : Int32) (σ : hp_I) : Option (px_X (Int32 × hp_I)) :=
  px_bx (fn_X_demandWithin o p2 (1 : Int32) (20 : Int32) σ) fun s1 =>
  px_bx (fn_X_demandWithin o p3 (1 : Int32) (96 : Int32) s1) fun s2 =>
  px_bx (fn_X_demandWithin o p4 (0 : Int32) (16 : Int32) s2) fun s3 =>
  px_bx (fn_X_demandWithin o p5 (0 : Int32) (2 : Int32) s3) fun s4 =>
  px_bx (fn_X_demandWithin o p6 (0 : Int32) ((s4 (sh_rf o 1) 2) - (1 : Int32)) s4) fun s5 =>
  px_let (8 : Int32) fun v7_6 =>
  px_let (0 : Int32) fun v8_7 =>
  px_let (0 : Int32) fun v9_8 =>
  px_let (0 : Int32) fun v10_9 =>
  fn_X_span_L62 o p1 p2 p3 p4 p5 p6
    (fun (y_24 : Int32) (y_25 : Int32) (y_26 : Int32) (s_27 : hp_I) =>
      px_sw p5 [
        ((0 : Int32), (
          some (.inr (y_24, s_27))
        )),
        ((1 : Int32), (
          some (.inr (y_25, s_27))
        ))
      ] (
        some (.inr (y_26, s_27))
      )
    )
    FU v7_6 v8_7 v9_8 v10_9 s5
set_option maxHeartbeats 4000000 in
set_option maxRecDepth 100000 in
theorem pf_X_span_L62 {G : wd_G} {M : wd_M}  (C : cx_C G M RX11 cX11_span 12 7 (some .int)) (X : cx_X M 7 5) (a0 : Nat) (ha0 : sh_kd a0 = 11) (a1 : Int32) (a2 : Int32) (a3 : Int32) (a4 : Int32) (a5 : Int32) (a6 : Int32)  (τ : hp_L) (k : Int32 → Int32 → Int32 → hp_I → Option (px_X (Int32 × hp_I))) (hk : ∀ (y7 : Int32) (y8 : Int32) (y9 : Int32) (s : hp_I), dn_D G M 12 5 30 (cm_X G M τ 5 (ci_ih τ)) 155 [(5, .int a5), (7, .int y7), (8, .int y8), (9, .int y9)] [] s τ (k y7 y8 y9 s)) : ∀ (fu : Nat) (x7 : Int32) (x8 : Int32) (x9 : Int32) (x10 : Int32) (s0 : hp_I), dn_D G M 12 5 30 (cm_X G M τ 5 (ci_ih τ)) 62 [(0, .ref (wd_b G + a0)), (1, .int a1), (2, .int a2), (3, .int a3), (4, .int a4), (5, .int a5), (6, .int a6), (7, .int x7), (8, .int x8), (9, .int x9), (10, .int x10)] [] s0 τ (fn_X_span_L62 a0 a1 a2 a3 a4 a5 a6 k fu x7 x8 x9 x10 s0) := by
  intro fu
  induction fu with
  | zero => exact fun x7 x8 x9 x10 s0 => dn_none
  | succ fu ih =>
    intro x7 x8 x9 x10 s0
    unfold fn_X_span_L62
    refine dn_iload C dX11_span_62 10 rfl rfl ?_
    refine dn_iload_n C dX11_span_64 rfl 2 rfl rfl ?_
    refine dn_icmp_ge (t := 155) C dX11_span_65 (by decide) rfl ?_ ?_
    · refine dn_aload_n C dX11_span_68 rfl 0 rfl rfl ?_
      refine dn_getR C fd_X11_56 ha0 dX11_span_69 rfl ?_
      refine dn_aload_n C dX11_span_72 rfl 0 rfl rfl ?_
      refine dn_getR C fd_X11_52 ha0 dX11_span_73 rfl ?_
      refine dn_callV_h (As := [.ref (wd_b G + sh_rf a0 6)]) (st := []) C (ok_State_copyFrom (cx_g C) (sh_rf a0 7) (kt_11_7 ha0) (sh_rf a0 6) (kt_11_6 ha0) s0 τ) mt_X8_copyFrom mv_X8_copyFrom lk_X11_292 (by decide) (kt_11_7 ha0) rfl (cs_ok X (by decide) (by decide)) (Nat.le_of_ble_eq_true rfl) dX11_span_76 rfl rfl (fun s11 => ?_)
      refine dn_aload_n C dX11_span_79 rfl 0 rfl rfl ?_
      refine dn_getR C fd_X11_92 ha0 dX11_span_80 rfl ?_
      refine dn_aload_n C dX11_span_83 rfl 0 rfl rfl ?_
      refine dn_getR C fd_X11_56 ha0 dX11_span_84 rfl ?_
      refine dn_iload_n C dX11_span_87 rfl 1 rfl rfl ?_
      refine dn_iload C dX11_span_88 10 rfl rfl ?_
      refine dn_iadd C dX11_span_90 rfl ?_
      refine dn_iload_n C dX11_span_91 rfl 3 rfl rfl ?_
      refine dn_iload C dX11_span_92 4 rfl rfl ?_
      refine dn_callV_h (As := [.ref (wd_b G + sh_rf a0 7), .int (a1 + x10), .int a3, .int a4]) (st := []) C (ok_Season_play (cx_g C) (sh_rf a0 12) (kt_11_12 ha0) (sh_rf a0 7) (kt_11_7 ha0) (a1 + x10) a3 a4 s11 τ) mt_X6_play mv_X6_play lk_X11_330 (by decide) (kt_11_12 ha0) rfl (cs_ok X (by decide) (by decide)) (Nat.le_of_ble_eq_true rfl) dX11_span_94 rfl rfl (fun s13 => ?_)
      refine dn_aload_n C dX11_span_97 rfl 0 rfl rfl ?_
      refine dn_getR C fd_X11_56 ha0 dX11_span_98 rfl ?_
      refine dn_callV_i (As := []) (st := []) C (ok_State_living (cx_g C) (sh_rf a0 7) (kt_11_7 ha0) s13 τ) mt_X8_living mv_X8_living lk_X11_195 (by decide) (kt_11_7 ha0) rfl (cs_ok X (by decide) (by decide)) (Nat.le_of_ble_eq_true rfl) dX11_span_101 rfl rfl (fun z14 => ?_)
      refine dn_callS_i (As := [.int z14]) (st := []) C (ok_J6_bitCount_0f7a4 (cx_g C) z14 s13 τ) mt_J6_bitCount_0f7a4 ms_J6_bitCount_0f7a4 lk_X11_280 (by decide) rfl (cs_ok X (by decide) (by decide)) (Nat.le_of_ble_eq_true rfl) dX11_span_104 rfl rfl (fun z15 => ?_)
      refine dn_istore (lv0 := [(0, .ref (wd_b G + a0)), (1, .int a1), (2, .int a2), (3, .int a3), (4, .int a4), (5, .int a5), (6, .int a6), (7, .int x7), (8, .int x8), (9, .int x9), (10, .int x10)]) C dX11_span_107 (by decide) rfl rfl (fun v11_16 => ?_)
      refine dn_iload C dX11_span_109 8 rfl rfl ?_
      refine dn_iload C dX11_span_111 0 rfl rfl ?_
      refine dn_min C mm_all lk_X11_333 (by decide) (cs_ok X (by decide) (by decide)) (Nat.le_of_ble_eq_true rfl) dX11_span_113 rfl ?_
      refine dn_istore (lv0 := [(11, .int v11_16), (0, .ref (wd_b G + a0)), (1, .int a1), (2, .int a2), (3, .int a3), (4, .int a4), (5, .int a5), (6, .int a6), (8, .int x8), (9, .int x9), (10, .int x10)]) C dX11_span_116 (by decide) rfl rfl (fun v7_17 => ?_)
      refine dn_iload C dX11_span_118 9 rfl rfl ?_
      refine dn_iload C dX11_span_120 1 rfl rfl ?_
      refine dn_max C mm_all lk_X11_338 (by decide) (cs_ok X (by decide) (by decide)) (Nat.le_of_ble_eq_true rfl) dX11_span_122 rfl ?_
      refine dn_istore (lv0 := [(7, .int v7_17), (11, .int v11_16), (0, .ref (wd_b G + a0)), (1, .int a1), (2, .int a2), (3, .int a3), (4, .int a4), (5, .int a5), (6, .int a6), (9, .int x9), (10, .int x10)]) C dX11_span_125 (by decide) rfl rfl (fun v8_18 => ?_)
      refine dn_iload C dX11_span_127 10 rfl rfl ?_
      refine dn_aload_n C dX11_span_129 rfl 3 rfl rfl ?_
      refine dn_getR C fd_X11_56 ha0 dX11_span_130 rfl ?_
      refine dn_iload C dX11_span_133 9 rfl rfl ?_
      refine dn_callV_i (As := [.int a6]) (st := [.int x9]) C (ok_State_lives (cx_g C) (sh_rf a0 7) (kt_11_7 ha0) a6 s13 τ) mt_X8_lives mv_X8_lives lk_X11_242 (by decide) (kt_11_7 ha0) rfl (cs_ok X (by decide) (by decide)) (Nat.le_of_ble_eq_true rfl) dX11_span_135 rfl rfl (fun z19 => ?_)
      refine dn_jn (fun z => ∀ (t20 : Int32), dn_D G M 12 5 30 (cm_X G M τ 5 (ci_ih τ)) 146 [(0, .ref (wd_b G + a0)), (1, .int a1), (2, .int a2), (3, .int a3), (4, .int a4), (5, .int a5), (6, .int a6), (7, .int v7_17), (8, .int v8_18), (10, .int x10)] [.int t20, .int x9] s13 τ (z t20)) (fun t20 => ?_) (fun j23 hj23 => ?_)
      · refine dn_iadd C dX11_span_146 rfl ?_
        refine dn_istore (lv0 := [(0, .ref (wd_b G + a0)), (1, .int a1), (2, .int a2), (3, .int a3), (4, .int a4), (5, .int a5), (6, .int a6), (7, .int v7_17), (8, .int v8_18), (10, .int x10)]) C dX11_span_147 (by decide) rfl rfl (fun v9_21 => ?_)
        refine dn_iinc (lv0 := [(9, .int v9_21), (0, .ref (wd_b G + a0)), (1, .int a1), (2, .int a2), (3, .int a3), (4, .int a4), (5, .int a5), (6, .int a6), (7, .int v7_17), (8, .int v8_18)]) (v := x10 + 1) C dX11_span_149 10 rfl rfl (by decide) rfl rfl (fun v10_22 => ?_)
        refine dn_goto (t := 62) C dX11_span_152 (by decide) ?_
        refine dn_pick [2, 3, 4, 5, 6, 7, 8, 9, 10, 1, 0] rfl ?_
        exact ih v7_17 v8_18 v9_21 v10_22 s13
      · refine dn_if_eq (t := 145) C dX11_span_138 (by decide) rfl ?_ ?_
        · refine dn_iconst C dX11_span_145 ic_i_0 rfl ?_
          refine dn_pick [3, 4, 5, 6, 7, 8, 9, 1, 0, 11] rfl ?_
          exact hj23 (0 : Int32)
        · refine dn_iconst C dX11_span_141 ic_i_1 rfl ?_
          refine dn_goto (t := 146) C dX11_span_142 (by decide) ?_
          refine dn_pick [3, 4, 5, 6, 7, 8, 9, 1, 0, 11] rfl ?_
          exact hj23 (1 : Int32)
    · refine dn_pick [5, 7, 8, 9] rfl ?_
      exact hk x7 x8 x9 s0
set_option maxHeartbeats 4000000 in
set_option maxRecDepth 100000 in
theorem okx_X_span {G : wd_G} {l : Launch} (hN : gd_ok G) (htr : l.stackTraces = false) (o : Nat) (ho : sh_kd o = 11) (p1 : Int32) (p2 : Int32) (p3 : Int32) (p4 : Int32) (p5 : Int32) (p6 : Int32) (σ : hp_I) (τ : hp_L) : cl_X G l 7 5 yX11_span cX11_span 12 (some .int) [.ref (wd_b G + o), .int p1, .int p2, .int p3, .int p4, .int p5, .int p6] σ τ (ci_ih τ) (fn_X_span o p1 p2 p3 p4 p5 p6 σ) := by
  refine cl_ofX (lv0 := [(0, .ref (wd_b G + o)), (1, .int p1), (2, .int p2), (3, .int p3), (4, .int p4), (5, .int p5), (6, .int p6)]) (ci_ih τ) (by decide) (Nat.le_of_ble_eq_true rfl) rfl hN htr (fun M X C => ?_)
  have C : cx_C G M RX11 cX11_span 12 7 (some .int) := C
  unfold fn_X_span
  refine dn_aload_n C dX11_span_0 rfl 0 rfl rfl ?_
  refine dn_iload_n C dX11_span_1 rfl 2 rfl rfl ?_
  refine dn_iconst C dX11_span_2 ic_i_1 rfl ?_
  refine dn_bipush C dX11_span_3 ic_b_20 rfl ?_
  refine dn_callX_h (As := [.int p2, .int (1 : Int32), .int (20 : Int32)]) (st := []) C X (okx_X_demandWithin (cx_g C) X.2.2 o ho p2 (1 : Int32) (20 : Int32) σ τ) mt_X11_demandWithin mv_X11_demandWithin lk_X11_182 (by decide) ho rfl (by decide) (by decide) (Nat.le_of_ble_eq_true rfl) dX11_span_5 rfl rfl (fun s1 => ?_)
  refine dn_aload_n C dX11_span_8 rfl 0 rfl rfl ?_
  refine dn_iload_n C dX11_span_9 rfl 3 rfl rfl ?_
  refine dn_iconst C dX11_span_10 ic_i_1 rfl ?_
  refine dn_bipush C dX11_span_11 ic_b_96 rfl ?_
  refine dn_callX_h (As := [.int p3, .int (1 : Int32), .int (96 : Int32)]) (st := []) C X (okx_X_demandWithin (cx_g C) X.2.2 o ho p3 (1 : Int32) (96 : Int32) s1 τ) mt_X11_demandWithin mv_X11_demandWithin lk_X11_182 (by decide) ho rfl (by decide) (by decide) (Nat.le_of_ble_eq_true rfl) dX11_span_13 rfl rfl (fun s2 => ?_)
  refine dn_aload_n C dX11_span_16 rfl 0 rfl rfl ?_
  refine dn_iload C dX11_span_17 4 rfl rfl ?_
  refine dn_iconst C dX11_span_19 ic_i_0 rfl ?_
  refine dn_bipush C dX11_span_20 ic_b_16 rfl ?_
  refine dn_callX_h (As := [.int p4, .int (0 : Int32), .int (16 : Int32)]) (st := []) C X (okx_X_demandWithin (cx_g C) X.2.2 o ho p4 (0 : Int32) (16 : Int32) s2 τ) mt_X11_demandWithin mv_X11_demandWithin lk_X11_182 (by decide) ho rfl (by decide) (by decide) (Nat.le_of_ble_eq_true rfl) dX11_span_22 rfl rfl (fun s3 => ?_)
  refine dn_aload_n C dX11_span_25 rfl 0 rfl rfl ?_
  refine dn_iload C dX11_span_26 5 rfl rfl ?_
  refine dn_iconst C dX11_span_28 ic_i_0 rfl ?_
  refine dn_iconst C dX11_span_29 ic_i_2 rfl ?_
  refine dn_callX_h (As := [.int p5, .int (0 : Int32), .int (2 : Int32)]) (st := []) C X (okx_X_demandWithin (cx_g C) X.2.2 o ho p5 (0 : Int32) (2 : Int32) s3 τ) mt_X11_demandWithin mv_X11_demandWithin lk_X11_182 (by decide) ho rfl (by decide) (by decide) (Nat.le_of_ble_eq_true rfl) dX11_span_30 rfl rfl (fun s4 => ?_)
  refine dn_aload_n C dX11_span_33 rfl 0 rfl rfl ?_
  refine dn_iload C dX11_span_34 6 rfl rfl ?_
  refine dn_iconst C dX11_span_36 ic_i_0 rfl ?_
  refine dn_aload_n C dX11_span_37 rfl 0 rfl rfl ?_
  refine dn_getR C fd_X11_19 ho dX11_span_38 rfl ?_
  refine dn_getI C fd_X11_137 (kt_11_1 ho) dX11_span_41 rfl ?_
  refine dn_iconst C dX11_span_44 ic_i_1 rfl ?_
  refine dn_isub C dX11_span_45 rfl ?_
  refine dn_callX_h (As := [.int p6, .int (0 : Int32), .int ((s4 (sh_rf o 1) 2) - (1 : Int32))]) (st := []) C X (okx_X_demandWithin (cx_g C) X.2.2 o ho p6 (0 : Int32) ((s4 (sh_rf o 1) 2) - (1 : Int32)) s4 τ) mt_X11_demandWithin mv_X11_demandWithin lk_X11_182 (by decide) ho rfl (by decide) (by decide) (Nat.le_of_ble_eq_true rfl) dX11_span_46 rfl rfl (fun s5 => ?_)
  refine dn_bipush C dX11_span_49 ic_b_8 rfl ?_
  refine dn_istore (lv0 := [(0, .ref (wd_b G + o)), (1, .int p1), (2, .int p2), (3, .int p3), (4, .int p4), (5, .int p5), (6, .int p6)]) C dX11_span_51 (by decide) rfl rfl (fun v7_6 => ?_)
  refine dn_iconst C dX11_span_53 ic_i_0 rfl ?_
  refine dn_istore (lv0 := [(7, .int v7_6), (0, .ref (wd_b G + o)), (1, .int p1), (2, .int p2), (3, .int p3), (4, .int p4), (5, .int p5), (6, .int p6)]) C dX11_span_54 (by decide) rfl rfl (fun v8_7 => ?_)
  refine dn_iconst C dX11_span_56 ic_i_0 rfl ?_
  refine dn_istore (lv0 := [(8, .int v8_7), (7, .int v7_6), (0, .ref (wd_b G + o)), (1, .int p1), (2, .int p2), (3, .int p3), (4, .int p4), (5, .int p5), (6, .int p6)]) C dX11_span_57 (by decide) rfl rfl (fun v9_8 => ?_)
  refine dn_iconst C dX11_span_59 ic_i_0 rfl ?_
  refine dn_istore (lv0 := [(9, .int v9_8), (8, .int v8_7), (7, .int v7_6), (0, .ref (wd_b G + o)), (1, .int p1), (2, .int p2), (3, .int p3), (4, .int p4), (5, .int p5), (6, .int p6)]) C dX11_span_60 (by decide) rfl rfl (fun v10_9 => ?_)
  refine dn_pick [4, 5, 6, 7, 8, 9, 10, 3, 2, 1, 0] rfl ?_
  refine pf_X_span_L62  C X o ho p1 p2 p3 p4 p5 p6  τ _ (fun y_24 y_25 y_26 s_27 => ?_) FU v7_6 v8_7 v9_8 v10_9 s5
  refine dn_iload C dX11_span_155 0 rfl rfl ?_
  refine dn_look (t0 := 190) _ C dX11_span_157 (by decide) (by decide) ?_ ⟨⟨184, by decide, by decide, ?_⟩, ⟨187, by decide, by decide, ?_⟩, trivial⟩
  · refine dn_iload C dX11_span_190 3 rfl rfl ?_
    exact dn_iretX C dX11_span_192 rfl (by decide) (by decide)
  · refine dn_iload C dX11_span_184 1 rfl rfl ?_
    exact dn_iretX C dX11_span_186 rfl (by decide) (by decide)
  · refine dn_iload C dX11_span_187 2 rfl rfl ?_
    exact dn_iretX C dX11_span_189 rfl (by decide) (by decide)
def fn_X_sums_L36  (a0 : Nat) (a2 : Int32) (a3 : Int32) (σ : hp_I) (k : Int32 → Option (px_X (Int32 × hp_I))) : Nat → Int32 → Int32 → Option (px_X (Int32 × hp_I))
  | 0, _, _ => none
  | fu + 1, x4, x5 =>
    if x5 < ((1 : Int32) <<< ((σ (sh_rf a0 1) 2) &&& 31)) then (
      px_jn (fun (a4_7 : Int32) =>
        px_let (x5 + 1) fun v5_8 =>
        fn_X_sums_L36 a0 a2 a3 σ k fu a4_7 v5_8
      ) fun j9 =>
        if (x5 &&& (a3 ^^^ (-1 : Int32))) = 0 then (
          Option.bind (fn_State_sizeOf (sh_rf a0 6) x5 σ) fun z10 =>
          if z10 = a2 then (
            px_let (x4 + 1) fun v4_11 =>
            j9 v4_11
          ) else (
            j9 x4
          )
        ) else (
          j9 x4
        )
    ) else (
      k x4
    )
def fn_X_sums  (o : Nat) (p1 : Int32) (p2 : Int32) (σ : hp_I) : Option (px_X (Int32 × hp_I)) :=
  px_bx (fn_X_demandOneOf o p1 (σ (sh_rf o 1) 0) σ) fun s1 =>
  px_bx (fn_X_demandWithin o p2 (0 : Int32) (999 : Int32) s1) fun s2 =>
  Option.bind (fn_State_livingIn (sh_rf o 6) p1 s2) fun z3 =>
  px_let z3 fun v3_4 =>
  px_let (0 : Int32) fun v4_5 =>
  px_let (0 : Int32) fun v5_6 =>
  fn_X_sums_L36 o p2 v3_4 s2
    (fun (y_12 : Int32) =>
      some (.inr (y_12, s2))
    )
    FU v4_5 v5_6
set_option maxHeartbeats 4000000 in
set_option maxRecDepth 100000 in
theorem pf_X_sums_L36 {G : wd_G} {M : wd_M}  (C : cx_C G M RX11 cX11_sums 6 7 (some .int)) (X : cx_X M 7 2) (a0 : Nat) (ha0 : sh_kd a0 = 11) (a2 : Int32) (a3 : Int32) (σ : hp_I) (τ : hp_L) (k : Int32 → Option (px_X (Int32 × hp_I))) (hk : ∀ (y4 : Int32), dn_D G M 6 2 12 (cm_X G M τ 2 (ci_ih τ)) 81 [(4, .int y4)] [] σ τ (k y4)) : ∀ (fu : Nat) (x4 : Int32) (x5 : Int32), dn_D G M 6 2 12 (cm_X G M τ 2 (ci_ih τ)) 36 [(0, .ref (wd_b G + a0)), (2, .int a2), (3, .int a3), (4, .int x4), (5, .int x5)] [] σ τ (fn_X_sums_L36 a0 a2 a3 σ k fu x4 x5) := by
  intro fu
  induction fu with
  | zero => exact fun x4 x5 => dn_none
  | succ fu ih =>
    intro x4 x5
    unfold fn_X_sums_L36
    refine dn_iload C dX11_sums_36 4 rfl rfl ?_
    refine dn_iconst C dX11_sums_38 ic_i_1 rfl ?_
    refine dn_aload_n C dX11_sums_39 rfl 0 rfl rfl ?_
    refine dn_getR C fd_X11_19 ha0 dX11_sums_40 rfl ?_
    refine dn_getI C fd_X11_137 (kt_11_1 ha0) dX11_sums_43 rfl ?_
    refine dn_ishl C dX11_sums_46 rfl ?_
    refine dn_icmp_ge (t := 81) C dX11_sums_47 (by decide) rfl ?_ ?_
    · refine dn_iload C dX11_sums_50 4 rfl rfl ?_
      refine dn_iload_n C dX11_sums_52 rfl 2 rfl rfl ?_
      refine dn_iconst C dX11_sums_53 ic_i_m1 rfl ?_
      refine dn_ixor C dX11_sums_54 rfl ?_
      refine dn_iand C dX11_sums_55 rfl ?_
      refine dn_jn (fun z => ∀ (a4_7 : Int32), dn_D G M 6 2 12 (cm_X G M τ 2 (ci_ih τ)) 75 [(0, .ref (wd_b G + a0)), (2, .int a2), (3, .int a3), (4, .int a4_7), (5, .int x5)] [] σ τ (z a4_7)) (fun a4_7 => ?_) (fun j9 hj9 => ?_)
      · refine dn_iinc (lv0 := [(0, .ref (wd_b G + a0)), (2, .int a2), (3, .int a3), (4, .int a4_7)]) (v := x5 + 1) C dX11_sums_75 4 rfl rfl (by decide) rfl rfl (fun v5_8 => ?_)
        refine dn_goto (t := 36) C dX11_sums_78 (by decide) ?_
        refine dn_pick [1, 2, 3, 4, 0] rfl ?_
        exact ih a4_7 v5_8
      · refine dn_if_ne (t := 75) C dX11_sums_56 (by decide) rfl ?_ ?_
        · refine dn_aload_n C dX11_sums_59 rfl 0 rfl rfl ?_
          refine dn_getR C fd_X11_52 ha0 dX11_sums_60 rfl ?_
          refine dn_iload C dX11_sums_63 4 rfl rfl ?_
          refine dn_callV_i (As := [.int x5]) (st := []) C (ok_State_sizeOf (cx_g C) (sh_rf a0 6) (kt_11_6 ha0) x5 σ τ) mt_X8_sizeOf mv_X8_sizeOf lk_X11_207 (by decide) (kt_11_6 ha0) rfl (cs_ok X (by decide) (by decide)) (Nat.le_of_ble_eq_true rfl) dX11_sums_65 rfl rfl (fun z10 => ?_)
          refine dn_iload_n C dX11_sums_68 rfl 1 rfl rfl ?_
          refine dn_icmp_ne (t := 75) C dX11_sums_69 (by decide) rfl ?_ ?_
          · refine dn_iinc (lv0 := [(0, .ref (wd_b G + a0)), (2, .int a2), (3, .int a3), (5, .int x5)]) (v := x4 + 1) C dX11_sums_72 3 rfl rfl (by decide) rfl rfl (fun v4_11 => ?_)
            refine dn_pick [1, 2, 3, 0, 4] rfl ?_
            exact hj9 v4_11
          · exact hj9 x4
        · exact hj9 x4
    · refine dn_pick [3] rfl ?_
      exact hk x4
set_option maxHeartbeats 4000000 in
set_option maxRecDepth 100000 in
theorem okx_X_sums {G : wd_G} {l : Launch} (hN : gd_ok G) (htr : l.stackTraces = false) (o : Nat) (ho : sh_kd o = 11) (p1 : Int32) (p2 : Int32) (σ : hp_I) (τ : hp_L) : cl_X G l 7 2 yX11_sums cX11_sums 6 (some .int) [.ref (wd_b G + o), .int p1, .int p2] σ τ (ci_ih τ) (fn_X_sums o p1 p2 σ) := by
  refine cl_ofX (lv0 := [(0, .ref (wd_b G + o)), (1, .int p1), (2, .int p2)]) (ci_ih τ) (by decide) (Nat.le_of_ble_eq_true rfl) rfl hN htr (fun M X C => ?_)
  have C : cx_C G M RX11 cX11_sums 6 7 (some .int) := C
  unfold fn_X_sums
  refine dn_aload_n C dX11_sums_0 rfl 0 rfl rfl ?_
  refine dn_iload_n C dX11_sums_1 rfl 1 rfl rfl ?_
  refine dn_aload_n C dX11_sums_2 rfl 0 rfl rfl ?_
  refine dn_getR C fd_X11_19 ho dX11_sums_3 rfl ?_
  refine dn_getI C fd_X11_186 (kt_11_1 ho) dX11_sums_6 rfl ?_
  refine dn_callX_h (As := [.int p1, .int (σ (sh_rf o 1) 0)]) (st := []) C X (okx_X_demandOneOf (cx_g C) X.2.2 o ho p1 (σ (sh_rf o 1) 0) σ τ) mt_X11_demandOneOf mv_X11_demandOneOf lk_X11_211 (by decide) ho rfl (by decide) (by decide) (Nat.le_of_ble_eq_true rfl) dX11_sums_9 rfl rfl (fun s1 => ?_)
  refine dn_aload_n C dX11_sums_12 rfl 0 rfl rfl ?_
  refine dn_iload_n C dX11_sums_13 rfl 2 rfl rfl ?_
  refine dn_iconst C dX11_sums_14 ic_i_0 rfl ?_
  refine dn_sipush C dX11_sums_15 ic_s_999 rfl ?_
  refine dn_callX_h (As := [.int p2, .int (0 : Int32), .int (999 : Int32)]) (st := []) C X (okx_X_demandWithin (cx_g C) X.2.2 o ho p2 (0 : Int32) (999 : Int32) s1 τ) mt_X11_demandWithin mv_X11_demandWithin lk_X11_182 (by decide) ho rfl (by decide) (by decide) (Nat.le_of_ble_eq_true rfl) dX11_sums_18 rfl rfl (fun s2 => ?_)
  refine dn_aload_n C dX11_sums_21 rfl 0 rfl rfl ?_
  refine dn_getR C fd_X11_52 ho dX11_sums_22 rfl ?_
  refine dn_iload_n C dX11_sums_25 rfl 1 rfl rfl ?_
  refine dn_callV_i (As := [.int p1]) (st := []) C (ok_State_livingIn (cx_g C) (sh_rf o 6) (kt_11_6 ho) p1 s2 τ) mt_X8_livingIn mv_X8_livingIn lk_X11_218 (by decide) (kt_11_6 ho) rfl (cs_ok X (by decide) (by decide)) (Nat.le_of_ble_eq_true rfl) dX11_sums_26 rfl rfl (fun z3 => ?_)
  refine dn_istore_n (lv0 := [(0, .ref (wd_b G + o)), (1, .int p1), (2, .int p2)]) C dX11_sums_29 rfl (by decide) rfl rfl (fun v3_4 => ?_)
  refine dn_iconst C dX11_sums_30 ic_i_0 rfl ?_
  refine dn_istore (lv0 := [(3, .int v3_4), (0, .ref (wd_b G + o)), (1, .int p1), (2, .int p2)]) C dX11_sums_31 (by decide) rfl rfl (fun v4_5 => ?_)
  refine dn_iconst C dX11_sums_33 ic_i_0 rfl ?_
  refine dn_istore (lv0 := [(4, .int v4_5), (3, .int v3_4), (0, .ref (wd_b G + o)), (1, .int p1), (2, .int p2)]) C dX11_sums_34 (by decide) rfl rfl (fun v5_6 => ?_)
  refine dn_pick [3, 5, 2, 1, 0] rfl ?_
  refine pf_X_sums_L36  C X o ho p2 v3_4 s2 τ _ (fun y_12 => ?_) FU v4_5 v5_6
  refine dn_iload C dX11_sums_81 0 rfl rfl ?_
  exact dn_iretX C dX11_sums_83 rfl (by decide) (by decide)
def fn_X_told  (o : Nat) (p1 : Int32) (σ : hp_I) : Option (px_X (Int32 × hp_I)) :=
  px_bx (fn_X_demandWithin o p1 (0 : Int32) (11 : Int32) σ) fun s1 =>
  px_sw p1 [
    ((0 : Int32), (
      some (.inr (s1 (sh_rf o 1) 0, s1))
    )),
    ((1 : Int32), (
      some (.inr (s1 (sh_rf o 1) 1, s1))
    )),
    ((2 : Int32), (
      some (.inr (s1 (sh_rf o 1) 2, s1))
    )),
    ((3 : Int32), (
      some (.inr (s1 (sh_rf o 1) 3, s1))
    )),
    ((4 : Int32), (
      Option.bind (fn_State_night (sh_rf o 6) s1) fun z4 =>
      some (.inr (z4, s1))
    )),
    ((5 : Int32), (
      Option.bind (fn_State_living (sh_rf o 6) s1) fun z5 =>
      some (.inr (z5, s1))
    )),
    ((6 : Int32), (
      Option.bind (fn_State_onMat (sh_rf o 6) s1) fun z6 =>
      some (.inr (z6, s1))
    )),
    ((7 : Int32), (
      Option.bind (fn_State_joined (sh_rf o 6) s1) fun z7 =>
      some (.inr (z7, s1))
    )),
    ((8 : Int32), (
      Option.bind (fn_State_shutWays (sh_rf o 6) s1) fun z8 =>
      some (.inr (z8, s1))
    )),
    ((9 : Int32), (
      Option.bind (fn_Book_many (sh_rf o 4) s1) fun z9 =>
      some (.inr (z9, s1))
    )),
    ((10 : Int32), (
      some (.inr (s1 o 13, s1))
    ))
  ] (
    Option.bind (fn_State_living (sh_rf o 6) s1) fun z2 =>
    Option.bind (fn_State_sizeOf (sh_rf o 6) z2 s1) fun z3 =>
    some (.inr (z3, s1))
  )
set_option maxHeartbeats 4000000 in
set_option maxRecDepth 100000 in
theorem okx_X_told {G : wd_G} {l : Launch} (hN : gd_ok G) (htr : l.stackTraces = false) (o : Nat) (ho : sh_kd o = 11) (p1 : Int32) (σ : hp_I) (τ : hp_L) : cl_X G l 7 1 yX11_told cX11_told 2 (some .int) [.ref (wd_b G + o), .int p1] σ τ (ci_ih τ) (fn_X_told o p1 σ) := by
  refine cl_ofX (lv0 := [(0, .ref (wd_b G + o)), (1, .int p1)]) (ci_ih τ) (by decide) (Nat.le_of_ble_eq_true rfl) rfl hN htr (fun M X C => ?_)
  have C : cx_C G M RX11 cX11_told 2 7 (some .int) := C
  unfold fn_X_told
  refine dn_aload_n C dX11_told_0 rfl 0 rfl rfl ?_
  refine dn_iload_n C dX11_told_1 rfl 1 rfl rfl ?_
  refine dn_iconst C dX11_told_2 ic_i_0 rfl ?_
  refine dn_bipush C dX11_told_3 ic_b_11 rfl ?_
  refine dn_callX_h (As := [.int p1, .int (0 : Int32), .int (11 : Int32)]) (st := []) C X (okx_X_demandWithin (cx_g C) X.2.2 o ho p1 (0 : Int32) (11 : Int32) σ τ) mt_X11_demandWithin mv_X11_demandWithin lk_X11_182 (by decide) ho rfl (by decide) (by decide) (Nat.le_of_ble_eq_true rfl) dX11_told_5 rfl rfl (fun s1 => ?_)
  refine dn_iload_n C dX11_told_8 rfl 1 rfl rfl ?_
  refine dn_table (t0 := 153) _ C dX11_told_9 (by decide) rfl ?_ ⟨⟨59, 68, by decide, rfl, by decide, ?_⟩, ⟨67, 76, by decide, rfl, by decide, ?_⟩, ⟨75, 84, by decide, rfl, by decide, ?_⟩, ⟨83, 92, by decide, rfl, by decide, ?_⟩, ⟨91, 100, by decide, rfl, by decide, ?_⟩, ⟨99, 108, by decide, rfl, by decide, ?_⟩, ⟨107, 116, by decide, rfl, by decide, ?_⟩, ⟨115, 124, by decide, rfl, by decide, ?_⟩, ⟨123, 132, by decide, rfl, by decide, ?_⟩, ⟨131, 140, by decide, rfl, by decide, ?_⟩, ⟨139, 148, by decide, rfl, by decide, ?_⟩, trivial⟩
  · refine dn_aload_n C dX11_told_153 rfl 0 rfl rfl ?_
    refine dn_getR C fd_X11_52 ho dX11_told_154 rfl ?_
    refine dn_aload_n C dX11_told_157 rfl 0 rfl rfl ?_
    refine dn_getR C fd_X11_52 ho dX11_told_158 rfl ?_
    refine dn_callV_i (As := []) (st := [.ref (wd_b G + sh_rf o 6)]) C (ok_State_living (cx_g C) (sh_rf o 6) (kt_11_6 ho) s1 τ) mt_X8_living mv_X8_living lk_X11_195 (by decide) (kt_11_6 ho) rfl (cs_ok X (by decide) (by decide)) (Nat.le_of_ble_eq_true rfl) dX11_told_161 rfl rfl (fun z2 => ?_)
    refine dn_callV_i (As := [.int z2]) (st := []) C (ok_State_sizeOf (cx_g C) (sh_rf o 6) (kt_11_6 ho) z2 s1 τ) mt_X8_sizeOf mv_X8_sizeOf lk_X11_207 (by decide) (kt_11_6 ho) rfl (cs_ok X (by decide) (by decide)) (Nat.le_of_ble_eq_true rfl) dX11_told_164 rfl rfl (fun z3 => ?_)
    exact dn_iretX C dX11_told_167 rfl (by decide) (by decide)
  · refine dn_aload_n C dX11_told_68 rfl 0 rfl rfl ?_
    refine dn_getR C fd_X11_19 ho dX11_told_69 rfl ?_
    refine dn_getI C fd_X11_186 (kt_11_1 ho) dX11_told_72 rfl ?_
    exact dn_iretX C dX11_told_75 rfl (by decide) (by decide)
  · refine dn_aload_n C dX11_told_76 rfl 0 rfl rfl ?_
    refine dn_getR C fd_X11_19 ho dX11_told_77 rfl ?_
    refine dn_getI C fd_X11_189 (kt_11_1 ho) dX11_told_80 rfl ?_
    exact dn_iretX C dX11_told_83 rfl (by decide) (by decide)
  · refine dn_aload_n C dX11_told_84 rfl 0 rfl rfl ?_
    refine dn_getR C fd_X11_19 ho dX11_told_85 rfl ?_
    refine dn_getI C fd_X11_137 (kt_11_1 ho) dX11_told_88 rfl ?_
    exact dn_iretX C dX11_told_91 rfl (by decide) (by decide)
  · refine dn_aload_n C dX11_told_92 rfl 0 rfl rfl ?_
    refine dn_getR C fd_X11_19 ho dX11_told_93 rfl ?_
    refine dn_getI C fd_X11_165 (kt_11_1 ho) dX11_told_96 rfl ?_
    exact dn_iretX C dX11_told_99 rfl (by decide) (by decide)
  · refine dn_aload_n C dX11_told_100 rfl 0 rfl rfl ?_
    refine dn_getR C fd_X11_52 ho dX11_told_101 rfl ?_
    refine dn_callV_i (As := []) (st := []) C (ok_State_night (cx_g C) (sh_rf o 6) (kt_11_6 ho) s1 τ) mt_X8_night mv_X8_night lk_X11_192 (by decide) (kt_11_6 ho) rfl (cs_ok X (by decide) (by decide)) (Nat.le_of_ble_eq_true rfl) dX11_told_104 rfl rfl (fun z4 => ?_)
    exact dn_iretX C dX11_told_107 rfl (by decide) (by decide)
  · refine dn_aload_n C dX11_told_108 rfl 0 rfl rfl ?_
    refine dn_getR C fd_X11_52 ho dX11_told_109 rfl ?_
    refine dn_callV_i (As := []) (st := []) C (ok_State_living (cx_g C) (sh_rf o 6) (kt_11_6 ho) s1 τ) mt_X8_living mv_X8_living lk_X11_195 (by decide) (kt_11_6 ho) rfl (cs_ok X (by decide) (by decide)) (Nat.le_of_ble_eq_true rfl) dX11_told_112 rfl rfl (fun z5 => ?_)
    exact dn_iretX C dX11_told_115 rfl (by decide) (by decide)
  · refine dn_aload_n C dX11_told_116 rfl 0 rfl rfl ?_
    refine dn_getR C fd_X11_52 ho dX11_told_117 rfl ?_
    refine dn_callV_i (As := []) (st := []) C (ok_State_onMat (cx_g C) (sh_rf o 6) (kt_11_6 ho) s1 τ) mt_X8_onMat mv_X8_onMat lk_X11_198 (by decide) (kt_11_6 ho) rfl (cs_ok X (by decide) (by decide)) (Nat.le_of_ble_eq_true rfl) dX11_told_120 rfl rfl (fun z6 => ?_)
    exact dn_iretX C dX11_told_123 rfl (by decide) (by decide)
  · refine dn_aload_n C dX11_told_124 rfl 0 rfl rfl ?_
    refine dn_getR C fd_X11_52 ho dX11_told_125 rfl ?_
    refine dn_callV_i (As := []) (st := []) C (ok_State_joined (cx_g C) (sh_rf o 6) (kt_11_6 ho) s1 τ) mt_X8_joined mv_X8_joined lk_X11_201 (by decide) (kt_11_6 ho) rfl (cs_ok X (by decide) (by decide)) (Nat.le_of_ble_eq_true rfl) dX11_told_128 rfl rfl (fun z7 => ?_)
    exact dn_iretX C dX11_told_131 rfl (by decide) (by decide)
  · refine dn_aload_n C dX11_told_132 rfl 0 rfl rfl ?_
    refine dn_getR C fd_X11_52 ho dX11_told_133 rfl ?_
    refine dn_callV_i (As := []) (st := []) C (ok_State_shutWays (cx_g C) (sh_rf o 6) (kt_11_6 ho) s1 τ) mt_X8_shutWays mv_X8_shutWays lk_X11_204 (by decide) (kt_11_6 ho) rfl (cs_ok X (by decide) (by decide)) (Nat.le_of_ble_eq_true rfl) dX11_told_136 rfl rfl (fun z8 => ?_)
    exact dn_iretX C dX11_told_139 rfl (by decide) (by decide)
  · refine dn_aload_n C dX11_told_140 rfl 0 rfl rfl ?_
    refine dn_getR C fd_X11_36 ho dX11_told_141 rfl ?_
    refine dn_callV_i (As := []) (st := []) C (ok_Book_many (cx_g C) (sh_rf o 4) (kt_11_4 ho) s1 τ) mt_X0_many mv_X0_many lk_X11_171 (by decide) (kt_11_4 ho) rfl (cs_ok X (by decide) (by decide)) (Nat.le_of_ble_eq_true rfl) dX11_told_144 rfl rfl (fun z9 => ?_)
    exact dn_iretX C dX11_told_147 rfl (by decide) (by decide)
  · refine dn_aload_n C dX11_told_148 rfl 0 rfl rfl ?_
    refine dn_getI C fd_X11_133 ho dX11_told_149 rfl ?_
    exact dn_iretX C dX11_told_152 rfl (by decide) (by decide)
def fn_X_uncle_L44  (a1 : Int32) (a2 : Int32) (a3 : Int32) (a7 : Int32) (σ : hp_I) (k : Int32 → Int32 → Int32 → Option (px_X (Int32 × hp_I))) : Nat → Int32 → Int32 → Int32 → Int32 → Option (px_X (Int32 × hp_I))
  | 0, _, _, _, _ => none
  | fu + 1, x4, x5, x6, x8 =>
    if x8 ≤ (1 : Int32) then (
      Option.bind (fn_X_isRest a1 a2 a7 x8) fun z9 =>
      px_jn (fun (a4_10 : Int32) (a5_11 : Int32) (a6_12 : Int32) =>
        px_let (x8 + 1) fun v8_13 =>
        fn_X_uncle_L44 a1 a2 a3 a7 σ k fu a4_10 a5_11 a6_12 v8_13
      ) fun j14 =>
        if z9 = 0 then (
          j14 x4 x5 x6
        ) else (
          px_jn (fun (a5_15 : Int32) (a6_16 : Int32) =>
            px_let (x4 + 1) fun v4_17 =>
            j14 v4_17 a5_15 a6_16
          ) fun j18 =>
            if x4 = 0 then (
              px_let (((10 : Int32) * a7) + x8) fun v5_19 =>
              Option.bind (fn_X_gain a1 a2 a7 x8) fun z20 =>
              Option.bind (fn_X_gain a1 a2 x8 a7) fun z21 =>
              px_let (z20 + z21) fun v6_22 =>
              j18 v5_19 v6_22
            ) else (
              j18 x5 x6
            )
        )
    ) else (
      k x4 x5 x6
    )
def fn_X_uncle_L35  (a1 : Int32) (a2 : Int32) (a3 : Int32) (σ : hp_I) (k : Int32 → Int32 → Int32 → Option (px_X (Int32 × hp_I))) : Nat → Int32 → Int32 → Int32 → Int32 → Option (px_X (Int32 × hp_I))
  | 0, _, _, _, _ => none
  | fu + 1, x4, x5, x6, x7 =>
    if x7 ≤ (1 : Int32) then (
      px_let (0 : Int32) fun v8_8 =>
      fn_X_uncle_L44 a1 a2 a3 x7 σ
        (fun (y_23 : Int32) (y_24 : Int32) (y_25 : Int32) =>
          px_let (x7 + 1) fun v7_26 =>
          fn_X_uncle_L35 a1 a2 a3 σ k fu y_23 y_24 y_25 v7_26
        )
        FU x4 x5 x6 v8_8
    ) else (
      k x4 x5 x6
    )
def fn_X_uncle  (o : Nat) (p1 : Int32) (p2 : Int32) (p3 : Int32) (σ : hp_I) : Option (px_X (Int32 × hp_I)) :=
  px_bx (fn_X_demandWithin o p1 (0 : Int32) (99 : Int32) σ) fun s1 =>
  px_bx (fn_X_demandWithin o p2 (0 : Int32) (99 : Int32) s1) fun s2 =>
  px_bx (fn_X_demandWithin o p3 (0 : Int32) (2 : Int32) s2) fun s3 =>
  px_let (0 : Int32) fun v4_4 =>
  px_let (-1 : Int32) fun v5_5 =>
  px_let (0 : Int32) fun v6_6 =>
  px_let (0 : Int32) fun v7_7 =>
  fn_X_uncle_L35 p1 p2 p3 s3
    (fun (y_27 : Int32) (y_28 : Int32) (y_29 : Int32) =>
      px_sw p3 [
        ((0 : Int32), (
          some (.inr (y_27, s3))
        )),
        ((1 : Int32), (
          some (.inr (y_28, s3))
        ))
      ] (
        some (.inr (y_29, s3))
      )
    )
    FU v4_4 v5_5 v6_6 v7_7
set_option maxHeartbeats 4000000 in
set_option maxRecDepth 100000 in
theorem pf_X_uncle_L44 {G : wd_G} {M : wd_M}  (C : cx_C G M RX11 cX11_uncle 9 7 (some .int)) (X : cx_X M 7 3) (a1 : Int32) (a2 : Int32) (a3 : Int32) (a7 : Int32) (σ : hp_I) (τ : hp_L) (k : Int32 → Int32 → Int32 → Option (px_X (Int32 × hp_I))) (hk : ∀ (y4 : Int32) (y5 : Int32) (y6 : Int32), dn_D G M 9 3 18 (cm_X G M τ 3 (ci_ih τ)) 107 [(1, .int a1), (2, .int a2), (3, .int a3), (4, .int y4), (5, .int y5), (6, .int y6), (7, .int a7)] [] σ τ (k y4 y5 y6)) : ∀ (fu : Nat) (x4 : Int32) (x5 : Int32) (x6 : Int32) (x8 : Int32), dn_D G M 9 3 18 (cm_X G M τ 3 (ci_ih τ)) 44 [(1, .int a1), (2, .int a2), (3, .int a3), (4, .int x4), (5, .int x5), (6, .int x6), (7, .int a7), (8, .int x8)] [] σ τ (fn_X_uncle_L44 a1 a2 a3 a7 σ k fu x4 x5 x6 x8) := by
  intro fu
  induction fu with
  | zero => exact fun x4 x5 x6 x8 => dn_none
  | succ fu ih =>
    intro x4 x5 x6 x8
    unfold fn_X_uncle_L44
    refine dn_iload C dX11_uncle_44 7 rfl rfl ?_
    refine dn_iconst C dX11_uncle_46 ic_i_1 rfl ?_
    refine dn_icmp_gt (t := 107) C dX11_uncle_47 (by decide) rfl ?_ ?_
    · refine dn_iload_n C dX11_uncle_50 rfl 0 rfl rfl ?_
      refine dn_iload_n C dX11_uncle_51 rfl 1 rfl rfl ?_
      refine dn_iload C dX11_uncle_52 6 rfl rfl ?_
      refine dn_iload C dX11_uncle_54 7 rfl rfl ?_
      refine dn_callS_i (As := [.int a1, .int a2, .int a7, .int x8]) (st := []) C (ok_X_isRest (cx_g C) a1 a2 a7 x8 σ τ) mt_X11_isRest ms_X11_isRest lk_X11_341 (by decide) rfl (cs_ok X (by decide) (by decide)) (Nat.le_of_ble_eq_true rfl) dX11_uncle_56 rfl rfl (fun z9 => ?_)
      refine dn_jn (fun z => ∀ (a4_10 : Int32) (a5_11 : Int32) (a6_12 : Int32), dn_D G M 9 3 18 (cm_X G M τ 3 (ci_ih τ)) 101 [(1, .int a1), (2, .int a2), (3, .int a3), (4, .int a4_10), (5, .int a5_11), (6, .int a6_12), (7, .int a7), (8, .int x8)] [] σ τ (z a4_10 a5_11 a6_12)) (fun a4_10 a5_11 a6_12 => ?_) (fun j14 hj14 => ?_)
      · refine dn_iinc (lv0 := [(1, .int a1), (2, .int a2), (3, .int a3), (4, .int a4_10), (5, .int a5_11), (6, .int a6_12), (7, .int a7)]) (v := x8 + 1) C dX11_uncle_101 7 rfl rfl (by decide) rfl rfl (fun v8_13 => ?_)
        refine dn_goto (t := 44) C dX11_uncle_104 (by decide) ?_
        refine dn_pick [1, 2, 3, 4, 5, 6, 7, 0] rfl ?_
        exact ih a4_10 a5_11 a6_12 v8_13
      · refine dn_if_eq (t := 101) C dX11_uncle_59 (by decide) rfl ?_ ?_
        · exact hj14 x4 x5 x6
        · refine dn_iload C dX11_uncle_62 3 rfl rfl ?_
          refine dn_jn (fun z => ∀ (a5_15 : Int32) (a6_16 : Int32), dn_D G M 9 3 18 (cm_X G M τ 3 (ci_ih τ)) 98 [(1, .int a1), (2, .int a2), (3, .int a3), (4, .int x4), (5, .int a5_15), (6, .int a6_16), (7, .int a7), (8, .int x8)] [] σ τ (z a5_15 a6_16)) (fun a5_15 a6_16 => ?_) (fun j18 hj18 => ?_)
          · refine dn_iinc (lv0 := [(1, .int a1), (2, .int a2), (3, .int a3), (5, .int a5_15), (6, .int a6_16), (7, .int a7), (8, .int x8)]) (v := x4 + 1) C dX11_uncle_98 3 rfl rfl (by decide) rfl rfl (fun v4_17 => ?_)
            refine dn_pick [1, 2, 3, 0, 4, 5, 6, 7] rfl ?_
            exact hj14 v4_17 a5_15 a6_16
          · refine dn_if_ne (t := 98) C dX11_uncle_64 (by decide) rfl ?_ ?_
            · refine dn_bipush C dX11_uncle_67 ic_b_10 rfl ?_
              refine dn_iload C dX11_uncle_69 6 rfl rfl ?_
              refine dn_imul C dX11_uncle_71 rfl ?_
              refine dn_iload C dX11_uncle_72 7 rfl rfl ?_
              refine dn_iadd C dX11_uncle_74 rfl ?_
              refine dn_istore (lv0 := [(1, .int a1), (2, .int a2), (3, .int a3), (4, .int x4), (6, .int x6), (7, .int a7), (8, .int x8)]) C dX11_uncle_75 (by decide) rfl rfl (fun v5_19 => ?_)
              refine dn_iload_n C dX11_uncle_77 rfl 1 rfl rfl ?_
              refine dn_iload_n C dX11_uncle_78 rfl 2 rfl rfl ?_
              refine dn_iload C dX11_uncle_79 6 rfl rfl ?_
              refine dn_iload C dX11_uncle_81 7 rfl rfl ?_
              refine dn_callS_i (As := [.int a1, .int a2, .int a7, .int x8]) (st := []) C (ok_X_gain (cx_g C) a1 a2 a7 x8 σ τ) mt_X11_gain ms_X11_gain lk_X11_345 (by decide) rfl (cs_ok X (by decide) (by decide)) (Nat.le_of_ble_eq_true rfl) dX11_uncle_83 rfl rfl (fun z20 => ?_)
              refine dn_iload_n C dX11_uncle_86 rfl 1 rfl rfl ?_
              refine dn_iload_n C dX11_uncle_87 rfl 2 rfl rfl ?_
              refine dn_iload C dX11_uncle_88 7 rfl rfl ?_
              refine dn_iload C dX11_uncle_90 6 rfl rfl ?_
              refine dn_callS_i (As := [.int a1, .int a2, .int x8, .int a7]) (st := [.int z20]) C (ok_X_gain (cx_g C) a1 a2 x8 a7 σ τ) mt_X11_gain ms_X11_gain lk_X11_345 (by decide) rfl (cs_ok X (by decide) (by decide)) (Nat.le_of_ble_eq_true rfl) dX11_uncle_92 rfl rfl (fun z21 => ?_)
              refine dn_iadd C dX11_uncle_95 rfl ?_
              refine dn_istore (lv0 := [(5, .int v5_19), (1, .int a1), (2, .int a2), (3, .int a3), (4, .int x4), (7, .int a7), (8, .int x8)]) C dX11_uncle_96 (by decide) rfl rfl (fun v6_22 => ?_)
              refine dn_pick [2, 3, 4, 5, 1, 0, 6, 7] rfl ?_
              exact hj18 v5_19 v6_22
            · exact hj18 x5 x6
    · refine dn_pick [0, 1, 2, 3, 4, 5, 6] rfl ?_
      exact hk x4 x5 x6
set_option maxHeartbeats 4000000 in
set_option maxRecDepth 100000 in
theorem pf_X_uncle_L35 {G : wd_G} {M : wd_M}  (C : cx_C G M RX11 cX11_uncle 9 7 (some .int)) (X : cx_X M 7 3) (a1 : Int32) (a2 : Int32) (a3 : Int32) (σ : hp_I) (τ : hp_L) (k : Int32 → Int32 → Int32 → Option (px_X (Int32 × hp_I))) (hk : ∀ (y4 : Int32) (y5 : Int32) (y6 : Int32), dn_D G M 9 3 18 (cm_X G M τ 3 (ci_ih τ)) 113 [(3, .int a3), (4, .int y4), (5, .int y5), (6, .int y6)] [] σ τ (k y4 y5 y6)) : ∀ (fu : Nat) (x4 : Int32) (x5 : Int32) (x6 : Int32) (x7 : Int32), dn_D G M 9 3 18 (cm_X G M τ 3 (ci_ih τ)) 35 [(1, .int a1), (2, .int a2), (3, .int a3), (4, .int x4), (5, .int x5), (6, .int x6), (7, .int x7)] [] σ τ (fn_X_uncle_L35 a1 a2 a3 σ k fu x4 x5 x6 x7) := by
  intro fu
  induction fu with
  | zero => exact fun x4 x5 x6 x7 => dn_none
  | succ fu ih =>
    intro x4 x5 x6 x7
    unfold fn_X_uncle_L35
    refine dn_iload C dX11_uncle_35 6 rfl rfl ?_
    refine dn_iconst C dX11_uncle_37 ic_i_1 rfl ?_
    refine dn_icmp_gt (t := 113) C dX11_uncle_38 (by decide) rfl ?_ ?_
    · refine dn_iconst C dX11_uncle_41 ic_i_0 rfl ?_
      refine dn_istore (lv0 := [(1, .int a1), (2, .int a2), (3, .int a3), (4, .int x4), (5, .int x5), (6, .int x6), (7, .int x7)]) C dX11_uncle_42 (by decide) rfl rfl (fun v8_8 => ?_)
      refine dn_pick [1, 2, 3, 4, 5, 6, 7, 0] rfl ?_
      refine pf_X_uncle_L44  C X a1 a2 a3 x7 σ τ _ (fun y_23 y_24 y_25 => ?_) FU x4 x5 x6 v8_8
      refine dn_iinc (lv0 := [(1, .int a1), (2, .int a2), (3, .int a3), (4, .int y_23), (5, .int y_24), (6, .int y_25)]) (v := x7 + 1) C dX11_uncle_107 6 rfl rfl (by decide) rfl rfl (fun v7_26 => ?_)
      refine dn_goto (t := 35) C dX11_uncle_110 (by decide) ?_
      refine dn_pick [1, 2, 3, 4, 5, 6, 0] rfl ?_
      exact ih y_23 y_24 y_25 v7_26
    · refine dn_pick [2, 3, 4, 5] rfl ?_
      exact hk x4 x5 x6
set_option maxHeartbeats 4000000 in
set_option maxRecDepth 100000 in
theorem okx_X_uncle {G : wd_G} {l : Launch} (hN : gd_ok G) (htr : l.stackTraces = false) (o : Nat) (ho : sh_kd o = 11) (p1 : Int32) (p2 : Int32) (p3 : Int32) (σ : hp_I) (τ : hp_L) : cl_X G l 7 3 yX11_uncle cX11_uncle 9 (some .int) [.ref (wd_b G + o), .int p1, .int p2, .int p3] σ τ (ci_ih τ) (fn_X_uncle o p1 p2 p3 σ) := by
  refine cl_ofX (lv0 := [(0, .ref (wd_b G + o)), (1, .int p1), (2, .int p2), (3, .int p3)]) (ci_ih τ) (by decide) (Nat.le_of_ble_eq_true rfl) rfl hN htr (fun M X C => ?_)
  have C : cx_C G M RX11 cX11_uncle 9 7 (some .int) := C
  unfold fn_X_uncle
  refine dn_aload_n C dX11_uncle_0 rfl 0 rfl rfl ?_
  refine dn_iload_n C dX11_uncle_1 rfl 1 rfl rfl ?_
  refine dn_iconst C dX11_uncle_2 ic_i_0 rfl ?_
  refine dn_bipush C dX11_uncle_3 ic_b_99 rfl ?_
  refine dn_callX_h (As := [.int p1, .int (0 : Int32), .int (99 : Int32)]) (st := []) C X (okx_X_demandWithin (cx_g C) X.2.2 o ho p1 (0 : Int32) (99 : Int32) σ τ) mt_X11_demandWithin mv_X11_demandWithin lk_X11_182 (by decide) ho rfl (by decide) (by decide) (Nat.le_of_ble_eq_true rfl) dX11_uncle_5 rfl rfl (fun s1 => ?_)
  refine dn_aload_n C dX11_uncle_8 rfl 0 rfl rfl ?_
  refine dn_iload_n C dX11_uncle_9 rfl 2 rfl rfl ?_
  refine dn_iconst C dX11_uncle_10 ic_i_0 rfl ?_
  refine dn_bipush C dX11_uncle_11 ic_b_99 rfl ?_
  refine dn_callX_h (As := [.int p2, .int (0 : Int32), .int (99 : Int32)]) (st := []) C X (okx_X_demandWithin (cx_g C) X.2.2 o ho p2 (0 : Int32) (99 : Int32) s1 τ) mt_X11_demandWithin mv_X11_demandWithin lk_X11_182 (by decide) ho rfl (by decide) (by decide) (Nat.le_of_ble_eq_true rfl) dX11_uncle_13 rfl rfl (fun s2 => ?_)
  refine dn_aload_n C dX11_uncle_16 rfl 0 rfl rfl ?_
  refine dn_iload_n C dX11_uncle_17 rfl 3 rfl rfl ?_
  refine dn_iconst C dX11_uncle_18 ic_i_0 rfl ?_
  refine dn_iconst C dX11_uncle_19 ic_i_2 rfl ?_
  refine dn_callX_h (As := [.int p3, .int (0 : Int32), .int (2 : Int32)]) (st := []) C X (okx_X_demandWithin (cx_g C) X.2.2 o ho p3 (0 : Int32) (2 : Int32) s2 τ) mt_X11_demandWithin mv_X11_demandWithin lk_X11_182 (by decide) ho rfl (by decide) (by decide) (Nat.le_of_ble_eq_true rfl) dX11_uncle_20 rfl rfl (fun s3 => ?_)
  refine dn_iconst C dX11_uncle_23 ic_i_0 rfl ?_
  refine dn_istore (lv0 := [(0, .ref (wd_b G + o)), (1, .int p1), (2, .int p2), (3, .int p3)]) C dX11_uncle_24 (by decide) rfl rfl (fun v4_4 => ?_)
  refine dn_iconst C dX11_uncle_26 ic_i_m1 rfl ?_
  refine dn_istore (lv0 := [(4, .int v4_4), (0, .ref (wd_b G + o)), (1, .int p1), (2, .int p2), (3, .int p3)]) C dX11_uncle_27 (by decide) rfl rfl (fun v5_5 => ?_)
  refine dn_iconst C dX11_uncle_29 ic_i_0 rfl ?_
  refine dn_istore (lv0 := [(5, .int v5_5), (4, .int v4_4), (0, .ref (wd_b G + o)), (1, .int p1), (2, .int p2), (3, .int p3)]) C dX11_uncle_30 (by decide) rfl rfl (fun v6_6 => ?_)
  refine dn_iconst C dX11_uncle_32 ic_i_0 rfl ?_
  refine dn_istore (lv0 := [(6, .int v6_6), (5, .int v5_5), (4, .int v4_4), (0, .ref (wd_b G + o)), (1, .int p1), (2, .int p2), (3, .int p3)]) C dX11_uncle_33 (by decide) rfl rfl (fun v7_7 => ?_)
  refine dn_pick [5, 6, 7, 3, 2, 1, 0] rfl ?_
  refine pf_X_uncle_L35  C X p1 p2 p3 s3 τ _ (fun y_27 y_28 y_29 => ?_) FU v4_4 v5_5 v6_6 v7_7
  refine dn_iload_n C dX11_uncle_113 rfl 0 rfl rfl ?_
  refine dn_look (t0 := 146) _ C dX11_uncle_114 (by decide) (by decide) ?_ ⟨⟨140, by decide, by decide, ?_⟩, ⟨143, by decide, by decide, ?_⟩, trivial⟩
  · refine dn_iload C dX11_uncle_146 3 rfl rfl ?_
    exact dn_iretX C dX11_uncle_148 rfl (by decide) (by decide)
  · refine dn_iload C dX11_uncle_140 1 rfl rfl ?_
    exact dn_iretX C dX11_uncle_142 rfl (by decide) (by decide)
  · refine dn_iload C dX11_uncle_143 2 rfl rfl ?_
    exact dn_iretX C dX11_uncle_145 rfl (by decide) (by decide)
def fn_X_way  (o : Nat) (p1 : Int32) (p2 : Int32) (σ : hp_I) : Option (px_X (Int32 × hp_I)) :=
  px_bx (fn_X_demandOneOf o p1 (σ (sh_rf o 1) 1) σ) fun s1 =>
  px_bx (fn_X_demandWithin o p2 (0 : Int32) (2 : Int32) s1) fun s2 =>
  px_sw p2 [
    ((0 : Int32), (
      Option.bind (px_ald s2 (sh_rf (sh_rf o 1) 5) p1) fun z4 =>
      some (.inr (z4, s2))
    )),
    ((1 : Int32), (
      Option.bind (px_ald s2 (sh_rf (sh_rf o 1) 6) p1) fun z5 =>
      some (.inr (z5, s2))
    ))
  ] (
    Option.bind (fn_State_shutWays (sh_rf o 6) s2) fun z3 =>
    some (.inr ((z3 >>> (p1 &&& 31)) &&& (1 : Int32), s2))
  )
set_option maxHeartbeats 4000000 in
set_option maxRecDepth 100000 in
theorem okx_X_way {G : wd_G} {l : Launch} (hN : gd_ok G) (htr : l.stackTraces = false) (o : Nat) (ho : sh_kd o = 11) (p1 : Int32) (p2 : Int32) (σ : hp_I) (τ : hp_L) : cl_X G l 7 2 yX11_way cX11_way 3 (some .int) [.ref (wd_b G + o), .int p1, .int p2] σ τ (ci_ih τ) (fn_X_way o p1 p2 σ) := by
  refine cl_ofX (lv0 := [(0, .ref (wd_b G + o)), (1, .int p1), (2, .int p2)]) (ci_ih τ) (by decide) (Nat.le_of_ble_eq_true rfl) rfl hN htr (fun M X C => ?_)
  have C : cx_C G M RX11 cX11_way 3 7 (some .int) := C
  unfold fn_X_way
  refine dn_aload_n C dX11_way_0 rfl 0 rfl rfl ?_
  refine dn_iload_n C dX11_way_1 rfl 1 rfl rfl ?_
  refine dn_aload_n C dX11_way_2 rfl 0 rfl rfl ?_
  refine dn_getR C fd_X11_19 ho dX11_way_3 rfl ?_
  refine dn_getI C fd_X11_189 (kt_11_1 ho) dX11_way_6 rfl ?_
  refine dn_callX_h (As := [.int p1, .int (σ (sh_rf o 1) 1)]) (st := []) C X (okx_X_demandOneOf (cx_g C) X.2.2 o ho p1 (σ (sh_rf o 1) 1) σ τ) mt_X11_demandOneOf mv_X11_demandOneOf lk_X11_211 (by decide) ho rfl (by decide) (by decide) (Nat.le_of_ble_eq_true rfl) dX11_way_9 rfl rfl (fun s1 => ?_)
  refine dn_aload_n C dX11_way_12 rfl 0 rfl rfl ?_
  refine dn_iload_n C dX11_way_13 rfl 2 rfl rfl ?_
  refine dn_iconst C dX11_way_14 ic_i_0 rfl ?_
  refine dn_iconst C dX11_way_15 ic_i_2 rfl ?_
  refine dn_callX_h (As := [.int p2, .int (0 : Int32), .int (2 : Int32)]) (st := []) C X (okx_X_demandWithin (cx_g C) X.2.2 o ho p2 (0 : Int32) (2 : Int32) s1 τ) mt_X11_demandWithin mv_X11_demandWithin lk_X11_182 (by decide) ho rfl (by decide) (by decide) (Nat.le_of_ble_eq_true rfl) dX11_way_16 rfl rfl (fun s2 => ?_)
  refine dn_iload_n C dX11_way_19 rfl 2 rfl rfl ?_
  refine dn_look (t0 := 68) _ C dX11_way_20 (by decide) (by decide) ?_ ⟨⟨48, by decide, by decide, ?_⟩, ⟨58, by decide, by decide, ?_⟩, trivial⟩
  · refine dn_aload_n C dX11_way_68 rfl 0 rfl rfl ?_
    refine dn_getR C fd_X11_52 ho dX11_way_69 rfl ?_
    refine dn_callV_i (As := []) (st := []) C (ok_State_shutWays (cx_g C) (sh_rf o 6) (kt_11_6 ho) s2 τ) mt_X8_shutWays mv_X8_shutWays lk_X11_204 (by decide) (kt_11_6 ho) rfl (cs_ok X (by decide) (by decide)) (Nat.le_of_ble_eq_true rfl) dX11_way_72 rfl rfl (fun z3 => ?_)
    refine dn_iload_n C dX11_way_75 rfl 1 rfl rfl ?_
    refine dn_ishr C dX11_way_76 rfl ?_
    refine dn_iconst C dX11_way_77 ic_i_1 rfl ?_
    refine dn_iand C dX11_way_78 rfl ?_
    exact dn_iretX C dX11_way_79 rfl (by decide) (by decide)
  · refine dn_aload_n C dX11_way_48 rfl 0 rfl rfl ?_
    refine dn_getR C fd_X11_19 ho dX11_way_49 rfl ?_
    refine dn_getR C fd_X11_227 (kt_11_1 ho) dX11_way_52 rfl ?_
    refine dn_iload_n C dX11_way_55 rfl 1 rfl rfl ?_
    refine dn_iald C (kt_3_5 (kt_11_1 ho)) dX11_way_56 rfl (fun z4 => ?_)
    exact dn_iretX C dX11_way_57 rfl (by decide) (by decide)
  · refine dn_aload_n C dX11_way_58 rfl 0 rfl rfl ?_
    refine dn_getR C fd_X11_19 ho dX11_way_59 rfl ?_
    refine dn_getR C fd_X11_230 (kt_11_1 ho) dX11_way_62 rfl ?_
    refine dn_iload_n C dX11_way_65 rfl 1 rfl rfl ?_
    refine dn_iald C (kt_3_6 (kt_11_1 ho)) dX11_way_66 rfl (fun z5 => ?_)
    exact dn_iretX C dX11_way_67 rfl (by decide) (by decide)
def fn_X_weight  (o : Nat) (p1 : Int32) (σ : hp_I) : Option (px_X (Int32 × hp_I)) :=
  px_bx (fn_X_demandOneOf o p1 (σ (sh_rf o 1) 0) σ) fun s1 =>
  Option.bind (fn_State_livingIn (sh_rf o 6) p1 s1) fun z2 =>
  Option.bind (fn_State_sizeOf (sh_rf o 6) z2 s1) fun z3 =>
  some (.inr (z3, s1))
set_option maxHeartbeats 4000000 in
set_option maxRecDepth 100000 in
theorem okx_X_weight {G : wd_G} {l : Launch} (hN : gd_ok G) (htr : l.stackTraces = false) (o : Nat) (ho : sh_kd o = 11) (p1 : Int32) (σ : hp_I) (τ : hp_L) : cl_X G l 7 1 yX11_weight cX11_weight 2 (some .int) [.ref (wd_b G + o), .int p1] σ τ (ci_ih τ) (fn_X_weight o p1 σ) := by
  refine cl_ofX (lv0 := [(0, .ref (wd_b G + o)), (1, .int p1)]) (ci_ih τ) (by decide) (Nat.le_of_ble_eq_true rfl) rfl hN htr (fun M X C => ?_)
  have C : cx_C G M RX11 cX11_weight 2 7 (some .int) := C
  unfold fn_X_weight
  refine dn_aload_n C dX11_weight_0 rfl 0 rfl rfl ?_
  refine dn_iload_n C dX11_weight_1 rfl 1 rfl rfl ?_
  refine dn_aload_n C dX11_weight_2 rfl 0 rfl rfl ?_
  refine dn_getR C fd_X11_19 ho dX11_weight_3 rfl ?_
  refine dn_getI C fd_X11_186 (kt_11_1 ho) dX11_weight_6 rfl ?_
  refine dn_callX_h (As := [.int p1, .int (σ (sh_rf o 1) 0)]) (st := []) C X (okx_X_demandOneOf (cx_g C) X.2.2 o ho p1 (σ (sh_rf o 1) 0) σ τ) mt_X11_demandOneOf mv_X11_demandOneOf lk_X11_211 (by decide) ho rfl (by decide) (by decide) (Nat.le_of_ble_eq_true rfl) dX11_weight_9 rfl rfl (fun s1 => ?_)
  refine dn_aload_n C dX11_weight_12 rfl 0 rfl rfl ?_
  refine dn_getR C fd_X11_52 ho dX11_weight_13 rfl ?_
  refine dn_aload_n C dX11_weight_16 rfl 0 rfl rfl ?_
  refine dn_getR C fd_X11_52 ho dX11_weight_17 rfl ?_
  refine dn_iload_n C dX11_weight_20 rfl 1 rfl rfl ?_
  refine dn_callV_i (As := [.int p1]) (st := [.ref (wd_b G + sh_rf o 6)]) C (ok_State_livingIn (cx_g C) (sh_rf o 6) (kt_11_6 ho) p1 s1 τ) mt_X8_livingIn mv_X8_livingIn lk_X11_218 (by decide) (kt_11_6 ho) rfl (cs_ok X (by decide) (by decide)) (Nat.le_of_ble_eq_true rfl) dX11_weight_21 rfl rfl (fun z2 => ?_)
  refine dn_callV_i (As := [.int z2]) (st := []) C (ok_State_sizeOf (cx_g C) (sh_rf o 6) (kt_11_6 ho) z2 s1 τ) mt_X8_sizeOf mv_X8_sizeOf lk_X11_207 (by decide) (kt_11_6 ho) rfl (cs_ok X (by decide) (by decide)) (Nat.le_of_ble_eq_true rfl) dX11_weight_24 rfl rfl (fun z3 => ?_)
  exact dn_iretX C dX11_weight_27 rfl (by decide) (by decide)
def fn_X_would  (o : Nat) (p1 : Int32) (p2 : Int32) (p3 : Int32) (p4 : Int32) (p5 : Int32) (p6 : Int32) (p7 : Int32) (σ : hp_I) : Option (px_X (Int32 × hp_I)) :=
  px_bx (fn_X_demandWithin o p1 (0 : Int32) (999 : Int32) σ) fun s1 =>
  px_bx (fn_X_demandWithin o p2 (0 : Int32) (9 : Int32) s1) fun s2 =>
  px_bx (fn_X_demandWithin o p3 (0 : Int32) (60 : Int32) s2) fun s3 =>
  px_bx (fn_X_demandWithin o p4 (0 : Int32) (5 : Int32) s3) fun s4 =>
  px_bx (fn_X_demandWithin o p5 (0 : Int32) (900 : Int32) s4) fun s5 =>
  px_bx (fn_X_demandWithin o p6 (0 : Int32) (8 : Int32) s5) fun s6 =>
  px_bx (fn_X_demandWithin o p7 (0 : Int32) (7 : Int32) s6) fun s7 =>
  px_b2 (fn_Law_growth (sh_rf o 3) p1 p2 p3 p4 p5 p6 p7 s7) fun z8 s9 =>
  some (.inr (z8, s9))
set_option maxHeartbeats 4000000 in
set_option maxRecDepth 100000 in
theorem okx_X_would {G : wd_G} {l : Launch} (hN : gd_ok G) (htr : l.stackTraces = false) (o : Nat) (ho : sh_kd o = 11) (p1 : Int32) (p2 : Int32) (p3 : Int32) (p4 : Int32) (p5 : Int32) (p6 : Int32) (p7 : Int32) (σ : hp_I) (τ : hp_L) : cl_X G l 7 7 yX11_would cX11_would 8 (some .int) [.ref (wd_b G + o), .int p1, .int p2, .int p3, .int p4, .int p5, .int p6, .int p7] σ τ (ci_ih τ) (fn_X_would o p1 p2 p3 p4 p5 p6 p7 σ) := by
  refine cl_ofX (lv0 := [(0, .ref (wd_b G + o)), (1, .int p1), (2, .int p2), (3, .int p3), (4, .int p4), (5, .int p5), (6, .int p6), (7, .int p7)]) (ci_ih τ) (by decide) (Nat.le_of_ble_eq_true rfl) rfl hN htr (fun M X C => ?_)
  have C : cx_C G M RX11 cX11_would 8 7 (some .int) := C
  unfold fn_X_would
  refine dn_aload_n C dX11_would_0 rfl 0 rfl rfl ?_
  refine dn_iload_n C dX11_would_1 rfl 1 rfl rfl ?_
  refine dn_iconst C dX11_would_2 ic_i_0 rfl ?_
  refine dn_sipush C dX11_would_3 ic_s_999 rfl ?_
  refine dn_callX_h (As := [.int p1, .int (0 : Int32), .int (999 : Int32)]) (st := []) C X (okx_X_demandWithin (cx_g C) X.2.2 o ho p1 (0 : Int32) (999 : Int32) σ τ) mt_X11_demandWithin mv_X11_demandWithin lk_X11_182 (by decide) ho rfl (by decide) (by decide) (Nat.le_of_ble_eq_true rfl) dX11_would_6 rfl rfl (fun s1 => ?_)
  refine dn_aload_n C dX11_would_9 rfl 0 rfl rfl ?_
  refine dn_iload_n C dX11_would_10 rfl 2 rfl rfl ?_
  refine dn_iconst C dX11_would_11 ic_i_0 rfl ?_
  refine dn_bipush C dX11_would_12 ic_b_9 rfl ?_
  refine dn_callX_h (As := [.int p2, .int (0 : Int32), .int (9 : Int32)]) (st := []) C X (okx_X_demandWithin (cx_g C) X.2.2 o ho p2 (0 : Int32) (9 : Int32) s1 τ) mt_X11_demandWithin mv_X11_demandWithin lk_X11_182 (by decide) ho rfl (by decide) (by decide) (Nat.le_of_ble_eq_true rfl) dX11_would_14 rfl rfl (fun s2 => ?_)
  refine dn_aload_n C dX11_would_17 rfl 0 rfl rfl ?_
  refine dn_iload_n C dX11_would_18 rfl 3 rfl rfl ?_
  refine dn_iconst C dX11_would_19 ic_i_0 rfl ?_
  refine dn_bipush C dX11_would_20 ic_b_60 rfl ?_
  refine dn_callX_h (As := [.int p3, .int (0 : Int32), .int (60 : Int32)]) (st := []) C X (okx_X_demandWithin (cx_g C) X.2.2 o ho p3 (0 : Int32) (60 : Int32) s2 τ) mt_X11_demandWithin mv_X11_demandWithin lk_X11_182 (by decide) ho rfl (by decide) (by decide) (Nat.le_of_ble_eq_true rfl) dX11_would_22 rfl rfl (fun s3 => ?_)
  refine dn_aload_n C dX11_would_25 rfl 0 rfl rfl ?_
  refine dn_iload C dX11_would_26 4 rfl rfl ?_
  refine dn_iconst C dX11_would_28 ic_i_0 rfl ?_
  refine dn_iconst C dX11_would_29 ic_i_5 rfl ?_
  refine dn_callX_h (As := [.int p4, .int (0 : Int32), .int (5 : Int32)]) (st := []) C X (okx_X_demandWithin (cx_g C) X.2.2 o ho p4 (0 : Int32) (5 : Int32) s3 τ) mt_X11_demandWithin mv_X11_demandWithin lk_X11_182 (by decide) ho rfl (by decide) (by decide) (Nat.le_of_ble_eq_true rfl) dX11_would_30 rfl rfl (fun s4 => ?_)
  refine dn_aload_n C dX11_would_33 rfl 0 rfl rfl ?_
  refine dn_iload C dX11_would_34 5 rfl rfl ?_
  refine dn_iconst C dX11_would_36 ic_i_0 rfl ?_
  refine dn_sipush C dX11_would_37 ic_s_900 rfl ?_
  refine dn_callX_h (As := [.int p5, .int (0 : Int32), .int (900 : Int32)]) (st := []) C X (okx_X_demandWithin (cx_g C) X.2.2 o ho p5 (0 : Int32) (900 : Int32) s4 τ) mt_X11_demandWithin mv_X11_demandWithin lk_X11_182 (by decide) ho rfl (by decide) (by decide) (Nat.le_of_ble_eq_true rfl) dX11_would_40 rfl rfl (fun s5 => ?_)
  refine dn_aload_n C dX11_would_43 rfl 0 rfl rfl ?_
  refine dn_iload C dX11_would_44 6 rfl rfl ?_
  refine dn_iconst C dX11_would_46 ic_i_0 rfl ?_
  refine dn_bipush C dX11_would_47 ic_b_8 rfl ?_
  refine dn_callX_h (As := [.int p6, .int (0 : Int32), .int (8 : Int32)]) (st := []) C X (okx_X_demandWithin (cx_g C) X.2.2 o ho p6 (0 : Int32) (8 : Int32) s5 τ) mt_X11_demandWithin mv_X11_demandWithin lk_X11_182 (by decide) ho rfl (by decide) (by decide) (Nat.le_of_ble_eq_true rfl) dX11_would_49 rfl rfl (fun s6 => ?_)
  refine dn_aload_n C dX11_would_52 rfl 0 rfl rfl ?_
  refine dn_iload C dX11_would_53 7 rfl rfl ?_
  refine dn_iconst C dX11_would_55 ic_i_0 rfl ?_
  refine dn_bipush C dX11_would_56 ic_b_7 rfl ?_
  refine dn_callX_h (As := [.int p7, .int (0 : Int32), .int (7 : Int32)]) (st := []) C X (okx_X_demandWithin (cx_g C) X.2.2 o ho p7 (0 : Int32) (7 : Int32) s6 τ) mt_X11_demandWithin mv_X11_demandWithin lk_X11_182 (by decide) ho rfl (by decide) (by decide) (Nat.le_of_ble_eq_true rfl) dX11_would_58 rfl rfl (fun s7 => ?_)
  refine dn_aload_n C dX11_would_61 rfl 0 rfl rfl ?_
  refine dn_getR C fd_X11_29 ho dX11_would_62 rfl ?_
  refine dn_iload_n C dX11_would_65 rfl 1 rfl rfl ?_
  refine dn_iload_n C dX11_would_66 rfl 2 rfl rfl ?_
  refine dn_iload_n C dX11_would_67 rfl 3 rfl rfl ?_
  refine dn_iload C dX11_would_68 4 rfl rfl ?_
  refine dn_iload C dX11_would_70 5 rfl rfl ?_
  refine dn_iload C dX11_would_72 6 rfl rfl ?_
  refine dn_iload C dX11_would_74 7 rfl rfl ?_
  refine dn_callV_ih (As := [.int p1, .int p2, .int p3, .int p4, .int p5, .int p6, .int p7]) (st := []) C (ok_Law_growth (cx_g C) (sh_rf o 3) (kt_11_3 ho) p1 p2 p3 p4 p5 p6 p7 s7 τ) mt_X4_growth mv_X4_growth lk_X11_267 (by decide) (kt_11_3 ho) rfl (cs_ok X (by decide) (by decide)) (Nat.le_of_ble_eq_true rfl) dX11_would_76 rfl rfl (fun z8 s9 => ?_)
  exact dn_iretX C dX11_would_79 rfl (by decide) (by decide)
def fn_X_book  (o : Nat) (p1 : Int32) (σ : hp_I) : Option (px_X (Int32 × hp_I)) :=
  px_bx (fn_X_openText o p1 (60 : Int32) σ) fun s1 =>
  Option.bind (fn_Book_read (sh_rf o 4) (sh_rf o 0) (s1 (sh_rf o 1) 3) s1) fun s3 =>
  Option.bind (fn_Tape_failed (sh_rf o 0) s3) fun z4 =>
  px_jn (fun (t5 : Int32) =>
    some (.inr (t5, s3))
  ) fun j6 =>
    if z4 = 0 then (
      Option.bind (fn_Book_many (sh_rf o 4) s3) fun z8 =>
      j6 z8
    ) else (
      Option.bind (fn_Tape_faultAnswer (sh_rf o 0) s3) fun z7 =>
      j6 z7
    )
set_option maxHeartbeats 4000000 in
set_option maxRecDepth 100000 in
theorem okx_X_book {G : wd_G} {l : Launch} (hN : gd_ok G) (htr : l.stackTraces = false) (o : Nat) (ho : sh_kd o = 11) (p1 : Int32) (σ : hp_I) (τ : hp_L) : cl_X G l 8 1 yX11_book cX11_book 2 (some .int) [.ref (wd_b G + o), .int p1] σ τ (ci_ih τ) (fn_X_book o p1 σ) := by
  refine cl_ofX (lv0 := [(0, .ref (wd_b G + o)), (1, .int p1)]) (ci_ih τ) (by decide) (Nat.le_of_ble_eq_true rfl) rfl hN htr (fun M X C => ?_)
  have C : cx_C G M RX11 cX11_book 2 8 (some .int) := C
  unfold fn_X_book
  refine dn_aload_n C dX11_book_0 rfl 0 rfl rfl ?_
  refine dn_iload_n C dX11_book_1 rfl 1 rfl rfl ?_
  refine dn_bipush C dX11_book_2 ic_b_60 rfl ?_
  refine dn_callX_h (As := [.int p1, .int (60 : Int32)]) (st := []) C X (okx_X_openText (cx_g C) X.2.2 o ho p1 (60 : Int32) σ τ) mt_X11_openText mv_X11_openText lk_X11_108 (by decide) ho rfl (by decide) (by decide) (Nat.le_of_ble_eq_true rfl) dX11_book_4 rfl rfl (fun s1 => ?_)
  refine dn_aload_n C dX11_book_7 rfl 0 rfl rfl ?_
  refine dn_getR C fd_X11_36 ho dX11_book_8 rfl ?_
  refine dn_aload_n C dX11_book_11 rfl 0 rfl rfl ?_
  refine dn_getR C fd_X11_10 ho dX11_book_12 rfl ?_
  refine dn_aload_n C dX11_book_15 rfl 0 rfl rfl ?_
  refine dn_getR C fd_X11_19 ho dX11_book_16 rfl ?_
  refine dn_getI C fd_X11_165 (kt_11_1 ho) dX11_book_19 rfl ?_
  refine dn_callV_h (As := [.ref (wd_b G + sh_rf o 0), .int (s1 (sh_rf o 1) 3)]) (st := []) C (ok_Book_read (cx_g C) (sh_rf o 4) (kt_11_4 ho) (sh_rf o 0) (kt_11_0 ho) (s1 (sh_rf o 1) 3) s1 τ) mt_X0_read mv_X0_read lk_X11_168 (by decide) (kt_11_4 ho) rfl (cs_ok X (by decide) (by decide)) (Nat.le_of_ble_eq_true rfl) dX11_book_22 rfl rfl (fun s3 => ?_)
  refine dn_aload_n C dX11_book_25 rfl 0 rfl rfl ?_
  refine dn_getR C fd_X11_10 ho dX11_book_26 rfl ?_
  refine dn_callV_i (As := []) (st := []) C (ok_Tape_failed (cx_g C) (sh_rf o 0) (kt_11_0 ho) s3 τ) mt_X10_failed mv_X10_failed lk_X11_116 (by decide) (kt_11_0 ho) rfl (cs_ok X (by decide) (by decide)) (Nat.le_of_ble_eq_true rfl) dX11_book_29 rfl rfl (fun z4 => ?_)
  refine dn_jn (fun z => ∀ (t5 : Int32), dn_D G M 2 1 6 (cm_X G M τ 1 (ci_ih τ)) 52 [] [.int t5] s3 τ (z t5)) (fun t5 => ?_) (fun j6 hj6 => ?_)
  · exact dn_iretX C dX11_book_52 rfl (by decide) (by decide)
  · refine dn_if_eq (t := 45) C dX11_book_32 (by decide) rfl ?_ ?_
    · refine dn_aload_n C dX11_book_45 rfl 0 rfl rfl ?_
      refine dn_getR C fd_X11_36 ho dX11_book_46 rfl ?_
      refine dn_callV_i (As := []) (st := []) C (ok_Book_many (cx_g C) (sh_rf o 4) (kt_11_4 ho) s3 τ) mt_X0_many mv_X0_many lk_X11_171 (by decide) (kt_11_4 ho) rfl (cs_ok X (by decide) (by decide)) (Nat.le_of_ble_eq_true rfl) dX11_book_49 rfl rfl (fun z8 => ?_)
      refine dn_pick [] rfl ?_
      exact hj6 z8
    · refine dn_aload_n C dX11_book_35 rfl 0 rfl rfl ?_
      refine dn_getR C fd_X11_10 ho dX11_book_36 rfl ?_
      refine dn_callV_i (As := []) (st := []) C (ok_Tape_faultAnswer (cx_g C) (sh_rf o 0) (kt_11_0 ho) s3 τ) mt_X10_faultAnswer mv_X10_faultAnswer lk_X11_119 (by decide) (kt_11_0 ho) rfl (cs_ok X (by decide) (by decide)) (Nat.le_of_ble_eq_true rfl) dX11_book_39 rfl rfl (fun z7 => ?_)
      refine dn_goto (t := 52) C dX11_book_42 (by decide) ?_
      refine dn_pick [] rfl ?_
      exact hj6 z7
def fn_X_house  (o : Nat) (p1 : Int32) (σ : hp_I) : Option (px_X (Int32 × hp_I)) :=
  px_bx (fn_X_openText o p1 (600 : Int32) σ) fun s1 =>
  Option.bind (fn_House_read (sh_rf o 2) (sh_rf o 0) s1) fun s3 =>
  Option.bind (fn_Tape_failed (sh_rf o 0) s3) fun z4 =>
  if z4 = 0 then (
    Option.bind (fn_House_copyFrom (sh_rf o 1) (sh_rf o 2) s3) fun s7 =>
    Option.bind (fn_Law_forget (sh_rf o 3) s7) fun s9 =>
    Option.bind (fn_Book_forget (sh_rf o 4) s9) fun s11 =>
    Option.bind (fn_Past_forget (sh_rf o 8) s11) fun s13 =>
    Option.bind (fn_State_begin (sh_rf o 6) s13) fun s15 =>
    px_let (hp_s s15 o 13 (0 : Int32)) fun s16 =>
    some (.inr (s16 (sh_rf o 1) 2, s16))
  ) else (
    Option.bind (fn_Tape_faultAnswer (sh_rf o 0) s3) fun z5 =>
    some (.inr (z5, s3))
  )
set_option maxHeartbeats 4000000 in
set_option maxRecDepth 100000 in
theorem okx_X_house {G : wd_G} {l : Launch} (hN : gd_ok G) (htr : l.stackTraces = false) (o : Nat) (ho : sh_kd o = 11) (p1 : Int32) (σ : hp_I) (τ : hp_L) : cl_X G l 8 1 yX11_house cX11_house 2 (some .int) [.ref (wd_b G + o), .int p1] σ τ (ci_ih τ) (fn_X_house o p1 σ) := by
  refine cl_ofX (lv0 := [(0, .ref (wd_b G + o)), (1, .int p1)]) (ci_ih τ) (by decide) (Nat.le_of_ble_eq_true rfl) rfl hN htr (fun M X C => ?_)
  have C : cx_C G M RX11 cX11_house 2 8 (some .int) := C
  unfold fn_X_house
  refine dn_aload_n C dX11_house_0 rfl 0 rfl rfl ?_
  refine dn_iload_n C dX11_house_1 rfl 1 rfl rfl ?_
  refine dn_sipush C dX11_house_2 ic_s_600 rfl ?_
  refine dn_callX_h (As := [.int p1, .int (600 : Int32)]) (st := []) C X (okx_X_openText (cx_g C) X.2.2 o ho p1 (600 : Int32) σ τ) mt_X11_openText mv_X11_openText lk_X11_108 (by decide) ho rfl (by decide) (by decide) (Nat.le_of_ble_eq_true rfl) dX11_house_5 rfl rfl (fun s1 => ?_)
  refine dn_aload_n C dX11_house_8 rfl 0 rfl rfl ?_
  refine dn_getR C fd_X11_23 ho dX11_house_9 rfl ?_
  refine dn_aload_n C dX11_house_12 rfl 0 rfl rfl ?_
  refine dn_getR C fd_X11_10 ho dX11_house_13 rfl ?_
  refine dn_callV_h (As := [.ref (wd_b G + sh_rf o 0)]) (st := []) C (ok_House_read (cx_g C) (sh_rf o 2) (kt_11_2 ho) (sh_rf o 0) (kt_11_0 ho) s1 τ) mt_X3_read mv_X3_read lk_X11_112 (by decide) (kt_11_2 ho) rfl (cs_ok X (by decide) (by decide)) (Nat.le_of_ble_eq_true rfl) dX11_house_16 rfl rfl (fun s3 => ?_)
  refine dn_aload_n C dX11_house_19 rfl 0 rfl rfl ?_
  refine dn_getR C fd_X11_10 ho dX11_house_20 rfl ?_
  refine dn_callV_i (As := []) (st := []) C (ok_Tape_failed (cx_g C) (sh_rf o 0) (kt_11_0 ho) s3 τ) mt_X10_failed mv_X10_failed lk_X11_116 (by decide) (kt_11_0 ho) rfl (cs_ok X (by decide) (by decide)) (Nat.le_of_ble_eq_true rfl) dX11_house_23 rfl rfl (fun z4 => ?_)
  refine dn_if_eq (t := 37) C dX11_house_26 (by decide) rfl ?_ ?_
  · refine dn_aload_n C dX11_house_37 rfl 0 rfl rfl ?_
    refine dn_getR C fd_X11_19 ho dX11_house_38 rfl ?_
    refine dn_aload_n C dX11_house_41 rfl 0 rfl rfl ?_
    refine dn_getR C fd_X11_23 ho dX11_house_42 rfl ?_
    refine dn_callV_h (As := [.ref (wd_b G + sh_rf o 2)]) (st := []) C (ok_House_copyFrom (cx_g C) (sh_rf o 1) (kt_11_1 ho) (sh_rf o 2) (kt_11_2 ho) s3 τ) mt_X3_copyFrom mv_X3_copyFrom lk_X11_122 (by decide) (kt_11_1 ho) rfl (cs_ok X (by decide) (by decide)) (Nat.le_of_ble_eq_true rfl) dX11_house_45 rfl rfl (fun s7 => ?_)
    refine dn_aload_n C dX11_house_48 rfl 0 rfl rfl ?_
    refine dn_getR C fd_X11_29 ho dX11_house_49 rfl ?_
    refine dn_callV_h (As := []) (st := []) C (ok_Law_forget (cx_g C) (sh_rf o 3) (kt_11_3 ho) s7 τ) mt_X4_forget mv_X4_forget lk_X11_125 (by decide) (kt_11_3 ho) rfl (cs_ok X (by decide) (by decide)) (Nat.le_of_ble_eq_true rfl) dX11_house_52 rfl rfl (fun s9 => ?_)
    refine dn_aload_n C dX11_house_55 rfl 0 rfl rfl ?_
    refine dn_getR C fd_X11_36 ho dX11_house_56 rfl ?_
    refine dn_callV_h (As := []) (st := []) C (ok_Book_forget (cx_g C) (sh_rf o 4) (kt_11_4 ho) s9 τ) mt_X0_forget mv_X0_forget lk_X11_128 (by decide) (kt_11_4 ho) rfl (cs_ok X (by decide) (by decide)) (Nat.le_of_ble_eq_true rfl) dX11_house_59 rfl rfl (fun s11 => ?_)
    refine dn_aload_n C dX11_house_62 rfl 0 rfl rfl ?_
    refine dn_getR C fd_X11_62 ho dX11_house_63 rfl ?_
    refine dn_callV_h (As := []) (st := []) C (ok_Past_forget (cx_g C) (sh_rf o 8) (kt_11_8 ho) s11 τ) mt_X5_forget mv_X5_forget lk_X11_129 (by decide) (kt_11_8 ho) rfl (cs_ok X (by decide) (by decide)) (Nat.le_of_ble_eq_true rfl) dX11_house_66 rfl rfl (fun s13 => ?_)
    refine dn_aload_n C dX11_house_69 rfl 0 rfl rfl ?_
    refine dn_getR C fd_X11_52 ho dX11_house_70 rfl ?_
    refine dn_callV_h (As := []) (st := []) C (ok_State_begin (cx_g C) (sh_rf o 6) (kt_11_6 ho) s13 τ) mt_X8_begin mv_X8_begin lk_X11_130 (by decide) (kt_11_6 ho) rfl (cs_ok X (by decide) (by decide)) (Nat.le_of_ble_eq_true rfl) dX11_house_73 rfl rfl (fun s15 => ?_)
    refine dn_aload_n C dX11_house_76 rfl 0 rfl rfl ?_
    refine dn_iconst C dX11_house_77 ic_i_0 rfl ?_
    refine dn_putI C fp_X11_133 ho dX11_house_78 rfl (fun s16 => ?_)
    refine dn_aload_n C dX11_house_81 rfl 0 rfl rfl ?_
    refine dn_getR C fd_X11_19 ho dX11_house_82 rfl ?_
    refine dn_getI C fd_X11_137 (kt_11_1 ho) dX11_house_85 rfl ?_
    exact dn_iretX C dX11_house_88 rfl (by decide) (by decide)
  · refine dn_aload_n C dX11_house_29 rfl 0 rfl rfl ?_
    refine dn_getR C fd_X11_10 ho dX11_house_30 rfl ?_
    refine dn_callV_i (As := []) (st := []) C (ok_Tape_faultAnswer (cx_g C) (sh_rf o 0) (kt_11_0 ho) s3 τ) mt_X10_faultAnswer mv_X10_faultAnswer lk_X11_119 (by decide) (kt_11_0 ho) rfl (cs_ok X (by decide) (by decide)) (Nat.le_of_ble_eq_true rfl) dX11_house_33 rfl rfl (fun z5 => ?_)
    exact dn_iretX C dX11_house_36 rfl (by decide) (by decide)
def fn_X_work  (o : Nat) (p1 : Int32) (σ : hp_I) : Option (px_X (Int32 × hp_I)) :=
  px_bx (fn_X_openText o p1 (150 : Int32) σ) fun s1 =>
  Option.bind (fn_Past_isFull (sh_rf o 8) s1) fun z2 =>
  if z2 = 0 then (
    Option.bind (fn_Steps_read (sh_rf o 5) (sh_rf o 0) (sh_rf o 1) s1) fun s4 =>
    Option.bind (fn_Tape_failed (sh_rf o 0) s4) fun z5 =>
    if z5 = 0 then (
      Option.bind (fn_Past_keepWork (sh_rf o 8) (sh_rf o 6) s4) fun s8 =>
      Option.bind (fn_Steps_begin (sh_rf o 5) s8) fun s10 =>
      Option.bind (fn_Steps_many (sh_rf o 5) s10) fun z11 =>
      Option.bind (fn_Steps_run (sh_rf o 5) (sh_rf o 6) (0 : Int32) z11 (0 : Int32) s10) fun s13 =>
      px_let (hp_s s13 o 13 (s13 (sh_rf o 5) 7)) fun s14 =>
      some (.inr (s14 (sh_rf o 5) 6, s14))
    ) else (
      Option.bind (fn_Tape_faultAnswer (sh_rf o 0) s4) fun z6 =>
      some (.inr (z6, s4))
    )
  ) else (
    some (.inr ((-20 : Int32), s1))
  )
set_option maxHeartbeats 4000000 in
set_option maxRecDepth 100000 in
theorem okx_X_work {G : wd_G} {l : Launch} (hN : gd_ok G) (htr : l.stackTraces = false) (o : Nat) (ho : sh_kd o = 11) (p1 : Int32) (σ : hp_I) (τ : hp_L) : cl_X G l 71 1 yX11_work cX11_work 2 (some .int) [.ref (wd_b G + o), .int p1] σ τ (ci_ih τ) (fn_X_work o p1 σ) := by
  refine cl_ofX (lv0 := [(0, .ref (wd_b G + o)), (1, .int p1)]) (ci_ih τ) (by decide) (Nat.le_of_ble_eq_true rfl) rfl hN htr (fun M X C => ?_)
  have C : cx_C G M RX11 cX11_work 2 71 (some .int) := C
  unfold fn_X_work
  refine dn_aload_n C dX11_work_0 rfl 0 rfl rfl ?_
  refine dn_iload_n C dX11_work_1 rfl 1 rfl rfl ?_
  refine dn_sipush C dX11_work_2 ic_s_150 rfl ?_
  refine dn_callX_h (As := [.int p1, .int (150 : Int32)]) (st := []) C X (okx_X_openText (cx_g C) X.2.2 o ho p1 (150 : Int32) σ τ) mt_X11_openText mv_X11_openText lk_X11_108 (by decide) ho rfl (by decide) (by decide) (Nat.le_of_ble_eq_true rfl) dX11_work_5 rfl rfl (fun s1 => ?_)
  refine dn_aload_n C dX11_work_8 rfl 0 rfl rfl ?_
  refine dn_getR C fd_X11_62 ho dX11_work_9 rfl ?_
  refine dn_callV_i (As := []) (st := []) C (ok_Past_isFull (cx_g C) (sh_rf o 8) (kt_11_8 ho) s1 τ) mt_X5_isFull mv_X5_isFull lk_X11_141 (by decide) (kt_11_8 ho) rfl (cs_ok X (by decide) (by decide)) (Nat.le_of_ble_eq_true rfl) dX11_work_12 rfl rfl (fun z2 => ?_)
  refine dn_if_eq (t := 21) C dX11_work_15 (by decide) rfl ?_ ?_
  · refine dn_aload_n C dX11_work_21 rfl 0 rfl rfl ?_
    refine dn_getR C fd_X11_43 ho dX11_work_22 rfl ?_
    refine dn_aload_n C dX11_work_25 rfl 0 rfl rfl ?_
    refine dn_getR C fd_X11_10 ho dX11_work_26 rfl ?_
    refine dn_aload_n C dX11_work_29 rfl 0 rfl rfl ?_
    refine dn_getR C fd_X11_19 ho dX11_work_30 rfl ?_
    refine dn_callV_h (As := [.ref (wd_b G + sh_rf o 0), .ref (wd_b G + sh_rf o 1)]) (st := []) C (ok_Steps_read (cx_g C) (sh_rf o 5) (kt_11_5 ho) (sh_rf o 0) (kt_11_0 ho) (sh_rf o 1) (kt_11_1 ho) s1 τ) mt_X9_read mv_X9_read lk_X11_144 (by decide) (kt_11_5 ho) rfl (cs_ok X (by decide) (by decide)) (Nat.le_of_ble_eq_true rfl) dX11_work_33 rfl rfl (fun s4 => ?_)
    refine dn_aload_n C dX11_work_36 rfl 0 rfl rfl ?_
    refine dn_getR C fd_X11_10 ho dX11_work_37 rfl ?_
    refine dn_callV_i (As := []) (st := []) C (ok_Tape_failed (cx_g C) (sh_rf o 0) (kt_11_0 ho) s4 τ) mt_X10_failed mv_X10_failed lk_X11_116 (by decide) (kt_11_0 ho) rfl (cs_ok X (by decide) (by decide)) (Nat.le_of_ble_eq_true rfl) dX11_work_40 rfl rfl (fun z5 => ?_)
    refine dn_if_eq (t := 54) C dX11_work_43 (by decide) rfl ?_ ?_
    · refine dn_aload_n C dX11_work_54 rfl 0 rfl rfl ?_
      refine dn_getR C fd_X11_62 ho dX11_work_55 rfl ?_
      refine dn_aload_n C dX11_work_58 rfl 0 rfl rfl ?_
      refine dn_getR C fd_X11_52 ho dX11_work_59 rfl ?_
      refine dn_callV_h (As := [.ref (wd_b G + sh_rf o 6)]) (st := []) C (ok_Past_keepWork (cx_g C) (sh_rf o 8) (kt_11_8 ho) (sh_rf o 6) (kt_11_6 ho) s4 τ) mt_X5_keepWork mv_X5_keepWork lk_X11_147 (by decide) (kt_11_8 ho) rfl (cs_ok X (by decide) (by decide)) (Nat.le_of_ble_eq_true rfl) dX11_work_62 rfl rfl (fun s8 => ?_)
      refine dn_aload_n C dX11_work_65 rfl 0 rfl rfl ?_
      refine dn_getR C fd_X11_43 ho dX11_work_66 rfl ?_
      refine dn_callV_h (As := []) (st := []) C (ok_Steps_begin (cx_g C) (sh_rf o 5) (kt_11_5 ho) s8 τ) mt_X9_begin mv_X9_begin lk_X11_151 (by decide) (kt_11_5 ho) rfl (cs_ok X (by decide) (by decide)) (Nat.le_of_ble_eq_true rfl) dX11_work_69 rfl rfl (fun s10 => ?_)
      refine dn_aload_n C dX11_work_72 rfl 0 rfl rfl ?_
      refine dn_getR C fd_X11_43 ho dX11_work_73 rfl ?_
      refine dn_aload_n C dX11_work_76 rfl 0 rfl rfl ?_
      refine dn_getR C fd_X11_52 ho dX11_work_77 rfl ?_
      refine dn_iconst C dX11_work_80 ic_i_0 rfl ?_
      refine dn_aload_n C dX11_work_81 rfl 0 rfl rfl ?_
      refine dn_getR C fd_X11_43 ho dX11_work_82 rfl ?_
      refine dn_callV_i (As := []) (st := [.int (0 : Int32), .ref (wd_b G + sh_rf o 6), .ref (wd_b G + sh_rf o 5)]) C (ok_Steps_many (cx_g C) (sh_rf o 5) (kt_11_5 ho) s10 τ) mt_X9_many mv_X9_many lk_X11_152 (by decide) (kt_11_5 ho) rfl (cs_ok X (by decide) (by decide)) (Nat.le_of_ble_eq_true rfl) dX11_work_85 rfl rfl (fun z11 => ?_)
      refine dn_iconst C dX11_work_88 ic_i_0 rfl ?_
      refine dn_callV_h (As := [.ref (wd_b G + sh_rf o 6), .int (0 : Int32), .int z11, .int (0 : Int32)]) (st := []) C (ok_Steps_run (cx_g C) (sh_rf o 5) (kt_11_5 ho) (sh_rf o 6) (kt_11_6 ho) (0 : Int32) z11 (0 : Int32) s10 τ) mt_X9_run mv_X9_run lk_X11_155 (by decide) (kt_11_5 ho) rfl (cs_ok X (by decide) (by decide)) (Nat.le_of_ble_eq_true rfl) dX11_work_89 rfl rfl (fun s13 => ?_)
      refine dn_aload_n C dX11_work_92 rfl 0 rfl rfl ?_
      refine dn_aload_n C dX11_work_93 rfl 0 rfl rfl ?_
      refine dn_getR C fd_X11_43 ho dX11_work_94 rfl ?_
      refine dn_getI C fd_X11_159 (kt_11_5 ho) dX11_work_97 rfl ?_
      refine dn_putI C fp_X11_133 ho dX11_work_100 rfl (fun s14 => ?_)
      refine dn_aload_n C dX11_work_103 rfl 0 rfl rfl ?_
      refine dn_getR C fd_X11_43 ho dX11_work_104 rfl ?_
      refine dn_getI C fd_X11_162 (kt_11_5 ho) dX11_work_107 rfl ?_
      exact dn_iretX C dX11_work_110 rfl (by decide) (by decide)
    · refine dn_aload_n C dX11_work_46 rfl 0 rfl rfl ?_
      refine dn_getR C fd_X11_10 ho dX11_work_47 rfl ?_
      refine dn_callV_i (As := []) (st := []) C (ok_Tape_faultAnswer (cx_g C) (sh_rf o 0) (kt_11_0 ho) s4 τ) mt_X10_faultAnswer mv_X10_faultAnswer lk_X11_119 (by decide) (kt_11_0 ho) rfl (cs_ok X (by decide) (by decide)) (Nat.le_of_ble_eq_true rfl) dX11_work_50 rfl rfl (fun z6 => ?_)
      exact dn_iretX C dX11_work_53 rfl (by decide) (by decide)
  · refine dn_bipush C dX11_work_18 ic_b_m20 rfl ?_
    exact dn_iretX C dX11_work_20 rfl (by decide) (by decide)
def fn_X_law  (o : Nat) (p1 : Int32) (σ : hp_I) : Option (px_X (Int32 × hp_I)) :=
  px_bx (fn_X_openText o p1 (150 : Int32) σ) fun s1 =>
  Option.bind (fn_Law_read (sh_rf o 3) (sh_rf o 0) s1) fun s3 =>
  Option.bind (fn_Tape_failed (sh_rf o 0) s3) fun z4 =>
  px_jn (fun (t5 : Int32) =>
    some (.inr (t5, s3))
  ) fun j6 =>
    if z4 = 0 then (
      j6 (1 : Int32)
    ) else (
      Option.bind (fn_Tape_faultAnswer (sh_rf o 0) s3) fun z7 =>
      j6 z7
    )
set_option maxHeartbeats 4000000 in
set_option maxRecDepth 100000 in
theorem okx_X_law {G : wd_G} {l : Launch} (hN : gd_ok G) (htr : l.stackTraces = false) (o : Nat) (ho : sh_kd o = 11) (p1 : Int32) (σ : hp_I) (τ : hp_L) : cl_X G l 72 1 yX11_law cX11_law 2 (some .int) [.ref (wd_b G + o), .int p1] σ τ (ci_ih τ) (fn_X_law o p1 σ) := by
  refine cl_ofX (lv0 := [(0, .ref (wd_b G + o)), (1, .int p1)]) (ci_ih τ) (by decide) (Nat.le_of_ble_eq_true rfl) rfl hN htr (fun M X C => ?_)
  have C : cx_C G M RX11 cX11_law 2 72 (some .int) := C
  unfold fn_X_law
  refine dn_aload_n C dX11_law_0 rfl 0 rfl rfl ?_
  refine dn_iload_n C dX11_law_1 rfl 1 rfl rfl ?_
  refine dn_sipush C dX11_law_2 ic_s_150 rfl ?_
  refine dn_callX_h (As := [.int p1, .int (150 : Int32)]) (st := []) C X (okx_X_openText (cx_g C) X.2.2 o ho p1 (150 : Int32) σ τ) mt_X11_openText mv_X11_openText lk_X11_108 (by decide) ho rfl (by decide) (by decide) (Nat.le_of_ble_eq_true rfl) dX11_law_5 rfl rfl (fun s1 => ?_)
  refine dn_aload_n C dX11_law_8 rfl 0 rfl rfl ?_
  refine dn_getR C fd_X11_29 ho dX11_law_9 rfl ?_
  refine dn_aload_n C dX11_law_12 rfl 0 rfl rfl ?_
  refine dn_getR C fd_X11_10 ho dX11_law_13 rfl ?_
  refine dn_callV_h (As := [.ref (wd_b G + sh_rf o 0)]) (st := []) C (ok_Law_read (cx_g C) (sh_rf o 3) (kt_11_3 ho) (sh_rf o 0) (kt_11_0 ho) s1 τ) mt_X4_read mv_X4_read lk_X11_140 (by decide) (kt_11_3 ho) rfl (cs_ok X (by decide) (by decide)) (Nat.le_of_ble_eq_true rfl) dX11_law_16 rfl rfl (fun s3 => ?_)
  refine dn_aload_n C dX11_law_19 rfl 0 rfl rfl ?_
  refine dn_getR C fd_X11_10 ho dX11_law_20 rfl ?_
  refine dn_callV_i (As := []) (st := []) C (ok_Tape_failed (cx_g C) (sh_rf o 0) (kt_11_0 ho) s3 τ) mt_X10_failed mv_X10_failed lk_X11_116 (by decide) (kt_11_0 ho) rfl (cs_ok X (by decide) (by decide)) (Nat.le_of_ble_eq_true rfl) dX11_law_23 rfl rfl (fun z4 => ?_)
  refine dn_jn (fun z => ∀ (t5 : Int32), dn_D G M 2 1 6 (cm_X G M τ 1 (ci_ih τ)) 40 [] [.int t5] s3 τ (z t5)) (fun t5 => ?_) (fun j6 hj6 => ?_)
  · exact dn_iretX C dX11_law_40 rfl (by decide) (by decide)
  · refine dn_if_eq (t := 39) C dX11_law_26 (by decide) rfl ?_ ?_
    · refine dn_iconst C dX11_law_39 ic_i_1 rfl ?_
      refine dn_pick [] rfl ?_
      exact hj6 (1 : Int32)
    · refine dn_aload_n C dX11_law_29 rfl 0 rfl rfl ?_
      refine dn_getR C fd_X11_10 ho dX11_law_30 rfl ?_
      refine dn_callV_i (As := []) (st := []) C (ok_Tape_faultAnswer (cx_g C) (sh_rf o 0) (kt_11_0 ho) s3 τ) mt_X10_faultAnswer mv_X10_faultAnswer lk_X11_119 (by decide) (kt_11_0 ho) rfl (cs_ok X (by decide) (by decide)) (Nat.le_of_ble_eq_true rfl) dX11_law_33 rfl rfl (fun z7 => ?_)
      refine dn_goto (t := 40) C dX11_law_36 (by decide) ?_
      refine dn_pick [] rfl ?_
      exact hj6 z7
