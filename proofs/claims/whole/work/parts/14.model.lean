theorem kn_12_43 {i : Nat} (h : sh_kd i = 12) : sh_rf i 43 < 601 := by
  rcases kk_12 h with rfl
  decide +kernel
def fn_M_bad  (o : Nat) (p1 : Int32) (p2 : Int32) (p3 : Int32) (σ : hp_I) : Option (Int32 × hp_I) :=
  px_jn (fun (s1 : hp_I) =>
    px_jn (fun (t2 : Int32) =>
      px_z t2 (t2, s1)
    ) fun j3 =>
      if (s1 o 0) = 0 then (
        j3 (0 : Int32)
      ) else (
        j3 (1 : Int32)
      )
  ) fun j4 =>
    if p1 = 0 then (
      j4 σ
    ) else (
      if (σ o 0) = 0 then (
        px_let (hp_s σ o 0 p2) fun s5 =>
        Option.bind (px_ald s5 (sh_rf o 10) p3) fun z6 =>
        Option.bind (px_ast s5 (sh_rf o 10) p3 (z6 + (1 : Int32))) fun s7 =>
        j4 s7
      ) else (
        j4 σ
      )
    )
set_option maxHeartbeats 4000000 in
set_option maxRecDepth 100000 in
theorem ok_M_bad {G : wd_G} {l : Launch} (hN : gd_ok G)  (o : Nat) (ho : sh_kd o = 12) (p1 : Int32) (p2 : Int32) (p3 : Int32) (σ : hp_I) (τ : hp_L) : cl_C G l 0 yX12_bad cX12_bad 4 (some .boolean) [.ref (wd_b G + o), .int p1, .int p2, .int p3] σ τ (ci_ih τ) (fn_M_bad o p1 p2 p3 σ) := by
  refine cl_of (lv0 := [(0, .ref (wd_b G + o)), (1, .int p1), (2, .int p2), (3, .int p3)]) (ci_ih τ) (by decide) (Nat.le_of_ble_eq_true rfl) rfl hN (fun M hM C => ?_)
  have C : cx_C G M RX12 cX12_bad 4 0 (some .boolean) := C
  unfold fn_M_bad
  refine dn_iload_n C dX12_bad_0 rfl 1 rfl rfl ?_
  refine dn_jn (fun z => ∀ (s1 : hp_I), dn_D G M 4 0 0 (cl_M G M (ci_ih τ)) 26 [(0, .ref (wd_b G + o))] [] s1 τ (z s1)) (fun s1 => ?_) (fun j4 hj4 => ?_)
  · refine dn_aload_n C dX12_bad_26 rfl 0 rfl rfl ?_
    refine dn_getI C fd_X12_93 ho dX12_bad_27 rfl ?_
    refine dn_jn (fun z => ∀ (t2 : Int32), dn_D G M 4 0 0 (cl_M G M (ci_ih τ)) 38 [] [.int t2] s1 τ (z t2)) (fun t2 => ?_) (fun j3 hj3 => ?_)
    · exact dn_zret C dX12_bad_38 rfl
    · refine dn_if_eq (t := 37) C dX12_bad_30 (by decide) rfl ?_ ?_
      · refine dn_iconst C dX12_bad_37 ic_i_0 rfl ?_
        refine dn_pick [] rfl ?_
        exact hj3 (0 : Int32)
      · refine dn_iconst C dX12_bad_33 ic_i_1 rfl ?_
        refine dn_goto (t := 38) C dX12_bad_34 (by decide) ?_
        refine dn_pick [] rfl ?_
        exact hj3 (1 : Int32)
  · refine dn_if_eq (t := 26) C dX12_bad_1 (by decide) rfl ?_ ?_
    · refine dn_pick [0] rfl ?_
      exact hj4 σ
    · refine dn_aload_n C dX12_bad_4 rfl 0 rfl rfl ?_
      refine dn_getI C fd_X12_93 ho dX12_bad_5 rfl ?_
      refine dn_if_ne (t := 26) C dX12_bad_8 (by decide) rfl ?_ ?_
      · refine dn_aload_n C dX12_bad_11 rfl 0 rfl rfl ?_
        refine dn_iload_n C dX12_bad_12 rfl 2 rfl rfl ?_
        refine dn_putI C fp_X12_93 ho dX12_bad_13 rfl (fun s5 => ?_)
        refine dn_aload_n C dX12_bad_16 rfl 0 rfl rfl ?_
        refine dn_getR C fd_X12_17 ho dX12_bad_17 rfl ?_
        refine dn_iload_n C dX12_bad_20 rfl 3 rfl rfl ?_
        refine dn_dup2 C dX12_bad_21 rfl rfl rfl ?_
        refine dn_iald C (kt_12_10 ho) dX12_bad_22 rfl (fun z6 => ?_)
        refine dn_iconst C dX12_bad_23 ic_i_1 rfl ?_
        refine dn_iadd C dX12_bad_24 rfl ?_
        refine dn_iast C (kt_12_10 ho) dX12_bad_25 rfl (fun s7 => ?_)
        refine dn_pick [0] rfl ?_
        exact hj4 s7
      · refine dn_pick [0] rfl ?_
        exact hj4 σ
def fn_M_becomes  (p1 : Nat) (p2 : Int32) (p3 : Int32) (σ : hp_I) : Option (Int32 × hp_I) :=
  Option.bind (px_ald σ p1 p2) fun z1 =>
  if z1 = p3 then (
    px_z (0 : Int32) ((0 : Int32), σ)
  ) else (
    Option.bind (px_ast σ p1 p2 p3) fun s2 =>
    px_z (1 : Int32) ((1 : Int32), s2)
  )
set_option maxHeartbeats 4000000 in
set_option maxRecDepth 100000 in
theorem ok_M_becomes {G : wd_G} {l : Launch} (hN : gd_ok G)  (p1 : Nat) (hp1 : sh_kd p1 = 13) (p2 : Int32) (p3 : Int32) (σ : hp_I) (τ : hp_L) : cl_C G l 0 yX12_becomes cX12_becomes 3 (some .boolean) [.ref (wd_b G + p1), .int p2, .int p3] σ τ (ci_ih τ) (fn_M_becomes p1 p2 p3 σ) := by
  refine cl_of (lv0 := [(0, .ref (wd_b G + p1)), (1, .int p2), (2, .int p3)]) (ci_ih τ) (by decide) (Nat.le_of_ble_eq_true rfl) rfl hN (fun M hM C => ?_)
  have C : cx_C G M RX12 cX12_becomes 3 0 (some .boolean) := C
  unfold fn_M_becomes
  refine dn_aload_n C dX12_becomes_0 rfl 0 rfl rfl ?_
  refine dn_iload_n C dX12_becomes_1 rfl 1 rfl rfl ?_
  refine dn_iald C hp1 dX12_becomes_2 rfl (fun z1 => ?_)
  refine dn_iload_n C dX12_becomes_3 rfl 2 rfl rfl ?_
  refine dn_icmp_ne (t := 9) C dX12_becomes_4 (by decide) rfl ?_ ?_
  · refine dn_iconst C dX12_becomes_7 ic_i_0 rfl ?_
    exact dn_zret C dX12_becomes_8 rfl
  · refine dn_aload_n C dX12_becomes_9 rfl 0 rfl rfl ?_
    refine dn_iload_n C dX12_becomes_10 rfl 1 rfl rfl ?_
    refine dn_iload_n C dX12_becomes_11 rfl 2 rfl rfl ?_
    refine dn_iast C hp1 dX12_becomes_12 rfl (fun s2 => ?_)
    refine dn_iconst C dX12_becomes_13 ic_i_1 rfl ?_
    exact dn_zret C dX12_becomes_14 rfl
def fn_M_byteAt  (o : Nat) (p1 : Int32) (σ : hp_I) : Option (Int32) :=
  px_jn (fun (t1 : Int32) =>
    some t1
  ) fun j2 =>
    if (σ o 2) ≤ p1 then (
      j2 (-1 : Int32)
    ) else (
      Option.bind (px_ald σ (sh_rf o 9) p1) fun z3 =>
      j2 z3
    )
set_option maxHeartbeats 4000000 in
set_option maxRecDepth 100000 in
theorem ok_M_byteAt {G : wd_G} {l : Launch} (hN : gd_ok G)  (o : Nat) (ho : sh_kd o = 12) (p1 : Int32) (σ : hp_I) (τ : hp_L) : cl_C G l 0 yX12_byteAt cX12_byteAt 2 (some .int) [.ref (wd_b G + o), .int p1] σ τ (ci_i σ τ) (fn_M_byteAt o p1 σ) := by
  refine cl_of (lv0 := [(0, .ref (wd_b G + o)), (1, .int p1)]) (ci_i σ τ) (by decide) (Nat.le_of_ble_eq_true rfl) rfl hN (fun M hM C => ?_)
  have C : cx_C G M RX12 cX12_byteAt 2 0 (some .int) := C
  unfold fn_M_byteAt
  refine dn_iload_n C dX12_byteAt_0 rfl 1 rfl rfl ?_
  refine dn_aload_n C dX12_byteAt_1 rfl 0 rfl rfl ?_
  refine dn_getI C fd_X12_99 ho dX12_byteAt_2 rfl ?_
  refine dn_jn (fun z => ∀ (t1 : Int32), dn_D G M 2 0 0 (cl_M G M (ci_i σ τ)) 18 [] [.int t1] σ τ (z t1)) (fun t1 => ?_) (fun j2 hj2 => ?_)
  · exact dn_iret C dX12_byteAt_18 rfl
  · refine dn_icmp_lt (t := 12) C dX12_byteAt_5 (by decide) rfl ?_ ?_
    · refine dn_iconst C dX12_byteAt_8 ic_i_m1 rfl ?_
      refine dn_goto (t := 18) C dX12_byteAt_9 (by decide) ?_
      refine dn_pick [] rfl ?_
      exact hj2 (-1 : Int32)
    · refine dn_aload_n C dX12_byteAt_12 rfl 0 rfl rfl ?_
      refine dn_getR C fd_X12_13 ho dX12_byteAt_13 rfl ?_
      refine dn_iload_n C dX12_byteAt_16 rfl 1 rfl rfl ?_
      refine dn_iald C (kt_12_9 ho) dX12_byteAt_17 rfl (fun z3 => ?_)
      refine dn_pick [] rfl ?_
      exact hj2 z3
def fn_M_catsIn_L5  (a0 : Nat) (a1 : Nat) (a2 : Int32) (σ : hp_I) (k : Int32 → Option (Int32)) : Nat → Int32 → Int32 → Option (Int32)
  | 0, _, _ => none
  | fu + 1, x3, x4 =>
    Option.bind (px_ald σ (sh_rf a0 12) (3 : Int32)) fun z3 =>
    if x4 < z3 then (
      Option.bind (px_ald σ a1 ((32 : Int32) + x4)) fun z4 =>
      px_jn (fun (t5 : Int32) =>
        px_let (x3 ||| t5) fun v3_6 =>
        px_let (x4 + 1) fun v4_7 =>
        fn_M_catsIn_L5 a0 a1 a2 σ k fu v3_6 v4_7
      ) fun j8 =>
        if z4 = a2 then (
          j8 ((1 : Int32) <<< (x4 &&& 31))
        ) else (
          j8 (0 : Int32)
        )
    ) else (
      k x3
    )
def fn_M_catsIn  (o : Nat) (p1 : Nat) (p2 : Int32) (σ : hp_I) : Option (Int32) :=
  px_let (0 : Int32) fun v3_1 =>
  px_let (0 : Int32) fun v4_2 =>
  fn_M_catsIn_L5 o p1 p2 σ
    (fun (y_9 : Int32) =>
      some y_9
    )
    FU v3_1 v4_2
set_option maxHeartbeats 4000000 in
set_option maxRecDepth 100000 in
theorem pf_M_catsIn_L5 {G : wd_G} {M : wd_M}  (C : cx_C G M RX12 cX12_catsIn 5 0 (some .int)) (a0 : Nat) (ha0 : sh_kd a0 = 12) (a1 : Nat) (ha1 : sh_kd a1 = 13) (a2 : Int32) (σ : hp_I) (τ : hp_L) (k : Int32 → Option (Int32)) (hk : ∀ (y3 : Int32), dn_D G M 5 0 0 (cl_M G M (ci_i σ τ)) 44 [(3, .int y3)] [] σ τ (k y3)) : ∀ (fu : Nat) (x3 : Int32) (x4 : Int32), dn_D G M 5 0 0 (cl_M G M (ci_i σ τ)) 5 [(0, .ref (wd_b G + a0)), (1, .ref (wd_b G + a1)), (2, .int a2), (3, .int x3), (4, .int x4)] [] σ τ (fn_M_catsIn_L5 a0 a1 a2 σ k fu x3 x4) := by
  intro fu
  induction fu with
  | zero => exact fun x3 x4 => dn_none
  | succ fu ih =>
    intro x3 x4
    unfold fn_M_catsIn_L5
    refine dn_iload C dX12_catsIn_5 4 rfl rfl ?_
    refine dn_aload_n C dX12_catsIn_7 rfl 0 rfl rfl ?_
    refine dn_getR C fd_X12_23 ha0 dX12_catsIn_8 rfl ?_
    refine dn_iconst C dX12_catsIn_11 ic_i_3 rfl ?_
    refine dn_iald C (kt_12_12 ha0) dX12_catsIn_12 rfl (fun z3 => ?_)
    refine dn_icmp_ge (t := 44) C dX12_catsIn_13 (by decide) rfl ?_ ?_
    · refine dn_iload_n C dX12_catsIn_16 rfl 3 rfl rfl ?_
      refine dn_aload_n C dX12_catsIn_17 rfl 1 rfl rfl ?_
      refine dn_bipush C dX12_catsIn_18 ic_b_32 rfl ?_
      refine dn_iload C dX12_catsIn_20 4 rfl rfl ?_
      refine dn_iadd C dX12_catsIn_22 rfl ?_
      refine dn_iald C ha1 dX12_catsIn_23 rfl (fun z4 => ?_)
      refine dn_iload_n C dX12_catsIn_24 rfl 2 rfl rfl ?_
      refine dn_jn (fun z => ∀ (t5 : Int32), dn_D G M 5 0 0 (cl_M G M (ci_i σ τ)) 36 [(0, .ref (wd_b G + a0)), (1, .ref (wd_b G + a1)), (2, .int a2), (4, .int x4)] [.int t5, .int x3] σ τ (z t5)) (fun t5 => ?_) (fun j8 hj8 => ?_)
      · refine dn_ior C dX12_catsIn_36 rfl ?_
        refine dn_istore_n (lv0 := [(0, .ref (wd_b G + a0)), (1, .ref (wd_b G + a1)), (2, .int a2), (4, .int x4)]) C dX12_catsIn_37 rfl (by decide) rfl rfl (fun v3_6 => ?_)
        refine dn_iinc (lv0 := [(3, .int v3_6), (0, .ref (wd_b G + a0)), (1, .ref (wd_b G + a1)), (2, .int a2)]) (v := x4 + 1) C dX12_catsIn_38 4 rfl rfl (by decide) rfl rfl (fun v4_7 => ?_)
        refine dn_goto (t := 5) C dX12_catsIn_41 (by decide) ?_
        refine dn_pick [2, 3, 4, 1, 0] rfl ?_
        exact ih v3_6 v4_7
      · refine dn_icmp_ne (t := 35) C dX12_catsIn_25 (by decide) rfl ?_ ?_
        · refine dn_iconst C dX12_catsIn_28 ic_i_1 rfl ?_
          refine dn_iload C dX12_catsIn_29 4 rfl rfl ?_
          refine dn_ishl C dX12_catsIn_31 rfl ?_
          refine dn_goto (t := 36) C dX12_catsIn_32 (by decide) ?_
          refine dn_pick [0, 1, 2, 4] rfl ?_
          exact hj8 ((1 : Int32) <<< (x4 &&& 31))
        · refine dn_iconst C dX12_catsIn_35 ic_i_0 rfl ?_
          refine dn_pick [0, 1, 2, 4] rfl ?_
          exact hj8 (0 : Int32)
    · refine dn_pick [3] rfl ?_
      exact hk x3
set_option maxHeartbeats 4000000 in
set_option maxRecDepth 100000 in
theorem ok_M_catsIn {G : wd_G} {l : Launch} (hN : gd_ok G)  (o : Nat) (ho : sh_kd o = 12) (p1 : Nat) (hp1 : sh_kd p1 = 13) (p2 : Int32) (σ : hp_I) (τ : hp_L) : cl_C G l 0 yX12_catsIn cX12_catsIn 5 (some .int) [.ref (wd_b G + o), .ref (wd_b G + p1), .int p2] σ τ (ci_i σ τ) (fn_M_catsIn o p1 p2 σ) := by
  refine cl_of (lv0 := [(0, .ref (wd_b G + o)), (1, .ref (wd_b G + p1)), (2, .int p2)]) (ci_i σ τ) (by decide) (Nat.le_of_ble_eq_true rfl) rfl hN (fun M hM C => ?_)
  have C : cx_C G M RX12 cX12_catsIn 5 0 (some .int) := C
  unfold fn_M_catsIn
  refine dn_iconst C dX12_catsIn_0 ic_i_0 rfl ?_
  refine dn_istore_n (lv0 := [(0, .ref (wd_b G + o)), (1, .ref (wd_b G + p1)), (2, .int p2)]) C dX12_catsIn_1 rfl (by decide) rfl rfl (fun v3_1 => ?_)
  refine dn_iconst C dX12_catsIn_2 ic_i_0 rfl ?_
  refine dn_istore (lv0 := [(3, .int v3_1), (0, .ref (wd_b G + o)), (1, .ref (wd_b G + p1)), (2, .int p2)]) C dX12_catsIn_3 (by decide) rfl rfl (fun v4_2 => ?_)
  refine dn_pick [2, 3, 4, 1, 0] rfl ?_
  refine pf_M_catsIn_L5  C  o ho p1 hp1 p2 σ τ _ (fun y_9 => ?_) FU v3_1 v4_2
  refine dn_iload_n C dX12_catsIn_44 rfl 0 rfl rfl ?_
  exact dn_iret C dX12_catsIn_45 rfl
def fn_M_copies_L2  (a0 : Nat) (a1 : Nat) (k : hp_I → Option (hp_I)) : Nat → Int32 → hp_I → Option (hp_I)
  | 0, _, _ => none
  | fu + 1, x2, s0 =>
    if x2 < (47 : Int32) then (
      Option.bind (px_ald s0 a0 x2) fun z2 =>
      Option.bind (px_ast s0 a1 x2 z2) fun s3 =>
      px_let (x2 + 1) fun v2_4 =>
      fn_M_copies_L2 a0 a1 k fu v2_4 s3
    ) else (
      k s0
    )
def fn_M_copies  (p1 : Nat) (p2 : Nat) (σ : hp_I) : Option (hp_I) :=
  px_let (0 : Int32) fun v2_1 =>
  fn_M_copies_L2 p1 p2
    (fun (s_5 : hp_I) =>
      some s_5
    )
    FU v2_1 σ
set_option maxHeartbeats 4000000 in
set_option maxRecDepth 100000 in
theorem pf_M_copies_L2 {G : wd_G} {M : wd_M}  (C : cx_C G M RX12 cX12_copies 3 0 none) (a0 : Nat) (ha0 : sh_kd a0 = 13) (a1 : Nat) (ha1 : sh_kd a1 = 13)  (τ : hp_L) (k : hp_I → Option (hp_I)) (hk : ∀ (s : hp_I), dn_D G M 3 0 0 (cl_M G M (ci_h τ)) 20 [] [] s τ (k s)) : ∀ (fu : Nat) (x2 : Int32) (s0 : hp_I), dn_D G M 3 0 0 (cl_M G M (ci_h τ)) 2 [(0, .ref (wd_b G + a0)), (1, .ref (wd_b G + a1)), (2, .int x2)] [] s0 τ (fn_M_copies_L2 a0 a1 k fu x2 s0) := by
  intro fu
  induction fu with
  | zero => exact fun x2 s0 => dn_none
  | succ fu ih =>
    intro x2 s0
    unfold fn_M_copies_L2
    refine dn_iload_n C dX12_copies_2 rfl 2 rfl rfl ?_
    refine dn_bipush C dX12_copies_3 ic_b_47 rfl ?_
    refine dn_icmp_ge (t := 20) C dX12_copies_5 (by decide) rfl ?_ ?_
    · refine dn_aload_n C dX12_copies_8 rfl 1 rfl rfl ?_
      refine dn_iload_n C dX12_copies_9 rfl 2 rfl rfl ?_
      refine dn_aload_n C dX12_copies_10 rfl 0 rfl rfl ?_
      refine dn_iload_n C dX12_copies_11 rfl 2 rfl rfl ?_
      refine dn_iald C ha0 dX12_copies_12 rfl (fun z2 => ?_)
      refine dn_iast C ha1 dX12_copies_13 rfl (fun s3 => ?_)
      refine dn_iinc (lv0 := [(0, .ref (wd_b G + a0)), (1, .ref (wd_b G + a1))]) (v := x2 + 1) C dX12_copies_14 2 rfl rfl (by decide) rfl rfl (fun v2_4 => ?_)
      refine dn_goto (t := 2) C dX12_copies_17 (by decide) ?_
      refine dn_pick [1, 2, 0] rfl ?_
      exact ih v2_4 s3
    · refine dn_pick [] rfl ?_
      exact hk s0
set_option maxHeartbeats 4000000 in
set_option maxRecDepth 100000 in
theorem ok_M_copies {G : wd_G} {l : Launch} (hN : gd_ok G)  (p1 : Nat) (hp1 : sh_kd p1 = 13) (p2 : Nat) (hp2 : sh_kd p2 = 13) (σ : hp_I) (τ : hp_L) : cl_C G l 0 yX12_copies cX12_copies 3 none [.ref (wd_b G + p1), .ref (wd_b G + p2)] σ τ (ci_h τ) (fn_M_copies p1 p2 σ) := by
  refine cl_of (lv0 := [(0, .ref (wd_b G + p1)), (1, .ref (wd_b G + p2))]) (ci_h τ) (by decide) (Nat.le_of_ble_eq_true rfl) rfl hN (fun M hM C => ?_)
  have C : cx_C G M RX12 cX12_copies 3 0 none := C
  unfold fn_M_copies
  refine dn_iconst C dX12_copies_0 ic_i_0 rfl ?_
  refine dn_istore_n (lv0 := [(0, .ref (wd_b G + p1)), (1, .ref (wd_b G + p2))]) C dX12_copies_1 rfl (by decide) rfl rfl (fun v2_1 => ?_)
  refine dn_pick [1, 2, 0] rfl ?_
  refine pf_M_copies_L2  C  p1 hp1 p2 hp2  τ _ (fun s_5 => ?_) FU v2_1 σ
  exact dn_vret C dX12_copies_20 rfl
def fn_M_count  (o : Nat) (p1 : Int32) (σ : hp_I) : Option (Int32 × hp_I) :=
  px_let (hp_s σ o 0 (0 : Int32)) fun s1 =>
  px_jn (fun (t2 : Int32) =>
    some (t2, s1)
  ) fun j3 =>
    if p1 = 0 then (
      j3 (s1 o 33)
    ) else (
      if p1 = (1 : Int32) then (
        j3 (s1 o 1)
      ) else (
        if p1 = (2 : Int32) then (
          j3 (s1 o 31)
        ) else (
          j3 (-1 : Int32)
        )
      )
    )
set_option maxHeartbeats 4000000 in
set_option maxRecDepth 100000 in
theorem ok_M_count {G : wd_G} {l : Launch} (hN : gd_ok G)  (o : Nat) (ho : sh_kd o = 12) (p1 : Int32) (σ : hp_I) (τ : hp_L) : cl_C G l 0 yX12_count cX12_count 2 (some .int) [.ref (wd_b G + o), .int p1] σ τ (ci_ih τ) (fn_M_count o p1 σ) := by
  refine cl_of (lv0 := [(0, .ref (wd_b G + o)), (1, .int p1)]) (ci_ih τ) (by decide) (Nat.le_of_ble_eq_true rfl) rfl hN (fun M hM C => ?_)
  have C : cx_C G M RX12 cX12_count 2 0 (some .int) := C
  unfold fn_M_count
  refine dn_aload_n C dX12_count_0 rfl 0 rfl rfl ?_
  refine dn_iconst C dX12_count_1 ic_i_0 rfl ?_
  refine dn_putI C fp_X12_93 ho dX12_count_2 rfl (fun s1 => ?_)
  refine dn_iload_n C dX12_count_5 rfl 1 rfl rfl ?_
  refine dn_jn (fun z => ∀ (t2 : Int32), dn_D G M 2 0 0 (cl_M G M (ci_ih τ)) 41 [] [.int t2] s1 τ (z t2)) (fun t2 => ?_) (fun j3 hj3 => ?_)
  · exact dn_iret C dX12_count_41 rfl
  · refine dn_if_ne (t := 16) C dX12_count_6 (by decide) rfl ?_ ?_
    · refine dn_aload_n C dX12_count_9 rfl 0 rfl rfl ?_
      refine dn_getI C fd_X12_201 ho dX12_count_10 rfl ?_
      refine dn_goto (t := 41) C dX12_count_13 (by decide) ?_
      refine dn_pick [] rfl ?_
      exact hj3 (s1 o 33)
    · refine dn_iload_n C dX12_count_16 rfl 1 rfl rfl ?_
      refine dn_iconst C dX12_count_17 ic_i_1 rfl ?_
      refine dn_icmp_ne (t := 28) C dX12_count_18 (by decide) rfl ?_ ?_
      · refine dn_aload_n C dX12_count_21 rfl 0 rfl rfl ?_
        refine dn_getI C fd_X12_96 ho dX12_count_22 rfl ?_
        refine dn_goto (t := 41) C dX12_count_25 (by decide) ?_
        refine dn_pick [] rfl ?_
        exact hj3 (s1 o 1)
      · refine dn_iload_n C dX12_count_28 rfl 1 rfl rfl ?_
        refine dn_iconst C dX12_count_29 ic_i_2 rfl ?_
        refine dn_icmp_ne (t := 40) C dX12_count_30 (by decide) rfl ?_ ?_
        · refine dn_aload_n C dX12_count_33 rfl 0 rfl rfl ?_
          refine dn_getI C fd_X12_195 ho dX12_count_34 rfl ?_
          refine dn_goto (t := 41) C dX12_count_37 (by decide) ?_
          refine dn_pick [] rfl ?_
          exact hj3 (s1 o 31)
        · refine dn_iconst C dX12_count_40 ic_i_m1 rfl ?_
          refine dn_pick [] rfl ?_
          exact hj3 (-1 : Int32)
def fn_M_draw  (o : Nat) (p1 : Int32) (σ : hp_I) : Option (Int32 × hp_I) :=
  px_let (hp_s σ o 44 (((σ o 44) * (1103515245 : Int32)) + (12345 : Int32))) fun s1 =>
  Option.bind (px_rem (((s1 o 44) >>> ((16 : Int32) &&& 31)) &&& (32767 : Int32)) p1) fun z2 =>
  some (z2, s1)
set_option maxHeartbeats 4000000 in
set_option maxRecDepth 100000 in
theorem ok_M_draw {G : wd_G} {l : Launch} (hN : gd_ok G)  (o : Nat) (ho : sh_kd o = 12) (p1 : Int32) (σ : hp_I) (τ : hp_L) : cl_C G l 0 yX12_draw cX12_draw 2 (some .int) [.ref (wd_b G + o), .int p1] σ τ (ci_ih τ) (fn_M_draw o p1 σ) := by
  refine cl_of (lv0 := [(0, .ref (wd_b G + o)), (1, .int p1)]) (ci_ih τ) (by decide) (Nat.le_of_ble_eq_true rfl) rfl hN (fun M hM C => ?_)
  have C : cx_C G M RX12 cX12_draw 2 0 (some .int) := C
  unfold fn_M_draw
  refine dn_aload_n C dX12_draw_0 rfl 0 rfl rfl ?_
  refine dn_aload_n C dX12_draw_1 rfl 0 rfl rfl ?_
  refine dn_getI C fd_X12_388 ho dX12_draw_2 rfl ?_
  refine dn_ldcw C lc_X12_391 dX12_draw_5 rfl ?_
  refine dn_imul C dX12_draw_8 rfl ?_
  refine dn_sipush C dX12_draw_9 ic_s_12345 rfl ?_
  refine dn_iadd C dX12_draw_12 rfl ?_
  refine dn_putI C fp_X12_388 ho dX12_draw_13 rfl (fun s1 => ?_)
  refine dn_aload_n C dX12_draw_16 rfl 0 rfl rfl ?_
  refine dn_getI C fd_X12_388 ho dX12_draw_17 rfl ?_
  refine dn_bipush C dX12_draw_20 ic_b_16 rfl ?_
  refine dn_ishr C dX12_draw_22 rfl ?_
  refine dn_sipush C dX12_draw_23 ic_s_32767 rfl ?_
  refine dn_iand C dX12_draw_26 rfl ?_
  refine dn_iload_n C dX12_draw_27 rfl 1 rfl rfl ?_
  refine dn_irem C dX12_draw_28 rfl (fun z2 => ?_)
  exact dn_iret C dX12_draw_29 rfl
def fn_M_ends  (o : Nat) (σ : hp_I) : Option (Int32 × hp_I) :=
  px_let (hp_s σ o 3 (σ o 6)) fun s1 =>
  some ((s1 o 5) - (10 : Int32), s1)
set_option maxHeartbeats 4000000 in
set_option maxRecDepth 100000 in
theorem ok_M_ends {G : wd_G} {l : Launch} (hN : gd_ok G)  (o : Nat) (ho : sh_kd o = 12) (σ : hp_I) (τ : hp_L) : cl_C G l 0 yX12_ends cX12_ends 1 (some .int) [.ref (wd_b G + o)] σ τ (ci_ih τ) (fn_M_ends o σ) := by
  refine cl_of (lv0 := [(0, .ref (wd_b G + o))]) (ci_ih τ) (by decide) (Nat.le_of_ble_eq_true rfl) rfl hN (fun M hM C => ?_)
  have C : cx_C G M RX12 cX12_ends 1 0 (some .int) := C
  unfold fn_M_ends
  refine dn_aload_n C dX12_ends_0 rfl 0 rfl rfl ?_
  refine dn_aload_n C dX12_ends_1 rfl 0 rfl rfl ?_
  refine dn_getI C fd_X12_112 ho dX12_ends_2 rfl ?_
  refine dn_putI C fp_X12_9 ho dX12_ends_5 rfl (fun s1 => ?_)
  refine dn_aload_n C dX12_ends_8 rfl 0 rfl rfl ?_
  refine dn_getI C fd_X12_109 ho dX12_ends_9 rfl ?_
  refine dn_bipush C dX12_ends_12 ic_b_10 rfl ?_
  refine dn_isub C dX12_ends_14 rfl ?_
  exact dn_iret C dX12_ends_15 rfl
def fn_M_fault  (o : Nat) (σ : hp_I) : Option (Int32 × hp_I) :=
  px_let (hp_s σ o 0 (0 : Int32)) fun s1 =>
  some (s1 o 3, s1)
set_option maxHeartbeats 4000000 in
set_option maxRecDepth 100000 in
theorem ok_M_fault {G : wd_G} {l : Launch} (hN : gd_ok G)  (o : Nat) (ho : sh_kd o = 12) (σ : hp_I) (τ : hp_L) : cl_C G l 0 yX12_fault cX12_fault 1 (some .int) [.ref (wd_b G + o)] σ τ (ci_ih τ) (fn_M_fault o σ) := by
  refine cl_of (lv0 := [(0, .ref (wd_b G + o))]) (ci_ih τ) (by decide) (Nat.le_of_ble_eq_true rfl) rfl hN (fun M hM C => ?_)
  have C : cx_C G M RX12 cX12_fault 1 0 (some .int) := C
  unfold fn_M_fault
  refine dn_aload_n C dX12_fault_0 rfl 0 rfl rfl ?_
  refine dn_iconst C dX12_fault_1 ic_i_0 rfl ?_
  refine dn_putI C fp_X12_93 ho dX12_fault_2 rfl (fun s1 => ?_)
  refine dn_aload_n C dX12_fault_5 rfl 0 rfl rfl ?_
  refine dn_getI C fd_X12_9 ho dX12_fault_6 rfl ?_
  exact dn_iret C dX12_fault_9 rfl
def fn_M_feed_L23  (a0 : Nat) (a1 : Int32) (a2 : Int32) (a3 : Int32) (a4 : Int32) (a5 : Int32) (k : hp_I → Option (Int32 × hp_I)) : Nat → Int32 → hp_I → Option (Int32 × hp_I)
  | 0, _, _ => none
  | fu + 1, x6, s0 =>
    if x6 < (20 : Int32) then (
      px_jn (fun (t3 : Int32) =>
        px_let t3 fun v7_4 =>
        Option.bind (px_rem x6 (4 : Int32)) fun z5 =>
        Option.bind (px_ast s0 (sh_rf a0 9) (s0 a0 1) ((v7_4 >>> (((24 : Int32) - ((8 : Int32) * z5)) &&& 31)) &&& (255 : Int32))) fun s6 =>
        px_let (hp_s s6 a0 1 ((s6 a0 1) + (1 : Int32))) fun s7 =>
        px_let (x6 + 1) fun v6_8 =>
        fn_M_feed_L23 a0 a1 a2 a3 a4 a5 k fu v6_8 s7
      ) fun j9 =>
        if x6 < (4 : Int32) then (
          j9 a1
        ) else (
          if x6 < (8 : Int32) then (
            j9 a2
          ) else (
            if x6 < (12 : Int32) then (
              j9 a3
            ) else (
              if x6 < (16 : Int32) then (
                j9 a4
              ) else (
                j9 a5
              )
            )
          )
        )
    ) else (
      k s0
    )
def fn_M_feed  (o : Nat) (p1 : Int32) (p2 : Int32) (p3 : Int32) (p4 : Int32) (p5 : Int32) (σ : hp_I) : Option (Int32 × hp_I) :=
  px_let (hp_s σ o 0 (0 : Int32)) fun s1 =>
  if (600 : Int32) < ((s1 o 1) + (20 : Int32)) then (
    some ((-1 : Int32), s1)
  ) else (
    px_let (0 : Int32) fun v6_2 =>
    fn_M_feed_L23 o p1 p2 p3 p4 p5
      (fun (s_10 : hp_I) =>
        some (s_10 o 1, s_10)
      )
      FU v6_2 s1
  )
set_option maxHeartbeats 4000000 in
set_option maxRecDepth 100000 in
theorem pf_M_feed_L23 {G : wd_G} {M : wd_M}  (C : cx_C G M RX12 cX12_feed 8 0 (some .int)) (a0 : Nat) (ha0 : sh_kd a0 = 12) (a1 : Int32) (a2 : Int32) (a3 : Int32) (a4 : Int32) (a5 : Int32)  (τ : hp_L) (k : hp_I → Option (Int32 × hp_I)) (hk : ∀ (s : hp_I), dn_D G M 8 0 0 (cl_M G M (ci_ih τ)) 120 [(0, .ref (wd_b G + a0))] [] s τ (k s)) : ∀ (fu : Nat) (x6 : Int32) (s0 : hp_I), dn_D G M 8 0 0 (cl_M G M (ci_ih τ)) 23 [(0, .ref (wd_b G + a0)), (1, .int a1), (2, .int a2), (3, .int a3), (4, .int a4), (5, .int a5), (6, .int x6)] [] s0 τ (fn_M_feed_L23 a0 a1 a2 a3 a4 a5 k fu x6 s0) := by
  intro fu
  induction fu with
  | zero => exact fun x6 s0 => dn_none
  | succ fu ih =>
    intro x6 s0
    unfold fn_M_feed_L23
    refine dn_iload C dX12_feed_23 6 rfl rfl ?_
    refine dn_bipush C dX12_feed_25 ic_b_20 rfl ?_
    refine dn_icmp_ge (t := 120) C dX12_feed_27 (by decide) rfl ?_ ?_
    · refine dn_iload C dX12_feed_30 6 rfl rfl ?_
      refine dn_iconst C dX12_feed_32 ic_i_4 rfl ?_
      refine dn_jn (fun z => ∀ (t3 : Int32), dn_D G M 8 0 0 (cl_M G M (ci_ih τ)) 76 [(0, .ref (wd_b G + a0)), (1, .int a1), (2, .int a2), (3, .int a3), (4, .int a4), (5, .int a5), (6, .int x6)] [.int t3] s0 τ (z t3)) (fun t3 => ?_) (fun j9 hj9 => ?_)
      · refine dn_istore (lv0 := [(0, .ref (wd_b G + a0)), (1, .int a1), (2, .int a2), (3, .int a3), (4, .int a4), (5, .int a5), (6, .int x6)]) C dX12_feed_76 (by decide) rfl rfl (fun v7_4 => ?_)
        refine dn_aload_n C dX12_feed_78 rfl 1 rfl rfl ?_
        refine dn_getR C fd_X12_13 ha0 dX12_feed_79 rfl ?_
        refine dn_aload_n C dX12_feed_82 rfl 1 rfl rfl ?_
        refine dn_getI C fd_X12_96 ha0 dX12_feed_83 rfl ?_
        refine dn_iload C dX12_feed_86 0 rfl rfl ?_
        refine dn_bipush C dX12_feed_88 ic_b_24 rfl ?_
        refine dn_bipush C dX12_feed_90 ic_b_8 rfl ?_
        refine dn_iload C dX12_feed_92 7 rfl rfl ?_
        refine dn_iconst C dX12_feed_94 ic_i_4 rfl ?_
        refine dn_irem C dX12_feed_95 rfl (fun z5 => ?_)
        refine dn_imul C dX12_feed_96 rfl ?_
        refine dn_isub C dX12_feed_97 rfl ?_
        refine dn_ishr C dX12_feed_98 rfl ?_
        refine dn_sipush C dX12_feed_99 ic_s_255 rfl ?_
        refine dn_iand C dX12_feed_102 rfl ?_
        refine dn_iast C (kt_12_9 ha0) dX12_feed_103 rfl (fun s6 => ?_)
        refine dn_aload_n C dX12_feed_104 rfl 1 rfl rfl ?_
        refine dn_dup C dX12_feed_105 rfl rfl ?_
        refine dn_getI C fd_X12_96 ha0 dX12_feed_106 rfl ?_
        refine dn_iconst C dX12_feed_109 ic_i_1 rfl ?_
        refine dn_iadd C dX12_feed_110 rfl ?_
        refine dn_putI C fp_X12_96 ha0 dX12_feed_111 rfl (fun s7 => ?_)
        refine dn_iinc (lv0 := [(7, .int v7_4), (0, .ref (wd_b G + a0)), (1, .int a1), (2, .int a2), (3, .int a3), (4, .int a4), (5, .int a5)]) (v := x6 + 1) C dX12_feed_114 7 rfl rfl (by decide) rfl rfl (fun v6_8 => ?_)
        refine dn_goto (t := 23) C dX12_feed_117 (by decide) ?_
        refine dn_pick [2, 3, 4, 5, 6, 7, 0] rfl ?_
        exact ih v6_8 s7
      · refine dn_icmp_ge (t := 40) C dX12_feed_33 (by decide) rfl ?_ ?_
        · refine dn_iload_n C dX12_feed_36 rfl 1 rfl rfl ?_
          refine dn_goto (t := 76) C dX12_feed_37 (by decide) ?_
          exact hj9 a1
        · refine dn_iload C dX12_feed_40 6 rfl rfl ?_
          refine dn_bipush C dX12_feed_42 ic_b_8 rfl ?_
          refine dn_icmp_ge (t := 51) C dX12_feed_44 (by decide) rfl ?_ ?_
          · refine dn_iload_n C dX12_feed_47 rfl 2 rfl rfl ?_
            refine dn_goto (t := 76) C dX12_feed_48 (by decide) ?_
            exact hj9 a2
          · refine dn_iload C dX12_feed_51 6 rfl rfl ?_
            refine dn_bipush C dX12_feed_53 ic_b_12 rfl ?_
            refine dn_icmp_ge (t := 62) C dX12_feed_55 (by decide) rfl ?_ ?_
            · refine dn_iload_n C dX12_feed_58 rfl 3 rfl rfl ?_
              refine dn_goto (t := 76) C dX12_feed_59 (by decide) ?_
              exact hj9 a3
            · refine dn_iload C dX12_feed_62 6 rfl rfl ?_
              refine dn_bipush C dX12_feed_64 ic_b_16 rfl ?_
              refine dn_icmp_ge (t := 74) C dX12_feed_66 (by decide) rfl ?_ ?_
              · refine dn_iload C dX12_feed_69 4 rfl rfl ?_
                refine dn_goto (t := 76) C dX12_feed_71 (by decide) ?_
                exact hj9 a4
              · refine dn_iload C dX12_feed_74 5 rfl rfl ?_
                exact hj9 a5
    · refine dn_pick [0] rfl ?_
      exact hk s0
set_option maxHeartbeats 4000000 in
set_option maxRecDepth 100000 in
theorem ok_M_feed {G : wd_G} {l : Launch} (hN : gd_ok G)  (o : Nat) (ho : sh_kd o = 12) (p1 : Int32) (p2 : Int32) (p3 : Int32) (p4 : Int32) (p5 : Int32) (σ : hp_I) (τ : hp_L) : cl_C G l 0 yX12_feed cX12_feed 8 (some .int) [.ref (wd_b G + o), .int p1, .int p2, .int p3, .int p4, .int p5] σ τ (ci_ih τ) (fn_M_feed o p1 p2 p3 p4 p5 σ) := by
  refine cl_of (lv0 := [(0, .ref (wd_b G + o)), (1, .int p1), (2, .int p2), (3, .int p3), (4, .int p4), (5, .int p5)]) (ci_ih τ) (by decide) (Nat.le_of_ble_eq_true rfl) rfl hN (fun M hM C => ?_)
  have C : cx_C G M RX12 cX12_feed 8 0 (some .int) := C
  unfold fn_M_feed
  refine dn_aload_n C dX12_feed_0 rfl 0 rfl rfl ?_
  refine dn_iconst C dX12_feed_1 ic_i_0 rfl ?_
  refine dn_putI C fp_X12_93 ho dX12_feed_2 rfl (fun s1 => ?_)
  refine dn_aload_n C dX12_feed_5 rfl 0 rfl rfl ?_
  refine dn_getI C fd_X12_96 ho dX12_feed_6 rfl ?_
  refine dn_bipush C dX12_feed_9 ic_b_20 rfl ?_
  refine dn_iadd C dX12_feed_11 rfl ?_
  refine dn_sipush C dX12_feed_12 ic_s_600 rfl ?_
  refine dn_icmp_le (t := 20) C dX12_feed_15 (by decide) rfl ?_ ?_
  · refine dn_iconst C dX12_feed_18 ic_i_m1 rfl ?_
    exact dn_iret C dX12_feed_19 rfl
  · refine dn_iconst C dX12_feed_20 ic_i_0 rfl ?_
    refine dn_istore (lv0 := [(0, .ref (wd_b G + o)), (1, .int p1), (2, .int p2), (3, .int p3), (4, .int p4), (5, .int p5)]) C dX12_feed_21 (by decide) rfl rfl (fun v6_2 => ?_)
    refine dn_pick [1, 2, 3, 4, 5, 6, 0] rfl ?_
    refine pf_M_feed_L23  C  o ho p1 p2 p3 p4 p5  τ _ (fun s_10 => ?_) FU v6_2 s1
    refine dn_aload_n C dX12_feed_120 rfl 0 rfl rfl ?_
    refine dn_getI C fd_X12_96 ho dX12_feed_121 rfl ?_
    exact dn_iret C dX12_feed_124 rfl
def fn_M_has  (p1 : Int32) (p2 : Int32) : Option (Int32) :=
  px_jn (fun (t1 : Int32) =>
    px_z t1 t1
  ) fun j2 =>
    if ((p1 >>> (p2 &&& 31)) &&& (1 : Int32)) = (1 : Int32) then (
      j2 (1 : Int32)
    ) else (
      j2 (0 : Int32)
    )
set_option maxHeartbeats 4000000 in
set_option maxRecDepth 100000 in
theorem ok_M_has {G : wd_G} {l : Launch} (hN : gd_ok G)  (p1 : Int32) (p2 : Int32) (σ : hp_I) (τ : hp_L) : cl_C G l 0 yX12_has cX12_has 2 (some .boolean) [.int p1, .int p2] σ τ (ci_i σ τ) (fn_M_has p1 p2) := by
  refine cl_of (lv0 := [(0, .int p1), (1, .int p2)]) (ci_i σ τ) (by decide) (Nat.le_of_ble_eq_true rfl) rfl hN (fun M hM C => ?_)
  have C : cx_C G M RX12 cX12_has 2 0 (some .boolean) := C
  unfold fn_M_has
  refine dn_iload_n C dX12_has_0 rfl 0 rfl rfl ?_
  refine dn_iload_n C dX12_has_1 rfl 1 rfl rfl ?_
  refine dn_ishr C dX12_has_2 rfl ?_
  refine dn_iconst C dX12_has_3 ic_i_1 rfl ?_
  refine dn_iand C dX12_has_4 rfl ?_
  refine dn_iconst C dX12_has_5 ic_i_1 rfl ?_
  refine dn_jn (fun z => ∀ (t1 : Int32), dn_D G M 2 0 0 (cl_M G M (ci_i σ τ)) 14 [] [.int t1] σ τ (z t1)) (fun t1 => ?_) (fun j2 hj2 => ?_)
  · exact dn_zret C dX12_has_14 rfl
  · refine dn_icmp_ne (t := 13) C dX12_has_6 (by decide) rfl ?_ ?_
    · refine dn_iconst C dX12_has_9 ic_i_1 rfl ?_
      refine dn_goto (t := 14) C dX12_has_10 (by decide) ?_
      refine dn_pick [] rfl ?_
      exact hj2 (1 : Int32)
    · refine dn_iconst C dX12_has_13 ic_i_0 rfl ?_
      refine dn_pick [] rfl ?_
      exact hj2 (0 : Int32)
def fn_M_hasBy  (p1 : Int32) (p2 : Int32) (p3 : Int32) (p4 : Int32) : Option (Int32) :=
  px_jn (fun (t1 : Int32) =>
    px_jn (fun (t2 : Int32) =>
      some (t1 - t2)
    ) fun j3 =>
      if p1 = 0 then (
        j3 p4
      ) else (
        j3 (0 : Int32)
      )
  ) fun j4 =>
    if p2 = 0 then (
      j4 p3
    ) else (
      j4 (0 : Int32)
    )
set_option maxHeartbeats 4000000 in
set_option maxRecDepth 100000 in
theorem ok_M_hasBy {G : wd_G} {l : Launch} (hN : gd_ok G)  (p1 : Int32) (p2 : Int32) (p3 : Int32) (p4 : Int32) (σ : hp_I) (τ : hp_L) : cl_C G l 0 yX12_hasBy cX12_hasBy 4 (some .int) [.int p1, .int p2, .int p3, .int p4] σ τ (ci_i σ τ) (fn_M_hasBy p1 p2 p3 p4) := by
  refine cl_of (lv0 := [(0, .int p1), (1, .int p2), (2, .int p3), (3, .int p4)]) (ci_i σ τ) (by decide) (Nat.le_of_ble_eq_true rfl) rfl hN (fun M hM C => ?_)
  have C : cx_C G M RX12 cX12_hasBy 4 0 (some .int) := C
  unfold fn_M_hasBy
  refine dn_iload_n C dX12_hasBy_0 rfl 1 rfl rfl ?_
  refine dn_jn (fun z => ∀ (t1 : Int32), dn_D G M 4 0 0 (cl_M G M (ci_i σ τ)) 9 [(0, .int p1), (3, .int p4)] [.int t1] σ τ (z t1)) (fun t1 => ?_) (fun j4 hj4 => ?_)
  · refine dn_iload_n C dX12_hasBy_9 rfl 0 rfl rfl ?_
    refine dn_jn (fun z => ∀ (t2 : Int32), dn_D G M 4 0 0 (cl_M G M (ci_i σ τ)) 18 [] [.int t2, .int t1] σ τ (z t2)) (fun t2 => ?_) (fun j3 hj3 => ?_)
    · refine dn_isub C dX12_hasBy_18 rfl ?_
      exact dn_iret C dX12_hasBy_19 rfl
    · refine dn_if_ne (t := 17) C dX12_hasBy_10 (by decide) rfl ?_ ?_
      · refine dn_iload_n C dX12_hasBy_13 rfl 1 rfl rfl ?_
        refine dn_goto (t := 18) C dX12_hasBy_14 (by decide) ?_
        refine dn_pick [] rfl ?_
        exact hj3 p4
      · refine dn_iconst C dX12_hasBy_17 ic_i_0 rfl ?_
        refine dn_pick [] rfl ?_
        exact hj3 (0 : Int32)
  · refine dn_if_ne (t := 8) C dX12_hasBy_1 (by decide) rfl ?_ ?_
    · refine dn_iload_n C dX12_hasBy_4 rfl 2 rfl rfl ?_
      refine dn_goto (t := 9) C dX12_hasBy_5 (by decide) ?_
      refine dn_pick [0, 3] rfl ?_
      exact hj4 p3
    · refine dn_iconst C dX12_hasBy_8 ic_i_0 rfl ?_
      refine dn_pick [0, 3] rfl ?_
      exact hj4 (0 : Int32)
def fn_M_in  (p1 : Int32) (p2 : Int32) (p3 : Int32) : Option (Int32) :=
  px_jn (fun (t1 : Int32) =>
    px_z t1 t1
  ) fun j2 =>
    px_jn (
      j2 (0 : Int32)
    ) fun j3 =>
      if p2 ≤ p1 then (
        if p1 ≤ p3 then (
          j2 (1 : Int32)
        ) else (
          j3
        )
      ) else (
        j3
      )
set_option maxHeartbeats 4000000 in
set_option maxRecDepth 100000 in
theorem ok_M_in {G : wd_G} {l : Launch} (hN : gd_ok G)  (p1 : Int32) (p2 : Int32) (p3 : Int32) (σ : hp_I) (τ : hp_L) : cl_C G l 0 yX12_in cX12_in 3 (some .boolean) [.int p1, .int p2, .int p3] σ τ (ci_i σ τ) (fn_M_in p1 p2 p3) := by
  refine cl_of (lv0 := [(0, .int p1), (1, .int p2), (2, .int p3)]) (ci_i σ τ) (by decide) (Nat.le_of_ble_eq_true rfl) rfl hN (fun M hM C => ?_)
  have C : cx_C G M RX12 cX12_in 3 0 (some .boolean) := C
  unfold fn_M_in
  refine dn_iload_n C dX12_in_0 rfl 0 rfl rfl ?_
  refine dn_iload_n C dX12_in_1 rfl 1 rfl rfl ?_
  refine dn_jn (fun z => ∀ (t1 : Int32), dn_D G M 3 0 0 (cl_M G M (ci_i σ τ)) 15 [] [.int t1] σ τ (z t1)) (fun t1 => ?_) (fun j2 hj2 => ?_)
  · exact dn_zret C dX12_in_15 rfl
  · refine dn_jn (fun z => dn_D G M 3 0 0 (cl_M G M (ci_i σ τ)) 14 [] [] σ τ z) ?_ (fun j3 hj3 => ?_)
    · refine dn_iconst C dX12_in_14 ic_i_0 rfl ?_
      exact hj2 (0 : Int32)
    · refine dn_icmp_lt (t := 14) C dX12_in_2 (by decide) rfl ?_ ?_
      · refine dn_iload_n C dX12_in_5 rfl 0 rfl rfl ?_
        refine dn_iload_n C dX12_in_6 rfl 2 rfl rfl ?_
        refine dn_icmp_gt (t := 14) C dX12_in_7 (by decide) rfl ?_ ?_
        · refine dn_iconst C dX12_in_10 ic_i_1 rfl ?_
          refine dn_goto (t := 15) C dX12_in_11 (by decide) ?_
          refine dn_pick [] rfl ?_
          exact hj2 (1 : Int32)
        · refine dn_pick [] rfl ?_
          exact hj3
      · refine dn_pick [] rfl ?_
        exact hj3
def fn_M_isDigit  (p1 : Int32) : Option (Int32) :=
  px_jn (fun (t1 : Int32) =>
    px_z t1 t1
  ) fun j2 =>
    px_jn (
      j2 (0 : Int32)
    ) fun j3 =>
      if (48 : Int32) ≤ p1 then (
        if p1 ≤ (57 : Int32) then (
          j2 (1 : Int32)
        ) else (
          j3
        )
      ) else (
        j3
      )
set_option maxHeartbeats 4000000 in
set_option maxRecDepth 100000 in
theorem ok_M_isDigit {G : wd_G} {l : Launch} (hN : gd_ok G)  (p1 : Int32) (σ : hp_I) (τ : hp_L) : cl_C G l 0 yX12_isDigit cX12_isDigit 1 (some .boolean) [.int p1] σ τ (ci_i σ τ) (fn_M_isDigit p1) := by
  refine cl_of (lv0 := [(0, .int p1)]) (ci_i σ τ) (by decide) (Nat.le_of_ble_eq_true rfl) rfl hN (fun M hM C => ?_)
  have C : cx_C G M RX12 cX12_isDigit 1 0 (some .boolean) := C
  unfold fn_M_isDigit
  refine dn_iload_n C dX12_isDigit_0 rfl 0 rfl rfl ?_
  refine dn_bipush C dX12_isDigit_1 ic_b_48 rfl ?_
  refine dn_jn (fun z => ∀ (t1 : Int32), dn_D G M 1 0 0 (cl_M G M (ci_i σ τ)) 17 [] [.int t1] σ τ (z t1)) (fun t1 => ?_) (fun j2 hj2 => ?_)
  · exact dn_zret C dX12_isDigit_17 rfl
  · refine dn_jn (fun z => dn_D G M 1 0 0 (cl_M G M (ci_i σ τ)) 16 [] [] σ τ z) ?_ (fun j3 hj3 => ?_)
    · refine dn_iconst C dX12_isDigit_16 ic_i_0 rfl ?_
      exact hj2 (0 : Int32)
    · refine dn_icmp_lt (t := 16) C dX12_isDigit_3 (by decide) rfl ?_ ?_
      · refine dn_iload_n C dX12_isDigit_6 rfl 0 rfl rfl ?_
        refine dn_bipush C dX12_isDigit_7 ic_b_57 rfl ?_
        refine dn_icmp_gt (t := 16) C dX12_isDigit_9 (by decide) rfl ?_ ?_
        · refine dn_iconst C dX12_isDigit_12 ic_i_1 rfl ?_
          refine dn_goto (t := 17) C dX12_isDigit_13 (by decide) ?_
          refine dn_pick [] rfl ?_
          exact hj2 (1 : Int32)
        · refine dn_pick [] rfl ?_
          exact hj3
      · refine dn_pick [] rfl ?_
        exact hj3
def fn_M_isSmall  (p1 : Int32) : Option (Int32) :=
  px_jn (fun (t1 : Int32) =>
    px_z t1 t1
  ) fun j2 =>
    px_jn (
      j2 (0 : Int32)
    ) fun j3 =>
      if (97 : Int32) ≤ p1 then (
        if p1 ≤ (122 : Int32) then (
          j2 (1 : Int32)
        ) else (
          j3
        )
      ) else (
        j3
      )
set_option maxHeartbeats 4000000 in
set_option maxRecDepth 100000 in
theorem ok_M_isSmall {G : wd_G} {l : Launch} (hN : gd_ok G)  (p1 : Int32) (σ : hp_I) (τ : hp_L) : cl_C G l 0 yX12_isSmall cX12_isSmall 1 (some .boolean) [.int p1] σ τ (ci_i σ τ) (fn_M_isSmall p1) := by
  refine cl_of (lv0 := [(0, .int p1)]) (ci_i σ τ) (by decide) (Nat.le_of_ble_eq_true rfl) rfl hN (fun M hM C => ?_)
  have C : cx_C G M RX12 cX12_isSmall 1 0 (some .boolean) := C
  unfold fn_M_isSmall
  refine dn_iload_n C dX12_isSmall_0 rfl 0 rfl rfl ?_
  refine dn_bipush C dX12_isSmall_1 ic_b_97 rfl ?_
  refine dn_jn (fun z => ∀ (t1 : Int32), dn_D G M 1 0 0 (cl_M G M (ci_i σ τ)) 17 [] [.int t1] σ τ (z t1)) (fun t1 => ?_) (fun j2 hj2 => ?_)
  · exact dn_zret C dX12_isSmall_17 rfl
  · refine dn_jn (fun z => dn_D G M 1 0 0 (cl_M G M (ci_i σ τ)) 16 [] [] σ τ z) ?_ (fun j3 hj3 => ?_)
    · refine dn_iconst C dX12_isSmall_16 ic_i_0 rfl ?_
      exact hj2 (0 : Int32)
    · refine dn_icmp_lt (t := 16) C dX12_isSmall_3 (by decide) rfl ?_ ?_
      · refine dn_iload_n C dX12_isSmall_6 rfl 0 rfl rfl ?_
        refine dn_bipush C dX12_isSmall_7 ic_b_122 rfl ?_
        refine dn_icmp_gt (t := 16) C dX12_isSmall_9 (by decide) rfl ?_ ?_
        · refine dn_iconst C dX12_isSmall_12 ic_i_1 rfl ?_
          refine dn_goto (t := 17) C dX12_isSmall_13 (by decide) ?_
          refine dn_pick [] rfl ?_
          exact hj2 (1 : Int32)
        · refine dn_pick [] rfl ?_
          exact hj3
      · refine dn_pick [] rfl ?_
        exact hj3
def fn_M_isTold_L2  (a0 : Nat) (a1 : Int32) (σ : hp_I) (k : Option (Int32)) : Nat → Int32 → Option (Int32)
  | 0, _ => none
  | fu + 1, x2 =>
    if x2 < (σ a0 30) then (
      Option.bind (px_rld (sh_rf a0 19) x2) fun z2 =>
      Option.bind (px_ald σ z2 (0 : Int32)) fun z3 =>
      if z3 = a1 then (
        px_z (1 : Int32) (1 : Int32)
      ) else (
        px_let (x2 + 1) fun v2_4 =>
        fn_M_isTold_L2 a0 a1 σ k fu v2_4
      )
    ) else (
      k
    )
def fn_M_isTold  (o : Nat) (p1 : Int32) (σ : hp_I) : Option (Int32) :=
  px_let (0 : Int32) fun v2_1 =>
  fn_M_isTold_L2 o p1 σ
    (
      px_z (0 : Int32) (0 : Int32)
    )
    FU v2_1
set_option maxHeartbeats 4000000 in
set_option maxRecDepth 100000 in
theorem pf_M_isTold_L2 {G : wd_G} {M : wd_M}  (C : cx_C G M RX12 cX12_isTold 3 0 (some .boolean)) (a0 : Nat) (ha0 : sh_kd a0 = 12) (a1 : Int32) (σ : hp_I) (τ : hp_L) (k : Option (Int32)) (hk : dn_D G M 3 0 0 (cl_M G M (ci_i σ τ)) 30 [] [] σ τ k) : ∀ (fu : Nat) (x2 : Int32), dn_D G M 3 0 0 (cl_M G M (ci_i σ τ)) 2 [(0, .ref (wd_b G + a0)), (1, .int a1), (2, .int x2)] [] σ τ (fn_M_isTold_L2 a0 a1 σ k fu x2) := by
  intro fu
  induction fu with
  | zero => exact fun x2 => dn_none
  | succ fu ih =>
    intro x2
    unfold fn_M_isTold_L2
    refine dn_iload_n C dX12_isTold_2 rfl 2 rfl rfl ?_
    refine dn_aload_n C dX12_isTold_3 rfl 0 rfl rfl ?_
    refine dn_getI C fd_X12_192 ha0 dX12_isTold_4 rfl ?_
    refine dn_icmp_ge (t := 30) C dX12_isTold_7 (by decide) rfl ?_ ?_
    · refine dn_aload_n C dX12_isTold_10 rfl 0 rfl rfl ?_
      refine dn_getR C fd_X12_40 ha0 dX12_isTold_11 rfl ?_
      refine dn_iload_n C dX12_isTold_14 rfl 2 rfl rfl ?_
      refine dn_aald C (kt_12_19 ha0) dX12_isTold_15 rfl (fun z2 hz2 => ?_)
      refine dn_iconst C dX12_isTold_16 ic_i_0 rfl ?_
      refine dn_iald C (kt_row (kt_12_19 ha0) hz2) dX12_isTold_17 rfl (fun z3 => ?_)
      refine dn_iload_n C dX12_isTold_18 rfl 1 rfl rfl ?_
      refine dn_icmp_ne (t := 24) C dX12_isTold_19 (by decide) rfl ?_ ?_
      · refine dn_iconst C dX12_isTold_22 ic_i_1 rfl ?_
        exact dn_zret C dX12_isTold_23 rfl
      · refine dn_iinc (lv0 := [(0, .ref (wd_b G + a0)), (1, .int a1)]) (v := x2 + 1) C dX12_isTold_24 2 rfl rfl (by decide) rfl rfl (fun v2_4 => ?_)
        refine dn_goto (t := 2) C dX12_isTold_27 (by decide) ?_
        refine dn_pick [1, 2, 0] rfl ?_
        exact ih v2_4
    · refine dn_pick [] rfl ?_
      exact hk
set_option maxHeartbeats 4000000 in
set_option maxRecDepth 100000 in
theorem ok_M_isTold {G : wd_G} {l : Launch} (hN : gd_ok G)  (o : Nat) (ho : sh_kd o = 12) (p1 : Int32) (σ : hp_I) (τ : hp_L) : cl_C G l 0 yX12_isTold cX12_isTold 3 (some .boolean) [.ref (wd_b G + o), .int p1] σ τ (ci_i σ τ) (fn_M_isTold o p1 σ) := by
  refine cl_of (lv0 := [(0, .ref (wd_b G + o)), (1, .int p1)]) (ci_i σ τ) (by decide) (Nat.le_of_ble_eq_true rfl) rfl hN (fun M hM C => ?_)
  have C : cx_C G M RX12 cX12_isTold 3 0 (some .boolean) := C
  unfold fn_M_isTold
  refine dn_iconst C dX12_isTold_0 ic_i_0 rfl ?_
  refine dn_istore_n (lv0 := [(0, .ref (wd_b G + o)), (1, .int p1)]) C dX12_isTold_1 rfl (by decide) rfl rfl (fun v2_1 => ?_)
  refine dn_pick [1, 2, 0] rfl ?_
  refine pf_M_isTold_L2  C  o ho p1 σ τ _ ?_ FU v2_1
  refine dn_iconst C dX12_isTold_30 ic_i_0 rfl ?_
  exact dn_zret C dX12_isTold_31 rfl
def fn_M_lays_L10  (a0 : Nat) (a1 : Nat) (a2 : Int32) (a3 : Int32) (k : hp_I → Option (hp_I)) : Nat → Int32 → hp_I → Option (hp_I)
  | 0, _, _ => none
  | fu + 1, x4, s0 =>
    Option.bind (px_rld a1 a3) fun z3 =>
    if x4 < (Int32.ofNat (sh_ln z3)) then (
      Option.bind (px_rld a1 a3) fun z4 =>
      Option.bind (px_rld a0 a3) fun z5 =>
      Option.bind (px_ald s0 z5 x4) fun z6 =>
      Option.bind (px_ast s0 z4 x4 z6) fun s7 =>
      px_let (x4 + 1) fun v4_8 =>
      fn_M_lays_L10 a0 a1 a2 a3 k fu v4_8 s7
    ) else (
      k s0
    )
def fn_M_lays_L2  (a0 : Nat) (a1 : Nat) (a2 : Int32) (k : hp_I → Option (hp_I)) : Nat → Int32 → hp_I → Option (hp_I)
  | 0, _, _ => none
  | fu + 1, x3, s0 =>
    if x3 < a2 then (
      px_let (0 : Int32) fun v4_2 =>
      fn_M_lays_L10 a0 a1 a2 x3
        (fun (s_9 : hp_I) =>
          px_let (x3 + 1) fun v3_10 =>
          fn_M_lays_L2 a0 a1 a2 k fu v3_10 s_9
        )
        FU v4_2 s0
    ) else (
      k s0
    )
def fn_M_lays  (p1 : Nat) (p2 : Nat) (p3 : Int32) (σ : hp_I) : Option (hp_I) :=
  px_let (0 : Int32) fun v3_1 =>
  fn_M_lays_L2 p1 p2 p3
    (fun (s_11 : hp_I) =>
      some s_11
    )
    FU v3_1 σ
set_option maxHeartbeats 4000000 in
set_option maxRecDepth 100000 in
theorem pf_M_lays_L10 {G : wd_G} {M : wd_M}  (C : cx_C G M RX12 cX12_lays 5 0 none) (a0 : Nat) (ha0 : sh_kd a0 = 16) (a1 : Nat) (ha1 : sh_kd a1 = 16) (a2 : Int32) (a3 : Int32)  (τ : hp_L) (k : hp_I → Option (hp_I)) (hk : ∀ (s : hp_I), dn_D G M 5 0 0 (cl_M G M (ci_h τ)) 37 [(0, .ref (wd_b G + a0)), (1, .ref (wd_b G + a1)), (2, .int a2), (3, .int a3)] [] s τ (k s)) : ∀ (fu : Nat) (x4 : Int32) (s0 : hp_I), dn_D G M 5 0 0 (cl_M G M (ci_h τ)) 10 [(0, .ref (wd_b G + a0)), (1, .ref (wd_b G + a1)), (2, .int a2), (3, .int a3), (4, .int x4)] [] s0 τ (fn_M_lays_L10 a0 a1 a2 a3 k fu x4 s0) := by
  intro fu
  induction fu with
  | zero => exact fun x4 s0 => dn_none
  | succ fu ih =>
    intro x4 s0
    unfold fn_M_lays_L10
    refine dn_iload C dX12_lays_10 4 rfl rfl ?_
    refine dn_aload_n C dX12_lays_12 rfl 1 rfl rfl ?_
    refine dn_iload_n C dX12_lays_13 rfl 3 rfl rfl ?_
    refine dn_aald C ha1 dX12_lays_14 rfl (fun z3 hz3 => ?_)
    refine dn_alen (v := Int32.ofNat (sh_ln z3)) C (kt_row ha1 hz3) rfl dX12_lays_15 rfl ?_
    refine dn_icmp_ge (t := 37) C dX12_lays_16 (by decide) rfl ?_ ?_
    · refine dn_aload_n C dX12_lays_19 rfl 1 rfl rfl ?_
      refine dn_iload_n C dX12_lays_20 rfl 3 rfl rfl ?_
      refine dn_aald C ha1 dX12_lays_21 rfl (fun z4 hz4 => ?_)
      refine dn_iload C dX12_lays_22 4 rfl rfl ?_
      refine dn_aload_n C dX12_lays_24 rfl 0 rfl rfl ?_
      refine dn_iload_n C dX12_lays_25 rfl 3 rfl rfl ?_
      refine dn_aald C ha0 dX12_lays_26 rfl (fun z5 hz5 => ?_)
      refine dn_iload C dX12_lays_27 4 rfl rfl ?_
      refine dn_iald C (kt_row ha0 hz5) dX12_lays_29 rfl (fun z6 => ?_)
      refine dn_iast C (kt_row ha1 hz4) dX12_lays_30 rfl (fun s7 => ?_)
      refine dn_iinc (lv0 := [(0, .ref (wd_b G + a0)), (1, .ref (wd_b G + a1)), (2, .int a2), (3, .int a3)]) (v := x4 + 1) C dX12_lays_31 4 rfl rfl (by decide) rfl rfl (fun v4_8 => ?_)
      refine dn_goto (t := 10) C dX12_lays_34 (by decide) ?_
      refine dn_pick [1, 2, 3, 4, 0] rfl ?_
      exact ih v4_8 s7
    · refine dn_pick [0, 1, 2, 3] rfl ?_
      exact hk s0
set_option maxHeartbeats 4000000 in
set_option maxRecDepth 100000 in
theorem pf_M_lays_L2 {G : wd_G} {M : wd_M}  (C : cx_C G M RX12 cX12_lays 5 0 none) (a0 : Nat) (ha0 : sh_kd a0 = 16) (a1 : Nat) (ha1 : sh_kd a1 = 16) (a2 : Int32)  (τ : hp_L) (k : hp_I → Option (hp_I)) (hk : ∀ (s : hp_I), dn_D G M 5 0 0 (cl_M G M (ci_h τ)) 43 [] [] s τ (k s)) : ∀ (fu : Nat) (x3 : Int32) (s0 : hp_I), dn_D G M 5 0 0 (cl_M G M (ci_h τ)) 2 [(0, .ref (wd_b G + a0)), (1, .ref (wd_b G + a1)), (2, .int a2), (3, .int x3)] [] s0 τ (fn_M_lays_L2 a0 a1 a2 k fu x3 s0) := by
  intro fu
  induction fu with
  | zero => exact fun x3 s0 => dn_none
  | succ fu ih =>
    intro x3 s0
    unfold fn_M_lays_L2
    refine dn_iload_n C dX12_lays_2 rfl 3 rfl rfl ?_
    refine dn_iload_n C dX12_lays_3 rfl 2 rfl rfl ?_
    refine dn_icmp_ge (t := 43) C dX12_lays_4 (by decide) rfl ?_ ?_
    · refine dn_iconst C dX12_lays_7 ic_i_0 rfl ?_
      refine dn_istore (lv0 := [(0, .ref (wd_b G + a0)), (1, .ref (wd_b G + a1)), (2, .int a2), (3, .int x3)]) C dX12_lays_8 (by decide) rfl rfl (fun v4_2 => ?_)
      refine dn_pick [1, 2, 3, 4, 0] rfl ?_
      refine pf_M_lays_L10  C  a0 ha0 a1 ha1 a2 x3  τ _ (fun s_9 => ?_) FU v4_2 s0
      refine dn_iinc (lv0 := [(0, .ref (wd_b G + a0)), (1, .ref (wd_b G + a1)), (2, .int a2)]) (v := x3 + 1) C dX12_lays_37 3 rfl rfl (by decide) rfl rfl (fun v3_10 => ?_)
      refine dn_goto (t := 2) C dX12_lays_40 (by decide) ?_
      refine dn_pick [1, 2, 3, 0] rfl ?_
      exact ih v3_10 s_9
    · refine dn_pick [] rfl ?_
      exact hk s0
set_option maxHeartbeats 4000000 in
set_option maxRecDepth 100000 in
theorem ok_M_lays {G : wd_G} {l : Launch} (hN : gd_ok G)  (p1 : Nat) (hp1 : sh_kd p1 = 16) (p2 : Nat) (hp2 : sh_kd p2 = 16) (p3 : Int32) (σ : hp_I) (τ : hp_L) : cl_C G l 0 yX12_lays cX12_lays 5 none [.ref (wd_b G + p1), .ref (wd_b G + p2), .int p3] σ τ (ci_h τ) (fn_M_lays p1 p2 p3 σ) := by
  refine cl_of (lv0 := [(0, .ref (wd_b G + p1)), (1, .ref (wd_b G + p2)), (2, .int p3)]) (ci_h τ) (by decide) (Nat.le_of_ble_eq_true rfl) rfl hN (fun M hM C => ?_)
  have C : cx_C G M RX12 cX12_lays 5 0 none := C
  unfold fn_M_lays
  refine dn_iconst C dX12_lays_0 ic_i_0 rfl ?_
  refine dn_istore_n (lv0 := [(0, .ref (wd_b G + p1)), (1, .ref (wd_b G + p2)), (2, .int p3)]) C dX12_lays_1 rfl (by decide) rfl rfl (fun v3_1 => ?_)
  refine dn_pick [1, 2, 3, 0] rfl ?_
  refine pf_M_lays_L2  C  p1 hp1 p2 hp2 p3  τ _ (fun s_11 => ?_) FU v3_1 σ
  exact dn_vret C dX12_lays_43 rfl
def fn_M_less  (p1 : Int32) (p2 : Int32) : Option (Int32) :=
  px_jn (fun (t1 : Int32) =>
    some t1
  ) fun j2 =>
    if p1 < p2 then (
      j2 p1
    ) else (
      j2 p2
    )
set_option maxHeartbeats 4000000 in
set_option maxRecDepth 100000 in
theorem ok_M_less {G : wd_G} {l : Launch} (hN : gd_ok G)  (p1 : Int32) (p2 : Int32) (σ : hp_I) (τ : hp_L) : cl_C G l 0 yX12_less cX12_less 2 (some .int) [.int p1, .int p2] σ τ (ci_i σ τ) (fn_M_less p1 p2) := by
  refine cl_of (lv0 := [(0, .int p1), (1, .int p2)]) (ci_i σ τ) (by decide) (Nat.le_of_ble_eq_true rfl) rfl hN (fun M hM C => ?_)
  have C : cx_C G M RX12 cX12_less 2 0 (some .int) := C
  unfold fn_M_less
  refine dn_iload_n C dX12_less_0 rfl 0 rfl rfl ?_
  refine dn_iload_n C dX12_less_1 rfl 1 rfl rfl ?_
  refine dn_jn (fun z => ∀ (t1 : Int32), dn_D G M 2 0 0 (cl_M G M (ci_i σ τ)) 10 [] [.int t1] σ τ (z t1)) (fun t1 => ?_) (fun j2 hj2 => ?_)
  · exact dn_iret C dX12_less_10 rfl
  · refine dn_icmp_ge (t := 9) C dX12_less_2 (by decide) rfl ?_ ?_
    · refine dn_iload_n C dX12_less_5 rfl 0 rfl rfl ?_
      refine dn_goto (t := 10) C dX12_less_6 (by decide) ?_
      refine dn_pick [] rfl ?_
      exact hj2 p1
    · refine dn_iload_n C dX12_less_9 rfl 1 rfl rfl ?_
      refine dn_pick [] rfl ?_
      exact hj2 p2
def fn_M_mayBeIn_L2  (a0 : Nat) (a1 : Int32) (σ : hp_I) (k : Option (Int32)) : Nat → Int32 → Option (Int32)
  | 0, _ => none
  | fu + 1, x2 =>
    if x2 < (1000 : Int32) then (
      Option.bind (px_ald σ (sh_rf a0 37) (((1000 : Int32) * a1) + x2)) fun z2 =>
      if z2 = 0 then (
        px_let (x2 + 1) fun v2_3 =>
        fn_M_mayBeIn_L2 a0 a1 σ k fu v2_3
      ) else (
        px_z (1 : Int32) (1 : Int32)
      )
    ) else (
      k
    )
def fn_M_mayBeIn  (o : Nat) (p1 : Int32) (σ : hp_I) : Option (Int32) :=
  px_let (0 : Int32) fun v2_1 =>
  fn_M_mayBeIn_L2 o p1 σ
    (
      px_z (0 : Int32) (0 : Int32)
    )
    FU v2_1
set_option maxHeartbeats 4000000 in
set_option maxRecDepth 100000 in
theorem pf_M_mayBeIn_L2 {G : wd_G} {M : wd_M}  (C : cx_C G M RX12 cX12_mayBeIn 3 0 (some .boolean)) (a0 : Nat) (ha0 : sh_kd a0 = 12) (a1 : Int32) (σ : hp_I) (τ : hp_L) (k : Option (Int32)) (hk : dn_D G M 3 0 0 (cl_M G M (ci_i σ τ)) 32 [] [] σ τ k) : ∀ (fu : Nat) (x2 : Int32), dn_D G M 3 0 0 (cl_M G M (ci_i σ τ)) 2 [(0, .ref (wd_b G + a0)), (1, .int a1), (2, .int x2)] [] σ τ (fn_M_mayBeIn_L2 a0 a1 σ k fu x2) := by
  intro fu
  induction fu with
  | zero => exact fun x2 => dn_none
  | succ fu ih =>
    intro x2
    unfold fn_M_mayBeIn_L2
    refine dn_iload_n C dX12_mayBeIn_2 rfl 2 rfl rfl ?_
    refine dn_sipush C dX12_mayBeIn_3 ic_s_1000 rfl ?_
    refine dn_icmp_ge (t := 32) C dX12_mayBeIn_6 (by decide) rfl ?_ ?_
    · refine dn_aload_n C dX12_mayBeIn_9 rfl 0 rfl rfl ?_
      refine dn_getR C fd_X12_70 ha0 dX12_mayBeIn_10 rfl ?_
      refine dn_sipush C dX12_mayBeIn_13 ic_s_1000 rfl ?_
      refine dn_iload_n C dX12_mayBeIn_16 rfl 1 rfl rfl ?_
      refine dn_imul C dX12_mayBeIn_17 rfl ?_
      refine dn_iload_n C dX12_mayBeIn_18 rfl 2 rfl rfl ?_
      refine dn_iadd C dX12_mayBeIn_19 rfl ?_
      refine dn_zald C (kt_12_37 ha0) dX12_mayBeIn_20 rfl (fun z2 => ?_)
      refine dn_if_eq (t := 26) C dX12_mayBeIn_21 (by decide) rfl ?_ ?_
      · refine dn_iinc (lv0 := [(0, .ref (wd_b G + a0)), (1, .int a1)]) (v := x2 + 1) C dX12_mayBeIn_26 2 rfl rfl (by decide) rfl rfl (fun v2_3 => ?_)
        refine dn_goto (t := 2) C dX12_mayBeIn_29 (by decide) ?_
        refine dn_pick [1, 2, 0] rfl ?_
        exact ih v2_3
      · refine dn_iconst C dX12_mayBeIn_24 ic_i_1 rfl ?_
        exact dn_zret C dX12_mayBeIn_25 rfl
    · refine dn_pick [] rfl ?_
      exact hk
set_option maxHeartbeats 4000000 in
set_option maxRecDepth 100000 in
theorem ok_M_mayBeIn {G : wd_G} {l : Launch} (hN : gd_ok G)  (o : Nat) (ho : sh_kd o = 12) (p1 : Int32) (σ : hp_I) (τ : hp_L) : cl_C G l 0 yX12_mayBeIn cX12_mayBeIn 3 (some .boolean) [.ref (wd_b G + o), .int p1] σ τ (ci_i σ τ) (fn_M_mayBeIn o p1 σ) := by
  refine cl_of (lv0 := [(0, .ref (wd_b G + o)), (1, .int p1)]) (ci_i σ τ) (by decide) (Nat.le_of_ble_eq_true rfl) rfl hN (fun M hM C => ?_)
  have C : cx_C G M RX12 cX12_mayBeIn 3 0 (some .boolean) := C
  unfold fn_M_mayBeIn
  refine dn_iconst C dX12_mayBeIn_0 ic_i_0 rfl ?_
  refine dn_istore_n (lv0 := [(0, .ref (wd_b G + o)), (1, .int p1)]) C dX12_mayBeIn_1 rfl (by decide) rfl rfl (fun v2_1 => ?_)
  refine dn_pick [1, 2, 0] rfl ?_
  refine pf_M_mayBeIn_L2  C  o ho p1 σ τ _ ?_ FU v2_1
  refine dn_iconst C dX12_mayBeIn_32 ic_i_0 rfl ?_
  exact dn_zret C dX12_mayBeIn_33 rfl
def fn_M_more2  (p1 : Int32) (p2 : Int32) : Option (Int32) :=
  px_jn (fun (t1 : Int32) =>
    some t1
  ) fun j2 =>
    if p2 < p1 then (
      j2 p1
    ) else (
      j2 p2
    )
set_option maxHeartbeats 4000000 in
set_option maxRecDepth 100000 in
theorem ok_M_more2 {G : wd_G} {l : Launch} (hN : gd_ok G)  (p1 : Int32) (p2 : Int32) (σ : hp_I) (τ : hp_L) : cl_C G l 0 yX12_more2 cX12_more2 2 (some .int) [.int p1, .int p2] σ τ (ci_i σ τ) (fn_M_more2 p1 p2) := by
  refine cl_of (lv0 := [(0, .int p1), (1, .int p2)]) (ci_i σ τ) (by decide) (Nat.le_of_ble_eq_true rfl) rfl hN (fun M hM C => ?_)
  have C : cx_C G M RX12 cX12_more2 2 0 (some .int) := C
  unfold fn_M_more2
  refine dn_iload_n C dX12_more2_0 rfl 0 rfl rfl ?_
  refine dn_iload_n C dX12_more2_1 rfl 1 rfl rfl ?_
  refine dn_jn (fun z => ∀ (t1 : Int32), dn_D G M 2 0 0 (cl_M G M (ci_i σ τ)) 10 [] [.int t1] σ τ (z t1)) (fun t1 => ?_) (fun j2 hj2 => ?_)
  · exact dn_iret C dX12_more2_10 rfl
  · refine dn_icmp_le (t := 9) C dX12_more2_2 (by decide) rfl ?_ ?_
    · refine dn_iload_n C dX12_more2_5 rfl 0 rfl rfl ?_
      refine dn_goto (t := 10) C dX12_more2_6 (by decide) ?_
      refine dn_pick [] rfl ?_
      exact hj2 p1
    · refine dn_iload_n C dX12_more2_9 rfl 1 rfl rfl ?_
      refine dn_pick [] rfl ?_
      exact hj2 p2
def fn_M_mostOf  (p1 : Int32) : Option (Int32) :=
  px_jn (fun (t1 : Int32) =>
    some t1
  ) fun j2 =>
    if p1 = (1 : Int32) then (
      j2 (12 : Int32)
    ) else (
      if p1 = (3 : Int32) then (
        j2 (5 : Int32)
      ) else (
        j2 (8 : Int32)
      )
    )
set_option maxHeartbeats 4000000 in
set_option maxRecDepth 100000 in
theorem ok_M_mostOf {G : wd_G} {l : Launch} (hN : gd_ok G)  (p1 : Int32) (σ : hp_I) (τ : hp_L) : cl_C G l 0 yX12_mostOf cX12_mostOf 1 (some .int) [.int p1] σ τ (ci_i σ τ) (fn_M_mostOf p1) := by
  refine cl_of (lv0 := [(0, .int p1)]) (ci_i σ τ) (by decide) (Nat.le_of_ble_eq_true rfl) rfl hN (fun M hM C => ?_)
  have C : cx_C G M RX12 cX12_mostOf 1 0 (some .int) := C
  unfold fn_M_mostOf
  refine dn_iload_n C dX12_mostOf_0 rfl 0 rfl rfl ?_
  refine dn_iconst C dX12_mostOf_1 ic_i_1 rfl ?_
  refine dn_jn (fun z => ∀ (t1 : Int32), dn_D G M 1 0 0 (cl_M G M (ci_i σ τ)) 21 [] [.int t1] σ τ (z t1)) (fun t1 => ?_) (fun j2 hj2 => ?_)
  · exact dn_iret C dX12_mostOf_21 rfl
  · refine dn_icmp_ne (t := 10) C dX12_mostOf_2 (by decide) rfl ?_ ?_
    · refine dn_bipush C dX12_mostOf_5 ic_b_12 rfl ?_
      refine dn_goto (t := 21) C dX12_mostOf_7 (by decide) ?_
      refine dn_pick [] rfl ?_
      exact hj2 (12 : Int32)
    · refine dn_iload_n C dX12_mostOf_10 rfl 0 rfl rfl ?_
      refine dn_iconst C dX12_mostOf_11 ic_i_3 rfl ?_
      refine dn_icmp_ne (t := 19) C dX12_mostOf_12 (by decide) rfl ?_ ?_
      · refine dn_iconst C dX12_mostOf_15 ic_i_5 rfl ?_
        refine dn_goto (t := 21) C dX12_mostOf_16 (by decide) ?_
        refine dn_pick [] rfl ?_
        exact hj2 (5 : Int32)
      · refine dn_bipush C dX12_mostOf_19 ic_b_8 rfl ?_
        refine dn_pick [] rfl ?_
        exact hj2 (8 : Int32)
def fn_M_notes  (o : Nat) (p1 : Int32) (p2 : Int32) (σ : hp_I) : Option (hp_I) :=
  if (σ o 5) = 0 then (
    Option.bind (px_rld (sh_rf o 18) (σ o 16)) fun z1 =>
    Option.bind (px_ast σ z1 (0 : Int32) p1) fun s2 =>
    Option.bind (px_rld (sh_rf o 18) (s2 o 16)) fun z3 =>
    Option.bind (px_ast s2 z3 (1 : Int32) p2) fun s4 =>
    px_let (hp_s s4 o 16 ((s4 o 16) + (1 : Int32))) fun s5 =>
    some s5
  ) else (
    some σ
  )
set_option maxHeartbeats 4000000 in
set_option maxRecDepth 100000 in
theorem ok_M_notes {G : wd_G} {l : Launch} (hN : gd_ok G)  (o : Nat) (ho : sh_kd o = 12) (p1 : Int32) (p2 : Int32) (σ : hp_I) (τ : hp_L) : cl_C G l 0 yX12_notes cX12_notes 3 none [.ref (wd_b G + o), .int p1, .int p2] σ τ (ci_h τ) (fn_M_notes o p1 p2 σ) := by
  refine cl_of (lv0 := [(0, .ref (wd_b G + o)), (1, .int p1), (2, .int p2)]) (ci_h τ) (by decide) (Nat.le_of_ble_eq_true rfl) rfl hN (fun M hM C => ?_)
  have C : cx_C G M RX12 cX12_notes 3 0 none := C
  unfold fn_M_notes
  refine dn_aload_n C dX12_notes_0 rfl 0 rfl rfl ?_
  refine dn_getI C fd_X12_109 ho dX12_notes_1 rfl ?_
  refine dn_if_eq (t := 8) C dX12_notes_4 (by decide) rfl ?_ ?_
  · refine dn_aload_n C dX12_notes_8 rfl 0 rfl rfl ?_
    refine dn_getR C fd_X12_37 ho dX12_notes_9 rfl ?_
    refine dn_aload_n C dX12_notes_12 rfl 0 rfl rfl ?_
    refine dn_getI C fd_X12_204 ho dX12_notes_13 rfl ?_
    refine dn_aald C (kt_12_18 ho) dX12_notes_16 rfl (fun z1 hz1 => ?_)
    refine dn_iconst C dX12_notes_17 ic_i_0 rfl ?_
    refine dn_iload_n C dX12_notes_18 rfl 1 rfl rfl ?_
    refine dn_iast C (kt_row (kt_12_18 ho) hz1) dX12_notes_19 rfl (fun s2 => ?_)
    refine dn_aload_n C dX12_notes_20 rfl 0 rfl rfl ?_
    refine dn_getR C fd_X12_37 ho dX12_notes_21 rfl ?_
    refine dn_aload_n C dX12_notes_24 rfl 0 rfl rfl ?_
    refine dn_getI C fd_X12_204 ho dX12_notes_25 rfl ?_
    refine dn_aald C (kt_12_18 ho) dX12_notes_28 rfl (fun z3 hz3 => ?_)
    refine dn_iconst C dX12_notes_29 ic_i_1 rfl ?_
    refine dn_iload_n C dX12_notes_30 rfl 2 rfl rfl ?_
    refine dn_iast C (kt_row (kt_12_18 ho) hz3) dX12_notes_31 rfl (fun s4 => ?_)
    refine dn_aload_n C dX12_notes_32 rfl 0 rfl rfl ?_
    refine dn_dup C dX12_notes_33 rfl rfl ?_
    refine dn_getI C fd_X12_204 ho dX12_notes_34 rfl ?_
    refine dn_iconst C dX12_notes_37 ic_i_1 rfl ?_
    refine dn_iadd C dX12_notes_38 rfl ?_
    refine dn_putI C fp_X12_204 ho dX12_notes_39 rfl (fun s5 => ?_)
    exact dn_vret C dX12_notes_42 rfl
  · exact dn_vret C dX12_notes_7 rfl
def fn_M_ones_L4  (a0 : Int32) (k : Int32 → Option (Int32)) : Nat → Int32 → Int32 → Option (Int32)
  | 0, _, _ => none
  | fu + 1, x1, x2 =>
    if x2 < (12 : Int32) then (
      px_let (x1 + ((a0 >>> (x2 &&& 31)) &&& (1 : Int32))) fun v1_3 =>
      px_let (x2 + 1) fun v2_4 =>
      fn_M_ones_L4 a0 k fu v1_3 v2_4
    ) else (
      k x1
    )
def fn_M_ones  (p1 : Int32) : Option (Int32) :=
  px_let (0 : Int32) fun v1_1 =>
  px_let (0 : Int32) fun v2_2 =>
  fn_M_ones_L4 p1
    (fun (y_5 : Int32) =>
      some y_5
    )
    FU v1_1 v2_2
set_option maxHeartbeats 4000000 in
set_option maxRecDepth 100000 in
theorem pf_M_ones_L4 {G : wd_G} {M : wd_M}  (C : cx_C G M RX12 cX12_ones 3 0 (some .int)) (a0 : Int32) (σ : hp_I) (τ : hp_L) (k : Int32 → Option (Int32)) (hk : ∀ (y1 : Int32), dn_D G M 3 0 0 (cl_M G M (ci_i σ τ)) 24 [(1, .int y1)] [] σ τ (k y1)) : ∀ (fu : Nat) (x1 : Int32) (x2 : Int32), dn_D G M 3 0 0 (cl_M G M (ci_i σ τ)) 4 [(0, .int a0), (1, .int x1), (2, .int x2)] [] σ τ (fn_M_ones_L4 a0 k fu x1 x2) := by
  intro fu
  induction fu with
  | zero => exact fun x1 x2 => dn_none
  | succ fu ih =>
    intro x1 x2
    unfold fn_M_ones_L4
    refine dn_iload_n C dX12_ones_4 rfl 2 rfl rfl ?_
    refine dn_bipush C dX12_ones_5 ic_b_12 rfl ?_
    refine dn_icmp_ge (t := 24) C dX12_ones_7 (by decide) rfl ?_ ?_
    · refine dn_iload_n C dX12_ones_10 rfl 1 rfl rfl ?_
      refine dn_iload_n C dX12_ones_11 rfl 0 rfl rfl ?_
      refine dn_iload_n C dX12_ones_12 rfl 2 rfl rfl ?_
      refine dn_ishr C dX12_ones_13 rfl ?_
      refine dn_iconst C dX12_ones_14 ic_i_1 rfl ?_
      refine dn_iand C dX12_ones_15 rfl ?_
      refine dn_iadd C dX12_ones_16 rfl ?_
      refine dn_istore_n (lv0 := [(0, .int a0), (2, .int x2)]) C dX12_ones_17 rfl (by decide) rfl rfl (fun v1_3 => ?_)
      refine dn_iinc (lv0 := [(1, .int v1_3), (0, .int a0)]) (v := x2 + 1) C dX12_ones_18 2 rfl rfl (by decide) rfl rfl (fun v2_4 => ?_)
      refine dn_goto (t := 4) C dX12_ones_21 (by decide) ?_
      refine dn_pick [2, 1, 0] rfl ?_
      exact ih v1_3 v2_4
    · refine dn_pick [1] rfl ?_
      exact hk x1
set_option maxHeartbeats 4000000 in
set_option maxRecDepth 100000 in
theorem ok_M_ones {G : wd_G} {l : Launch} (hN : gd_ok G)  (p1 : Int32) (σ : hp_I) (τ : hp_L) : cl_C G l 0 yX12_ones cX12_ones 3 (some .int) [.int p1] σ τ (ci_i σ τ) (fn_M_ones p1) := by
  refine cl_of (lv0 := [(0, .int p1)]) (ci_i σ τ) (by decide) (Nat.le_of_ble_eq_true rfl) rfl hN (fun M hM C => ?_)
  have C : cx_C G M RX12 cX12_ones 3 0 (some .int) := C
  unfold fn_M_ones
  refine dn_iconst C dX12_ones_0 ic_i_0 rfl ?_
  refine dn_istore_n (lv0 := [(0, .int p1)]) C dX12_ones_1 rfl (by decide) rfl rfl (fun v1_1 => ?_)
  refine dn_iconst C dX12_ones_2 ic_i_0 rfl ?_
  refine dn_istore_n (lv0 := [(1, .int v1_1), (0, .int p1)]) C dX12_ones_3 rfl (by decide) rfl rfl (fun v2_2 => ?_)
  refine dn_pick [2, 1, 0] rfl ?_
  refine pf_M_ones_L4  C  p1 σ τ _ (fun y_5 => ?_) FU v1_1 v2_2
  refine dn_iload_n C dX12_ones_24 rfl 0 rfl rfl ?_
  exact dn_iret C dX12_ones_25 rfl
def fn_M_placeOf  (p1 : Int32) (p2 : Int32) : Option (Int32) :=
  some (((12 : Int32) * p1) + p2)
set_option maxHeartbeats 4000000 in
set_option maxRecDepth 100000 in
theorem ok_M_placeOf {G : wd_G} {l : Launch} (hN : gd_ok G)  (p1 : Int32) (p2 : Int32) (σ : hp_I) (τ : hp_L) : cl_C G l 0 yX12_placeOf cX12_placeOf 2 (some .int) [.int p1, .int p2] σ τ (ci_i σ τ) (fn_M_placeOf p1 p2) := by
  refine cl_of (lv0 := [(0, .int p1), (1, .int p2)]) (ci_i σ τ) (by decide) (Nat.le_of_ble_eq_true rfl) rfl hN (fun M hM C => ?_)
  have C : cx_C G M RX12 cX12_placeOf 2 0 (some .int) := C
  unfold fn_M_placeOf
  refine dn_bipush C dX12_placeOf_0 ic_b_12 rfl ?_
  refine dn_iload_n C dX12_placeOf_2 rfl 0 rfl rfl ?_
  refine dn_imul C dX12_placeOf_3 rfl ?_
  refine dn_iload_n C dX12_placeOf_4 rfl 1 rfl rfl ?_
  refine dn_iadd C dX12_placeOf_5 rfl ?_
  exact dn_iret C dX12_placeOf_6 rfl
def fn_M_puts  (o : Nat) (p1 : Nat) (p2 : Int32) (p3 : Int32) (σ : hp_I) : Option (Int32 × hp_I) :=
  px_jn (fun (s1 : hp_I) =>
    px_let (hp_s s1 o 34 ((s1 o 34) + (1 : Int32))) fun s2 =>
    Option.bind (px_ald s2 p1 ((s2 o 34) - (1 : Int32))) fun z3 =>
    some (z3, s2)
  ) fun j4 =>
    if p3 = 0 then (
      Option.bind (px_ast σ p1 (σ o 34) p2) fun s5 =>
      j4 s5
    ) else (
      j4 σ
    )
set_option maxHeartbeats 4000000 in
set_option maxRecDepth 100000 in
theorem ok_M_puts {G : wd_G} {l : Launch} (hN : gd_ok G)  (o : Nat) (ho : sh_kd o = 12) (p1 : Nat) (hp1 : sh_kd p1 = 13) (p2 : Int32) (p3 : Int32) (σ : hp_I) (τ : hp_L) : cl_C G l 0 yX12_puts cX12_puts 4 (some .int) [.ref (wd_b G + o), .ref (wd_b G + p1), .int p2, .int p3] σ τ (ci_ih τ) (fn_M_puts o p1 p2 p3 σ) := by
  refine cl_of (lv0 := [(0, .ref (wd_b G + o)), (1, .ref (wd_b G + p1)), (2, .int p2), (3, .int p3)]) (ci_ih τ) (by decide) (Nat.le_of_ble_eq_true rfl) rfl hN (fun M hM C => ?_)
  have C : cx_C G M RX12 cX12_puts 4 0 (some .int) := C
  unfold fn_M_puts
  refine dn_iload_n C dX12_puts_0 rfl 3 rfl rfl ?_
  refine dn_jn (fun z => ∀ (s1 : hp_I), dn_D G M 4 0 0 (cl_M G M (ci_ih τ)) 11 [(0, .ref (wd_b G + o)), (1, .ref (wd_b G + p1))] [] s1 τ (z s1)) (fun s1 => ?_) (fun j4 hj4 => ?_)
  · refine dn_aload_n C dX12_puts_11 rfl 0 rfl rfl ?_
    refine dn_dup C dX12_puts_12 rfl rfl ?_
    refine dn_getI C fd_X12_401 ho dX12_puts_13 rfl ?_
    refine dn_iconst C dX12_puts_16 ic_i_1 rfl ?_
    refine dn_iadd C dX12_puts_17 rfl ?_
    refine dn_putI C fp_X12_401 ho dX12_puts_18 rfl (fun s2 => ?_)
    refine dn_aload_n C dX12_puts_21 rfl 1 rfl rfl ?_
    refine dn_aload_n C dX12_puts_22 rfl 0 rfl rfl ?_
    refine dn_getI C fd_X12_401 ho dX12_puts_23 rfl ?_
    refine dn_iconst C dX12_puts_26 ic_i_1 rfl ?_
    refine dn_isub C dX12_puts_27 rfl ?_
    refine dn_iald C hp1 dX12_puts_28 rfl (fun z3 => ?_)
    exact dn_iret C dX12_puts_29 rfl
  · refine dn_if_ne (t := 11) C dX12_puts_1 (by decide) rfl ?_ ?_
    · refine dn_aload_n C dX12_puts_4 rfl 1 rfl rfl ?_
      refine dn_aload_n C dX12_puts_5 rfl 0 rfl rfl ?_
      refine dn_getI C fd_X12_401 ho dX12_puts_6 rfl ?_
      refine dn_iload_n C dX12_puts_9 rfl 2 rfl rfl ?_
      refine dn_iast C hp1 dX12_puts_10 rfl (fun s5 => ?_)
      refine dn_pick [0, 1] rfl ?_
      exact hj4 s5
    · refine dn_pick [0, 1] rfl ?_
      exact hj4 σ
def fn_M_six  (p1 : Int32) (p2 : Int32) (p3 : Int32) (p4 : Int32) (p5 : Int32) (p6 : Int32) : Option (Int32) :=
  px_let (((27 : Int32) * (((27 : Int32) * p1) + p2)) + p3) fun v6_1 =>
  px_jn (fun (t2 : Int32) =>
    px_let t2 fun v6_3 =>
    px_jn (fun (t4 : Int32) =>
      px_let t4 fun v6_5 =>
      px_jn (fun (t6 : Int32) =>
        some t6
      ) fun j7 =>
        if p6 = 0 then (
          j7 v6_5
        ) else (
          j7 (((27 : Int32) * v6_5) + p6)
        )
    ) fun j8 =>
      if p5 = 0 then (
        j8 v6_3
      ) else (
        j8 (((27 : Int32) * v6_3) + p5)
      )
  ) fun j9 =>
    if p4 = 0 then (
      j9 v6_1
    ) else (
      j9 (((27 : Int32) * v6_1) + p4)
    )
set_option maxHeartbeats 4000000 in
set_option maxRecDepth 100000 in
theorem ok_M_six {G : wd_G} {l : Launch} (hN : gd_ok G)  (p1 : Int32) (p2 : Int32) (p3 : Int32) (p4 : Int32) (p5 : Int32) (p6 : Int32) (σ : hp_I) (τ : hp_L) : cl_C G l 0 yX12_six cX12_six 7 (some .int) [.int p1, .int p2, .int p3, .int p4, .int p5, .int p6] σ τ (ci_i σ τ) (fn_M_six p1 p2 p3 p4 p5 p6) := by
  refine cl_of (lv0 := [(0, .int p1), (1, .int p2), (2, .int p3), (3, .int p4), (4, .int p5), (5, .int p6)]) (ci_i σ τ) (by decide) (Nat.le_of_ble_eq_true rfl) rfl hN (fun M hM C => ?_)
  have C : cx_C G M RX12 cX12_six 7 0 (some .int) := C
  unfold fn_M_six
  refine dn_bipush C dX12_six_0 ic_b_27 rfl ?_
  refine dn_bipush C dX12_six_2 ic_b_27 rfl ?_
  refine dn_iload_n C dX12_six_4 rfl 0 rfl rfl ?_
  refine dn_imul C dX12_six_5 rfl ?_
  refine dn_iload_n C dX12_six_6 rfl 1 rfl rfl ?_
  refine dn_iadd C dX12_six_7 rfl ?_
  refine dn_imul C dX12_six_8 rfl ?_
  refine dn_iload_n C dX12_six_9 rfl 2 rfl rfl ?_
  refine dn_iadd C dX12_six_10 rfl ?_
  refine dn_istore (lv0 := [(0, .int p1), (1, .int p2), (2, .int p3), (3, .int p4), (4, .int p5), (5, .int p6)]) C dX12_six_11 (by decide) rfl rfl (fun v6_1 => ?_)
  refine dn_iload_n C dX12_six_13 rfl 4 rfl rfl ?_
  refine dn_jn (fun z => ∀ (t2 : Int32), dn_D G M 7 0 0 (cl_M G M (ci_i σ τ)) 29 [(4, .int p5), (5, .int p6)] [.int t2] σ τ (z t2)) (fun t2 => ?_) (fun j9 hj9 => ?_)
  · refine dn_istore (lv0 := [(4, .int p5), (5, .int p6)]) C dX12_six_29 (by decide) rfl rfl (fun v6_3 => ?_)
    refine dn_iload C dX12_six_31 1 rfl rfl ?_
    refine dn_jn (fun z => ∀ (t4 : Int32), dn_D G M 7 0 0 (cl_M G M (ci_i σ τ)) 49 [(5, .int p6)] [.int t4] σ τ (z t4)) (fun t4 => ?_) (fun j8 hj8 => ?_)
    · refine dn_istore (lv0 := [(5, .int p6)]) C dX12_six_49 (by decide) rfl rfl (fun v6_5 => ?_)
      refine dn_iload C dX12_six_51 1 rfl rfl ?_
      refine dn_jn (fun z => ∀ (t6 : Int32), dn_D G M 7 0 0 (cl_M G M (ci_i σ τ)) 69 [] [.int t6] σ τ (z t6)) (fun t6 => ?_) (fun j7 hj7 => ?_)
      · exact dn_iret C dX12_six_69 rfl
      · refine dn_if_ne (t := 61) C dX12_six_53 (by decide) rfl ?_ ?_
        · refine dn_iload C dX12_six_56 0 rfl rfl ?_
          refine dn_goto (t := 69) C dX12_six_58 (by decide) ?_
          refine dn_pick [] rfl ?_
          exact hj7 v6_5
        · refine dn_bipush C dX12_six_61 ic_b_27 rfl ?_
          refine dn_iload C dX12_six_63 0 rfl rfl ?_
          refine dn_imul C dX12_six_65 rfl ?_
          refine dn_iload C dX12_six_66 1 rfl rfl ?_
          refine dn_iadd C dX12_six_68 rfl ?_
          refine dn_pick [] rfl ?_
          exact hj7 (((27 : Int32) * v6_5) + p6)
    · refine dn_if_ne (t := 41) C dX12_six_33 (by decide) rfl ?_ ?_
      · refine dn_iload C dX12_six_36 0 rfl rfl ?_
        refine dn_goto (t := 49) C dX12_six_38 (by decide) ?_
        refine dn_pick [2] rfl ?_
        exact hj8 v6_3
      · refine dn_bipush C dX12_six_41 ic_b_27 rfl ?_
        refine dn_iload C dX12_six_43 0 rfl rfl ?_
        refine dn_imul C dX12_six_45 rfl ?_
        refine dn_iload C dX12_six_46 1 rfl rfl ?_
        refine dn_iadd C dX12_six_48 rfl ?_
        refine dn_pick [2] rfl ?_
        exact hj8 (((27 : Int32) * v6_3) + p5)
  · refine dn_if_ne (t := 22) C dX12_six_14 (by decide) rfl ?_ ?_
    · refine dn_iload C dX12_six_17 0 rfl rfl ?_
      refine dn_goto (t := 29) C dX12_six_19 (by decide) ?_
      refine dn_pick [5, 6] rfl ?_
      exact hj9 v6_1
    · refine dn_bipush C dX12_six_22 ic_b_27 rfl ?_
      refine dn_iload C dX12_six_24 0 rfl rfl ?_
      refine dn_imul C dX12_six_26 rfl ?_
      refine dn_iload_n C dX12_six_27 rfl 4 rfl rfl ?_
      refine dn_iadd C dX12_six_28 rfl ?_
      refine dn_pick [5, 6] rfl ?_
      exact hj9 (((27 : Int32) * v6_1) + p4)
def fn_M_tellsNothing_L2  (a0 : Nat) (k : hp_I → Option (hp_I)) : Nat → Int32 → hp_I → Option (hp_I)
  | 0, _, _ => none
  | fu + 1, x1, s0 =>
    if x1 < (4 : Int32) then (
      Option.bind (px_ast s0 (sh_rf a0 11) x1 (0 : Int32)) fun s2 =>
      px_let (x1 + 1) fun v1_3 =>
      fn_M_tellsNothing_L2 a0 k fu v1_3 s2
    ) else (
      k s0
    )
def fn_M_tellsNothing  (o : Nat) (σ : hp_I) : Option (hp_I) :=
  px_let (0 : Int32) fun v1_1 =>
  fn_M_tellsNothing_L2 o
    (fun (s_4 : hp_I) =>
      some s_4
    )
    FU v1_1 σ
set_option maxHeartbeats 4000000 in
set_option maxRecDepth 100000 in
theorem pf_M_tellsNothing_L2 {G : wd_G} {M : wd_M}  (C : cx_C G M RX12 cX12_tellsNothing 2 0 none) (a0 : Nat) (ha0 : sh_kd a0 = 12)  (τ : hp_L) (k : hp_I → Option (hp_I)) (hk : ∀ (s : hp_I), dn_D G M 2 0 0 (cl_M G M (ci_h τ)) 20 [] [] s τ (k s)) : ∀ (fu : Nat) (x1 : Int32) (s0 : hp_I), dn_D G M 2 0 0 (cl_M G M (ci_h τ)) 2 [(0, .ref (wd_b G + a0)), (1, .int x1)] [] s0 τ (fn_M_tellsNothing_L2 a0 k fu x1 s0) := by
  intro fu
  induction fu with
  | zero => exact fun x1 s0 => dn_none
  | succ fu ih =>
    intro x1 s0
    unfold fn_M_tellsNothing_L2
    refine dn_iload_n C dX12_tellsNothing_2 rfl 1 rfl rfl ?_
    refine dn_iconst C dX12_tellsNothing_3 ic_i_4 rfl ?_
    refine dn_icmp_ge (t := 20) C dX12_tellsNothing_4 (by decide) rfl ?_ ?_
    · refine dn_aload_n C dX12_tellsNothing_7 rfl 0 rfl rfl ?_
      refine dn_getR C fd_X12_20 ha0 dX12_tellsNothing_8 rfl ?_
      refine dn_iload_n C dX12_tellsNothing_11 rfl 1 rfl rfl ?_
      refine dn_iconst C dX12_tellsNothing_12 ic_i_0 rfl ?_
      refine dn_iast C (kt_12_11 ha0) dX12_tellsNothing_13 rfl (fun s2 => ?_)
      refine dn_iinc (lv0 := [(0, .ref (wd_b G + a0))]) (v := x1 + 1) C dX12_tellsNothing_14 1 rfl rfl (by decide) rfl rfl (fun v1_3 => ?_)
      refine dn_goto (t := 2) C dX12_tellsNothing_17 (by decide) ?_
      refine dn_pick [1, 0] rfl ?_
      exact ih v1_3 s2
    · refine dn_pick [] rfl ?_
      exact hk s0
set_option maxHeartbeats 4000000 in
set_option maxRecDepth 100000 in
theorem ok_M_tellsNothing {G : wd_G} {l : Launch} (hN : gd_ok G)  (o : Nat) (ho : sh_kd o = 12) (σ : hp_I) (τ : hp_L) : cl_C G l 0 yX12_tellsNothing cX12_tellsNothing 2 none [.ref (wd_b G + o)] σ τ (ci_h τ) (fn_M_tellsNothing o σ) := by
  refine cl_of (lv0 := [(0, .ref (wd_b G + o))]) (ci_h τ) (by decide) (Nat.le_of_ble_eq_true rfl) rfl hN (fun M hM C => ?_)
  have C : cx_C G M RX12 cX12_tellsNothing 2 0 none := C
  unfold fn_M_tellsNothing
  refine dn_iconst C dX12_tellsNothing_0 ic_i_0 rfl ?_
  refine dn_istore_n (lv0 := [(0, .ref (wd_b G + o))]) C dX12_tellsNothing_1 rfl (by decide) rfl rfl (fun v1_1 => ?_)
  refine dn_pick [1, 0] rfl ?_
  refine pf_M_tellsNothing_L2  C  o ho  τ _ (fun s_4 => ?_) FU v1_1 σ
  exact dn_vret C dX12_tellsNothing_20 rfl
def fn_M_thrown  (o : Nat) (σ : hp_I) : Option (Int32) :=
  some (σ o 0)
set_option maxHeartbeats 4000000 in
set_option maxRecDepth 100000 in
theorem ok_M_thrown {G : wd_G} {l : Launch} (hN : gd_ok G)  (o : Nat) (ho : sh_kd o = 12) (σ : hp_I) (τ : hp_L) : cl_C G l 0 yX12_thrown cX12_thrown 1 (some .int) [.ref (wd_b G + o)] σ τ (ci_i σ τ) (fn_M_thrown o σ) := by
  refine cl_of (lv0 := [(0, .ref (wd_b G + o))]) (ci_i σ τ) (by decide) (Nat.le_of_ble_eq_true rfl) rfl hN (fun M hM C => ?_)
  have C : cx_C G M RX12 cX12_thrown 1 0 (some .int) := C
  unfold fn_M_thrown
  refine dn_aload_n C dX12_thrown_0 rfl 0 rfl rfl ?_
  refine dn_getI C fd_X12_93 ho dX12_thrown_1 rfl ?_
  exact dn_iret C dX12_thrown_4 rfl
def fn_M_wrong  (o : Nat) (p1 : Int32) (p2 : Int32) (σ : hp_I) : Option (hp_I) :=
  px_jn (fun (s1 : hp_I) =>
    some s1
  ) fun j2 =>
    if (σ o 5) = 0 then (
      px_let (hp_s σ o 5 p1) fun s3 =>
      px_let (hp_s s3 o 6 p2) fun s4 =>
      j2 s4
    ) else (
      j2 σ
    )
set_option maxHeartbeats 4000000 in
set_option maxRecDepth 100000 in
theorem ok_M_wrong {G : wd_G} {l : Launch} (hN : gd_ok G)  (o : Nat) (ho : sh_kd o = 12) (p1 : Int32) (p2 : Int32) (σ : hp_I) (τ : hp_L) : cl_C G l 0 yX12_wrong cX12_wrong 3 none [.ref (wd_b G + o), .int p1, .int p2] σ τ (ci_h τ) (fn_M_wrong o p1 p2 σ) := by
  refine cl_of (lv0 := [(0, .ref (wd_b G + o)), (1, .int p1), (2, .int p2)]) (ci_h τ) (by decide) (Nat.le_of_ble_eq_true rfl) rfl hN (fun M hM C => ?_)
  have C : cx_C G M RX12 cX12_wrong 3 0 none := C
  unfold fn_M_wrong
  refine dn_aload_n C dX12_wrong_0 rfl 0 rfl rfl ?_
  refine dn_getI C fd_X12_109 ho dX12_wrong_1 rfl ?_
  refine dn_jn (fun z => ∀ (s1 : hp_I), dn_D G M 3 0 0 (cl_M G M (ci_h τ)) 17 [] [] s1 τ (z s1)) (fun s1 => ?_) (fun j2 hj2 => ?_)
  · exact dn_vret C dX12_wrong_17 rfl
  · refine dn_if_ne (t := 17) C dX12_wrong_4 (by decide) rfl ?_ ?_
    · refine dn_aload_n C dX12_wrong_7 rfl 0 rfl rfl ?_
      refine dn_iload_n C dX12_wrong_8 rfl 1 rfl rfl ?_
      refine dn_putI C fp_X12_109 ho dX12_wrong_9 rfl (fun s3 => ?_)
      refine dn_aload_n C dX12_wrong_12 rfl 0 rfl rfl ?_
      refine dn_iload_n C dX12_wrong_13 rfl 2 rfl rfl ?_
      refine dn_putI C fp_X12_112 ho dX12_wrong_14 rfl (fun s4 => ?_)
      refine dn_pick [] rfl ?_
      exact hj2 s4
    · refine dn_pick [] rfl ?_
      exact hj2 σ
def fn_M_beginsAnew_L2  (a0 : Nat) (k : hp_I → Option (hp_I)) : Nat → Int32 → hp_I → Option (hp_I)
  | 0, _, _ => none
  | fu + 1, x1, s0 =>
    if x1 < (4 : Int32) then (
      Option.bind (px_ald s0 (sh_rf a0 11) x1) fun z2 =>
      Option.bind (px_ast s0 (sh_rf a0 12) x1 z2) fun s3 =>
      px_let (x1 + 1) fun v1_4 =>
      fn_M_beginsAnew_L2 a0 k fu v1_4 s3
    ) else (
      k s0
    )
def fn_M_beginsAnew_L40  (a0 : Nat) (k : hp_I → Option (hp_I)) : Nat → Int32 → hp_I → Option (hp_I)
  | 0, _, _ => none
  | fu + 1, x1, s0 =>
    if x1 < (47 : Int32) then (
      Option.bind (px_ast s0 (sh_rf a0 25) x1 (0 : Int32)) fun s9 =>
      px_let (x1 + 1) fun v1_10 =>
      fn_M_beginsAnew_L40 a0 k fu v1_10 s9
    ) else (
      k s0
    )
def fn_M_beginsAnew_L61  (a0 : Nat) (k : hp_I → Option (hp_I)) : Nat → Int32 → hp_I → Option (hp_I)
  | 0, _, _ => none
  | fu + 1, x1, s0 =>
    if x1 < (8 : Int32) then (
      Option.bind (px_ald s0 (sh_rf a0 12) (2 : Int32)) fun z13 =>
      px_jn (fun (t14 : Int32) =>
        Option.bind (px_ast s0 (sh_rf a0 25) ((0 : Int32) + x1) t14) fun s15 =>
        Option.bind (px_ald s15 (sh_rf a0 12) (2 : Int32)) fun z16 =>
        px_jn (fun (t17 : Int32) =>
          Option.bind (px_ast s15 (sh_rf a0 25) ((8 : Int32) + x1) t17) fun s18 =>
          Option.bind (px_ast s18 (sh_rf a0 25) ((16 : Int32) + x1) (-1 : Int32)) fun s19 =>
          Option.bind (px_ast s19 (sh_rf a0 25) ((24 : Int32) + x1) (-1 : Int32)) fun s20 =>
          px_let (x1 + 1) fun v1_21 =>
          fn_M_beginsAnew_L61 a0 k fu v1_21 s20
        ) fun j22 =>
          if x1 < z16 then (
            Option.bind (fn_M_placeOf (2 : Int32) x1) fun z23 =>
            Option.bind (px_rld (sh_rf a0 14) z23) fun z24 =>
            Option.bind (px_ald s15 z24 (1 : Int32)) fun z25 =>
            j22 z25
          ) else (
            j22 (0 : Int32)
          )
      ) fun j26 =>
        if x1 < z13 then (
          Option.bind (fn_M_placeOf (2 : Int32) x1) fun z27 =>
          Option.bind (px_rld (sh_rf a0 14) z27) fun z28 =>
          Option.bind (px_ald s0 z28 (0 : Int32)) fun z29 =>
          j26 z29
        ) else (
          j26 (0 : Int32)
        )
    ) else (
      k s0
    )
def fn_M_beginsAnew_L164  (a0 : Nat) (k : hp_I → Option (hp_I)) : Nat → Int32 → hp_I → Option (hp_I)
  | 0, _, _ => none
  | fu + 1, x1, s0 =>
    Option.bind (px_ald s0 (sh_rf a0 12) (3 : Int32)) fun z32 =>
    if x1 < z32 then (
      Option.bind (fn_M_placeOf (3 : Int32) x1) fun z33 =>
      Option.bind (px_rld (sh_rf a0 14) z33) fun z34 =>
      Option.bind (px_ald s0 z34 (0 : Int32)) fun z35 =>
      Option.bind (px_ast s0 (sh_rf a0 25) ((32 : Int32) + x1) z35) fun s36 =>
      px_let (x1 + 1) fun v1_37 =>
      fn_M_beginsAnew_L164 a0 k fu v1_37 s36
    ) else (
      k s0
    )
def fn_M_beginsAnew  (o : Nat) (σ : hp_I) : Option (hp_I) :=
  px_let (0 : Int32) fun v1_1 =>
  fn_M_beginsAnew_L2 o
    (fun (s_5 : hp_I) =>
      Option.bind (fn_M_lays (sh_rf o 13) (sh_rf o 14) (48 : Int32) s_5) fun s7 =>
      px_let (0 : Int32) fun v1_8 =>
      fn_M_beginsAnew_L40 o
        (fun (s_11 : hp_I) =>
          px_let (0 : Int32) fun v1_12 =>
          fn_M_beginsAnew_L61 o
            (fun (s_30 : hp_I) =>
              px_let (0 : Int32) fun v1_31 =>
              fn_M_beginsAnew_L164 o
                (fun (s_38 : hp_I) =>
                  Option.bind (px_ald s_38 (sh_rf o 12) (2 : Int32)) fun z39 =>
                  Option.bind (px_ast s_38 (sh_rf o 25) (42 : Int32) (((1 : Int32) <<< (z39 &&& 31)) - (1 : Int32))) fun s40 =>
                  px_let (hp_s s40 o 15 (0 : Int32)) fun s41 =>
                  px_let (hp_s s41 o 30 (0 : Int32)) fun s42 =>
                  px_let (hp_s s42 o 31 (0 : Int32)) fun s43 =>
                  px_let (hp_s s43 o 32 (0 : Int32)) fun s44 =>
                  px_let (hp_s s44 o 33 (0 : Int32)) fun s45 =>
                  some s45
                )
                FU v1_31 s_30
            )
            FU v1_12 s_11
        )
        FU v1_8 s7
    )
    FU v1_1 σ
set_option maxHeartbeats 4000000 in
set_option maxRecDepth 100000 in
theorem pf_M_beginsAnew_L2 {G : wd_G} {M : wd_M}  (C : cx_C G M RX12 cX12_beginsAnew 2 1 none) (a0 : Nat) (ha0 : sh_kd a0 = 12)  (τ : hp_L) (k : hp_I → Option (hp_I)) (hk : ∀ (s : hp_I), dn_D G M 2 0 0 (cl_M G M (ci_h τ)) 25 [(0, .ref (wd_b G + a0))] [] s τ (k s)) : ∀ (fu : Nat) (x1 : Int32) (s0 : hp_I), dn_D G M 2 0 0 (cl_M G M (ci_h τ)) 2 [(0, .ref (wd_b G + a0)), (1, .int x1)] [] s0 τ (fn_M_beginsAnew_L2 a0 k fu x1 s0) := by
  intro fu
  induction fu with
  | zero => exact fun x1 s0 => dn_none
  | succ fu ih =>
    intro x1 s0
    unfold fn_M_beginsAnew_L2
    refine dn_iload_n C dX12_beginsAnew_2 rfl 1 rfl rfl ?_
    refine dn_iconst C dX12_beginsAnew_3 ic_i_4 rfl ?_
    refine dn_icmp_ge (t := 25) C dX12_beginsAnew_4 (by decide) rfl ?_ ?_
    · refine dn_aload_n C dX12_beginsAnew_7 rfl 0 rfl rfl ?_
      refine dn_getR C fd_X12_23 ha0 dX12_beginsAnew_8 rfl ?_
      refine dn_iload_n C dX12_beginsAnew_11 rfl 1 rfl rfl ?_
      refine dn_aload_n C dX12_beginsAnew_12 rfl 0 rfl rfl ?_
      refine dn_getR C fd_X12_20 ha0 dX12_beginsAnew_13 rfl ?_
      refine dn_iload_n C dX12_beginsAnew_16 rfl 1 rfl rfl ?_
      refine dn_iald C (kt_12_11 ha0) dX12_beginsAnew_17 rfl (fun z2 => ?_)
      refine dn_iast C (kt_12_12 ha0) dX12_beginsAnew_18 rfl (fun s3 => ?_)
      refine dn_iinc (lv0 := [(0, .ref (wd_b G + a0))]) (v := x1 + 1) C dX12_beginsAnew_19 1 rfl rfl (by decide) rfl rfl (fun v1_4 => ?_)
      refine dn_goto (t := 2) C dX12_beginsAnew_22 (by decide) ?_
      refine dn_pick [1, 0] rfl ?_
      exact ih v1_4 s3
    · refine dn_pick [0] rfl ?_
      exact hk s0
set_option maxHeartbeats 4000000 in
set_option maxRecDepth 100000 in
theorem pf_M_beginsAnew_L40 {G : wd_G} {M : wd_M}  (C : cx_C G M RX12 cX12_beginsAnew 2 1 none) (a0 : Nat) (ha0 : sh_kd a0 = 12)  (τ : hp_L) (k : hp_I → Option (hp_I)) (hk : ∀ (s : hp_I), dn_D G M 2 0 0 (cl_M G M (ci_h τ)) 59 [(0, .ref (wd_b G + a0))] [] s τ (k s)) : ∀ (fu : Nat) (x1 : Int32) (s0 : hp_I), dn_D G M 2 0 0 (cl_M G M (ci_h τ)) 40 [(0, .ref (wd_b G + a0)), (1, .int x1)] [] s0 τ (fn_M_beginsAnew_L40 a0 k fu x1 s0) := by
  intro fu
  induction fu with
  | zero => exact fun x1 s0 => dn_none
  | succ fu ih =>
    intro x1 s0
    unfold fn_M_beginsAnew_L40
    refine dn_iload_n C dX12_beginsAnew_40 rfl 1 rfl rfl ?_
    refine dn_bipush C dX12_beginsAnew_41 ic_b_47 rfl ?_
    refine dn_icmp_ge (t := 59) C dX12_beginsAnew_43 (by decide) rfl ?_ ?_
    · refine dn_aload_n C dX12_beginsAnew_46 rfl 0 rfl rfl ?_
      refine dn_getR C fd_X12_55 ha0 dX12_beginsAnew_47 rfl ?_
      refine dn_iload_n C dX12_beginsAnew_50 rfl 1 rfl rfl ?_
      refine dn_iconst C dX12_beginsAnew_51 ic_i_0 rfl ?_
      refine dn_iast C (kt_12_25 ha0) dX12_beginsAnew_52 rfl (fun s9 => ?_)
      refine dn_iinc (lv0 := [(0, .ref (wd_b G + a0))]) (v := x1 + 1) C dX12_beginsAnew_53 1 rfl rfl (by decide) rfl rfl (fun v1_10 => ?_)
      refine dn_goto (t := 40) C dX12_beginsAnew_56 (by decide) ?_
      refine dn_pick [1, 0] rfl ?_
      exact ih v1_10 s9
    · refine dn_pick [0] rfl ?_
      exact hk s0
set_option maxHeartbeats 4000000 in
set_option maxRecDepth 100000 in
theorem pf_M_beginsAnew_L61 {G : wd_G} {M : wd_M}  (C : cx_C G M RX12 cX12_beginsAnew 2 1 none) (a0 : Nat) (ha0 : sh_kd a0 = 12)  (τ : hp_L) (k : hp_I → Option (hp_I)) (hk : ∀ (s : hp_I), dn_D G M 2 0 0 (cl_M G M (ci_h τ)) 162 [(0, .ref (wd_b G + a0))] [] s τ (k s)) : ∀ (fu : Nat) (x1 : Int32) (s0 : hp_I), dn_D G M 2 0 0 (cl_M G M (ci_h τ)) 61 [(0, .ref (wd_b G + a0)), (1, .int x1)] [] s0 τ (fn_M_beginsAnew_L61 a0 k fu x1 s0) := by
  intro fu
  induction fu with
  | zero => exact fun x1 s0 => dn_none
  | succ fu ih =>
    intro x1 s0
    unfold fn_M_beginsAnew_L61
    refine dn_iload_n C dX12_beginsAnew_61 rfl 1 rfl rfl ?_
    refine dn_bipush C dX12_beginsAnew_62 ic_b_8 rfl ?_
    refine dn_icmp_ge (t := 162) C dX12_beginsAnew_64 (by decide) rfl ?_ ?_
    · refine dn_aload_n C dX12_beginsAnew_67 rfl 0 rfl rfl ?_
      refine dn_getR C fd_X12_55 ha0 dX12_beginsAnew_68 rfl ?_
      refine dn_iconst C dX12_beginsAnew_71 ic_i_0 rfl ?_
      refine dn_iload_n C dX12_beginsAnew_72 rfl 1 rfl rfl ?_
      refine dn_iadd C dX12_beginsAnew_73 rfl ?_
      refine dn_iload_n C dX12_beginsAnew_74 rfl 1 rfl rfl ?_
      refine dn_aload_n C dX12_beginsAnew_75 rfl 0 rfl rfl ?_
      refine dn_getR C fd_X12_23 ha0 dX12_beginsAnew_76 rfl ?_
      refine dn_iconst C dX12_beginsAnew_79 ic_i_2 rfl ?_
      refine dn_iald C (kt_12_12 ha0) dX12_beginsAnew_80 rfl (fun z13 => ?_)
      refine dn_jn (fun z => ∀ (t14 : Int32), dn_D G M 2 0 0 (cl_M G M (ci_h τ)) 100 [(0, .ref (wd_b G + a0)), (1, .int x1)] [.int t14, .int ((0 : Int32) + x1), .ref (wd_b G + sh_rf a0 25)] s0 τ (z t14)) (fun t14 => ?_) (fun j26 hj26 => ?_)
      · refine dn_iast C (kt_12_25 ha0) dX12_beginsAnew_100 rfl (fun s15 => ?_)
        refine dn_aload_n C dX12_beginsAnew_101 rfl 0 rfl rfl ?_
        refine dn_getR C fd_X12_55 ha0 dX12_beginsAnew_102 rfl ?_
        refine dn_bipush C dX12_beginsAnew_105 ic_b_8 rfl ?_
        refine dn_iload_n C dX12_beginsAnew_107 rfl 1 rfl rfl ?_
        refine dn_iadd C dX12_beginsAnew_108 rfl ?_
        refine dn_iload_n C dX12_beginsAnew_109 rfl 1 rfl rfl ?_
        refine dn_aload_n C dX12_beginsAnew_110 rfl 0 rfl rfl ?_
        refine dn_getR C fd_X12_23 ha0 dX12_beginsAnew_111 rfl ?_
        refine dn_iconst C dX12_beginsAnew_114 ic_i_2 rfl ?_
        refine dn_iald C (kt_12_12 ha0) dX12_beginsAnew_115 rfl (fun z16 => ?_)
        refine dn_jn (fun z => ∀ (t17 : Int32), dn_D G M 2 0 0 (cl_M G M (ci_h τ)) 135 [(0, .ref (wd_b G + a0)), (1, .int x1)] [.int t17, .int ((8 : Int32) + x1), .ref (wd_b G + sh_rf a0 25)] s15 τ (z t17)) (fun t17 => ?_) (fun j22 hj22 => ?_)
        · refine dn_iast C (kt_12_25 ha0) dX12_beginsAnew_135 rfl (fun s18 => ?_)
          refine dn_aload_n C dX12_beginsAnew_136 rfl 0 rfl rfl ?_
          refine dn_getR C fd_X12_55 ha0 dX12_beginsAnew_137 rfl ?_
          refine dn_bipush C dX12_beginsAnew_140 ic_b_16 rfl ?_
          refine dn_iload_n C dX12_beginsAnew_142 rfl 1 rfl rfl ?_
          refine dn_iadd C dX12_beginsAnew_143 rfl ?_
          refine dn_iconst C dX12_beginsAnew_144 ic_i_m1 rfl ?_
          refine dn_iast C (kt_12_25 ha0) dX12_beginsAnew_145 rfl (fun s19 => ?_)
          refine dn_aload_n C dX12_beginsAnew_146 rfl 0 rfl rfl ?_
          refine dn_getR C fd_X12_55 ha0 dX12_beginsAnew_147 rfl ?_
          refine dn_bipush C dX12_beginsAnew_150 ic_b_24 rfl ?_
          refine dn_iload_n C dX12_beginsAnew_152 rfl 1 rfl rfl ?_
          refine dn_iadd C dX12_beginsAnew_153 rfl ?_
          refine dn_iconst C dX12_beginsAnew_154 ic_i_m1 rfl ?_
          refine dn_iast C (kt_12_25 ha0) dX12_beginsAnew_155 rfl (fun s20 => ?_)
          refine dn_iinc (lv0 := [(0, .ref (wd_b G + a0))]) (v := x1 + 1) C dX12_beginsAnew_156 1 rfl rfl (by decide) rfl rfl (fun v1_21 => ?_)
          refine dn_goto (t := 61) C dX12_beginsAnew_159 (by decide) ?_
          refine dn_pick [1, 0] rfl ?_
          exact ih v1_21 s20
        · refine dn_icmp_ge (t := 134) C dX12_beginsAnew_116 (by decide) rfl ?_ ?_
          · refine dn_aload_n C dX12_beginsAnew_119 rfl 0 rfl rfl ?_
            refine dn_getR C fd_X12_31 ha0 dX12_beginsAnew_120 rfl ?_
            refine dn_iconst C dX12_beginsAnew_123 ic_i_2 rfl ?_
            refine dn_iload_n C dX12_beginsAnew_124 rfl 1 rfl rfl ?_
            refine dn_callS_i (As := [.int (2 : Int32), .int x1]) (st := [.ref (wd_b G + sh_rf a0 14), .int ((8 : Int32) + x1), .ref (wd_b G + sh_rf a0 25)]) C (ok_M_placeOf (cx_g C) (2 : Int32) x1 s15 τ) mt_X12_placeOf ms_X12_placeOf lk_X12_161 (by decide) rfl ⟨Nat.zero_le _, Nat.zero_le _⟩ (Nat.le_of_ble_eq_true rfl) dX12_beginsAnew_125 rfl rfl (fun z23 => ?_)
            refine dn_aald C (kt_12_14 ha0) dX12_beginsAnew_128 rfl (fun z24 hz24 => ?_)
            refine dn_iconst C dX12_beginsAnew_129 ic_i_1 rfl ?_
            refine dn_iald C (kt_row (kt_12_14 ha0) hz24) dX12_beginsAnew_130 rfl (fun z25 => ?_)
            refine dn_goto (t := 135) C dX12_beginsAnew_131 (by decide) ?_
            exact hj22 z25
          · refine dn_iconst C dX12_beginsAnew_134 ic_i_0 rfl ?_
            exact hj22 (0 : Int32)
      · refine dn_icmp_ge (t := 99) C dX12_beginsAnew_81 (by decide) rfl ?_ ?_
        · refine dn_aload_n C dX12_beginsAnew_84 rfl 0 rfl rfl ?_
          refine dn_getR C fd_X12_31 ha0 dX12_beginsAnew_85 rfl ?_
          refine dn_iconst C dX12_beginsAnew_88 ic_i_2 rfl ?_
          refine dn_iload_n C dX12_beginsAnew_89 rfl 1 rfl rfl ?_
          refine dn_callS_i (As := [.int (2 : Int32), .int x1]) (st := [.ref (wd_b G + sh_rf a0 14), .int ((0 : Int32) + x1), .ref (wd_b G + sh_rf a0 25)]) C (ok_M_placeOf (cx_g C) (2 : Int32) x1 s0 τ) mt_X12_placeOf ms_X12_placeOf lk_X12_161 (by decide) rfl ⟨Nat.zero_le _, Nat.zero_le _⟩ (Nat.le_of_ble_eq_true rfl) dX12_beginsAnew_90 rfl rfl (fun z27 => ?_)
          refine dn_aald C (kt_12_14 ha0) dX12_beginsAnew_93 rfl (fun z28 hz28 => ?_)
          refine dn_iconst C dX12_beginsAnew_94 ic_i_0 rfl ?_
          refine dn_iald C (kt_row (kt_12_14 ha0) hz28) dX12_beginsAnew_95 rfl (fun z29 => ?_)
          refine dn_goto (t := 100) C dX12_beginsAnew_96 (by decide) ?_
          exact hj26 z29
        · refine dn_iconst C dX12_beginsAnew_99 ic_i_0 rfl ?_
          exact hj26 (0 : Int32)
    · refine dn_pick [0] rfl ?_
      exact hk s0
set_option maxHeartbeats 4000000 in
set_option maxRecDepth 100000 in
theorem pf_M_beginsAnew_L164 {G : wd_G} {M : wd_M}  (C : cx_C G M RX12 cX12_beginsAnew 2 1 none) (a0 : Nat) (ha0 : sh_kd a0 = 12)  (τ : hp_L) (k : hp_I → Option (hp_I)) (hk : ∀ (s : hp_I), dn_D G M 2 0 0 (cl_M G M (ci_h τ)) 201 [(0, .ref (wd_b G + a0))] [] s τ (k s)) : ∀ (fu : Nat) (x1 : Int32) (s0 : hp_I), dn_D G M 2 0 0 (cl_M G M (ci_h τ)) 164 [(0, .ref (wd_b G + a0)), (1, .int x1)] [] s0 τ (fn_M_beginsAnew_L164 a0 k fu x1 s0) := by
  intro fu
  induction fu with
  | zero => exact fun x1 s0 => dn_none
  | succ fu ih =>
    intro x1 s0
    unfold fn_M_beginsAnew_L164
    refine dn_iload_n C dX12_beginsAnew_164 rfl 1 rfl rfl ?_
    refine dn_aload_n C dX12_beginsAnew_165 rfl 0 rfl rfl ?_
    refine dn_getR C fd_X12_23 ha0 dX12_beginsAnew_166 rfl ?_
    refine dn_iconst C dX12_beginsAnew_169 ic_i_3 rfl ?_
    refine dn_iald C (kt_12_12 ha0) dX12_beginsAnew_170 rfl (fun z32 => ?_)
    refine dn_icmp_ge (t := 201) C dX12_beginsAnew_171 (by decide) rfl ?_ ?_
    · refine dn_aload_n C dX12_beginsAnew_174 rfl 0 rfl rfl ?_
      refine dn_getR C fd_X12_55 ha0 dX12_beginsAnew_175 rfl ?_
      refine dn_bipush C dX12_beginsAnew_178 ic_b_32 rfl ?_
      refine dn_iload_n C dX12_beginsAnew_180 rfl 1 rfl rfl ?_
      refine dn_iadd C dX12_beginsAnew_181 rfl ?_
      refine dn_aload_n C dX12_beginsAnew_182 rfl 0 rfl rfl ?_
      refine dn_getR C fd_X12_31 ha0 dX12_beginsAnew_183 rfl ?_
      refine dn_iconst C dX12_beginsAnew_186 ic_i_3 rfl ?_
      refine dn_iload_n C dX12_beginsAnew_187 rfl 1 rfl rfl ?_
      refine dn_callS_i (As := [.int (3 : Int32), .int x1]) (st := [.ref (wd_b G + sh_rf a0 14), .int ((32 : Int32) + x1), .ref (wd_b G + sh_rf a0 25)]) C (ok_M_placeOf (cx_g C) (3 : Int32) x1 s0 τ) mt_X12_placeOf ms_X12_placeOf lk_X12_161 (by decide) rfl ⟨Nat.zero_le _, Nat.zero_le _⟩ (Nat.le_of_ble_eq_true rfl) dX12_beginsAnew_188 rfl rfl (fun z33 => ?_)
      refine dn_aald C (kt_12_14 ha0) dX12_beginsAnew_191 rfl (fun z34 hz34 => ?_)
      refine dn_iconst C dX12_beginsAnew_192 ic_i_0 rfl ?_
      refine dn_iald C (kt_row (kt_12_14 ha0) hz34) dX12_beginsAnew_193 rfl (fun z35 => ?_)
      refine dn_iast C (kt_12_25 ha0) dX12_beginsAnew_194 rfl (fun s36 => ?_)
      refine dn_iinc (lv0 := [(0, .ref (wd_b G + a0))]) (v := x1 + 1) C dX12_beginsAnew_195 1 rfl rfl (by decide) rfl rfl (fun v1_37 => ?_)
      refine dn_goto (t := 164) C dX12_beginsAnew_198 (by decide) ?_
      refine dn_pick [1, 0] rfl ?_
      exact ih v1_37 s36
    · refine dn_pick [0] rfl ?_
      exact hk s0
set_option maxHeartbeats 4000000 in
set_option maxRecDepth 100000 in
theorem ok_M_beginsAnew {G : wd_G} {l : Launch} (hN : gd_ok G)  (o : Nat) (ho : sh_kd o = 12) (σ : hp_I) (τ : hp_L) : cl_C G l 1 yX12_beginsAnew cX12_beginsAnew 2 none [.ref (wd_b G + o)] σ τ (ci_h τ) (fn_M_beginsAnew o σ) := by
  refine cl_of (lv0 := [(0, .ref (wd_b G + o))]) (ci_h τ) (by decide) (Nat.le_of_ble_eq_true rfl) rfl hN (fun M hM C => ?_)
  have C : cx_C G M RX12 cX12_beginsAnew 2 1 none := C
  unfold fn_M_beginsAnew
  refine dn_iconst C dX12_beginsAnew_0 ic_i_0 rfl ?_
  refine dn_istore_n (lv0 := [(0, .ref (wd_b G + o))]) C dX12_beginsAnew_1 rfl (by decide) rfl rfl (fun v1_1 => ?_)
  refine dn_pick [1, 0] rfl ?_
  refine pf_M_beginsAnew_L2  C  o ho  τ _ (fun s_5 => ?_) FU v1_1 σ
  refine dn_aload_n C dX12_beginsAnew_25 rfl 0 rfl rfl ?_
  refine dn_getR C fd_X12_28 ho dX12_beginsAnew_26 rfl ?_
  refine dn_aload_n C dX12_beginsAnew_29 rfl 0 rfl rfl ?_
  refine dn_getR C fd_X12_31 ho dX12_beginsAnew_30 rfl ?_
  refine dn_bipush C dX12_beginsAnew_33 ic_b_48 rfl ?_
  refine dn_callS_h (As := [.ref (wd_b G + sh_rf o 13), .ref (wd_b G + sh_rf o 14), .int (48 : Int32)]) (st := []) C (ok_M_lays (cx_g C) (sh_rf o 13) (kt_12_13 ho) (sh_rf o 14) (kt_12_14 ho) (48 : Int32) s_5 τ) mt_X12_lays ms_X12_lays lk_X12_185 (by decide) rfl ⟨Nat.zero_le _, Nat.zero_le _⟩ (Nat.le_of_ble_eq_true rfl) dX12_beginsAnew_35 rfl rfl (fun s7 => ?_)
  refine dn_iconst C dX12_beginsAnew_38 ic_i_0 rfl ?_
  refine dn_istore_n (lv0 := [(0, .ref (wd_b G + o))]) C dX12_beginsAnew_39 rfl (by decide) rfl rfl (fun v1_8 => ?_)
  refine dn_pick [1, 0] rfl ?_
  refine pf_M_beginsAnew_L40  C  o ho  τ _ (fun s_11 => ?_) FU v1_8 s7
  refine dn_iconst C dX12_beginsAnew_59 ic_i_0 rfl ?_
  refine dn_istore_n (lv0 := [(0, .ref (wd_b G + o))]) C dX12_beginsAnew_60 rfl (by decide) rfl rfl (fun v1_12 => ?_)
  refine dn_pick [1, 0] rfl ?_
  refine pf_M_beginsAnew_L61  C  o ho  τ _ (fun s_30 => ?_) FU v1_12 s_11
  refine dn_iconst C dX12_beginsAnew_162 ic_i_0 rfl ?_
  refine dn_istore_n (lv0 := [(0, .ref (wd_b G + o))]) C dX12_beginsAnew_163 rfl (by decide) rfl rfl (fun v1_31 => ?_)
  refine dn_pick [1, 0] rfl ?_
  refine pf_M_beginsAnew_L164  C  o ho  τ _ (fun s_38 => ?_) FU v1_31 s_30
  refine dn_aload_n C dX12_beginsAnew_201 rfl 0 rfl rfl ?_
  refine dn_getR C fd_X12_55 ho dX12_beginsAnew_202 rfl ?_
  refine dn_bipush C dX12_beginsAnew_205 ic_b_42 rfl ?_
  refine dn_iconst C dX12_beginsAnew_207 ic_i_1 rfl ?_
  refine dn_aload_n C dX12_beginsAnew_208 rfl 0 rfl rfl ?_
  refine dn_getR C fd_X12_23 ho dX12_beginsAnew_209 rfl ?_
  refine dn_iconst C dX12_beginsAnew_212 ic_i_2 rfl ?_
  refine dn_iald C (kt_12_12 ho) dX12_beginsAnew_213 rfl (fun z39 => ?_)
  refine dn_ishl C dX12_beginsAnew_214 rfl ?_
  refine dn_iconst C dX12_beginsAnew_215 ic_i_1 rfl ?_
  refine dn_isub C dX12_beginsAnew_216 rfl ?_
  refine dn_iast C (kt_12_25 ho) dX12_beginsAnew_217 rfl (fun s40 => ?_)
  refine dn_aload_n C dX12_beginsAnew_218 rfl 0 rfl rfl ?_
  refine dn_iconst C dX12_beginsAnew_219 ic_i_0 rfl ?_
  refine dn_putI C fp_X12_189 ho dX12_beginsAnew_220 rfl (fun s41 => ?_)
  refine dn_aload_n C dX12_beginsAnew_223 rfl 0 rfl rfl ?_
  refine dn_iconst C dX12_beginsAnew_224 ic_i_0 rfl ?_
  refine dn_putI C fp_X12_192 ho dX12_beginsAnew_225 rfl (fun s42 => ?_)
  refine dn_aload_n C dX12_beginsAnew_228 rfl 0 rfl rfl ?_
  refine dn_iconst C dX12_beginsAnew_229 ic_i_0 rfl ?_
  refine dn_putI C fp_X12_195 ho dX12_beginsAnew_230 rfl (fun s43 => ?_)
  refine dn_aload_n C dX12_beginsAnew_233 rfl 0 rfl rfl ?_
  refine dn_iconst C dX12_beginsAnew_234 ic_i_0 rfl ?_
  refine dn_putI C fp_X12_198 ho dX12_beginsAnew_235 rfl (fun s44 => ?_)
  refine dn_aload_n C dX12_beginsAnew_238 rfl 0 rfl rfl ?_
  refine dn_iconst C dX12_beginsAnew_239 ic_i_0 rfl ?_
  refine dn_putI C fp_X12_201 ho dX12_beginsAnew_240 rfl (fun s45 => ?_)
  exact dn_vret C dX12_beginsAnew_243 rfl
def fn_M_blanks_L0  (a0 : Nat) (k : hp_I → Option (hp_I)) : Nat → hp_I → Option (hp_I)
  | 0, _ => none
  | fu + 1, s0 =>
    Option.bind (fn_M_byteAt a0 (s0 a0 4) s0) fun z1 =>
    if z1 = (32 : Int32) then (
      px_let (hp_s s0 a0 4 ((s0 a0 4) + (1 : Int32))) fun s2 =>
      fn_M_blanks_L0 a0 k fu s2
    ) else (
      k s0
    )
def fn_M_blanks  (o : Nat) (σ : hp_I) : Option (hp_I) :=
  fn_M_blanks_L0 o
    (fun (s_3 : hp_I) =>
      some s_3
    )
    FU σ
set_option maxHeartbeats 4000000 in
set_option maxRecDepth 100000 in
theorem pf_M_blanks_L0 {G : wd_G} {M : wd_M}  (C : cx_C G M RX12 cX12_blanks 1 1 none) (a0 : Nat) (ha0 : sh_kd a0 = 12)  (τ : hp_L) (k : hp_I → Option (hp_I)) (hk : ∀ (s : hp_I), dn_D G M 1 0 0 (cl_M G M (ci_h τ)) 26 [] [] s τ (k s)) : ∀ (fu : Nat) (s0 : hp_I), dn_D G M 1 0 0 (cl_M G M (ci_h τ)) 0 [(0, .ref (wd_b G + a0))] [] s0 τ (fn_M_blanks_L0 a0 k fu s0) := by
  intro fu
  induction fu with
  | zero => exact fun s0 => dn_none
  | succ fu ih =>
    intro s0
    unfold fn_M_blanks_L0
    refine dn_aload_n C dX12_blanks_0 rfl 0 rfl rfl ?_
    refine dn_aload_n C dX12_blanks_1 rfl 0 rfl rfl ?_
    refine dn_getI C fd_X12_102 ha0 dX12_blanks_2 rfl ?_
    refine dn_callV_i (As := [.int (s0 a0 4)]) (st := []) C (ok_M_byteAt (cx_g C) a0 ha0 (s0 a0 4) s0 τ) mt_X12_byteAt mv_X12_byteAt lk_X12_105 (by decide) ha0 rfl ⟨Nat.zero_le _, Nat.zero_le _⟩ (Nat.le_of_ble_eq_true rfl) dX12_blanks_5 rfl rfl (fun z1 => ?_)
    refine dn_bipush C dX12_blanks_8 ic_b_32 rfl ?_
    refine dn_icmp_ne (t := 26) C dX12_blanks_10 (by decide) rfl ?_ ?_
    · refine dn_aload_n C dX12_blanks_13 rfl 0 rfl rfl ?_
      refine dn_dup C dX12_blanks_14 rfl rfl ?_
      refine dn_getI C fd_X12_102 ha0 dX12_blanks_15 rfl ?_
      refine dn_iconst C dX12_blanks_18 ic_i_1 rfl ?_
      refine dn_iadd C dX12_blanks_19 rfl ?_
      refine dn_putI C fp_X12_102 ha0 dX12_blanks_20 rfl (fun s2 => ?_)
      refine dn_goto (t := 0) C dX12_blanks_23 (by decide) ?_
      exact ih s2
    · refine dn_pick [] rfl ?_
      exact hk s0
set_option maxHeartbeats 4000000 in
set_option maxRecDepth 100000 in
theorem ok_M_blanks {G : wd_G} {l : Launch} (hN : gd_ok G)  (o : Nat) (ho : sh_kd o = 12) (σ : hp_I) (τ : hp_L) : cl_C G l 1 yX12_blanks cX12_blanks 1 none [.ref (wd_b G + o)] σ τ (ci_h τ) (fn_M_blanks o σ) := by
  refine cl_of (lv0 := [(0, .ref (wd_b G + o))]) (ci_h τ) (by decide) (Nat.le_of_ble_eq_true rfl) rfl hN (fun M hM C => ?_)
  have C : cx_C G M RX12 cX12_blanks 1 1 none := C
  unfold fn_M_blanks
  refine pf_M_blanks_L0  C  o ho  τ _ (fun s_3 => ?_) FU σ
  exact dn_vret C dX12_blanks_26 rfl
def fn_M_boat_L64  (a0 : Nat) (a1 : Int32) (a2 : Int32) (a3 : Int32) (a4 : Int32) (σ : hp_I) (k : hp_L → Option (Int64 × hp_I × hp_L)) : Nat → Int32 → hp_L → Option (Int64 × hp_I × hp_L)
  | 0, _, _ => none
  | fu + 1, x5, u0 =>
    if x5 < (14 : Int32) then (
      px_jn (fun (t7 : Int64) =>
        Option.bind (px_lst u0 (sh_rf a0 43) x5 t7) fun u8 =>
        px_let (x5 + 1) fun v5_9 =>
        fn_M_boat_L64 a0 a1 a2 a3 a4 σ k fu v5_9 u8
      ) fun j10 =>
        if x5 = 0 then (
          j10 (1 : Int64)
        ) else (
          j10 (0 : Int64)
        )
    ) else (
      k u0
    )
def fn_M_boat_L107  (a0 : Nat) (a1 : Int32) (a2 : Int32) (a3 : Int32) (a4 : Int32) (a5 : Int32) (σ : hp_I) (k : hp_L → Option (Int64 × hp_I × hp_L)) : Nat → Int32 → hp_L → Option (Int64 × hp_I × hp_L)
  | 0, _, _ => none
  | fu + 1, x6, u0 =>
    if 0 ≤ x6 then (
      Option.bind (px_lld u0 (sh_rf a0 43) x6) fun z14 =>
      px_jn (fun (t15 : Int64) =>
        Option.bind (px_lst u0 (sh_rf a0 43) x6 ((z14 * a3.toInt64) + t15)) fun u16 =>
        px_let (x6 + (-1)) fun v6_17 =>
        fn_M_boat_L107 a0 a1 a2 a3 a4 a5 σ k fu v6_17 u16
      ) fun j18 =>
        if 0 < x6 then (
          Option.bind (px_lld u0 (sh_rf a0 43) (x6 - (1 : Int32))) fun z19 =>
          j18 (z19 * (((16 : Int32) - a3).toInt64))
        ) else (
          j18 (0 : Int64)
        )
    ) else (
      k u0
    )
def fn_M_boat_L97  (a0 : Nat) (a1 : Int32) (a2 : Int32) (a3 : Int32) (a4 : Int32) (σ : hp_I) (k : hp_L → Option (Int64 × hp_I × hp_L)) : Nat → Int32 → hp_L → Option (Int64 × hp_I × hp_L)
  | 0, _, _ => none
  | fu + 1, x5, u0 =>
    if x5 < a1 then (
      px_let (13 : Int32) fun v6_13 =>
      fn_M_boat_L107 a0 a1 a2 a3 a4 x5 σ
        (fun (u_20 : hp_L) =>
          px_let (x5 + 1) fun v5_21 =>
          fn_M_boat_L97 a0 a1 a2 a3 a4 σ k fu v5_21 u_20
        )
        FU v6_13 u0
    ) else (
      k u0
    )
def fn_M_boat_L179  (a0 : Nat) (a4 : Int32) (a7 : Int64) (σ : hp_I) (τ : hp_L) (k : Int64 → Option (Int64 × hp_I × hp_L)) : Nat → Int64 → Int32 → Option (Int64 × hp_I × hp_L)
  | 0, _, _ => none
  | fu + 1, x5, x9 =>
    if x9 < (14 : Int32) then (
      Option.bind (px_lld τ (sh_rf a0 43) x9) fun z26 =>
      px_let (x5 + z26) fun v5_27 =>
      px_let (x9 + 1) fun v9_28 =>
      fn_M_boat_L179 a0 a4 a7 σ τ k fu v5_27 v9_28
    ) else (
      k x5
    )
def fn_M_boat_L212  (a4 : Int32) (a5 : Int64) (a7 : Int64) (σ : hp_I) (τ : hp_L) (k : Int64 → Option (Int64 × hp_I × hp_L)) : Nat → Int64 → Int64 → Option (Int64 × hp_I × hp_L)
  | 0, _, _ => none
  | fu + 1, x9, x11 =>
    if (lg_cmp x11 (0 : Int64)) = 0 then (
      k x9
    ) else (
      Option.bind (px_lrm x9 x11) fun z32 =>
      px_let z32 fun v13_33 =>
      px_let x11 fun v9_34 =>
      px_let v13_33 fun v11_35 =>
      fn_M_boat_L212 a4 a5 a7 σ τ k fu v9_34 v11_35
    )
def fn_M_boat  (o : Nat) (p1 : Int32) (p2 : Int32) (p3 : Int32) (p4 : Int32) (σ : hp_I) (τ : hp_L) : Option (Int64 × hp_I × hp_L) :=
  px_let (hp_s σ o 0 (0 : Int32)) fun s1 =>
  Option.bind (fn_M_in p1 (0 : Int32) (12 : Int32)) fun z2 =>
  px_jn (fun (t3 : Int32) =>
    px_b2 (fn_M_bad o t3 (1 : Int32) (1 : Int32) s1) fun z4 s5 =>
    if z4 = 0 then (
      px_let (0 : Int32) fun v5_6 =>
      fn_M_boat_L64 o p1 p2 p3 p4 s5
        (fun (u_11 : hp_L) =>
          px_let (0 : Int32) fun v5_12 =>
          fn_M_boat_L97 o p1 p2 p3 p4 s5
            (fun (u_22 : hp_L) =>
              px_let (0 : Int64) fun v5_23 =>
              px_let ((1 : Int64) <<< (((4 : Int32) * p1).toInt64 &&& 63)) fun v7_24 =>
              px_let p2 fun v9_25 =>
              fn_M_boat_L179 o p4 v7_24 s5 u_22
                (fun (y_29 : Int64) =>
                  px_let v7_24 fun v9_30 =>
                  px_let y_29 fun v11_31 =>
                  fn_M_boat_L212 p4 y_29 v7_24 s5 u_22
                    (fun (y_36 : Int64) =>
                      px_jn (fun (t37 : Int64) =>
                        some (t37, s5, u_22)
                      ) fun j38 =>
                        if p4 = 0 then (
                          Option.bind (px_ldv y_29 y_36) fun z39 =>
                          j38 z39
                        ) else (
                          Option.bind (px_ldv v7_24 y_36) fun z40 =>
                          j38 z40
                        )
                    )
                    FU v9_30 v11_31
                )
                FU v5_23 v9_25
            )
            FU v5_12 u_11
        )
        FU v5_6 τ
    ) else (
      some ((0 : Int64), s5, τ)
    )
  ) fun j41 =>
    px_jn (
      j41 (1 : Int32)
    ) fun j42 =>
      if z2 = 0 then (
        j42
      ) else (
        Option.bind (fn_M_in p2 (0 : Int32) (13 : Int32)) fun z43 =>
        if z43 = 0 then (
          j42
        ) else (
          Option.bind (fn_M_in p3 (0 : Int32) (16 : Int32)) fun z44 =>
          if z44 = 0 then (
            j42
          ) else (
            Option.bind (fn_M_in p4 (0 : Int32) (1 : Int32)) fun z45 =>
            if z45 = 0 then (
              j42
            ) else (
              j41 (0 : Int32)
            )
          )
        )
      )
set_option maxHeartbeats 4000000 in
set_option maxRecDepth 100000 in
theorem pf_M_boat_L64 {G : wd_G} {M : wd_M}  (C : cx_C G M RX12 cX12_boat 15 1 (some .long)) (a0 : Nat) (ha0 : sh_kd a0 = 12) (a1 : Int32) (a2 : Int32) (a3 : Int32) (a4 : Int32) (σ : hp_I) (τ : hp_L) (k : hp_L → Option (Int64 × hp_I × hp_L)) (hk : ∀ (u : hp_L), dn_D G M 15 0 0 (cl_M G M (ci_lh)) 94 [(0, .ref (wd_b G + a0)), (1, .int a1), (2, .int a2), (3, .int a3), (4, .int a4)] [] σ u (k u)) : ∀ (fu : Nat) (x5 : Int32) (u0 : hp_L), dn_D G M 15 0 0 (cl_M G M (ci_lh)) 64 [(0, .ref (wd_b G + a0)), (1, .int a1), (2, .int a2), (3, .int a3), (4, .int a4), (5, .int x5)] [] σ u0 (fn_M_boat_L64 a0 a1 a2 a3 a4 σ k fu x5 u0) := by
  intro fu
  induction fu with
  | zero => exact fun x5 u0 => dn_none
  | succ fu ih =>
    intro x5 u0
    unfold fn_M_boat_L64
    refine dn_iload C dX12_boat_64 5 rfl rfl ?_
    refine dn_bipush C dX12_boat_66 ic_b_14 rfl ?_
    refine dn_icmp_ge (t := 94) C dX12_boat_68 (by decide) rfl ?_ ?_
    · refine dn_aload_n C dX12_boat_71 rfl 0 rfl rfl ?_
      refine dn_getR C fd_X12_83 ha0 dX12_boat_72 rfl ?_
      refine dn_iload C dX12_boat_75 5 rfl rfl ?_
      refine dn_iload C dX12_boat_77 5 rfl rfl ?_
      refine dn_jn (fun z => ∀ (t7 : Int64), dn_D G M 15 0 0 (cl_M G M (ci_lh)) 87 [(0, .ref (wd_b G + a0)), (1, .int a1), (2, .int a2), (3, .int a3), (4, .int a4), (5, .int x5)] [.long t7, .int x5, .ref (wd_b G + sh_rf a0 43)] σ u0 (z t7)) (fun t7 => ?_) (fun j10 hj10 => ?_)
      · refine dn_last C (kt_12_43 ha0) (Nat.lt_of_lt_of_le (kn_12_43 ha0) (cx_N C)) dX12_boat_87 rfl (fun u8 => ?_)
        refine dn_iinc (lv0 := [(0, .ref (wd_b G + a0)), (1, .int a1), (2, .int a2), (3, .int a3), (4, .int a4)]) (v := x5 + 1) C dX12_boat_88 5 rfl rfl (by decide) rfl rfl (fun v5_9 => ?_)
        refine dn_goto (t := 64) C dX12_boat_91 (by decide) ?_
        refine dn_pick [1, 2, 3, 4, 5, 0] rfl ?_
        exact ih v5_9 u8
      · refine dn_if_ne (t := 86) C dX12_boat_79 (by decide) rfl ?_ ?_
        · refine dn_lconst (v := 1) C dX12_boat_82 (by decide) rfl ?_
          refine dn_goto (t := 87) C dX12_boat_83 (by decide) ?_
          exact hj10 (1 : Int64)
        · refine dn_lconst (v := 0) C dX12_boat_86 (by decide) rfl ?_
          exact hj10 (0 : Int64)
    · refine dn_pick [0, 1, 2, 3, 4] rfl ?_
      exact hk u0
set_option maxHeartbeats 4000000 in
set_option maxRecDepth 100000 in
theorem pf_M_boat_L107 {G : wd_G} {M : wd_M}  (C : cx_C G M RX12 cX12_boat 15 1 (some .long)) (a0 : Nat) (ha0 : sh_kd a0 = 12) (a1 : Int32) (a2 : Int32) (a3 : Int32) (a4 : Int32) (a5 : Int32) (σ : hp_I) (τ : hp_L) (k : hp_L → Option (Int64 × hp_I × hp_L)) (hk : ∀ (u : hp_L), dn_D G M 15 0 0 (cl_M G M (ci_lh)) 160 [(0, .ref (wd_b G + a0)), (1, .int a1), (2, .int a2), (3, .int a3), (4, .int a4), (5, .int a5)] [] σ u (k u)) : ∀ (fu : Nat) (x6 : Int32) (u0 : hp_L), dn_D G M 15 0 0 (cl_M G M (ci_lh)) 107 [(0, .ref (wd_b G + a0)), (1, .int a1), (2, .int a2), (3, .int a3), (4, .int a4), (5, .int a5), (6, .int x6)] [] σ u0 (fn_M_boat_L107 a0 a1 a2 a3 a4 a5 σ k fu x6 u0) := by
  intro fu
  induction fu with
  | zero => exact fun x6 u0 => dn_none
  | succ fu ih =>
    intro x6 u0
    unfold fn_M_boat_L107
    refine dn_iload C dX12_boat_107 6 rfl rfl ?_
    refine dn_if_lt (t := 160) C dX12_boat_109 (by decide) rfl ?_ ?_
    · refine dn_aload_n C dX12_boat_112 rfl 0 rfl rfl ?_
      refine dn_getR C fd_X12_83 ha0 dX12_boat_113 rfl ?_
      refine dn_iload C dX12_boat_116 6 rfl rfl ?_
      refine dn_aload_n C dX12_boat_118 rfl 0 rfl rfl ?_
      refine dn_getR C fd_X12_83 ha0 dX12_boat_119 rfl ?_
      refine dn_iload C dX12_boat_122 6 rfl rfl ?_
      refine dn_lald C (kt_12_43 ha0) (Nat.lt_of_lt_of_le (kn_12_43 ha0) (cx_N C)) dX12_boat_124 rfl (fun z14 => ?_)
      refine dn_iload_n C dX12_boat_125 rfl 3 rfl rfl ?_
      refine dn_i2l C dX12_boat_126 rfl ?_
      refine dn_lmul C dX12_boat_127 rfl ?_
      refine dn_iload C dX12_boat_128 6 rfl rfl ?_
      refine dn_jn (fun z => ∀ (t15 : Int64), dn_D G M 15 0 0 (cl_M G M (ci_lh)) 152 [(0, .ref (wd_b G + a0)), (1, .int a1), (2, .int a2), (3, .int a3), (4, .int a4), (5, .int a5), (6, .int x6)] [.long t15, .long (z14 * a3.toInt64), .int x6, .ref (wd_b G + sh_rf a0 43)] σ u0 (z t15)) (fun t15 => ?_) (fun j18 hj18 => ?_)
      · refine dn_ladd C dX12_boat_152 rfl ?_
        refine dn_last C (kt_12_43 ha0) (Nat.lt_of_lt_of_le (kn_12_43 ha0) (cx_N C)) dX12_boat_153 rfl (fun u16 => ?_)
        refine dn_iinc (lv0 := [(0, .ref (wd_b G + a0)), (1, .int a1), (2, .int a2), (3, .int a3), (4, .int a4), (5, .int a5)]) (v := x6 + (-1)) C dX12_boat_154 6 rfl rfl (by decide) rfl rfl (fun v6_17 => ?_)
        refine dn_goto (t := 107) C dX12_boat_157 (by decide) ?_
        refine dn_pick [1, 2, 3, 4, 5, 6, 0] rfl ?_
        exact ih v6_17 u16
      · refine dn_if_le (t := 151) C dX12_boat_130 (by decide) rfl ?_ ?_
        · refine dn_aload_n C dX12_boat_133 rfl 0 rfl rfl ?_
          refine dn_getR C fd_X12_83 ha0 dX12_boat_134 rfl ?_
          refine dn_iload C dX12_boat_137 6 rfl rfl ?_
          refine dn_iconst C dX12_boat_139 ic_i_1 rfl ?_
          refine dn_isub C dX12_boat_140 rfl ?_
          refine dn_lald C (kt_12_43 ha0) (Nat.lt_of_lt_of_le (kn_12_43 ha0) (cx_N C)) dX12_boat_141 rfl (fun z19 => ?_)
          refine dn_bipush C dX12_boat_142 ic_b_16 rfl ?_
          refine dn_iload_n C dX12_boat_144 rfl 3 rfl rfl ?_
          refine dn_isub C dX12_boat_145 rfl ?_
          refine dn_i2l C dX12_boat_146 rfl ?_
          refine dn_lmul C dX12_boat_147 rfl ?_
          refine dn_goto (t := 152) C dX12_boat_148 (by decide) ?_
          exact hj18 (z19 * (((16 : Int32) - a3).toInt64))
        · refine dn_lconst (v := 0) C dX12_boat_151 (by decide) rfl ?_
          exact hj18 (0 : Int64)
    · refine dn_pick [0, 1, 2, 3, 4, 5] rfl ?_
      exact hk u0
set_option maxHeartbeats 4000000 in
set_option maxRecDepth 100000 in
theorem pf_M_boat_L97 {G : wd_G} {M : wd_M}  (C : cx_C G M RX12 cX12_boat 15 1 (some .long)) (a0 : Nat) (ha0 : sh_kd a0 = 12) (a1 : Int32) (a2 : Int32) (a3 : Int32) (a4 : Int32) (σ : hp_I) (τ : hp_L) (k : hp_L → Option (Int64 × hp_I × hp_L)) (hk : ∀ (u : hp_L), dn_D G M 15 0 0 (cl_M G M (ci_lh)) 166 [(0, .ref (wd_b G + a0)), (1, .int a1), (2, .int a2), (4, .int a4)] [] σ u (k u)) : ∀ (fu : Nat) (x5 : Int32) (u0 : hp_L), dn_D G M 15 0 0 (cl_M G M (ci_lh)) 97 [(0, .ref (wd_b G + a0)), (1, .int a1), (2, .int a2), (3, .int a3), (4, .int a4), (5, .int x5)] [] σ u0 (fn_M_boat_L97 a0 a1 a2 a3 a4 σ k fu x5 u0) := by
  intro fu
  induction fu with
  | zero => exact fun x5 u0 => dn_none
  | succ fu ih =>
    intro x5 u0
    unfold fn_M_boat_L97
    refine dn_iload C dX12_boat_97 5 rfl rfl ?_
    refine dn_iload_n C dX12_boat_99 rfl 1 rfl rfl ?_
    refine dn_icmp_ge (t := 166) C dX12_boat_100 (by decide) rfl ?_ ?_
    · refine dn_bipush C dX12_boat_103 ic_b_13 rfl ?_
      refine dn_istore (lv0 := [(0, .ref (wd_b G + a0)), (1, .int a1), (2, .int a2), (3, .int a3), (4, .int a4), (5, .int x5)]) C dX12_boat_105 (by decide) rfl rfl (fun v6_13 => ?_)
      refine dn_pick [1, 2, 3, 4, 5, 6, 0] rfl ?_
      refine pf_M_boat_L107  C  a0 ha0 a1 a2 a3 a4 x5 σ u0 _ (fun u_20 => ?_) FU v6_13 u0
      refine dn_iinc (lv0 := [(0, .ref (wd_b G + a0)), (1, .int a1), (2, .int a2), (3, .int a3), (4, .int a4)]) (v := x5 + 1) C dX12_boat_160 5 rfl rfl (by decide) rfl rfl (fun v5_21 => ?_)
      refine dn_goto (t := 97) C dX12_boat_163 (by decide) ?_
      refine dn_pick [1, 2, 3, 4, 5, 0] rfl ?_
      exact ih v5_21 u_20
    · refine dn_pick [0, 1, 2, 4] rfl ?_
      exact hk u0
set_option maxHeartbeats 4000000 in
set_option maxRecDepth 100000 in
theorem pf_M_boat_L179 {G : wd_G} {M : wd_M}  (C : cx_C G M RX12 cX12_boat 15 1 (some .long)) (a0 : Nat) (ha0 : sh_kd a0 = 12) (a4 : Int32) (a7 : Int64) (σ : hp_I) (τ : hp_L) (k : Int64 → Option (Int64 × hp_I × hp_L)) (hk : ∀ (y5 : Int64), dn_D G M 15 0 0 (cl_M G M (ci_lh)) 204 [(4, .int a4), (5, .long y5), (7, .long a7)] [] σ τ (k y5)) : ∀ (fu : Nat) (x5 : Int64) (x9 : Int32), dn_D G M 15 0 0 (cl_M G M (ci_lh)) 179 [(0, .ref (wd_b G + a0)), (4, .int a4), (5, .long x5), (7, .long a7), (9, .int x9)] [] σ τ (fn_M_boat_L179 a0 a4 a7 σ τ k fu x5 x9) := by
  intro fu
  induction fu with
  | zero => exact fun x5 x9 => dn_none
  | succ fu ih =>
    intro x5 x9
    unfold fn_M_boat_L179
    refine dn_iload C dX12_boat_179 4 rfl rfl ?_
    refine dn_bipush C dX12_boat_181 ic_b_14 rfl ?_
    refine dn_icmp_ge (t := 204) C dX12_boat_183 (by decide) rfl ?_ ?_
    · refine dn_lload C dX12_boat_186 2 rfl rfl ?_
      refine dn_aload_n C dX12_boat_188 rfl 0 rfl rfl ?_
      refine dn_getR C fd_X12_83 ha0 dX12_boat_189 rfl ?_
      refine dn_iload C dX12_boat_192 4 rfl rfl ?_
      refine dn_lald C (kt_12_43 ha0) (Nat.lt_of_lt_of_le (kn_12_43 ha0) (cx_N C)) dX12_boat_194 rfl (fun z26 => ?_)
      refine dn_ladd C dX12_boat_195 rfl ?_
      refine dn_lstore (lv0 := [(0, .ref (wd_b G + a0)), (4, .int a4), (7, .long a7), (9, .int x9)]) C dX12_boat_196 (by decide) rfl rfl (fun v5_27 => ?_)
      refine dn_iinc (lv0 := [(5, .long v5_27), (0, .ref (wd_b G + a0)), (4, .int a4), (7, .long a7)]) (v := x9 + 1) C dX12_boat_198 4 rfl rfl (by decide) rfl rfl (fun v9_28 => ?_)
      refine dn_goto (t := 179) C dX12_boat_201 (by decide) ?_
      refine dn_pick [2, 3, 1, 4, 0] rfl ?_
      exact ih v5_27 v9_28
    · refine dn_pick [1, 2, 3] rfl ?_
      exact hk x5
set_option maxHeartbeats 4000000 in
set_option maxRecDepth 100000 in
theorem pf_M_boat_L212 {G : wd_G} {M : wd_M}  (C : cx_C G M RX12 cX12_boat 15 1 (some .long)) (a4 : Int32) (a5 : Int64) (a7 : Int64) (σ : hp_I) (τ : hp_L) (k : Int64 → Option (Int64 × hp_I × hp_L)) (hk : ∀ (y9 : Int64), dn_D G M 15 0 0 (cl_M G M (ci_lh)) 237 [(4, .int a4), (5, .long a5), (7, .long a7), (9, .long y9)] [] σ τ (k y9)) : ∀ (fu : Nat) (x9 : Int64) (x11 : Int64), dn_D G M 15 0 0 (cl_M G M (ci_lh)) 212 [(4, .int a4), (5, .long a5), (7, .long a7), (9, .long x9), (11, .long x11)] [] σ τ (fn_M_boat_L212 a4 a5 a7 σ τ k fu x9 x11) := by
  intro fu
  induction fu with
  | zero => exact fun x9 x11 => dn_none
  | succ fu ih =>
    intro x9 x11
    unfold fn_M_boat_L212
    refine dn_lload C dX12_boat_212 4 rfl rfl ?_
    refine dn_lconst (v := 0) C dX12_boat_214 (by decide) rfl ?_
    refine dn_lcmp C dX12_boat_215 rfl ?_
    refine dn_if_eq (t := 237) C dX12_boat_216 (by decide) rfl ?_ ?_
    · refine dn_pick [0, 1, 2, 3] rfl ?_
      exact hk x9
    · refine dn_lload C dX12_boat_219 3 rfl rfl ?_
      refine dn_lload C dX12_boat_221 4 rfl rfl ?_
      refine dn_lrem C dX12_boat_223 rfl (fun z32 => ?_)
      refine dn_lstore (lv0 := [(4, .int a4), (5, .long a5), (7, .long a7), (9, .long x9), (11, .long x11)]) C dX12_boat_224 (by decide) rfl rfl (fun v13_33 => ?_)
      refine dn_lload C dX12_boat_226 5 rfl rfl ?_
      refine dn_lstore (lv0 := [(13, .long v13_33), (4, .int a4), (5, .long a5), (7, .long a7), (11, .long x11)]) C dX12_boat_228 (by decide) rfl rfl (fun v9_34 => ?_)
      refine dn_lload C dX12_boat_230 1 rfl rfl ?_
      refine dn_lstore (lv0 := [(9, .long v9_34), (13, .long v13_33), (4, .int a4), (5, .long a5), (7, .long a7)]) C dX12_boat_232 (by decide) rfl rfl (fun v11_35 => ?_)
      refine dn_goto (t := 212) C dX12_boat_234 (by decide) ?_
      refine dn_pick [3, 4, 5, 1, 0] rfl ?_
      exact ih v9_34 v11_35
set_option maxHeartbeats 4000000 in
set_option maxRecDepth 100000 in
theorem ok_M_boat {G : wd_G} {l : Launch} (hN : gd_ok G)  (o : Nat) (ho : sh_kd o = 12) (p1 : Int32) (p2 : Int32) (p3 : Int32) (p4 : Int32) (σ : hp_I) (τ : hp_L) : cl_C G l 1 yX12_boat cX12_boat 15 (some .long) [.ref (wd_b G + o), .int p1, .int p2, .int p3, .int p4] σ τ (ci_lh) (fn_M_boat o p1 p2 p3 p4 σ τ) := by
  refine cl_of (lv0 := [(0, .ref (wd_b G + o)), (1, .int p1), (2, .int p2), (3, .int p3), (4, .int p4)]) (ci_lh) (by decide) (Nat.le_of_ble_eq_true rfl) rfl hN (fun M hM C => ?_)
  have C : cx_C G M RX12 cX12_boat 15 1 (some .long) := C
  unfold fn_M_boat
  refine dn_aload_n C dX12_boat_0 rfl 0 rfl rfl ?_
  refine dn_iconst C dX12_boat_1 ic_i_0 rfl ?_
  refine dn_putI C fp_X12_93 ho dX12_boat_2 rfl (fun s1 => ?_)
  refine dn_aload_n C dX12_boat_5 rfl 0 rfl rfl ?_
  refine dn_iload_n C dX12_boat_6 rfl 1 rfl rfl ?_
  refine dn_iconst C dX12_boat_7 ic_i_0 rfl ?_
  refine dn_bipush C dX12_boat_8 ic_b_12 rfl ?_
  refine dn_callS_i (As := [.int p1, .int (0 : Int32), .int (12 : Int32)]) (st := [.ref (wd_b G + o)]) C (ok_M_in (cx_g C) p1 (0 : Int32) (12 : Int32) s1 τ) mt_X12_in ms_X12_in lk_X12_127 (by decide) rfl ⟨Nat.zero_le _, Nat.zero_le _⟩ (Nat.le_of_ble_eq_true rfl) dX12_boat_10 rfl rfl (fun z2 => ?_)
  refine dn_jn (fun z => ∀ (t3 : Int32), dn_D G M 15 0 0 (cl_M G M (ci_lh)) 51 [(0, .ref (wd_b G + o)), (1, .int p1), (2, .int p2), (3, .int p3), (4, .int p4)] [.int t3, .ref (wd_b G + o)] s1 τ (z t3)) (fun t3 => ?_) (fun j41 hj41 => ?_)
  · refine dn_iconst C dX12_boat_51 ic_i_1 rfl ?_
    refine dn_iconst C dX12_boat_52 ic_i_1 rfl ?_
    refine dn_callV_ih (As := [.int t3, .int (1 : Int32), .int (1 : Int32)]) (st := []) C (ok_M_bad (cx_g C) o ho t3 (1 : Int32) (1 : Int32) s1 τ) mt_X12_bad mv_X12_bad lk_X12_172 (by decide) ho rfl ⟨Nat.zero_le _, Nat.zero_le _⟩ (Nat.le_of_ble_eq_true rfl) dX12_boat_53 rfl rfl (fun z4 s5 => ?_)
    refine dn_if_eq (t := 61) C dX12_boat_56 (by decide) rfl ?_ ?_
    · refine dn_iconst C dX12_boat_61 ic_i_0 rfl ?_
      refine dn_istore (lv0 := [(0, .ref (wd_b G + o)), (1, .int p1), (2, .int p2), (3, .int p3), (4, .int p4)]) C dX12_boat_62 (by decide) rfl rfl (fun v5_6 => ?_)
      refine dn_pick [1, 2, 3, 4, 5, 0] rfl ?_
      refine pf_M_boat_L64  C  o ho p1 p2 p3 p4 s5 τ _ (fun u_11 => ?_) FU v5_6 τ
      refine dn_iconst C dX12_boat_94 ic_i_0 rfl ?_
      refine dn_istore (lv0 := [(0, .ref (wd_b G + o)), (1, .int p1), (2, .int p2), (3, .int p3), (4, .int p4)]) C dX12_boat_95 (by decide) rfl rfl (fun v5_12 => ?_)
      refine dn_pick [1, 2, 3, 4, 5, 0] rfl ?_
      refine pf_M_boat_L97  C  o ho p1 p2 p3 p4 s5 u_11 _ (fun u_22 => ?_) FU v5_12 u_11
      refine dn_lconst (v := 0) C dX12_boat_166 (by decide) rfl ?_
      refine dn_lstore (lv0 := [(0, .ref (wd_b G + o)), (1, .int p1), (2, .int p2), (4, .int p4)]) C dX12_boat_167 (by decide) rfl rfl (fun v5_23 => ?_)
      refine dn_lconst (v := 1) C dX12_boat_169 (by decide) rfl ?_
      refine dn_iconst C dX12_boat_170 ic_i_4 rfl ?_
      refine dn_iload_n C dX12_boat_171 rfl 2 rfl rfl ?_
      refine dn_imul C dX12_boat_172 rfl ?_
      refine dn_lshl C dX12_boat_173 rfl ?_
      refine dn_lstore (lv0 := [(5, .long v5_23), (0, .ref (wd_b G + o)), (1, .int p1), (2, .int p2), (4, .int p4)]) C dX12_boat_174 (by decide) rfl rfl (fun v7_24 => ?_)
      refine dn_iload_n C dX12_boat_176 rfl 4 rfl rfl ?_
      refine dn_istore (lv0 := [(7, .long v7_24), (5, .long v5_23), (0, .ref (wd_b G + o)), (1, .int p1), (2, .int p2), (4, .int p4)]) C dX12_boat_177 (by decide) rfl rfl (fun v9_25 => ?_)
      refine dn_pick [3, 6, 2, 1, 0] rfl ?_
      refine pf_M_boat_L179  C  o ho p4 v7_24 s5 u_22 _ (fun y_29 => ?_) FU v5_23 v9_25
      refine dn_lload C dX12_boat_204 2 rfl rfl ?_
      refine dn_lstore (lv0 := [(4, .int p4), (5, .long y_29), (7, .long v7_24)]) C dX12_boat_206 (by decide) rfl rfl (fun v9_30 => ?_)
      refine dn_lload C dX12_boat_208 2 rfl rfl ?_
      refine dn_lstore (lv0 := [(9, .long v9_30), (4, .int p4), (5, .long y_29), (7, .long v7_24)]) C dX12_boat_210 (by decide) rfl rfl (fun v11_31 => ?_)
      refine dn_pick [2, 3, 4, 1, 0] rfl ?_
      refine pf_M_boat_L212  C  p4 y_29 v7_24 s5 u_22 _ (fun y_36 => ?_) FU v9_30 v11_31
      refine dn_iload C dX12_boat_237 0 rfl rfl ?_
      refine dn_jn (fun z => ∀ (t37 : Int64), dn_D G M 15 0 0 (cl_M G M (ci_lh)) 255 [] [.long t37] s5 u_22 (z t37)) (fun t37 => ?_) (fun j38 hj38 => ?_)
      · exact dn_lret C dX12_boat_255 rfl
      · refine dn_if_ne (t := 250) C dX12_boat_239 (by decide) rfl ?_ ?_
        · refine dn_lload C dX12_boat_242 1 rfl rfl ?_
          refine dn_lload C dX12_boat_244 3 rfl rfl ?_
          refine dn_ldiv C dX12_boat_246 rfl (fun z39 => ?_)
          refine dn_goto (t := 255) C dX12_boat_247 (by decide) ?_
          refine dn_pick [] rfl ?_
          exact hj38 z39
        · refine dn_lload C dX12_boat_250 2 rfl rfl ?_
          refine dn_lload C dX12_boat_252 3 rfl rfl ?_
          refine dn_ldiv C dX12_boat_254 rfl (fun z40 => ?_)
          refine dn_pick [] rfl ?_
          exact hj38 z40
    · refine dn_lconst (v := 0) C dX12_boat_59 (by decide) rfl ?_
      exact dn_lret C dX12_boat_60 rfl
  · refine dn_jn (fun z => dn_D G M 15 0 0 (cl_M G M (ci_lh)) 46 [(0, .ref (wd_b G + o)), (1, .int p1), (2, .int p2), (3, .int p3), (4, .int p4)] [.ref (wd_b G + o)] s1 τ z) ?_ (fun j42 hj42 => ?_)
    · refine dn_iconst C dX12_boat_46 ic_i_1 rfl ?_
      refine dn_goto (t := 51) C dX12_boat_47 (by decide) ?_
      exact hj41 (1 : Int32)
    · refine dn_if_eq (t := 46) C dX12_boat_13 (by decide) rfl ?_ ?_
      · exact hj42
      · refine dn_iload_n C dX12_boat_16 rfl 2 rfl rfl ?_
        refine dn_iconst C dX12_boat_17 ic_i_0 rfl ?_
        refine dn_bipush C dX12_boat_18 ic_b_13 rfl ?_
        refine dn_callS_i (As := [.int p2, .int (0 : Int32), .int (13 : Int32)]) (st := [.ref (wd_b G + o)]) C (ok_M_in (cx_g C) p2 (0 : Int32) (13 : Int32) s1 τ) mt_X12_in ms_X12_in lk_X12_127 (by decide) rfl ⟨Nat.zero_le _, Nat.zero_le _⟩ (Nat.le_of_ble_eq_true rfl) dX12_boat_20 rfl rfl (fun z43 => ?_)
        refine dn_if_eq (t := 46) C dX12_boat_23 (by decide) rfl ?_ ?_
        · exact hj42
        · refine dn_iload_n C dX12_boat_26 rfl 3 rfl rfl ?_
          refine dn_iconst C dX12_boat_27 ic_i_0 rfl ?_
          refine dn_bipush C dX12_boat_28 ic_b_16 rfl ?_
          refine dn_callS_i (As := [.int p3, .int (0 : Int32), .int (16 : Int32)]) (st := [.ref (wd_b G + o)]) C (ok_M_in (cx_g C) p3 (0 : Int32) (16 : Int32) s1 τ) mt_X12_in ms_X12_in lk_X12_127 (by decide) rfl ⟨Nat.zero_le _, Nat.zero_le _⟩ (Nat.le_of_ble_eq_true rfl) dX12_boat_30 rfl rfl (fun z44 => ?_)
          refine dn_if_eq (t := 46) C dX12_boat_33 (by decide) rfl ?_ ?_
          · exact hj42
          · refine dn_iload C dX12_boat_36 4 rfl rfl ?_
            refine dn_iconst C dX12_boat_38 ic_i_0 rfl ?_
            refine dn_iconst C dX12_boat_39 ic_i_1 rfl ?_
            refine dn_callS_i (As := [.int p4, .int (0 : Int32), .int (1 : Int32)]) (st := [.ref (wd_b G + o)]) C (ok_M_in (cx_g C) p4 (0 : Int32) (1 : Int32) s1 τ) mt_X12_in ms_X12_in lk_X12_127 (by decide) rfl ⟨Nat.zero_le _, Nat.zero_le _⟩ (Nat.le_of_ble_eq_true rfl) dX12_boat_40 rfl rfl (fun z45 => ?_)
            refine dn_if_ne (t := 50) C dX12_boat_43 (by decide) rfl ?_ ?_
            · exact hj42
            · refine dn_iconst C dX12_boat_50 ic_i_0 rfl ?_
              exact hj41 (0 : Int32)
def fn_M_by  (p1 : Int32) (p2 : Int32) (p3 : Int32) : Option (Int32) :=
  px_sw p1 [
    ((2 : Int32), (
      some (p2 + p3)
    )),
    ((3 : Int32), (
      some (p2 - p3)
    )),
    ((4 : Int32), (
      some (p2 * p3)
    )),
    ((5 : Int32), (
      px_jn (fun (t2 : Int32) =>
        some t2
      ) fun j3 =>
        if p3 = 0 then (
          j3 (0 : Int32)
        ) else (
          if p3 = (-1 : Int32) then (
            j3 (-p2)
          ) else (
            Option.bind (px_div p2 p3) fun z4 =>
            j3 z4
          )
        )
    )),
    ((6 : Int32), (
      px_jn (fun (t5 : Int32) =>
        some t5
      ) fun j6 =>
        px_jn (
          j6 (0 : Int32)
        ) fun j7 =>
          if p3 = 0 then (
            j7
          ) else (
            if p3 = (-1 : Int32) then (
              j7
            ) else (
              Option.bind (px_rem p2 p3) fun z8 =>
              j6 z8
            )
          )
    )),
    ((7 : Int32), (
      Option.bind (fn_M_less p2 p3) fun z9 =>
      some z9
    ))
  ] (
    Option.bind (fn_M_more2 p2 p3) fun z1 =>
    some z1
  )
set_option maxHeartbeats 4000000 in
set_option maxRecDepth 100000 in
theorem ok_M_by {G : wd_G} {l : Launch} (hN : gd_ok G)  (p1 : Int32) (p2 : Int32) (p3 : Int32) (σ : hp_I) (τ : hp_L) : cl_C G l 1 yX12_by cX12_by 3 (some .int) [.int p1, .int p2, .int p3] σ τ (ci_i σ τ) (fn_M_by p1 p2 p3) := by
  refine cl_of (lv0 := [(0, .int p1), (1, .int p2), (2, .int p3)]) (ci_i σ τ) (by decide) (Nat.le_of_ble_eq_true rfl) rfl hN (fun M hM C => ?_)
  have C : cx_C G M RX12 cX12_by 3 1 (some .int) := C
  unfold fn_M_by
  refine dn_iload_n C dX12_by_0 rfl 0 rfl rfl ?_
  refine dn_table (t0 := 97) _ C dX12_by_1 (by decide) rfl ?_ ⟨⟨39, 40, by decide, rfl, by decide, ?_⟩, ⟨43, 44, by decide, rfl, by decide, ?_⟩, ⟨47, 48, by decide, rfl, by decide, ?_⟩, ⟨51, 52, by decide, rfl, by decide, ?_⟩, ⟨73, 74, by decide, rfl, by decide, ?_⟩, ⟨90, 91, by decide, rfl, by decide, ?_⟩, trivial⟩
  · refine dn_iload_n C dX12_by_97 rfl 1 rfl rfl ?_
    refine dn_iload_n C dX12_by_98 rfl 2 rfl rfl ?_
    refine dn_callS_i (As := [.int p2, .int p3]) (st := []) C (ok_M_more2 (cx_g C) p2 p3 σ τ) mt_X12_more2 ms_X12_more2 lk_X12_235 (by decide) rfl ⟨Nat.zero_le _, Nat.zero_le _⟩ (Nat.le_of_ble_eq_true rfl) dX12_by_99 rfl rfl (fun z1 => ?_)
    exact dn_iret C dX12_by_102 rfl
  · refine dn_iload_n C dX12_by_40 rfl 1 rfl rfl ?_
    refine dn_iload_n C dX12_by_41 rfl 2 rfl rfl ?_
    refine dn_iadd C dX12_by_42 rfl ?_
    exact dn_iret C dX12_by_43 rfl
  · refine dn_iload_n C dX12_by_44 rfl 1 rfl rfl ?_
    refine dn_iload_n C dX12_by_45 rfl 2 rfl rfl ?_
    refine dn_isub C dX12_by_46 rfl ?_
    exact dn_iret C dX12_by_47 rfl
  · refine dn_iload_n C dX12_by_48 rfl 1 rfl rfl ?_
    refine dn_iload_n C dX12_by_49 rfl 2 rfl rfl ?_
    refine dn_imul C dX12_by_50 rfl ?_
    exact dn_iret C dX12_by_51 rfl
  · refine dn_iload_n C dX12_by_52 rfl 2 rfl rfl ?_
    refine dn_jn (fun z => ∀ (t2 : Int32), dn_D G M 3 0 0 (cl_M G M (ci_i σ τ)) 73 [] [.int t2] σ τ (z t2)) (fun t2 => ?_) (fun j3 hj3 => ?_)
    · exact dn_iret C dX12_by_73 rfl
    · refine dn_if_ne (t := 60) C dX12_by_53 (by decide) rfl ?_ ?_
      · refine dn_iconst C dX12_by_56 ic_i_0 rfl ?_
        refine dn_goto (t := 73) C dX12_by_57 (by decide) ?_
        refine dn_pick [] rfl ?_
        exact hj3 (0 : Int32)
      · refine dn_iload_n C dX12_by_60 rfl 2 rfl rfl ?_
        refine dn_iconst C dX12_by_61 ic_i_m1 rfl ?_
        refine dn_icmp_ne (t := 70) C dX12_by_62 (by decide) rfl ?_ ?_
        · refine dn_iload_n C dX12_by_65 rfl 1 rfl rfl ?_
          refine dn_ineg C dX12_by_66 rfl ?_
          refine dn_goto (t := 73) C dX12_by_67 (by decide) ?_
          refine dn_pick [] rfl ?_
          exact hj3 (-p2)
        · refine dn_iload_n C dX12_by_70 rfl 1 rfl rfl ?_
          refine dn_iload_n C dX12_by_71 rfl 2 rfl rfl ?_
          refine dn_idiv C dX12_by_72 rfl (fun z4 => ?_)
          refine dn_pick [] rfl ?_
          exact hj3 z4
  · refine dn_iload_n C dX12_by_74 rfl 2 rfl rfl ?_
    refine dn_jn (fun z => ∀ (t5 : Int32), dn_D G M 3 0 0 (cl_M G M (ci_i σ τ)) 90 [] [.int t5] σ τ (z t5)) (fun t5 => ?_) (fun j6 hj6 => ?_)
    · exact dn_iret C dX12_by_90 rfl
    · refine dn_jn (fun z => dn_D G M 3 0 0 (cl_M G M (ci_i σ τ)) 83 [] [] σ τ z) ?_ (fun j7 hj7 => ?_)
      · refine dn_iconst C dX12_by_83 ic_i_0 rfl ?_
        refine dn_goto (t := 90) C dX12_by_84 (by decide) ?_
        exact hj6 (0 : Int32)
      · refine dn_if_eq (t := 83) C dX12_by_75 (by decide) rfl ?_ ?_
        · refine dn_pick [] rfl ?_
          exact hj7
        · refine dn_iload_n C dX12_by_78 rfl 2 rfl rfl ?_
          refine dn_iconst C dX12_by_79 ic_i_m1 rfl ?_
          refine dn_icmp_ne (t := 87) C dX12_by_80 (by decide) rfl ?_ ?_
          · refine dn_pick [] rfl ?_
            exact hj7
          · refine dn_iload_n C dX12_by_87 rfl 1 rfl rfl ?_
            refine dn_iload_n C dX12_by_88 rfl 2 rfl rfl ?_
            refine dn_irem C dX12_by_89 rfl (fun z8 => ?_)
            refine dn_pick [] rfl ?_
            exact hj6 z8
  · refine dn_iload_n C dX12_by_91 rfl 1 rfl rfl ?_
    refine dn_iload_n C dX12_by_92 rfl 2 rfl rfl ?_
    refine dn_callS_i (As := [.int p2, .int p3]) (st := []) C (ok_M_less (cx_g C) p2 p3 σ τ) mt_X12_less ms_X12_less lk_X12_232 (by decide) rfl ⟨Nat.zero_le _, Nat.zero_le _⟩ (Nat.le_of_ble_eq_true rfl) dX12_by_93 rfl rfl (fun z9 => ?_)
    exact dn_iret C dX12_by_96 rfl
def fn_M_grow  (o : Nat) (p1 : Int32) (σ : hp_I) : Option (Int32) :=
  Option.bind (fn_M_placeOf (2 : Int32) p1) fun z1 =>
  Option.bind (px_rld (sh_rf o 14) z1) fun z2 =>
  Option.bind (px_ald σ z2 (2 : Int32)) fun z3 =>
  some z3
set_option maxHeartbeats 4000000 in
set_option maxRecDepth 100000 in
theorem ok_M_grow {G : wd_G} {l : Launch} (hN : gd_ok G)  (o : Nat) (ho : sh_kd o = 12) (p1 : Int32) (σ : hp_I) (τ : hp_L) : cl_C G l 1 yX12_grow cX12_grow 2 (some .int) [.ref (wd_b G + o), .int p1] σ τ (ci_i σ τ) (fn_M_grow o p1 σ) := by
  refine cl_of (lv0 := [(0, .ref (wd_b G + o)), (1, .int p1)]) (ci_i σ τ) (by decide) (Nat.le_of_ble_eq_true rfl) rfl hN (fun M hM C => ?_)
  have C : cx_C G M RX12 cX12_grow 2 1 (some .int) := C
  unfold fn_M_grow
  refine dn_aload_n C dX12_grow_0 rfl 0 rfl rfl ?_
  refine dn_getR C fd_X12_31 ho dX12_grow_1 rfl ?_
  refine dn_iconst C dX12_grow_4 ic_i_2 rfl ?_
  refine dn_iload_n C dX12_grow_5 rfl 1 rfl rfl ?_
  refine dn_callS_i (As := [.int (2 : Int32), .int p1]) (st := [.ref (wd_b G + sh_rf o 14)]) C (ok_M_placeOf (cx_g C) (2 : Int32) p1 σ τ) mt_X12_placeOf ms_X12_placeOf lk_X12_161 (by decide) rfl ⟨Nat.zero_le _, Nat.zero_le _⟩ (Nat.le_of_ble_eq_true rfl) dX12_grow_6 rfl rfl (fun z1 => ?_)
  refine dn_aald C (kt_12_14 ho) dX12_grow_9 rfl (fun z2 hz2 => ?_)
  refine dn_iconst C dX12_grow_10 ic_i_2 rfl ?_
  refine dn_iald C (kt_row (kt_12_14 ho) hz2) dX12_grow_11 rfl (fun z3 => ?_)
  exact dn_iret C dX12_grow_12 rfl
def fn_M_hide  (o : Nat) (p1 : Int32) (σ : hp_I) : Option (Int32) :=
  Option.bind (fn_M_placeOf (0 : Int32) p1) fun z1 =>
  Option.bind (px_rld (sh_rf o 14) z1) fun z2 =>
  Option.bind (px_ald σ z2 (0 : Int32)) fun z3 =>
  some z3
set_option maxHeartbeats 4000000 in
set_option maxRecDepth 100000 in
theorem ok_M_hide {G : wd_G} {l : Launch} (hN : gd_ok G)  (o : Nat) (ho : sh_kd o = 12) (p1 : Int32) (σ : hp_I) (τ : hp_L) : cl_C G l 1 yX12_hide cX12_hide 2 (some .int) [.ref (wd_b G + o), .int p1] σ τ (ci_i σ τ) (fn_M_hide o p1 σ) := by
  refine cl_of (lv0 := [(0, .ref (wd_b G + o)), (1, .int p1)]) (ci_i σ τ) (by decide) (Nat.le_of_ble_eq_true rfl) rfl hN (fun M hM C => ?_)
  have C : cx_C G M RX12 cX12_hide 2 1 (some .int) := C
  unfold fn_M_hide
  refine dn_aload_n C dX12_hide_0 rfl 0 rfl rfl ?_
  refine dn_getR C fd_X12_31 ho dX12_hide_1 rfl ?_
  refine dn_iconst C dX12_hide_4 ic_i_0 rfl ?_
  refine dn_iload_n C dX12_hide_5 rfl 1 rfl rfl ?_
  refine dn_callS_i (As := [.int (0 : Int32), .int p1]) (st := [.ref (wd_b G + sh_rf o 14)]) C (ok_M_placeOf (cx_g C) (0 : Int32) p1 σ τ) mt_X12_placeOf ms_X12_placeOf lk_X12_161 (by decide) rfl ⟨Nat.zero_le _, Nat.zero_le _⟩ (Nat.le_of_ble_eq_true rfl) dX12_hide_6 rfl rfl (fun z1 => ?_)
  refine dn_aald C (kt_12_14 ho) dX12_hide_9 rfl (fun z2 hz2 => ?_)
  refine dn_iconst C dX12_hide_10 ic_i_0 rfl ?_
  refine dn_iald C (kt_row (kt_12_14 ho) hz2) dX12_hide_11 rfl (fun z3 => ?_)
  exact dn_iret C dX12_hide_12 rfl
def fn_M_isBest  (p1 : Int32) (p2 : Int32) (p3 : Int32) (p4 : Int32) : Option (Int32) :=
  Option.bind (fn_M_hasBy p1 p2 p3 p4) fun z1 =>
  Option.bind (fn_M_hasBy ((1 : Int32) - p1) p2 p3 p4) fun z2 =>
  px_jn (fun (t3 : Int32) =>
    px_z t3 t3
  ) fun j4 =>
    if z2 ≤ z1 then (
      j4 (1 : Int32)
    ) else (
      j4 (0 : Int32)
    )
set_option maxHeartbeats 4000000 in
set_option maxRecDepth 100000 in
theorem ok_M_isBest {G : wd_G} {l : Launch} (hN : gd_ok G)  (p1 : Int32) (p2 : Int32) (p3 : Int32) (p4 : Int32) (σ : hp_I) (τ : hp_L) : cl_C G l 1 yX12_isBest cX12_isBest 4 (some .boolean) [.int p1, .int p2, .int p3, .int p4] σ τ (ci_i σ τ) (fn_M_isBest p1 p2 p3 p4) := by
  refine cl_of (lv0 := [(0, .int p1), (1, .int p2), (2, .int p3), (3, .int p4)]) (ci_i σ τ) (by decide) (Nat.le_of_ble_eq_true rfl) rfl hN (fun M hM C => ?_)
  have C : cx_C G M RX12 cX12_isBest 4 1 (some .boolean) := C
  unfold fn_M_isBest
  refine dn_iload_n C dX12_isBest_0 rfl 0 rfl rfl ?_
  refine dn_iload_n C dX12_isBest_1 rfl 1 rfl rfl ?_
  refine dn_iload_n C dX12_isBest_2 rfl 2 rfl rfl ?_
  refine dn_iload_n C dX12_isBest_3 rfl 3 rfl rfl ?_
  refine dn_callS_i (As := [.int p1, .int p2, .int p3, .int p4]) (st := []) C (ok_M_hasBy (cx_g C) p1 p2 p3 p4 σ τ) mt_X12_hasBy ms_X12_hasBy lk_X12_371 (by decide) rfl ⟨Nat.zero_le _, Nat.zero_le _⟩ (Nat.le_of_ble_eq_true rfl) dX12_isBest_4 rfl rfl (fun z1 => ?_)
  refine dn_iconst C dX12_isBest_7 ic_i_1 rfl ?_
  refine dn_iload_n C dX12_isBest_8 rfl 0 rfl rfl ?_
  refine dn_isub C dX12_isBest_9 rfl ?_
  refine dn_iload_n C dX12_isBest_10 rfl 1 rfl rfl ?_
  refine dn_iload_n C dX12_isBest_11 rfl 2 rfl rfl ?_
  refine dn_iload_n C dX12_isBest_12 rfl 3 rfl rfl ?_
  refine dn_callS_i (As := [.int ((1 : Int32) - p1), .int p2, .int p3, .int p4]) (st := [.int z1]) C (ok_M_hasBy (cx_g C) ((1 : Int32) - p1) p2 p3 p4 σ τ) mt_X12_hasBy ms_X12_hasBy lk_X12_371 (by decide) rfl ⟨Nat.zero_le _, Nat.zero_le _⟩ (Nat.le_of_ble_eq_true rfl) dX12_isBest_13 rfl rfl (fun z2 => ?_)
  refine dn_jn (fun z => ∀ (t3 : Int32), dn_D G M 4 0 0 (cl_M G M (ci_i σ τ)) 24 [] [.int t3] σ τ (z t3)) (fun t3 => ?_) (fun j4 hj4 => ?_)
  · exact dn_zret C dX12_isBest_24 rfl
  · refine dn_icmp_lt (t := 23) C dX12_isBest_16 (by decide) rfl ?_ ?_
    · refine dn_iconst C dX12_isBest_19 ic_i_1 rfl ?_
      refine dn_goto (t := 24) C dX12_isBest_20 (by decide) ?_
      refine dn_pick [] rfl ?_
      exact hj4 (1 : Int32)
    · refine dn_iconst C dX12_isBest_23 ic_i_0 rfl ?_
      refine dn_pick [] rfl ?_
      exact hj4 (0 : Int32)
def fn_M_isSeason  (p1 : Int32) (p2 : Int32) : Option (Int32) :=
  Option.bind (fn_M_in p1 (1 : Int32) (96 : Int32)) fun z1 =>
  px_jn (fun (t2 : Int32) =>
    px_z t2 t2
  ) fun j3 =>
    px_jn (
      j3 (0 : Int32)
    ) fun j4 =>
      if z1 = 0 then (
        j4
      ) else (
        Option.bind (fn_M_in p2 (0 : Int32) (16 : Int32)) fun z5 =>
        if z5 = 0 then (
          j4
        ) else (
          j3 (1 : Int32)
        )
      )
set_option maxHeartbeats 4000000 in
set_option maxRecDepth 100000 in
theorem ok_M_isSeason {G : wd_G} {l : Launch} (hN : gd_ok G)  (p1 : Int32) (p2 : Int32) (σ : hp_I) (τ : hp_L) : cl_C G l 1 yX12_isSeason cX12_isSeason 2 (some .boolean) [.int p1, .int p2] σ τ (ci_i σ τ) (fn_M_isSeason p1 p2) := by
  refine cl_of (lv0 := [(0, .int p1), (1, .int p2)]) (ci_i σ τ) (by decide) (Nat.le_of_ble_eq_true rfl) rfl hN (fun M hM C => ?_)
  have C : cx_C G M RX12 cX12_isSeason 2 1 (some .boolean) := C
  unfold fn_M_isSeason
  refine dn_iload_n C dX12_isSeason_0 rfl 0 rfl rfl ?_
  refine dn_iconst C dX12_isSeason_1 ic_i_1 rfl ?_
  refine dn_bipush C dX12_isSeason_2 ic_b_96 rfl ?_
  refine dn_callS_i (As := [.int p1, .int (1 : Int32), .int (96 : Int32)]) (st := []) C (ok_M_in (cx_g C) p1 (1 : Int32) (96 : Int32) σ τ) mt_X12_in ms_X12_in lk_X12_127 (by decide) rfl ⟨Nat.zero_le _, Nat.zero_le _⟩ (Nat.le_of_ble_eq_true rfl) dX12_isSeason_4 rfl rfl (fun z1 => ?_)
  refine dn_jn (fun z => ∀ (t2 : Int32), dn_D G M 2 0 0 (cl_M G M (ci_i σ τ)) 25 [] [.int t2] σ τ (z t2)) (fun t2 => ?_) (fun j3 hj3 => ?_)
  · exact dn_zret C dX12_isSeason_25 rfl
  · refine dn_jn (fun z => dn_D G M 2 0 0 (cl_M G M (ci_i σ τ)) 24 [] [] σ τ z) ?_ (fun j4 hj4 => ?_)
    · refine dn_iconst C dX12_isSeason_24 ic_i_0 rfl ?_
      exact hj3 (0 : Int32)
    · refine dn_if_eq (t := 24) C dX12_isSeason_7 (by decide) rfl ?_ ?_
      · refine dn_pick [] rfl ?_
        exact hj4
      · refine dn_iload_n C dX12_isSeason_10 rfl 1 rfl rfl ?_
        refine dn_iconst C dX12_isSeason_11 ic_i_0 rfl ?_
        refine dn_bipush C dX12_isSeason_12 ic_b_16 rfl ?_
        refine dn_callS_i (As := [.int p2, .int (0 : Int32), .int (16 : Int32)]) (st := []) C (ok_M_in (cx_g C) p2 (0 : Int32) (16 : Int32) σ τ) mt_X12_in ms_X12_in lk_X12_127 (by decide) rfl ⟨Nat.zero_le _, Nat.zero_le _⟩ (Nat.le_of_ble_eq_true rfl) dX12_isSeason_14 rfl rfl (fun z5 => ?_)
        refine dn_if_eq (t := 24) C dX12_isSeason_17 (by decide) rfl ?_ ?_
        · refine dn_pick [] rfl ?_
          exact hj4
        · refine dn_iconst C dX12_isSeason_20 ic_i_1 rfl ?_
          refine dn_goto (t := 25) C dX12_isSeason_21 (by decide) ?_
          refine dn_pick [] rfl ?_
          exact hj3 (1 : Int32)
def fn_M_isThing  (o : Nat) (p1 : Int32) (p2 : Int32) (σ : hp_I) : Option (Int32) :=
  Option.bind (px_ald σ (sh_rf o 12) p1) fun z1 =>
  Option.bind (fn_M_in p2 (0 : Int32) (z1 - (1 : Int32))) fun z2 =>
  px_z z2 z2
set_option maxHeartbeats 4000000 in
set_option maxRecDepth 100000 in
theorem ok_M_isThing {G : wd_G} {l : Launch} (hN : gd_ok G)  (o : Nat) (ho : sh_kd o = 12) (p1 : Int32) (p2 : Int32) (σ : hp_I) (τ : hp_L) : cl_C G l 1 yX12_isThing cX12_isThing 3 (some .boolean) [.ref (wd_b G + o), .int p1, .int p2] σ τ (ci_i σ τ) (fn_M_isThing o p1 p2 σ) := by
  refine cl_of (lv0 := [(0, .ref (wd_b G + o)), (1, .int p1), (2, .int p2)]) (ci_i σ τ) (by decide) (Nat.le_of_ble_eq_true rfl) rfl hN (fun M hM C => ?_)
  have C : cx_C G M RX12 cX12_isThing 3 1 (some .boolean) := C
  unfold fn_M_isThing
  refine dn_iload_n C dX12_isThing_0 rfl 2 rfl rfl ?_
  refine dn_iconst C dX12_isThing_1 ic_i_0 rfl ?_
  refine dn_aload_n C dX12_isThing_2 rfl 0 rfl rfl ?_
  refine dn_getR C fd_X12_23 ho dX12_isThing_3 rfl ?_
  refine dn_iload_n C dX12_isThing_6 rfl 1 rfl rfl ?_
  refine dn_iald C (kt_12_12 ho) dX12_isThing_7 rfl (fun z1 => ?_)
  refine dn_iconst C dX12_isThing_8 ic_i_1 rfl ?_
  refine dn_isub C dX12_isThing_9 rfl ?_
  refine dn_callS_i (As := [.int p2, .int (0 : Int32), .int (z1 - (1 : Int32))]) (st := []) C (ok_M_in (cx_g C) p2 (0 : Int32) (z1 - (1 : Int32)) σ τ) mt_X12_in ms_X12_in lk_X12_127 (by decide) rfl ⟨Nat.zero_le _, Nat.zero_le _⟩ (Nat.le_of_ble_eq_true rfl) dX12_isThing_10 rfl rfl (fun z2 => ?_)
  exact dn_zret C dX12_isThing_13 rfl
def fn_M_lives  (p1 : Nat) (p2 : Int32) (σ : hp_I) : Option (Int32) :=
  Option.bind (px_ald σ p1 (42 : Int32)) fun z1 =>
  Option.bind (fn_M_has z1 p2) fun z2 =>
  px_z z2 z2
set_option maxHeartbeats 4000000 in
set_option maxRecDepth 100000 in
theorem ok_M_lives {G : wd_G} {l : Launch} (hN : gd_ok G)  (p1 : Nat) (hp1 : sh_kd p1 = 13) (p2 : Int32) (σ : hp_I) (τ : hp_L) : cl_C G l 1 yX12_lives cX12_lives 2 (some .boolean) [.ref (wd_b G + p1), .int p2] σ τ (ci_i σ τ) (fn_M_lives p1 p2 σ) := by
  refine cl_of (lv0 := [(0, .ref (wd_b G + p1)), (1, .int p2)]) (ci_i σ τ) (by decide) (Nat.le_of_ble_eq_true rfl) rfl hN (fun M hM C => ?_)
  have C : cx_C G M RX12 cX12_lives 2 1 (some .boolean) := C
  unfold fn_M_lives
  refine dn_aload_n C dX12_lives_0 rfl 0 rfl rfl ?_
  refine dn_bipush C dX12_lives_1 ic_b_42 rfl ?_
  refine dn_iald C hp1 dX12_lives_3 rfl (fun z1 => ?_)
  refine dn_iload_n C dX12_lives_4 rfl 1 rfl rfl ?_
  refine dn_callS_i (As := [.int z1, .int p2]) (st := []) C (ok_M_has (cx_g C) z1 p2 σ τ) mt_X12_has ms_X12_has lk_X12_251 (by decide) rfl ⟨Nat.zero_le _, Nat.zero_le _⟩ (Nat.le_of_ble_eq_true rfl) dX12_lives_5 rfl rfl (fun z2 => ?_)
  exact dn_zret C dX12_lives_8 rfl
def fn_M_nose  (o : Nat) (p1 : Int32) (σ : hp_I) : Option (Int32) :=
  Option.bind (fn_M_placeOf (3 : Int32) p1) fun z1 =>
  Option.bind (px_rld (sh_rf o 14) z1) fun z2 =>
  Option.bind (px_ald σ z2 (1 : Int32)) fun z3 =>
  some z3
set_option maxHeartbeats 4000000 in
set_option maxRecDepth 100000 in
theorem ok_M_nose {G : wd_G} {l : Launch} (hN : gd_ok G)  (o : Nat) (ho : sh_kd o = 12) (p1 : Int32) (σ : hp_I) (τ : hp_L) : cl_C G l 1 yX12_nose cX12_nose 2 (some .int) [.ref (wd_b G + o), .int p1] σ τ (ci_i σ τ) (fn_M_nose o p1 σ) := by
  refine cl_of (lv0 := [(0, .ref (wd_b G + o)), (1, .int p1)]) (ci_i σ τ) (by decide) (Nat.le_of_ble_eq_true rfl) rfl hN (fun M hM C => ?_)
  have C : cx_C G M RX12 cX12_nose 2 1 (some .int) := C
  unfold fn_M_nose
  refine dn_aload_n C dX12_nose_0 rfl 0 rfl rfl ?_
  refine dn_getR C fd_X12_31 ho dX12_nose_1 rfl ?_
  refine dn_iconst C dX12_nose_4 ic_i_3 rfl ?_
  refine dn_iload_n C dX12_nose_5 rfl 1 rfl rfl ?_
  refine dn_callS_i (As := [.int (3 : Int32), .int p1]) (st := [.ref (wd_b G + sh_rf o 14)]) C (ok_M_placeOf (cx_g C) (3 : Int32) p1 σ τ) mt_X12_placeOf ms_X12_placeOf lk_X12_161 (by decide) rfl ⟨Nat.zero_le _, Nat.zero_le _⟩ (Nat.le_of_ble_eq_true rfl) dX12_nose_6 rfl rfl (fun z1 => ?_)
  refine dn_aald C (kt_12_14 ho) dX12_nose_9 rfl (fun z2 hz2 => ?_)
  refine dn_iconst C dX12_nose_10 ic_i_1 rfl ?_
  refine dn_iald C (kt_row (kt_12_14 ho) hz2) dX12_nose_11 rfl (fun z3 => ?_)
  exact dn_iret C dX12_nose_12 rfl
def fn_M_opensOne  (o : Nat) (σ : hp_I) : Option (Int32 × hp_I) :=
  px_jn (fun (s1 : hp_I) =>
    px_jn (fun (t2 : Int32) =>
      px_z t2 (t2, s1)
    ) fun j3 =>
      if (s1 o 5) = 0 then (
        j3 (1 : Int32)
      ) else (
        j3 (0 : Int32)
      )
  ) fun j4 =>
    px_jn (
      if (σ o 5) = 0 then (
        px_let (hp_s σ o 8 ((σ o 8) + (1 : Int32))) fun s5 =>
        j4 s5
      ) else (
        j4 σ
      )
    ) fun j6 =>
      if (σ o 5) = 0 then (
        if (σ o 8) = (6 : Int32) then (
          Option.bind (fn_M_wrong o (3 : Int32) (σ o 4) σ) fun s8 =>
          j4 s8
        ) else (
          j6
        )
      ) else (
        j6
      )
set_option maxHeartbeats 4000000 in
set_option maxRecDepth 100000 in
theorem ok_M_opensOne {G : wd_G} {l : Launch} (hN : gd_ok G)  (o : Nat) (ho : sh_kd o = 12) (σ : hp_I) (τ : hp_L) : cl_C G l 1 yX12_opensOne cX12_opensOne 1 (some .boolean) [.ref (wd_b G + o)] σ τ (ci_ih τ) (fn_M_opensOne o σ) := by
  refine cl_of (lv0 := [(0, .ref (wd_b G + o))]) (ci_ih τ) (by decide) (Nat.le_of_ble_eq_true rfl) rfl hN (fun M hM C => ?_)
  have C : cx_C G M RX12 cX12_opensOne 1 1 (some .boolean) := C
  unfold fn_M_opensOne
  refine dn_aload_n C dX12_opensOne_0 rfl 0 rfl rfl ?_
  refine dn_getI C fd_X12_109 ho dX12_opensOne_1 rfl ?_
  refine dn_jn (fun z => ∀ (s1 : hp_I), dn_D G M 1 0 0 (cl_M G M (ci_ih τ)) 45 [(0, .ref (wd_b G + o))] [] s1 τ (z s1)) (fun s1 => ?_) (fun j4 hj4 => ?_)
  · refine dn_aload_n C dX12_opensOne_45 rfl 0 rfl rfl ?_
    refine dn_getI C fd_X12_109 ho dX12_opensOne_46 rfl ?_
    refine dn_jn (fun z => ∀ (t2 : Int32), dn_D G M 1 0 0 (cl_M G M (ci_ih τ)) 57 [] [.int t2] s1 τ (z t2)) (fun t2 => ?_) (fun j3 hj3 => ?_)
    · exact dn_zret C dX12_opensOne_57 rfl
    · refine dn_if_ne (t := 56) C dX12_opensOne_49 (by decide) rfl ?_ ?_
      · refine dn_iconst C dX12_opensOne_52 ic_i_1 rfl ?_
        refine dn_goto (t := 57) C dX12_opensOne_53 (by decide) ?_
        refine dn_pick [] rfl ?_
        exact hj3 (1 : Int32)
      · refine dn_iconst C dX12_opensOne_56 ic_i_0 rfl ?_
        refine dn_pick [] rfl ?_
        exact hj3 (0 : Int32)
  · refine dn_jn (fun z => dn_D G M 1 0 0 (cl_M G M (ci_ih τ)) 28 [(0, .ref (wd_b G + o))] [] σ τ z) ?_ (fun j6 hj6 => ?_)
    · refine dn_aload_n C dX12_opensOne_28 rfl 0 rfl rfl ?_
      refine dn_getI C fd_X12_109 ho dX12_opensOne_29 rfl ?_
      refine dn_if_ne (t := 45) C dX12_opensOne_32 (by decide) rfl ?_ ?_
      · refine dn_aload_n C dX12_opensOne_35 rfl 0 rfl rfl ?_
        refine dn_dup C dX12_opensOne_36 rfl rfl ?_
        refine dn_getI C fd_X12_152 ho dX12_opensOne_37 rfl ?_
        refine dn_iconst C dX12_opensOne_40 ic_i_1 rfl ?_
        refine dn_iadd C dX12_opensOne_41 rfl ?_
        refine dn_putI C fp_X12_152 ho dX12_opensOne_42 rfl (fun s5 => ?_)
        exact hj4 s5
      · exact hj4 σ
    · refine dn_if_ne (t := 28) C dX12_opensOne_4 (by decide) rfl ?_ ?_
      · refine dn_aload_n C dX12_opensOne_7 rfl 0 rfl rfl ?_
        refine dn_getI C fd_X12_152 ho dX12_opensOne_8 rfl ?_
        refine dn_bipush C dX12_opensOne_11 ic_b_6 rfl ?_
        refine dn_icmp_ne (t := 28) C dX12_opensOne_13 (by decide) rfl ?_ ?_
        · refine dn_aload_n C dX12_opensOne_16 rfl 0 rfl rfl ?_
          refine dn_iconst C dX12_opensOne_17 ic_i_3 rfl ?_
          refine dn_aload_n C dX12_opensOne_18 rfl 0 rfl rfl ?_
          refine dn_getI C fd_X12_102 ho dX12_opensOne_19 rfl ?_
          refine dn_callV_h (As := [.int (3 : Int32), .int (σ o 4)]) (st := []) C (ok_M_wrong (cx_g C) o ho (3 : Int32) (σ o 4) σ τ) mt_X12_wrong mv_X12_wrong lk_X12_122 (by decide) ho rfl ⟨Nat.zero_le _, Nat.zero_le _⟩ (Nat.le_of_ble_eq_true rfl) dX12_opensOne_22 rfl rfl (fun s8 => ?_)
          refine dn_goto (t := 45) C dX12_opensOne_25 (by decide) ?_
          exact hj4 s8
        · exact hj6
      · exact hj6
def fn_M_proud_L7  (a0 : Nat) (a1 : Nat) (σ : hp_I) (k : Int32 → Option (Int32)) : Nat → Int32 → Int32 → Int32 → Option (Int32)
  | 0, _, _, _ => none
  | fu + 1, x2, x3, x4 =>
    Option.bind (px_ald σ (sh_rf a0 12) (3 : Int32)) fun z4 =>
    if x4 < z4 then (
      Option.bind (px_ald σ a1 ((37 : Int32) + x4)) fun z5 =>
      px_jn (fun (t6 : Int32) =>
        px_let t6 fun v2_7 =>
        Option.bind (px_ald σ a1 ((37 : Int32) + x4)) fun z8 =>
        Option.bind (fn_M_more2 x3 z8) fun z9 =>
        px_let z9 fun v3_10 =>
        px_let (x4 + 1) fun v4_11 =>
        fn_M_proud_L7 a0 a1 σ k fu v2_7 v3_10 v4_11
      ) fun j12 =>
        if x3 < z5 then (
          j12 x4
        ) else (
          j12 x2
        )
    ) else (
      k x2
    )
def fn_M_proud  (o : Nat) (p1 : Nat) (σ : hp_I) : Option (Int32) :=
  px_let (-1 : Int32) fun v2_1 =>
  px_let (0 : Int32) fun v3_2 =>
  px_let (0 : Int32) fun v4_3 =>
  fn_M_proud_L7 o p1 σ
    (fun (y_13 : Int32) =>
      some y_13
    )
    FU v2_1 v3_2 v4_3
set_option maxHeartbeats 4000000 in
set_option maxRecDepth 100000 in
theorem pf_M_proud_L7 {G : wd_G} {M : wd_M}  (C : cx_C G M RX12 cX12_proud 5 1 (some .int)) (a0 : Nat) (ha0 : sh_kd a0 = 12) (a1 : Nat) (ha1 : sh_kd a1 = 13) (σ : hp_I) (τ : hp_L) (k : Int32 → Option (Int32)) (hk : ∀ (y2 : Int32), dn_D G M 5 0 0 (cl_M G M (ci_i σ τ)) 54 [(2, .int y2)] [] σ τ (k y2)) : ∀ (fu : Nat) (x2 : Int32) (x3 : Int32) (x4 : Int32), dn_D G M 5 0 0 (cl_M G M (ci_i σ τ)) 7 [(0, .ref (wd_b G + a0)), (1, .ref (wd_b G + a1)), (2, .int x2), (3, .int x3), (4, .int x4)] [] σ τ (fn_M_proud_L7 a0 a1 σ k fu x2 x3 x4) := by
  intro fu
  induction fu with
  | zero => exact fun x2 x3 x4 => dn_none
  | succ fu ih =>
    intro x2 x3 x4
    unfold fn_M_proud_L7
    refine dn_iload C dX12_proud_7 4 rfl rfl ?_
    refine dn_aload_n C dX12_proud_9 rfl 0 rfl rfl ?_
    refine dn_getR C fd_X12_23 ha0 dX12_proud_10 rfl ?_
    refine dn_iconst C dX12_proud_13 ic_i_3 rfl ?_
    refine dn_iald C (kt_12_12 ha0) dX12_proud_14 rfl (fun z4 => ?_)
    refine dn_icmp_ge (t := 54) C dX12_proud_15 (by decide) rfl ?_ ?_
    · refine dn_aload_n C dX12_proud_18 rfl 1 rfl rfl ?_
      refine dn_bipush C dX12_proud_19 ic_b_37 rfl ?_
      refine dn_iload C dX12_proud_21 4 rfl rfl ?_
      refine dn_iadd C dX12_proud_23 rfl ?_
      refine dn_iald C ha1 dX12_proud_24 rfl (fun z5 => ?_)
      refine dn_iload_n C dX12_proud_25 rfl 3 rfl rfl ?_
      refine dn_jn (fun z => ∀ (t6 : Int32), dn_D G M 5 0 0 (cl_M G M (ci_i σ τ)) 35 [(0, .ref (wd_b G + a0)), (1, .ref (wd_b G + a1)), (3, .int x3), (4, .int x4)] [.int t6] σ τ (z t6)) (fun t6 => ?_) (fun j12 hj12 => ?_)
      · refine dn_istore_n (lv0 := [(0, .ref (wd_b G + a0)), (1, .ref (wd_b G + a1)), (3, .int x3), (4, .int x4)]) C dX12_proud_35 rfl (by decide) rfl rfl (fun v2_7 => ?_)
        refine dn_iload_n C dX12_proud_36 rfl 3 rfl rfl ?_
        refine dn_aload_n C dX12_proud_37 rfl 2 rfl rfl ?_
        refine dn_bipush C dX12_proud_38 ic_b_37 rfl ?_
        refine dn_iload C dX12_proud_40 4 rfl rfl ?_
        refine dn_iadd C dX12_proud_42 rfl ?_
        refine dn_iald C ha1 dX12_proud_43 rfl (fun z8 => ?_)
        refine dn_callS_i (As := [.int x3, .int z8]) (st := []) C (ok_M_more2 (cx_g C) x3 z8 σ τ) mt_X12_more2 ms_X12_more2 lk_X12_235 (by decide) rfl ⟨Nat.zero_le _, Nat.zero_le _⟩ (Nat.le_of_ble_eq_true rfl) dX12_proud_44 rfl rfl (fun z9 => ?_)
        refine dn_istore_n (lv0 := [(2, .int v2_7), (0, .ref (wd_b G + a0)), (1, .ref (wd_b G + a1)), (4, .int x4)]) C dX12_proud_47 rfl (by decide) rfl rfl (fun v3_10 => ?_)
        refine dn_iinc (lv0 := [(3, .int v3_10), (2, .int v2_7), (0, .ref (wd_b G + a0)), (1, .ref (wd_b G + a1))]) (v := x4 + 1) C dX12_proud_48 4 rfl rfl (by decide) rfl rfl (fun v4_11 => ?_)
        refine dn_goto (t := 7) C dX12_proud_51 (by decide) ?_
        refine dn_pick [3, 4, 2, 1, 0] rfl ?_
        exact ih v2_7 v3_10 v4_11
      · refine dn_icmp_le (t := 34) C dX12_proud_26 (by decide) rfl ?_ ?_
        · refine dn_iload C dX12_proud_29 4 rfl rfl ?_
          refine dn_goto (t := 35) C dX12_proud_31 (by decide) ?_
          refine dn_pick [0, 1, 3, 4] rfl ?_
          exact hj12 x4
        · refine dn_iload_n C dX12_proud_34 rfl 2 rfl rfl ?_
          refine dn_pick [0, 1, 3, 4] rfl ?_
          exact hj12 x2
    · refine dn_pick [2] rfl ?_
      exact hk x2
set_option maxHeartbeats 4000000 in
set_option maxRecDepth 100000 in
theorem ok_M_proud {G : wd_G} {l : Launch} (hN : gd_ok G)  (o : Nat) (ho : sh_kd o = 12) (p1 : Nat) (hp1 : sh_kd p1 = 13) (σ : hp_I) (τ : hp_L) : cl_C G l 1 yX12_proud cX12_proud 5 (some .int) [.ref (wd_b G + o), .ref (wd_b G + p1)] σ τ (ci_i σ τ) (fn_M_proud o p1 σ) := by
  refine cl_of (lv0 := [(0, .ref (wd_b G + o)), (1, .ref (wd_b G + p1))]) (ci_i σ τ) (by decide) (Nat.le_of_ble_eq_true rfl) rfl hN (fun M hM C => ?_)
  have C : cx_C G M RX12 cX12_proud 5 1 (some .int) := C
  unfold fn_M_proud
  refine dn_iconst C dX12_proud_0 ic_i_m1 rfl ?_
  refine dn_istore_n (lv0 := [(0, .ref (wd_b G + o)), (1, .ref (wd_b G + p1))]) C dX12_proud_1 rfl (by decide) rfl rfl (fun v2_1 => ?_)
  refine dn_iconst C dX12_proud_2 ic_i_0 rfl ?_
  refine dn_istore_n (lv0 := [(2, .int v2_1), (0, .ref (wd_b G + o)), (1, .ref (wd_b G + p1))]) C dX12_proud_3 rfl (by decide) rfl rfl (fun v3_2 => ?_)
  refine dn_iconst C dX12_proud_4 ic_i_0 rfl ?_
  refine dn_istore (lv0 := [(3, .int v3_2), (2, .int v2_1), (0, .ref (wd_b G + o)), (1, .ref (wd_b G + p1))]) C dX12_proud_5 (by decide) rfl rfl (fun v4_3 => ?_)
  refine dn_pick [3, 4, 2, 1, 0] rfl ?_
  refine pf_M_proud_L7  C  o ho p1 hp1 σ τ _ (fun y_13 => ?_) FU v2_1 v3_2 v4_3
  refine dn_iload_n C dX12_proud_54 rfl 0 rfl rfl ?_
  exact dn_iret C dX12_proud_55 rfl
def fn_M_putsAll_L21  (a0 : Nat) (a1 : Nat) (a2 : Int32) (k : hp_I → Option (hp_I)) : Nat → Int32 → hp_I → Option (hp_I)
  | 0, _, _ => none
  | fu + 1, x3, s0 =>
    if x3 < (47 : Int32) then (
      Option.bind (px_ald s0 (sh_rf a0 25) x3) fun z6 =>
      px_b2 (fn_M_puts a0 a1 z6 a2 s0) fun z7 s8 =>
      Option.bind (px_ast s8 (sh_rf a0 25) x3 z7) fun s9 =>
      px_let (x3 + 1) fun v3_10 =>
      fn_M_putsAll_L21 a0 a1 a2 k fu v3_10 s9
    ) else (
      k s0
    )
def fn_M_putsAll_L62  (a0 : Nat) (a1 : Nat) (a2 : Int32) (a3 : Int32) (k : hp_I → Option (hp_I)) : Nat → Int32 → hp_I → Option (hp_I)
  | 0, _, _ => none
  | fu + 1, x4, s0 =>
    if x4 < (47 : Int32) then (
      Option.bind (px_rld (sh_rf a0 28) a3) fun z14 =>
      Option.bind (px_rld (sh_rf a0 28) a3) fun z15 =>
      Option.bind (px_ald s0 z15 x4) fun z16 =>
      px_b2 (fn_M_puts a0 a1 z16 a2 s0) fun z17 s18 =>
      Option.bind (px_ast s18 z14 x4 z17) fun s19 =>
      px_let (x4 + 1) fun v4_20 =>
      fn_M_putsAll_L62 a0 a1 a2 a3 k fu v4_20 s19
    ) else (
      k s0
    )
def fn_M_putsAll_L53  (a0 : Nat) (a1 : Nat) (a2 : Int32) (k : hp_I → Option (hp_I)) : Nat → Int32 → hp_I → Option (hp_I)
  | 0, _, _ => none
  | fu + 1, x3, s0 =>
    if x3 < (16 : Int32) then (
      px_let (0 : Int32) fun v4_13 =>
      fn_M_putsAll_L62 a0 a1 a2 x3
        (fun (s_21 : hp_I) =>
          px_let (x3 + 1) fun v3_22 =>
          fn_M_putsAll_L53 a0 a1 a2 k fu v3_22 s_21
        )
        FU v4_13 s0
    ) else (
      k s0
    )
def fn_M_putsAll  (o : Nat) (p1 : Nat) (p2 : Int32) (σ : hp_I) : Option (hp_I) :=
  px_let (hp_s σ o 34 (0 : Int32)) fun s1 =>
  px_b2 (fn_M_puts o p1 (s1 o 31) p2 s1) fun z2 s3 =>
  px_let (hp_s s3 o 31 z2) fun s4 =>
  px_let (0 : Int32) fun v3_5 =>
  fn_M_putsAll_L21 o p1 p2
    (fun (s_11 : hp_I) =>
      px_let (0 : Int32) fun v3_12 =>
      fn_M_putsAll_L53 o p1 p2
        (fun (s_23 : hp_I) =>
          some s_23
        )
        FU v3_12 s_11
    )
    FU v3_5 s4
set_option maxHeartbeats 4000000 in
set_option maxRecDepth 100000 in
theorem pf_M_putsAll_L21 {G : wd_G} {M : wd_M}  (C : cx_C G M RX12 cX12_putsAll 5 1 none) (a0 : Nat) (ha0 : sh_kd a0 = 12) (a1 : Nat) (ha1 : sh_kd a1 = 13) (a2 : Int32)  (τ : hp_L) (k : hp_I → Option (hp_I)) (hk : ∀ (s : hp_I), dn_D G M 5 0 0 (cl_M G M (ci_h τ)) 51 [(0, .ref (wd_b G + a0)), (1, .ref (wd_b G + a1)), (2, .int a2)] [] s τ (k s)) : ∀ (fu : Nat) (x3 : Int32) (s0 : hp_I), dn_D G M 5 0 0 (cl_M G M (ci_h τ)) 21 [(0, .ref (wd_b G + a0)), (1, .ref (wd_b G + a1)), (2, .int a2), (3, .int x3)] [] s0 τ (fn_M_putsAll_L21 a0 a1 a2 k fu x3 s0) := by
  intro fu
  induction fu with
  | zero => exact fun x3 s0 => dn_none
  | succ fu ih =>
    intro x3 s0
    unfold fn_M_putsAll_L21
    refine dn_iload_n C dX12_putsAll_21 rfl 3 rfl rfl ?_
    refine dn_bipush C dX12_putsAll_22 ic_b_47 rfl ?_
    refine dn_icmp_ge (t := 51) C dX12_putsAll_24 (by decide) rfl ?_ ?_
    · refine dn_aload_n C dX12_putsAll_27 rfl 0 rfl rfl ?_
      refine dn_getR C fd_X12_55 ha0 dX12_putsAll_28 rfl ?_
      refine dn_iload_n C dX12_putsAll_31 rfl 3 rfl rfl ?_
      refine dn_aload_n C dX12_putsAll_32 rfl 0 rfl rfl ?_
      refine dn_aload_n C dX12_putsAll_33 rfl 1 rfl rfl ?_
      refine dn_aload_n C dX12_putsAll_34 rfl 0 rfl rfl ?_
      refine dn_getR C fd_X12_55 ha0 dX12_putsAll_35 rfl ?_
      refine dn_iload_n C dX12_putsAll_38 rfl 3 rfl rfl ?_
      refine dn_iald C (kt_12_25 ha0) dX12_putsAll_39 rfl (fun z6 => ?_)
      refine dn_iload_n C dX12_putsAll_40 rfl 2 rfl rfl ?_
      refine dn_callV_ih (As := [.ref (wd_b G + a1), .int z6, .int a2]) (st := [.int x3, .ref (wd_b G + sh_rf a0 25)]) C (ok_M_puts (cx_g C) a0 ha0 a1 ha1 z6 a2 s0 τ) mt_X12_puts mv_X12_puts lk_X12_404 (by decide) ha0 rfl ⟨Nat.zero_le _, Nat.zero_le _⟩ (Nat.le_of_ble_eq_true rfl) dX12_putsAll_41 rfl rfl (fun z7 s8 => ?_)
      refine dn_iast C (kt_12_25 ha0) dX12_putsAll_44 rfl (fun s9 => ?_)
      refine dn_iinc (lv0 := [(0, .ref (wd_b G + a0)), (1, .ref (wd_b G + a1)), (2, .int a2)]) (v := x3 + 1) C dX12_putsAll_45 3 rfl rfl (by decide) rfl rfl (fun v3_10 => ?_)
      refine dn_goto (t := 21) C dX12_putsAll_48 (by decide) ?_
      refine dn_pick [1, 2, 3, 0] rfl ?_
      exact ih v3_10 s9
    · refine dn_pick [0, 1, 2] rfl ?_
      exact hk s0
set_option maxHeartbeats 4000000 in
set_option maxRecDepth 100000 in
theorem pf_M_putsAll_L62 {G : wd_G} {M : wd_M}  (C : cx_C G M RX12 cX12_putsAll 5 1 none) (a0 : Nat) (ha0 : sh_kd a0 = 12) (a1 : Nat) (ha1 : sh_kd a1 = 13) (a2 : Int32) (a3 : Int32)  (τ : hp_L) (k : hp_I → Option (hp_I)) (hk : ∀ (s : hp_I), dn_D G M 5 0 0 (cl_M G M (ci_h τ)) 99 [(0, .ref (wd_b G + a0)), (1, .ref (wd_b G + a1)), (2, .int a2), (3, .int a3)] [] s τ (k s)) : ∀ (fu : Nat) (x4 : Int32) (s0 : hp_I), dn_D G M 5 0 0 (cl_M G M (ci_h τ)) 62 [(0, .ref (wd_b G + a0)), (1, .ref (wd_b G + a1)), (2, .int a2), (3, .int a3), (4, .int x4)] [] s0 τ (fn_M_putsAll_L62 a0 a1 a2 a3 k fu x4 s0) := by
  intro fu
  induction fu with
  | zero => exact fun x4 s0 => dn_none
  | succ fu ih =>
    intro x4 s0
    unfold fn_M_putsAll_L62
    refine dn_iload C dX12_putsAll_62 4 rfl rfl ?_
    refine dn_bipush C dX12_putsAll_64 ic_b_47 rfl ?_
    refine dn_icmp_ge (t := 99) C dX12_putsAll_66 (by decide) rfl ?_ ?_
    · refine dn_aload_n C dX12_putsAll_69 rfl 0 rfl rfl ?_
      refine dn_getR C fd_X12_64 ha0 dX12_putsAll_70 rfl ?_
      refine dn_iload_n C dX12_putsAll_73 rfl 3 rfl rfl ?_
      refine dn_aald C (kt_12_28 ha0) dX12_putsAll_74 rfl (fun z14 hz14 => ?_)
      refine dn_iload C dX12_putsAll_75 4 rfl rfl ?_
      refine dn_aload_n C dX12_putsAll_77 rfl 0 rfl rfl ?_
      refine dn_aload_n C dX12_putsAll_78 rfl 1 rfl rfl ?_
      refine dn_aload_n C dX12_putsAll_79 rfl 0 rfl rfl ?_
      refine dn_getR C fd_X12_64 ha0 dX12_putsAll_80 rfl ?_
      refine dn_iload_n C dX12_putsAll_83 rfl 3 rfl rfl ?_
      refine dn_aald C (kt_12_28 ha0) dX12_putsAll_84 rfl (fun z15 hz15 => ?_)
      refine dn_iload C dX12_putsAll_85 4 rfl rfl ?_
      refine dn_iald C (kt_row (kt_12_28 ha0) hz15) dX12_putsAll_87 rfl (fun z16 => ?_)
      refine dn_iload_n C dX12_putsAll_88 rfl 2 rfl rfl ?_
      refine dn_callV_ih (As := [.ref (wd_b G + a1), .int z16, .int a2]) (st := [.int x4, .ref (wd_b G + z14)]) C (ok_M_puts (cx_g C) a0 ha0 a1 ha1 z16 a2 s0 τ) mt_X12_puts mv_X12_puts lk_X12_404 (by decide) ha0 rfl ⟨Nat.zero_le _, Nat.zero_le _⟩ (Nat.le_of_ble_eq_true rfl) dX12_putsAll_89 rfl rfl (fun z17 s18 => ?_)
      refine dn_iast C (kt_row (kt_12_28 ha0) hz14) dX12_putsAll_92 rfl (fun s19 => ?_)
      refine dn_iinc (lv0 := [(0, .ref (wd_b G + a0)), (1, .ref (wd_b G + a1)), (2, .int a2), (3, .int a3)]) (v := x4 + 1) C dX12_putsAll_93 4 rfl rfl (by decide) rfl rfl (fun v4_20 => ?_)
      refine dn_goto (t := 62) C dX12_putsAll_96 (by decide) ?_
      refine dn_pick [1, 2, 3, 4, 0] rfl ?_
      exact ih v4_20 s19
    · refine dn_pick [0, 1, 2, 3] rfl ?_
      exact hk s0
set_option maxHeartbeats 4000000 in
set_option maxRecDepth 100000 in
theorem pf_M_putsAll_L53 {G : wd_G} {M : wd_M}  (C : cx_C G M RX12 cX12_putsAll 5 1 none) (a0 : Nat) (ha0 : sh_kd a0 = 12) (a1 : Nat) (ha1 : sh_kd a1 = 13) (a2 : Int32)  (τ : hp_L) (k : hp_I → Option (hp_I)) (hk : ∀ (s : hp_I), dn_D G M 5 0 0 (cl_M G M (ci_h τ)) 105 [] [] s τ (k s)) : ∀ (fu : Nat) (x3 : Int32) (s0 : hp_I), dn_D G M 5 0 0 (cl_M G M (ci_h τ)) 53 [(0, .ref (wd_b G + a0)), (1, .ref (wd_b G + a1)), (2, .int a2), (3, .int x3)] [] s0 τ (fn_M_putsAll_L53 a0 a1 a2 k fu x3 s0) := by
  intro fu
  induction fu with
  | zero => exact fun x3 s0 => dn_none
  | succ fu ih =>
    intro x3 s0
    unfold fn_M_putsAll_L53
    refine dn_iload_n C dX12_putsAll_53 rfl 3 rfl rfl ?_
    refine dn_bipush C dX12_putsAll_54 ic_b_16 rfl ?_
    refine dn_icmp_ge (t := 105) C dX12_putsAll_56 (by decide) rfl ?_ ?_
    · refine dn_iconst C dX12_putsAll_59 ic_i_0 rfl ?_
      refine dn_istore (lv0 := [(0, .ref (wd_b G + a0)), (1, .ref (wd_b G + a1)), (2, .int a2), (3, .int x3)]) C dX12_putsAll_60 (by decide) rfl rfl (fun v4_13 => ?_)
      refine dn_pick [1, 2, 3, 4, 0] rfl ?_
      refine pf_M_putsAll_L62  C  a0 ha0 a1 ha1 a2 x3  τ _ (fun s_21 => ?_) FU v4_13 s0
      refine dn_iinc (lv0 := [(0, .ref (wd_b G + a0)), (1, .ref (wd_b G + a1)), (2, .int a2)]) (v := x3 + 1) C dX12_putsAll_99 3 rfl rfl (by decide) rfl rfl (fun v3_22 => ?_)
      refine dn_goto (t := 53) C dX12_putsAll_102 (by decide) ?_
      refine dn_pick [1, 2, 3, 0] rfl ?_
      exact ih v3_22 s_21
    · refine dn_pick [] rfl ?_
      exact hk s0
set_option maxHeartbeats 4000000 in
set_option maxRecDepth 100000 in
theorem ok_M_putsAll {G : wd_G} {l : Launch} (hN : gd_ok G)  (o : Nat) (ho : sh_kd o = 12) (p1 : Nat) (hp1 : sh_kd p1 = 13) (p2 : Int32) (σ : hp_I) (τ : hp_L) : cl_C G l 1 yX12_putsAll cX12_putsAll 5 none [.ref (wd_b G + o), .ref (wd_b G + p1), .int p2] σ τ (ci_h τ) (fn_M_putsAll o p1 p2 σ) := by
  refine cl_of (lv0 := [(0, .ref (wd_b G + o)), (1, .ref (wd_b G + p1)), (2, .int p2)]) (ci_h τ) (by decide) (Nat.le_of_ble_eq_true rfl) rfl hN (fun M hM C => ?_)
  have C : cx_C G M RX12 cX12_putsAll 5 1 none := C
  unfold fn_M_putsAll
  refine dn_aload_n C dX12_putsAll_0 rfl 0 rfl rfl ?_
  refine dn_iconst C dX12_putsAll_1 ic_i_0 rfl ?_
  refine dn_putI C fp_X12_401 ho dX12_putsAll_2 rfl (fun s1 => ?_)
  refine dn_aload_n C dX12_putsAll_5 rfl 0 rfl rfl ?_
  refine dn_aload_n C dX12_putsAll_6 rfl 0 rfl rfl ?_
  refine dn_aload_n C dX12_putsAll_7 rfl 1 rfl rfl ?_
  refine dn_aload_n C dX12_putsAll_8 rfl 0 rfl rfl ?_
  refine dn_getI C fd_X12_195 ho dX12_putsAll_9 rfl ?_
  refine dn_iload_n C dX12_putsAll_12 rfl 2 rfl rfl ?_
  refine dn_callV_ih (As := [.ref (wd_b G + p1), .int (s1 o 31), .int p2]) (st := [.ref (wd_b G + o)]) C (ok_M_puts (cx_g C) o ho p1 hp1 (s1 o 31) p2 s1 τ) mt_X12_puts mv_X12_puts lk_X12_404 (by decide) ho rfl ⟨Nat.zero_le _, Nat.zero_le _⟩ (Nat.le_of_ble_eq_true rfl) dX12_putsAll_13 rfl rfl (fun z2 s3 => ?_)
  refine dn_putI C fp_X12_195 ho dX12_putsAll_16 rfl (fun s4 => ?_)
  refine dn_iconst C dX12_putsAll_19 ic_i_0 rfl ?_
  refine dn_istore_n (lv0 := [(0, .ref (wd_b G + o)), (1, .ref (wd_b G + p1)), (2, .int p2)]) C dX12_putsAll_20 rfl (by decide) rfl rfl (fun v3_5 => ?_)
  refine dn_pick [1, 2, 3, 0] rfl ?_
  refine pf_M_putsAll_L21  C  o ho p1 hp1 p2  τ _ (fun s_11 => ?_) FU v3_5 s4
  refine dn_iconst C dX12_putsAll_51 ic_i_0 rfl ?_
  refine dn_istore_n (lv0 := [(0, .ref (wd_b G + o)), (1, .ref (wd_b G + p1)), (2, .int p2)]) C dX12_putsAll_52 rfl (by decide) rfl rfl (fun v3_12 => ?_)
  refine dn_pick [1, 2, 3, 0] rfl ?_
  refine pf_M_putsAll_L53  C  o ho p1 hp1 p2  τ _ (fun s_23 => ?_) FU v3_12 s_11
  exact dn_vret C dX12_putsAll_105 rfl
def fn_M_skipWord_L0  (a0 : Nat) (k : hp_I → Option (hp_I)) : Nat → hp_I → Option (hp_I)
  | 0, _ => none
  | fu + 1, s0 =>
    Option.bind (fn_M_byteAt a0 (s0 a0 4) s0) fun z1 =>
    Option.bind (fn_M_isSmall z1) fun z2 =>
    if z2 = 0 then (
      k s0
    ) else (
      px_let (hp_s s0 a0 4 ((s0 a0 4) + (1 : Int32))) fun s3 =>
      fn_M_skipWord_L0 a0 k fu s3
    )
def fn_M_skipWord  (o : Nat) (σ : hp_I) : Option (hp_I) :=
  fn_M_skipWord_L0 o
    (fun (s_4 : hp_I) =>
      some s_4
    )
    FU σ
set_option maxHeartbeats 4000000 in
set_option maxRecDepth 100000 in
theorem pf_M_skipWord_L0 {G : wd_G} {M : wd_M}  (C : cx_C G M RX12 cX12_skipWord 1 1 none) (a0 : Nat) (ha0 : sh_kd a0 = 12)  (τ : hp_L) (k : hp_I → Option (hp_I)) (hk : ∀ (s : hp_I), dn_D G M 1 0 0 (cl_M G M (ci_h τ)) 27 [] [] s τ (k s)) : ∀ (fu : Nat) (s0 : hp_I), dn_D G M 1 0 0 (cl_M G M (ci_h τ)) 0 [(0, .ref (wd_b G + a0))] [] s0 τ (fn_M_skipWord_L0 a0 k fu s0) := by
  intro fu
  induction fu with
  | zero => exact fun s0 => dn_none
  | succ fu ih =>
    intro s0
    unfold fn_M_skipWord_L0
    refine dn_aload_n C dX12_skipWord_0 rfl 0 rfl rfl ?_
    refine dn_aload_n C dX12_skipWord_1 rfl 0 rfl rfl ?_
    refine dn_getI C fd_X12_102 ha0 dX12_skipWord_2 rfl ?_
    refine dn_callV_i (As := [.int (s0 a0 4)]) (st := []) C (ok_M_byteAt (cx_g C) a0 ha0 (s0 a0 4) s0 τ) mt_X12_byteAt mv_X12_byteAt lk_X12_105 (by decide) ha0 rfl ⟨Nat.zero_le _, Nat.zero_le _⟩ (Nat.le_of_ble_eq_true rfl) dX12_skipWord_5 rfl rfl (fun z1 => ?_)
    refine dn_callS_i (As := [.int z1]) (st := []) C (ok_M_isSmall (cx_g C) z1 s0 τ) mt_X12_isSmall ms_X12_isSmall lk_X12_131 (by decide) rfl ⟨Nat.zero_le _, Nat.zero_le _⟩ (Nat.le_of_ble_eq_true rfl) dX12_skipWord_8 rfl rfl (fun z2 => ?_)
    refine dn_if_eq (t := 27) C dX12_skipWord_11 (by decide) rfl ?_ ?_
    · refine dn_pick [] rfl ?_
      exact hk s0
    · refine dn_aload_n C dX12_skipWord_14 rfl 0 rfl rfl ?_
      refine dn_dup C dX12_skipWord_15 rfl rfl ?_
      refine dn_getI C fd_X12_102 ha0 dX12_skipWord_16 rfl ?_
      refine dn_iconst C dX12_skipWord_19 ic_i_1 rfl ?_
      refine dn_iadd C dX12_skipWord_20 rfl ?_
      refine dn_putI C fp_X12_102 ha0 dX12_skipWord_21 rfl (fun s3 => ?_)
      refine dn_goto (t := 0) C dX12_skipWord_24 (by decide) ?_
      exact ih s3
set_option maxHeartbeats 4000000 in
set_option maxRecDepth 100000 in
theorem ok_M_skipWord {G : wd_G} {l : Launch} (hN : gd_ok G)  (o : Nat) (ho : sh_kd o = 12) (σ : hp_I) (τ : hp_L) : cl_C G l 1 yX12_skipWord cX12_skipWord 1 none [.ref (wd_b G + o)] σ τ (ci_h τ) (fn_M_skipWord o σ) := by
  refine cl_of (lv0 := [(0, .ref (wd_b G + o))]) (ci_h τ) (by decide) (Nat.le_of_ble_eq_true rfl) rfl hN (fun M hM C => ?_)
  have C : cx_C G M RX12 cX12_skipWord 1 1 none := C
  unfold fn_M_skipWord
  refine pf_M_skipWord_L0  C  o ho  τ _ (fun s_4 => ?_) FU σ
  exact dn_vret C dX12_skipWord_27 rfl
def fn_M_status  (o : Nat) (p1 : Int32) (σ : hp_I) : Option (Int32 × hp_I) :=
  px_let (hp_s σ o 0 (0 : Int32)) fun s1 =>
  Option.bind (fn_M_in p1 (0 : Int32) (1 : Int32)) fun z2 =>
  px_jn (fun (t3 : Int32) =>
    some (t3, s1)
  ) fun j4 =>
    if z2 = 0 then (
      j4 (-1 : Int32)
    ) else (
      Option.bind (px_ald s1 (sh_rf o 10) p1) fun z5 =>
      j4 z5
    )
set_option maxHeartbeats 4000000 in
set_option maxRecDepth 100000 in
theorem ok_M_status {G : wd_G} {l : Launch} (hN : gd_ok G)  (o : Nat) (ho : sh_kd o = 12) (p1 : Int32) (σ : hp_I) (τ : hp_L) : cl_C G l 1 yX12_status cX12_status 2 (some .int) [.ref (wd_b G + o), .int p1] σ τ (ci_ih τ) (fn_M_status o p1 σ) := by
  refine cl_of (lv0 := [(0, .ref (wd_b G + o)), (1, .int p1)]) (ci_ih τ) (by decide) (Nat.le_of_ble_eq_true rfl) rfl hN (fun M hM C => ?_)
  have C : cx_C G M RX12 cX12_status 2 1 (some .int) := C
  unfold fn_M_status
  refine dn_aload_n C dX12_status_0 rfl 0 rfl rfl ?_
  refine dn_iconst C dX12_status_1 ic_i_0 rfl ?_
  refine dn_putI C fp_X12_93 ho dX12_status_2 rfl (fun s1 => ?_)
  refine dn_iload_n C dX12_status_5 rfl 1 rfl rfl ?_
  refine dn_iconst C dX12_status_6 ic_i_0 rfl ?_
  refine dn_iconst C dX12_status_7 ic_i_1 rfl ?_
  refine dn_callS_i (As := [.int p1, .int (0 : Int32), .int (1 : Int32)]) (st := []) C (ok_M_in (cx_g C) p1 (0 : Int32) (1 : Int32) s1 τ) mt_X12_in ms_X12_in lk_X12_127 (by decide) rfl ⟨Nat.zero_le _, Nat.zero_le _⟩ (Nat.le_of_ble_eq_true rfl) dX12_status_8 rfl rfl (fun z2 => ?_)
  refine dn_jn (fun z => ∀ (t3 : Int32), dn_D G M 2 0 0 (cl_M G M (ci_ih τ)) 24 [] [.int t3] s1 τ (z t3)) (fun t3 => ?_) (fun j4 hj4 => ?_)
  · exact dn_iret C dX12_status_24 rfl
  · refine dn_if_eq (t := 23) C dX12_status_11 (by decide) rfl ?_ ?_
    · refine dn_iconst C dX12_status_23 ic_i_m1 rfl ?_
      refine dn_pick [] rfl ?_
      exact hj4 (-1 : Int32)
    · refine dn_aload_n C dX12_status_14 rfl 0 rfl rfl ?_
      refine dn_getR C fd_X12_17 ho dX12_status_15 rfl ?_
      refine dn_iload_n C dX12_status_18 rfl 1 rfl rfl ?_
      refine dn_iald C (kt_12_10 ho) dX12_status_19 rfl (fun z5 => ?_)
      refine dn_goto (t := 24) C dX12_status_20 (by decide) ?_
      refine dn_pick [] rfl ?_
      exact hj4 z5
def fn_M_undo  (o : Nat) (σ : hp_I) : Option (Int32 × hp_I) :=
  px_let (hp_s σ o 0 (0 : Int32)) fun s1 =>
  if (s1 o 31) = 0 then (
    some ((-1 : Int32), s1)
  ) else (
    px_let (hp_s s1 o 31 ((s1 o 31) - (1 : Int32))) fun s2 =>
    Option.bind (px_rld (sh_rf o 28) (s2 o 31)) fun z3 =>
    Option.bind (fn_M_copies z3 (sh_rf o 25) s2) fun s5 =>
    px_let (hp_s s5 o 32 (0 : Int32)) fun s6 =>
    some (s6 o 31, s6)
  )
set_option maxHeartbeats 4000000 in
set_option maxRecDepth 100000 in
theorem ok_M_undo {G : wd_G} {l : Launch} (hN : gd_ok G)  (o : Nat) (ho : sh_kd o = 12) (σ : hp_I) (τ : hp_L) : cl_C G l 1 yX12_undo cX12_undo 1 (some .int) [.ref (wd_b G + o)] σ τ (ci_ih τ) (fn_M_undo o σ) := by
  refine cl_of (lv0 := [(0, .ref (wd_b G + o))]) (ci_ih τ) (by decide) (Nat.le_of_ble_eq_true rfl) rfl hN (fun M hM C => ?_)
  have C : cx_C G M RX12 cX12_undo 1 1 (some .int) := C
  unfold fn_M_undo
  refine dn_aload_n C dX12_undo_0 rfl 0 rfl rfl ?_
  refine dn_iconst C dX12_undo_1 ic_i_0 rfl ?_
  refine dn_putI C fp_X12_93 ho dX12_undo_2 rfl (fun s1 => ?_)
  refine dn_aload_n C dX12_undo_5 rfl 0 rfl rfl ?_
  refine dn_getI C fd_X12_195 ho dX12_undo_6 rfl ?_
  refine dn_if_ne (t := 14) C dX12_undo_9 (by decide) rfl ?_ ?_
  · refine dn_iconst C dX12_undo_12 ic_i_m1 rfl ?_
    exact dn_iret C dX12_undo_13 rfl
  · refine dn_aload_n C dX12_undo_14 rfl 0 rfl rfl ?_
    refine dn_dup C dX12_undo_15 rfl rfl ?_
    refine dn_getI C fd_X12_195 ho dX12_undo_16 rfl ?_
    refine dn_iconst C dX12_undo_19 ic_i_1 rfl ?_
    refine dn_isub C dX12_undo_20 rfl ?_
    refine dn_putI C fp_X12_195 ho dX12_undo_21 rfl (fun s2 => ?_)
    refine dn_aload_n C dX12_undo_24 rfl 0 rfl rfl ?_
    refine dn_getR C fd_X12_64 ho dX12_undo_25 rfl ?_
    refine dn_aload_n C dX12_undo_28 rfl 0 rfl rfl ?_
    refine dn_getI C fd_X12_195 ho dX12_undo_29 rfl ?_
    refine dn_aald C (kt_12_28 ho) dX12_undo_32 rfl (fun z3 hz3 => ?_)
    refine dn_aload_n C dX12_undo_33 rfl 0 rfl rfl ?_
    refine dn_getR C fd_X12_55 ho dX12_undo_34 rfl ?_
    refine dn_callS_h (As := [.ref (wd_b G + z3), .ref (wd_b G + sh_rf o 25)]) (st := []) C (ok_M_copies (cx_g C) z3 (kt_row (kt_12_28 ho) hz3) (sh_rf o 25) (kt_12_25 ho) s2 τ) mt_X12_copies ms_X12_copies lk_X12_328 (by decide) rfl ⟨Nat.zero_le _, Nat.zero_le _⟩ (Nat.le_of_ble_eq_true rfl) dX12_undo_37 rfl rfl (fun s5 => ?_)
    refine dn_aload_n C dX12_undo_40 rfl 0 rfl rfl ?_
    refine dn_iconst C dX12_undo_41 ic_i_0 rfl ?_
    refine dn_putI C fp_X12_198 ho dX12_undo_42 rfl (fun s6 => ?_)
    refine dn_aload_n C dX12_undo_45 rfl 0 rfl rfl ?_
    refine dn_getI C fd_X12_195 ho dX12_undo_46 rfl ?_
    exact dn_iret C dX12_undo_49 rfl
def fn_M_wayEnd  (o : Nat) (p1 : Int32) (p2 : Int32) (σ : hp_I) : Option (Int32) :=
  Option.bind (fn_M_placeOf (1 : Int32) p1) fun z1 =>
  Option.bind (px_rld (sh_rf o 14) z1) fun z2 =>
  Option.bind (px_ald σ z2 p2) fun z3 =>
  some z3
set_option maxHeartbeats 4000000 in
set_option maxRecDepth 100000 in
theorem ok_M_wayEnd {G : wd_G} {l : Launch} (hN : gd_ok G)  (o : Nat) (ho : sh_kd o = 12) (p1 : Int32) (p2 : Int32) (σ : hp_I) (τ : hp_L) : cl_C G l 1 yX12_wayEnd cX12_wayEnd 3 (some .int) [.ref (wd_b G + o), .int p1, .int p2] σ τ (ci_i σ τ) (fn_M_wayEnd o p1 p2 σ) := by
  refine cl_of (lv0 := [(0, .ref (wd_b G + o)), (1, .int p1), (2, .int p2)]) (ci_i σ τ) (by decide) (Nat.le_of_ble_eq_true rfl) rfl hN (fun M hM C => ?_)
  have C : cx_C G M RX12 cX12_wayEnd 3 1 (some .int) := C
  unfold fn_M_wayEnd
  refine dn_aload_n C dX12_wayEnd_0 rfl 0 rfl rfl ?_
  refine dn_getR C fd_X12_31 ho dX12_wayEnd_1 rfl ?_
  refine dn_iconst C dX12_wayEnd_4 ic_i_1 rfl ?_
  refine dn_iload_n C dX12_wayEnd_5 rfl 1 rfl rfl ?_
  refine dn_callS_i (As := [.int (1 : Int32), .int p1]) (st := [.ref (wd_b G + sh_rf o 14)]) C (ok_M_placeOf (cx_g C) (1 : Int32) p1 σ τ) mt_X12_placeOf ms_X12_placeOf lk_X12_161 (by decide) rfl ⟨Nat.zero_le _, Nat.zero_le _⟩ (Nat.le_of_ble_eq_true rfl) dX12_wayEnd_6 rfl rfl (fun z1 => ?_)
  refine dn_aald C (kt_12_14 ho) dX12_wayEnd_9 rfl (fun z2 hz2 => ?_)
  refine dn_iload_n C dX12_wayEnd_10 rfl 2 rfl rfl ?_
  refine dn_iald C (kt_row (kt_12_14 ho) hz2) dX12_wayEnd_11 rfl (fun z3 => ?_)
  exact dn_iret C dX12_wayEnd_12 rfl
def fn_M_beside_L5  (a0 : Nat) (a1 : Nat) (a2 : Int32) (σ : hp_I) (k : Int32 → Option (Int32)) : Nat → Int32 → Int32 → Option (Int32)
  | 0, _, _ => none
  | fu + 1, x3, x4 =>
    Option.bind (px_ald σ (sh_rf a0 12) (1 : Int32)) fun z3 =>
    if x4 < z3 then (
      Option.bind (px_ald σ a1 (45 : Int32)) fun z4 =>
      Option.bind (fn_M_has z4 x4) fun z5 =>
      px_jn (fun (a3_6 : Int32) =>
        px_let (x4 + 1) fun v4_7 =>
        fn_M_beside_L5 a0 a1 a2 σ k fu a3_6 v4_7
      ) fun j8 =>
        if z5 = 0 then (
          Option.bind (fn_M_wayEnd a0 x4 (0 : Int32) σ) fun z9 =>
          px_jn (fun (t10 : Int32) =>
            px_let (x3 ||| t10) fun v3_11 =>
            Option.bind (fn_M_wayEnd a0 x4 (1 : Int32) σ) fun z12 =>
            px_jn (fun (t13 : Int32) =>
              px_let (v3_11 ||| t13) fun v3_14 =>
              j8 v3_14
            ) fun j15 =>
              if z12 = a2 then (
                Option.bind (fn_M_wayEnd a0 x4 (0 : Int32) σ) fun z16 =>
                j15 ((1 : Int32) <<< (z16 &&& 31))
              ) else (
                j15 (0 : Int32)
              )
          ) fun j17 =>
            if z9 = a2 then (
              Option.bind (fn_M_wayEnd a0 x4 (1 : Int32) σ) fun z18 =>
              j17 ((1 : Int32) <<< (z18 &&& 31))
            ) else (
              j17 (0 : Int32)
            )
        ) else (
          j8 x3
        )
    ) else (
      k x3
    )
def fn_M_beside  (o : Nat) (p1 : Nat) (p2 : Int32) (σ : hp_I) : Option (Int32) :=
  px_let (0 : Int32) fun v3_1 =>
  px_let (0 : Int32) fun v4_2 =>
  fn_M_beside_L5 o p1 p2 σ
    (fun (y_19 : Int32) =>
      some y_19
    )
    FU v3_1 v4_2
set_option maxHeartbeats 4000000 in
set_option maxRecDepth 100000 in
theorem pf_M_beside_L5 {G : wd_G} {M : wd_M}  (C : cx_C G M RX12 cX12_beside 5 2 (some .int)) (a0 : Nat) (ha0 : sh_kd a0 = 12) (a1 : Nat) (ha1 : sh_kd a1 = 13) (a2 : Int32) (σ : hp_I) (τ : hp_L) (k : Int32 → Option (Int32)) (hk : ∀ (y3 : Int32), dn_D G M 5 0 0 (cl_M G M (ci_i σ τ)) 91 [(3, .int y3)] [] σ τ (k y3)) : ∀ (fu : Nat) (x3 : Int32) (x4 : Int32), dn_D G M 5 0 0 (cl_M G M (ci_i σ τ)) 5 [(0, .ref (wd_b G + a0)), (1, .ref (wd_b G + a1)), (2, .int a2), (3, .int x3), (4, .int x4)] [] σ τ (fn_M_beside_L5 a0 a1 a2 σ k fu x3 x4) := by
  intro fu
  induction fu with
  | zero => exact fun x3 x4 => dn_none
  | succ fu ih =>
    intro x3 x4
    unfold fn_M_beside_L5
    refine dn_iload C dX12_beside_5 4 rfl rfl ?_
    refine dn_aload_n C dX12_beside_7 rfl 0 rfl rfl ?_
    refine dn_getR C fd_X12_23 ha0 dX12_beside_8 rfl ?_
    refine dn_iconst C dX12_beside_11 ic_i_1 rfl ?_
    refine dn_iald C (kt_12_12 ha0) dX12_beside_12 rfl (fun z3 => ?_)
    refine dn_icmp_ge (t := 91) C dX12_beside_13 (by decide) rfl ?_ ?_
    · refine dn_aload_n C dX12_beside_16 rfl 1 rfl rfl ?_
      refine dn_bipush C dX12_beside_17 ic_b_45 rfl ?_
      refine dn_iald C ha1 dX12_beside_19 rfl (fun z4 => ?_)
      refine dn_iload C dX12_beside_20 4 rfl rfl ?_
      refine dn_callS_i (As := [.int z4, .int x4]) (st := []) C (ok_M_has (cx_g C) z4 x4 σ τ) mt_X12_has ms_X12_has lk_X12_251 (by decide) rfl ⟨Nat.zero_le _, Nat.zero_le _⟩ (Nat.le_of_ble_eq_true rfl) dX12_beside_22 rfl rfl (fun z5 => ?_)
      refine dn_jn (fun z => ∀ (a3_6 : Int32), dn_D G M 5 0 0 (cl_M G M (ci_i σ τ)) 85 [(0, .ref (wd_b G + a0)), (1, .ref (wd_b G + a1)), (2, .int a2), (3, .int a3_6), (4, .int x4)] [] σ τ (z a3_6)) (fun a3_6 => ?_) (fun j8 hj8 => ?_)
      · refine dn_iinc (lv0 := [(0, .ref (wd_b G + a0)), (1, .ref (wd_b G + a1)), (2, .int a2), (3, .int a3_6)]) (v := x4 + 1) C dX12_beside_85 4 rfl rfl (by decide) rfl rfl (fun v4_7 => ?_)
        refine dn_goto (t := 5) C dX12_beside_88 (by decide) ?_
        refine dn_pick [1, 2, 3, 4, 0] rfl ?_
        exact ih a3_6 v4_7
      · refine dn_if_eq (t := 31) C dX12_beside_25 (by decide) rfl ?_ ?_
        · refine dn_iload_n C dX12_beside_31 rfl 3 rfl rfl ?_
          refine dn_aload_n C dX12_beside_32 rfl 0 rfl rfl ?_
          refine dn_iload C dX12_beside_33 4 rfl rfl ?_
          refine dn_iconst C dX12_beside_35 ic_i_0 rfl ?_
          refine dn_callV_i (As := [.int x4, .int (0 : Int32)]) (st := [.int x3]) C (ok_M_wayEnd (cx_g C) a0 ha0 x4 (0 : Int32) σ τ) mt_X12_wayEnd mv_X12_wayEnd lk_X12_286 (by decide) ha0 rfl ⟨Nat.zero_le _, Nat.zero_le _⟩ (Nat.le_of_ble_eq_true rfl) dX12_beside_36 rfl rfl (fun z9 => ?_)
          refine dn_iload_n C dX12_beside_39 rfl 2 rfl rfl ?_
          refine dn_jn (fun z => ∀ (t10 : Int32), dn_D G M 5 0 0 (cl_M G M (ci_i σ τ)) 56 [(0, .ref (wd_b G + a0)), (1, .ref (wd_b G + a1)), (2, .int a2), (4, .int x4)] [.int t10, .int x3] σ τ (z t10)) (fun t10 => ?_) (fun j17 hj17 => ?_)
          · refine dn_ior C dX12_beside_56 rfl ?_
            refine dn_istore_n (lv0 := [(0, .ref (wd_b G + a0)), (1, .ref (wd_b G + a1)), (2, .int a2), (4, .int x4)]) C dX12_beside_57 rfl (by decide) rfl rfl (fun v3_11 => ?_)
            refine dn_iload_n C dX12_beside_58 rfl 0 rfl rfl ?_
            refine dn_aload_n C dX12_beside_59 rfl 1 rfl rfl ?_
            refine dn_iload C dX12_beside_60 4 rfl rfl ?_
            refine dn_iconst C dX12_beside_62 ic_i_1 rfl ?_
            refine dn_callV_i (As := [.int x4, .int (1 : Int32)]) (st := [.int v3_11]) C (ok_M_wayEnd (cx_g C) a0 ha0 x4 (1 : Int32) σ τ) mt_X12_wayEnd mv_X12_wayEnd lk_X12_286 (by decide) ha0 rfl ⟨Nat.zero_le _, Nat.zero_le _⟩ (Nat.le_of_ble_eq_true rfl) dX12_beside_63 rfl rfl (fun z12 => ?_)
            refine dn_iload_n C dX12_beside_66 rfl 3 rfl rfl ?_
            refine dn_jn (fun z => ∀ (t13 : Int32), dn_D G M 5 0 0 (cl_M G M (ci_i σ τ)) 83 [(0, .ref (wd_b G + a0)), (1, .ref (wd_b G + a1)), (2, .int a2), (4, .int x4)] [.int t13, .int v3_11] σ τ (z t13)) (fun t13 => ?_) (fun j15 hj15 => ?_)
            · refine dn_ior C dX12_beside_83 rfl ?_
              refine dn_istore_n (lv0 := [(0, .ref (wd_b G + a0)), (1, .ref (wd_b G + a1)), (2, .int a2), (4, .int x4)]) C dX12_beside_84 rfl (by decide) rfl rfl (fun v3_14 => ?_)
              refine dn_pick [1, 2, 3, 0, 4] rfl ?_
              exact hj8 v3_14
            · refine dn_icmp_ne (t := 82) C dX12_beside_67 (by decide) rfl ?_ ?_
              · refine dn_iconst C dX12_beside_70 ic_i_1 rfl ?_
                refine dn_aload_n C dX12_beside_71 rfl 1 rfl rfl ?_
                refine dn_iload C dX12_beside_72 4 rfl rfl ?_
                refine dn_iconst C dX12_beside_74 ic_i_0 rfl ?_
                refine dn_callV_i (As := [.int x4, .int (0 : Int32)]) (st := [.int (1 : Int32), .int v3_11]) C (ok_M_wayEnd (cx_g C) a0 ha0 x4 (0 : Int32) σ τ) mt_X12_wayEnd mv_X12_wayEnd lk_X12_286 (by decide) ha0 rfl ⟨Nat.zero_le _, Nat.zero_le _⟩ (Nat.le_of_ble_eq_true rfl) dX12_beside_75 rfl rfl (fun z16 => ?_)
                refine dn_ishl C dX12_beside_78 rfl ?_
                refine dn_goto (t := 83) C dX12_beside_79 (by decide) ?_
                refine dn_pick [1, 2, 3, 4] rfl ?_
                exact hj15 ((1 : Int32) <<< (z16 &&& 31))
              · refine dn_iconst C dX12_beside_82 ic_i_0 rfl ?_
                refine dn_pick [1, 2, 3, 4] rfl ?_
                exact hj15 (0 : Int32)
          · refine dn_icmp_ne (t := 55) C dX12_beside_40 (by decide) rfl ?_ ?_
            · refine dn_iconst C dX12_beside_43 ic_i_1 rfl ?_
              refine dn_aload_n C dX12_beside_44 rfl 0 rfl rfl ?_
              refine dn_iload C dX12_beside_45 4 rfl rfl ?_
              refine dn_iconst C dX12_beside_47 ic_i_1 rfl ?_
              refine dn_callV_i (As := [.int x4, .int (1 : Int32)]) (st := [.int (1 : Int32), .int x3]) C (ok_M_wayEnd (cx_g C) a0 ha0 x4 (1 : Int32) σ τ) mt_X12_wayEnd mv_X12_wayEnd lk_X12_286 (by decide) ha0 rfl ⟨Nat.zero_le _, Nat.zero_le _⟩ (Nat.le_of_ble_eq_true rfl) dX12_beside_48 rfl rfl (fun z18 => ?_)
              refine dn_ishl C dX12_beside_51 rfl ?_
              refine dn_goto (t := 56) C dX12_beside_52 (by decide) ?_
              refine dn_pick [0, 1, 2, 4] rfl ?_
              exact hj17 ((1 : Int32) <<< (z18 &&& 31))
            · refine dn_iconst C dX12_beside_55 ic_i_0 rfl ?_
              refine dn_pick [0, 1, 2, 4] rfl ?_
              exact hj17 (0 : Int32)
        · refine dn_goto (t := 85) C dX12_beside_28 (by decide) ?_
          exact hj8 x3
    · refine dn_pick [3] rfl ?_
      exact hk x3
set_option maxHeartbeats 4000000 in
set_option maxRecDepth 100000 in
theorem ok_M_beside {G : wd_G} {l : Launch} (hN : gd_ok G)  (o : Nat) (ho : sh_kd o = 12) (p1 : Nat) (hp1 : sh_kd p1 = 13) (p2 : Int32) (σ : hp_I) (τ : hp_L) : cl_C G l 2 yX12_beside cX12_beside 5 (some .int) [.ref (wd_b G + o), .ref (wd_b G + p1), .int p2] σ τ (ci_i σ τ) (fn_M_beside o p1 p2 σ) := by
  refine cl_of (lv0 := [(0, .ref (wd_b G + o)), (1, .ref (wd_b G + p1)), (2, .int p2)]) (ci_i σ τ) (by decide) (Nat.le_of_ble_eq_true rfl) rfl hN (fun M hM C => ?_)
  have C : cx_C G M RX12 cX12_beside 5 2 (some .int) := C
  unfold fn_M_beside
  refine dn_iconst C dX12_beside_0 ic_i_0 rfl ?_
  refine dn_istore_n (lv0 := [(0, .ref (wd_b G + o)), (1, .ref (wd_b G + p1)), (2, .int p2)]) C dX12_beside_1 rfl (by decide) rfl rfl (fun v3_1 => ?_)
  refine dn_iconst C dX12_beside_2 ic_i_0 rfl ?_
  refine dn_istore (lv0 := [(3, .int v3_1), (0, .ref (wd_b G + o)), (1, .ref (wd_b G + p1)), (2, .int p2)]) C dX12_beside_3 (by decide) rfl rfl (fun v4_2 => ?_)
  refine dn_pick [2, 3, 4, 1, 0] rfl ?_
  refine pf_M_beside_L5  C  o ho p1 hp1 p2 σ τ _ (fun y_19 => ?_) FU v3_1 v4_2
  refine dn_iload_n C dX12_beside_91 rfl 0 rfl rfl ?_
  exact dn_iret C dX12_beside_92 rfl
def fn_M_byLaw_L16  (a0 : Nat) (k : hp_I → Option (Int32 × hp_I)) : Nat → Int32 → Int32 → hp_I → Option (Int32 × hp_I)
  | 0, _, _, _ => none
  | fu + 1, x1, x2, s0 =>
    if x2 < (s0 a0 15) then (
      Option.bind (px_rld (sh_rf a0 17) x2) fun z5 =>
      Option.bind (px_ald s0 z5 (0 : Int32)) fun z6 =>
      px_jn (fun (a1_7 : Int32) (s8 : hp_I) =>
        px_let (x2 + 1) fun v2_9 =>
        fn_M_byLaw_L16 a0 k fu a1_7 v2_9 s8
      ) fun j10 =>
        if z6 < (2 : Int32) then (
          Option.bind (px_rld (sh_rf a0 17) x2) fun z11 =>
          Option.bind (px_ald s0 z11 (0 : Int32)) fun z12 =>
          px_jn (fun (t13 : Int32) =>
            Option.bind (px_ast s0 (sh_rf a0 21) x1 t13) fun s14 =>
            px_let (x1 + 1) fun v1_15 =>
            j10 v1_15 s14
          ) fun j16 =>
            if z12 = 0 then (
              Option.bind (px_rld (sh_rf a0 17) x2) fun z17 =>
              Option.bind (px_ald s0 z17 (1 : Int32)) fun z18 =>
              j16 z18
            ) else (
              Option.bind (px_rld (sh_rf a0 17) x2) fun z19 =>
              Option.bind (px_ald s0 z19 (1 : Int32)) fun z20 =>
              Option.bind (px_ald s0 (sh_rf a0 22) z20) fun z21 =>
              j16 z21
            )
        ) else (
          px_let (x1 + (-1)) fun v1_22 =>
          Option.bind (px_rld (sh_rf a0 17) x2) fun z23 =>
          Option.bind (px_ald s0 z23 (0 : Int32)) fun z24 =>
          Option.bind (px_ald s0 (sh_rf a0 21) (v1_22 - (1 : Int32))) fun z25 =>
          Option.bind (px_ald s0 (sh_rf a0 21) v1_22) fun z26 =>
          Option.bind (fn_M_by z24 z25 z26) fun z27 =>
          Option.bind (px_ast s0 (sh_rf a0 21) (v1_22 - (1 : Int32)) z27) fun s28 =>
          j10 v1_22 s28
        )
    ) else (
      k s0
    )
def fn_M_byLaw  (o : Nat) (σ : hp_I) : Option (Int32 × hp_I) :=
  px_let (0 : Int32) fun v1_1 =>
  Option.bind (px_ald σ (sh_rf o 22) (1 : Int32)) fun z2 =>
  Option.bind (px_ast σ (sh_rf o 21) (0 : Int32) z2) fun s3 =>
  px_let (0 : Int32) fun v2_4 =>
  fn_M_byLaw_L16 o
    (fun (s_29 : hp_I) =>
      Option.bind (px_ald s_29 (sh_rf o 21) (0 : Int32)) fun z30 =>
      Option.bind (fn_M_more2 (0 : Int32) z30) fun z31 =>
      Option.bind (fn_M_less (60 : Int32) z31) fun z32 =>
      some (z32, s_29)
    )
    FU v1_1 v2_4 s3
set_option maxHeartbeats 4000000 in
set_option maxRecDepth 100000 in
theorem pf_M_byLaw_L16 {G : wd_G} {M : wd_M}  (C : cx_C G M RX12 cX12_byLaw 3 2 (some .int)) (a0 : Nat) (ha0 : sh_kd a0 = 12)  (τ : hp_L) (k : hp_I → Option (Int32 × hp_I)) (hk : ∀ (s : hp_I), dn_D G M 3 0 0 (cl_M G M (ci_ih τ)) 125 [(0, .ref (wd_b G + a0))] [] s τ (k s)) : ∀ (fu : Nat) (x1 : Int32) (x2 : Int32) (s0 : hp_I), dn_D G M 3 0 0 (cl_M G M (ci_ih τ)) 16 [(0, .ref (wd_b G + a0)), (1, .int x1), (2, .int x2)] [] s0 τ (fn_M_byLaw_L16 a0 k fu x1 x2 s0) := by
  intro fu
  induction fu with
  | zero => exact fun x1 x2 s0 => dn_none
  | succ fu ih =>
    intro x1 x2 s0
    unfold fn_M_byLaw_L16
    refine dn_iload_n C dX12_byLaw_16 rfl 2 rfl rfl ?_
    refine dn_aload_n C dX12_byLaw_17 rfl 0 rfl rfl ?_
    refine dn_getI C fd_X12_189 ha0 dX12_byLaw_18 rfl ?_
    refine dn_icmp_ge (t := 125) C dX12_byLaw_21 (by decide) rfl ?_ ?_
    · refine dn_aload_n C dX12_byLaw_24 rfl 0 rfl rfl ?_
      refine dn_getR C fd_X12_34 ha0 dX12_byLaw_25 rfl ?_
      refine dn_iload_n C dX12_byLaw_28 rfl 2 rfl rfl ?_
      refine dn_aald C (kt_12_17 ha0) dX12_byLaw_29 rfl (fun z5 hz5 => ?_)
      refine dn_iconst C dX12_byLaw_30 ic_i_0 rfl ?_
      refine dn_iald C (kt_row (kt_12_17 ha0) hz5) dX12_byLaw_31 rfl (fun z6 => ?_)
      refine dn_iconst C dX12_byLaw_32 ic_i_2 rfl ?_
      refine dn_jn (fun z => ∀ (a1_7 : Int32) (s8 : hp_I), dn_D G M 3 0 0 (cl_M G M (ci_ih τ)) 119 [(0, .ref (wd_b G + a0)), (1, .int a1_7), (2, .int x2)] [] s8 τ (z a1_7 s8)) (fun a1_7 s8 => ?_) (fun j10 hj10 => ?_)
      · refine dn_iinc (lv0 := [(0, .ref (wd_b G + a0)), (1, .int a1_7)]) (v := x2 + 1) C dX12_byLaw_119 2 rfl rfl (by decide) rfl rfl (fun v2_9 => ?_)
        refine dn_goto (t := 16) C dX12_byLaw_122 (by decide) ?_
        refine dn_pick [1, 2, 0] rfl ?_
        exact ih a1_7 v2_9 s8
      · refine dn_icmp_ge (t := 83) C dX12_byLaw_33 (by decide) rfl ?_ ?_
        · refine dn_aload_n C dX12_byLaw_36 rfl 0 rfl rfl ?_
          refine dn_getR C fd_X12_46 ha0 dX12_byLaw_37 rfl ?_
          refine dn_iload_n C dX12_byLaw_40 rfl 1 rfl rfl ?_
          refine dn_aload_n C dX12_byLaw_41 rfl 0 rfl rfl ?_
          refine dn_getR C fd_X12_34 ha0 dX12_byLaw_42 rfl ?_
          refine dn_iload_n C dX12_byLaw_45 rfl 2 rfl rfl ?_
          refine dn_aald C (kt_12_17 ha0) dX12_byLaw_46 rfl (fun z11 hz11 => ?_)
          refine dn_iconst C dX12_byLaw_47 ic_i_0 rfl ?_
          refine dn_iald C (kt_row (kt_12_17 ha0) hz11) dX12_byLaw_48 rfl (fun z12 => ?_)
          refine dn_jn (fun z => ∀ (t13 : Int32), dn_D G M 3 0 0 (cl_M G M (ci_ih τ)) 76 [(0, .ref (wd_b G + a0)), (1, .int x1), (2, .int x2)] [.int t13, .int x1, .ref (wd_b G + sh_rf a0 21)] s0 τ (z t13)) (fun t13 => ?_) (fun j16 hj16 => ?_)
          · refine dn_iast C (kt_12_21 ha0) dX12_byLaw_76 rfl (fun s14 => ?_)
            refine dn_iinc (lv0 := [(0, .ref (wd_b G + a0)), (2, .int x2)]) (v := x1 + 1) C dX12_byLaw_77 1 rfl rfl (by decide) rfl rfl (fun v1_15 => ?_)
            refine dn_goto (t := 119) C dX12_byLaw_80 (by decide) ?_
            refine dn_pick [1, 0, 2] rfl ?_
            exact hj10 v1_15 s14
          · refine dn_if_ne (t := 63) C dX12_byLaw_49 (by decide) rfl ?_ ?_
            · refine dn_aload_n C dX12_byLaw_52 rfl 0 rfl rfl ?_
              refine dn_getR C fd_X12_34 ha0 dX12_byLaw_53 rfl ?_
              refine dn_iload_n C dX12_byLaw_56 rfl 2 rfl rfl ?_
              refine dn_aald C (kt_12_17 ha0) dX12_byLaw_57 rfl (fun z17 hz17 => ?_)
              refine dn_iconst C dX12_byLaw_58 ic_i_1 rfl ?_
              refine dn_iald C (kt_row (kt_12_17 ha0) hz17) dX12_byLaw_59 rfl (fun z18 => ?_)
              refine dn_goto (t := 76) C dX12_byLaw_60 (by decide) ?_
              exact hj16 z18
            · refine dn_aload_n C dX12_byLaw_63 rfl 0 rfl rfl ?_
              refine dn_getR C fd_X12_49 ha0 dX12_byLaw_64 rfl ?_
              refine dn_aload_n C dX12_byLaw_67 rfl 0 rfl rfl ?_
              refine dn_getR C fd_X12_34 ha0 dX12_byLaw_68 rfl ?_
              refine dn_iload_n C dX12_byLaw_71 rfl 2 rfl rfl ?_
              refine dn_aald C (kt_12_17 ha0) dX12_byLaw_72 rfl (fun z19 hz19 => ?_)
              refine dn_iconst C dX12_byLaw_73 ic_i_1 rfl ?_
              refine dn_iald C (kt_row (kt_12_17 ha0) hz19) dX12_byLaw_74 rfl (fun z20 => ?_)
              refine dn_iald C (kt_12_22 ha0) dX12_byLaw_75 rfl (fun z21 => ?_)
              exact hj16 z21
        · refine dn_iinc (lv0 := [(0, .ref (wd_b G + a0)), (2, .int x2)]) (v := x1 + (-1)) C dX12_byLaw_83 1 rfl rfl (by decide) rfl rfl (fun v1_22 => ?_)
          refine dn_aload_n C dX12_byLaw_86 rfl 1 rfl rfl ?_
          refine dn_getR C fd_X12_46 ha0 dX12_byLaw_87 rfl ?_
          refine dn_iload_n C dX12_byLaw_90 rfl 0 rfl rfl ?_
          refine dn_iconst C dX12_byLaw_91 ic_i_1 rfl ?_
          refine dn_isub C dX12_byLaw_92 rfl ?_
          refine dn_aload_n C dX12_byLaw_93 rfl 1 rfl rfl ?_
          refine dn_getR C fd_X12_34 ha0 dX12_byLaw_94 rfl ?_
          refine dn_iload_n C dX12_byLaw_97 rfl 2 rfl rfl ?_
          refine dn_aald C (kt_12_17 ha0) dX12_byLaw_98 rfl (fun z23 hz23 => ?_)
          refine dn_iconst C dX12_byLaw_99 ic_i_0 rfl ?_
          refine dn_iald C (kt_row (kt_12_17 ha0) hz23) dX12_byLaw_100 rfl (fun z24 => ?_)
          refine dn_aload_n C dX12_byLaw_101 rfl 1 rfl rfl ?_
          refine dn_getR C fd_X12_46 ha0 dX12_byLaw_102 rfl ?_
          refine dn_iload_n C dX12_byLaw_105 rfl 0 rfl rfl ?_
          refine dn_iconst C dX12_byLaw_106 ic_i_1 rfl ?_
          refine dn_isub C dX12_byLaw_107 rfl ?_
          refine dn_iald C (kt_12_21 ha0) dX12_byLaw_108 rfl (fun z25 => ?_)
          refine dn_aload_n C dX12_byLaw_109 rfl 1 rfl rfl ?_
          refine dn_getR C fd_X12_46 ha0 dX12_byLaw_110 rfl ?_
          refine dn_iload_n C dX12_byLaw_113 rfl 0 rfl rfl ?_
          refine dn_iald C (kt_12_21 ha0) dX12_byLaw_114 rfl (fun z26 => ?_)
          refine dn_callS_i (As := [.int z24, .int z25, .int z26]) (st := [.int (v1_22 - (1 : Int32)), .ref (wd_b G + sh_rf a0 21)]) C (ok_M_by (cx_g C) z24 z25 z26 s0 τ) mt_X12_by ms_X12_by lk_X12_238 (by decide) rfl ⟨Nat.zero_le _, Nat.zero_le _⟩ (Nat.le_of_ble_eq_true rfl) dX12_byLaw_115 rfl rfl (fun z27 => ?_)
          refine dn_iast C (kt_12_21 ha0) dX12_byLaw_118 rfl (fun s28 => ?_)
          refine dn_pick [1, 0, 2] rfl ?_
          exact hj10 v1_22 s28
    · refine dn_pick [0] rfl ?_
      exact hk s0
set_option maxHeartbeats 4000000 in
set_option maxRecDepth 100000 in
theorem ok_M_byLaw {G : wd_G} {l : Launch} (hN : gd_ok G)  (o : Nat) (ho : sh_kd o = 12) (σ : hp_I) (τ : hp_L) : cl_C G l 2 yX12_byLaw cX12_byLaw 3 (some .int) [.ref (wd_b G + o)] σ τ (ci_ih τ) (fn_M_byLaw o σ) := by
  refine cl_of (lv0 := [(0, .ref (wd_b G + o))]) (ci_ih τ) (by decide) (Nat.le_of_ble_eq_true rfl) rfl hN (fun M hM C => ?_)
  have C : cx_C G M RX12 cX12_byLaw 3 2 (some .int) := C
  unfold fn_M_byLaw
  refine dn_iconst C dX12_byLaw_0 ic_i_0 rfl ?_
  refine dn_istore_n (lv0 := [(0, .ref (wd_b G + o))]) C dX12_byLaw_1 rfl (by decide) rfl rfl (fun v1_1 => ?_)
  refine dn_aload_n C dX12_byLaw_2 rfl 1 rfl rfl ?_
  refine dn_getR C fd_X12_46 ho dX12_byLaw_3 rfl ?_
  refine dn_iconst C dX12_byLaw_6 ic_i_0 rfl ?_
  refine dn_aload_n C dX12_byLaw_7 rfl 1 rfl rfl ?_
  refine dn_getR C fd_X12_49 ho dX12_byLaw_8 rfl ?_
  refine dn_iconst C dX12_byLaw_11 ic_i_1 rfl ?_
  refine dn_iald C (kt_12_22 ho) dX12_byLaw_12 rfl (fun z2 => ?_)
  refine dn_iast C (kt_12_21 ho) dX12_byLaw_13 rfl (fun s3 => ?_)
  refine dn_iconst C dX12_byLaw_14 ic_i_0 rfl ?_
  refine dn_istore_n (lv0 := [(1, .int v1_1), (0, .ref (wd_b G + o))]) C dX12_byLaw_15 rfl (by decide) rfl rfl (fun v2_4 => ?_)
  refine dn_pick [2, 1, 0] rfl ?_
  refine pf_M_byLaw_L16  C  o ho  τ _ (fun s_29 => ?_) FU v1_1 v2_4 s3
  refine dn_bipush C dX12_byLaw_125 ic_b_60 rfl ?_
  refine dn_iconst C dX12_byLaw_127 ic_i_0 rfl ?_
  refine dn_aload_n C dX12_byLaw_128 rfl 0 rfl rfl ?_
  refine dn_getR C fd_X12_46 ho dX12_byLaw_129 rfl ?_
  refine dn_iconst C dX12_byLaw_132 ic_i_0 rfl ?_
  refine dn_iald C (kt_12_21 ho) dX12_byLaw_133 rfl (fun z30 => ?_)
  refine dn_callS_i (As := [.int (0 : Int32), .int z30]) (st := [.int (60 : Int32)]) C (ok_M_more2 (cx_g C) (0 : Int32) z30 s_29 τ) mt_X12_more2 ms_X12_more2 lk_X12_235 (by decide) rfl ⟨Nat.zero_le _, Nat.zero_le _⟩ (Nat.le_of_ble_eq_true rfl) dX12_byLaw_134 rfl rfl (fun z31 => ?_)
  refine dn_callS_i (As := [.int (60 : Int32), .int z31]) (st := []) C (ok_M_less (cx_g C) (60 : Int32) z31 s_29 τ) mt_X12_less ms_X12_less lk_X12_232 (by decide) rfl ⟨Nat.zero_le _, Nat.zero_le _⟩ (Nat.le_of_ble_eq_true rfl) dX12_byLaw_137 rfl rfl (fun z32 => ?_)
  exact dn_iret C dX12_byLaw_140 rfl
def fn_M_crowd_L54  (a0 : Nat) (a1 : Int32) (a2 : Int32) (a3 : Int32) (a4 : Int32) (σ : hp_I) (k : Int32 → Option (Int32 × hp_I)) : Nat → Int32 → Int32 → Option (Int32 × hp_I)
  | 0, _, _ => none
  | fu + 1, x5, x6 =>
    Option.bind (px_ald σ (sh_rf a0 12) (2 : Int32)) fun z12 =>
    if x6 < z12 then (
      Option.bind (fn_M_lives (sh_rf a0 25) x6 σ) fun z13 =>
      px_jn (fun (t14 : Int32) =>
        px_let (x5 + t14) fun v5_15 =>
        px_let (x6 + 1) fun v6_16 =>
        fn_M_crowd_L54 a0 a1 a2 a3 a4 σ k fu v5_15 v6_16
      ) fun j17 =>
        px_jn (
          j17 (0 : Int32)
        ) fun j18 =>
          if z13 = 0 then (
            j18
          ) else (
            Option.bind (px_ald σ (sh_rf a0 25) ((0 : Int32) + x6)) fun z19 =>
            if z19 = a4 then (
              j17 (1 : Int32)
            ) else (
              j18
            )
          )
    ) else (
      k x5
    )
def fn_M_crowd_L37  (a0 : Nat) (a1 : Int32) (σ : hp_I) (k : Int32 → Int32 → Option (Int32 × hp_I)) : Nat → Int32 → Int32 → Int32 → Option (Int32 × hp_I)
  | 0, _, _, _ => none
  | fu + 1, x2, x3, x4 =>
    Option.bind (px_ald σ (sh_rf a0 12) (0 : Int32)) fun z9 =>
    if x4 < z9 then (
      px_let (0 : Int32) fun v5_10 =>
      px_let (0 : Int32) fun v6_11 =>
      fn_M_crowd_L54 a0 a1 x2 x3 x4 σ
        (fun (y_20 : Int32) =>
          px_jn (fun (t21 : Int32) =>
            px_let t21 fun v2_22 =>
            Option.bind (fn_M_more2 x3 y_20) fun z23 =>
            px_let z23 fun v3_24 =>
            px_let (x4 + 1) fun v4_25 =>
            fn_M_crowd_L37 a0 a1 σ k fu v2_22 v3_24 v4_25
          ) fun j26 =>
            if x3 < y_20 then (
              j26 x4
            ) else (
              j26 x2
            )
        )
        FU v5_10 v6_11
    ) else (
      k x2 x3
    )
def fn_M_crowd  (o : Nat) (p1 : Int32) (σ : hp_I) : Option (Int32 × hp_I) :=
  px_let (hp_s σ o 0 (0 : Int32)) fun s1 =>
  Option.bind (fn_M_in p1 (0 : Int32) (1 : Int32)) fun z2 =>
  px_jn (fun (t3 : Int32) =>
    px_b2 (fn_M_bad o t3 (1 : Int32) (1 : Int32) s1) fun z4 s5 =>
    if z4 = 0 then (
      px_let (-1 : Int32) fun v2_6 =>
      px_let (0 : Int32) fun v3_7 =>
      px_let (0 : Int32) fun v4_8 =>
      fn_M_crowd_L37 o p1 s5
        (fun (y_27 : Int32) (y_28 : Int32) =>
          px_jn (fun (t29 : Int32) =>
            some (t29, s5)
          ) fun j30 =>
            px_jn (
              j30 y_27
            ) fun j31 =>
              if p1 = 0 then (
                j31
              ) else (
                if y_27 = (-1 : Int32) then (
                  j31
                ) else (
                  j30 y_28
                )
              )
        )
        FU v2_6 v3_7 v4_8
    ) else (
      some ((0 : Int32), s5)
    )
  ) fun j32 =>
    if z2 = 0 then (
      j32 (1 : Int32)
    ) else (
      j32 (0 : Int32)
    )
set_option maxHeartbeats 4000000 in
set_option maxRecDepth 100000 in
theorem pf_M_crowd_L54 {G : wd_G} {M : wd_M}  (C : cx_C G M RX12 cX12_crowd 7 2 (some .int)) (a0 : Nat) (ha0 : sh_kd a0 = 12) (a1 : Int32) (a2 : Int32) (a3 : Int32) (a4 : Int32) (σ : hp_I) (τ : hp_L) (k : Int32 → Option (Int32 × hp_I)) (hk : ∀ (y5 : Int32), dn_D G M 7 0 0 (cl_M G M (ci_ih τ)) 107 [(0, .ref (wd_b G + a0)), (1, .int a1), (2, .int a2), (3, .int a3), (4, .int a4), (5, .int y5)] [] σ τ (k y5)) : ∀ (fu : Nat) (x5 : Int32) (x6 : Int32), dn_D G M 7 0 0 (cl_M G M (ci_ih τ)) 54 [(0, .ref (wd_b G + a0)), (1, .int a1), (2, .int a2), (3, .int a3), (4, .int a4), (5, .int x5), (6, .int x6)] [] σ τ (fn_M_crowd_L54 a0 a1 a2 a3 a4 σ k fu x5 x6) := by
  intro fu
  induction fu with
  | zero => exact fun x5 x6 => dn_none
  | succ fu ih =>
    intro x5 x6
    unfold fn_M_crowd_L54
    refine dn_iload C dX12_crowd_54 6 rfl rfl ?_
    refine dn_aload_n C dX12_crowd_56 rfl 0 rfl rfl ?_
    refine dn_getR C fd_X12_23 ha0 dX12_crowd_57 rfl ?_
    refine dn_iconst C dX12_crowd_60 ic_i_2 rfl ?_
    refine dn_iald C (kt_12_12 ha0) dX12_crowd_61 rfl (fun z12 => ?_)
    refine dn_icmp_ge (t := 107) C dX12_crowd_62 (by decide) rfl ?_ ?_
    · refine dn_iload C dX12_crowd_65 5 rfl rfl ?_
      refine dn_aload_n C dX12_crowd_67 rfl 0 rfl rfl ?_
      refine dn_getR C fd_X12_55 ha0 dX12_crowd_68 rfl ?_
      refine dn_iload C dX12_crowd_71 6 rfl rfl ?_
      refine dn_callS_i (As := [.ref (wd_b G + sh_rf a0 25), .int x6]) (st := [.int x5]) C (ok_M_lives (cx_g C) (sh_rf a0 25) (kt_12_25 ha0) x6 σ τ) mt_X12_lives ms_X12_lives lk_X12_275 (by decide) rfl ⟨Nat.zero_le _, Nat.zero_le _⟩ (Nat.le_of_ble_eq_true rfl) dX12_crowd_73 rfl rfl (fun z13 => ?_)
      refine dn_jn (fun z => ∀ (t14 : Int32), dn_D G M 7 0 0 (cl_M G M (ci_ih τ)) 98 [(0, .ref (wd_b G + a0)), (1, .int a1), (2, .int a2), (3, .int a3), (4, .int a4), (6, .int x6)] [.int t14, .int x5] σ τ (z t14)) (fun t14 => ?_) (fun j17 hj17 => ?_)
      · refine dn_iadd C dX12_crowd_98 rfl ?_
        refine dn_istore (lv0 := [(0, .ref (wd_b G + a0)), (1, .int a1), (2, .int a2), (3, .int a3), (4, .int a4), (6, .int x6)]) C dX12_crowd_99 (by decide) rfl rfl (fun v5_15 => ?_)
        refine dn_iinc (lv0 := [(5, .int v5_15), (0, .ref (wd_b G + a0)), (1, .int a1), (2, .int a2), (3, .int a3), (4, .int a4)]) (v := x6 + 1) C dX12_crowd_101 6 rfl rfl (by decide) rfl rfl (fun v6_16 => ?_)
        refine dn_goto (t := 54) C dX12_crowd_104 (by decide) ?_
        refine dn_pick [2, 3, 4, 5, 6, 1, 0] rfl ?_
        exact ih v5_15 v6_16
      · refine dn_jn (fun z => dn_D G M 7 0 0 (cl_M G M (ci_ih τ)) 97 [(0, .ref (wd_b G + a0)), (1, .int a1), (2, .int a2), (3, .int a3), (4, .int a4), (6, .int x6)] [.int x5] σ τ z) ?_ (fun j18 hj18 => ?_)
        · refine dn_iconst C dX12_crowd_97 ic_i_0 rfl ?_
          exact hj17 (0 : Int32)
        · refine dn_if_eq (t := 97) C dX12_crowd_76 (by decide) rfl ?_ ?_
          · refine dn_pick [0, 1, 2, 3, 4, 6] rfl ?_
            exact hj18
          · refine dn_aload_n C dX12_crowd_79 rfl 0 rfl rfl ?_
            refine dn_getR C fd_X12_55 ha0 dX12_crowd_80 rfl ?_
            refine dn_iconst C dX12_crowd_83 ic_i_0 rfl ?_
            refine dn_iload C dX12_crowd_84 6 rfl rfl ?_
            refine dn_iadd C dX12_crowd_86 rfl ?_
            refine dn_iald C (kt_12_25 ha0) dX12_crowd_87 rfl (fun z19 => ?_)
            refine dn_iload C dX12_crowd_88 4 rfl rfl ?_
            refine dn_icmp_ne (t := 97) C dX12_crowd_90 (by decide) rfl ?_ ?_
            · refine dn_iconst C dX12_crowd_93 ic_i_1 rfl ?_
              refine dn_goto (t := 98) C dX12_crowd_94 (by decide) ?_
              refine dn_pick [0, 1, 2, 3, 4, 6] rfl ?_
              exact hj17 (1 : Int32)
            · refine dn_pick [0, 1, 2, 3, 4, 6] rfl ?_
              exact hj18
    · refine dn_pick [0, 1, 2, 3, 4, 5] rfl ?_
      exact hk x5
set_option maxHeartbeats 4000000 in
set_option maxRecDepth 100000 in
theorem pf_M_crowd_L37 {G : wd_G} {M : wd_M}  (C : cx_C G M RX12 cX12_crowd 7 2 (some .int)) (a0 : Nat) (ha0 : sh_kd a0 = 12) (a1 : Int32) (σ : hp_I) (τ : hp_L) (k : Int32 → Int32 → Option (Int32 × hp_I)) (hk : ∀ (y2 : Int32) (y3 : Int32), dn_D G M 7 0 0 (cl_M G M (ci_ih τ)) 133 [(1, .int a1), (2, .int y2), (3, .int y3)] [] σ τ (k y2 y3)) : ∀ (fu : Nat) (x2 : Int32) (x3 : Int32) (x4 : Int32), dn_D G M 7 0 0 (cl_M G M (ci_ih τ)) 37 [(0, .ref (wd_b G + a0)), (1, .int a1), (2, .int x2), (3, .int x3), (4, .int x4)] [] σ τ (fn_M_crowd_L37 a0 a1 σ k fu x2 x3 x4) := by
  intro fu
  induction fu with
  | zero => exact fun x2 x3 x4 => dn_none
  | succ fu ih =>
    intro x2 x3 x4
    unfold fn_M_crowd_L37
    refine dn_iload C dX12_crowd_37 4 rfl rfl ?_
    refine dn_aload_n C dX12_crowd_39 rfl 0 rfl rfl ?_
    refine dn_getR C fd_X12_23 ha0 dX12_crowd_40 rfl ?_
    refine dn_iconst C dX12_crowd_43 ic_i_0 rfl ?_
    refine dn_iald C (kt_12_12 ha0) dX12_crowd_44 rfl (fun z9 => ?_)
    refine dn_icmp_ge (t := 133) C dX12_crowd_45 (by decide) rfl ?_ ?_
    · refine dn_iconst C dX12_crowd_48 ic_i_0 rfl ?_
      refine dn_istore (lv0 := [(0, .ref (wd_b G + a0)), (1, .int a1), (2, .int x2), (3, .int x3), (4, .int x4)]) C dX12_crowd_49 (by decide) rfl rfl (fun v5_10 => ?_)
      refine dn_iconst C dX12_crowd_51 ic_i_0 rfl ?_
      refine dn_istore (lv0 := [(5, .int v5_10), (0, .ref (wd_b G + a0)), (1, .int a1), (2, .int x2), (3, .int x3), (4, .int x4)]) C dX12_crowd_52 (by decide) rfl rfl (fun v6_11 => ?_)
      refine dn_pick [2, 3, 4, 5, 6, 1, 0] rfl ?_
      refine pf_M_crowd_L54  C  a0 ha0 a1 x2 x3 x4 σ τ _ (fun y_20 => ?_) FU v5_10 v6_11
      refine dn_iload C dX12_crowd_107 5 rfl rfl ?_
      refine dn_iload_n C dX12_crowd_109 rfl 3 rfl rfl ?_
      refine dn_jn (fun z => ∀ (t21 : Int32), dn_D G M 7 0 0 (cl_M G M (ci_ih τ)) 119 [(0, .ref (wd_b G + a0)), (1, .int a1), (3, .int x3), (4, .int x4), (5, .int y_20)] [.int t21] σ τ (z t21)) (fun t21 => ?_) (fun j26 hj26 => ?_)
      · refine dn_istore_n (lv0 := [(0, .ref (wd_b G + a0)), (1, .int a1), (3, .int x3), (4, .int x4), (5, .int y_20)]) C dX12_crowd_119 rfl (by decide) rfl rfl (fun v2_22 => ?_)
        refine dn_iload_n C dX12_crowd_120 rfl 3 rfl rfl ?_
        refine dn_iload C dX12_crowd_121 5 rfl rfl ?_
        refine dn_callS_i (As := [.int x3, .int y_20]) (st := []) C (ok_M_more2 (cx_g C) x3 y_20 σ τ) mt_X12_more2 ms_X12_more2 lk_X12_235 (by decide) rfl ⟨Nat.zero_le _, Nat.zero_le _⟩ (Nat.le_of_ble_eq_true rfl) dX12_crowd_123 rfl rfl (fun z23 => ?_)
        refine dn_istore_n (lv0 := [(2, .int v2_22), (0, .ref (wd_b G + a0)), (1, .int a1), (4, .int x4), (5, .int y_20)]) C dX12_crowd_126 rfl (by decide) rfl rfl (fun v3_24 => ?_)
        refine dn_iinc (lv0 := [(3, .int v3_24), (2, .int v2_22), (0, .ref (wd_b G + a0)), (1, .int a1), (5, .int y_20)]) (v := x4 + 1) C dX12_crowd_127 4 rfl rfl (by decide) rfl rfl (fun v4_25 => ?_)
        refine dn_goto (t := 37) C dX12_crowd_130 (by decide) ?_
        refine dn_pick [3, 4, 2, 1, 0] rfl ?_
        exact ih v2_22 v3_24 v4_25
      · refine dn_icmp_le (t := 118) C dX12_crowd_110 (by decide) rfl ?_ ?_
        · refine dn_iload C dX12_crowd_113 4 rfl rfl ?_
          refine dn_goto (t := 119) C dX12_crowd_115 (by decide) ?_
          refine dn_pick [0, 1, 3, 4, 5] rfl ?_
          exact hj26 x4
        · refine dn_iload_n C dX12_crowd_118 rfl 2 rfl rfl ?_
          refine dn_pick [0, 1, 3, 4, 5] rfl ?_
          exact hj26 x2
    · refine dn_pick [1, 2, 3] rfl ?_
      exact hk x2 x3
set_option maxHeartbeats 4000000 in
set_option maxRecDepth 100000 in
theorem ok_M_crowd {G : wd_G} {l : Launch} (hN : gd_ok G)  (o : Nat) (ho : sh_kd o = 12) (p1 : Int32) (σ : hp_I) (τ : hp_L) : cl_C G l 2 yX12_crowd cX12_crowd 7 (some .int) [.ref (wd_b G + o), .int p1] σ τ (ci_ih τ) (fn_M_crowd o p1 σ) := by
  refine cl_of (lv0 := [(0, .ref (wd_b G + o)), (1, .int p1)]) (ci_ih τ) (by decide) (Nat.le_of_ble_eq_true rfl) rfl hN (fun M hM C => ?_)
  have C : cx_C G M RX12 cX12_crowd 7 2 (some .int) := C
  unfold fn_M_crowd
  refine dn_aload_n C dX12_crowd_0 rfl 0 rfl rfl ?_
  refine dn_iconst C dX12_crowd_1 ic_i_0 rfl ?_
  refine dn_putI C fp_X12_93 ho dX12_crowd_2 rfl (fun s1 => ?_)
  refine dn_aload_n C dX12_crowd_5 rfl 0 rfl rfl ?_
  refine dn_iload_n C dX12_crowd_6 rfl 1 rfl rfl ?_
  refine dn_iconst C dX12_crowd_7 ic_i_0 rfl ?_
  refine dn_iconst C dX12_crowd_8 ic_i_1 rfl ?_
  refine dn_callS_i (As := [.int p1, .int (0 : Int32), .int (1 : Int32)]) (st := [.ref (wd_b G + o)]) C (ok_M_in (cx_g C) p1 (0 : Int32) (1 : Int32) s1 τ) mt_X12_in ms_X12_in lk_X12_127 (by decide) rfl ⟨Nat.zero_le _, Nat.zero_le _⟩ (Nat.le_of_ble_eq_true rfl) dX12_crowd_9 rfl rfl (fun z2 => ?_)
  refine dn_jn (fun z => ∀ (t3 : Int32), dn_D G M 7 0 0 (cl_M G M (ci_ih τ)) 20 [(0, .ref (wd_b G + o)), (1, .int p1)] [.int t3, .ref (wd_b G + o)] s1 τ (z t3)) (fun t3 => ?_) (fun j32 hj32 => ?_)
  · refine dn_iconst C dX12_crowd_20 ic_i_1 rfl ?_
    refine dn_iconst C dX12_crowd_21 ic_i_1 rfl ?_
    refine dn_callV_ih (As := [.int t3, .int (1 : Int32), .int (1 : Int32)]) (st := []) C (ok_M_bad (cx_g C) o ho t3 (1 : Int32) (1 : Int32) s1 τ) mt_X12_bad mv_X12_bad lk_X12_172 (by decide) ho rfl ⟨Nat.zero_le _, Nat.zero_le _⟩ (Nat.le_of_ble_eq_true rfl) dX12_crowd_22 rfl rfl (fun z4 s5 => ?_)
    refine dn_if_eq (t := 30) C dX12_crowd_25 (by decide) rfl ?_ ?_
    · refine dn_iconst C dX12_crowd_30 ic_i_m1 rfl ?_
      refine dn_istore_n (lv0 := [(0, .ref (wd_b G + o)), (1, .int p1)]) C dX12_crowd_31 rfl (by decide) rfl rfl (fun v2_6 => ?_)
      refine dn_iconst C dX12_crowd_32 ic_i_0 rfl ?_
      refine dn_istore_n (lv0 := [(2, .int v2_6), (0, .ref (wd_b G + o)), (1, .int p1)]) C dX12_crowd_33 rfl (by decide) rfl rfl (fun v3_7 => ?_)
      refine dn_iconst C dX12_crowd_34 ic_i_0 rfl ?_
      refine dn_istore (lv0 := [(3, .int v3_7), (2, .int v2_6), (0, .ref (wd_b G + o)), (1, .int p1)]) C dX12_crowd_35 (by decide) rfl rfl (fun v4_8 => ?_)
      refine dn_pick [3, 4, 2, 1, 0] rfl ?_
      refine pf_M_crowd_L37  C  o ho p1 s5 τ _ (fun y_27 y_28 => ?_) FU v2_6 v3_7 v4_8
      refine dn_iload_n C dX12_crowd_133 rfl 0 rfl rfl ?_
      refine dn_jn (fun z => ∀ (t29 : Int32), dn_D G M 7 0 0 (cl_M G M (ci_ih τ)) 147 [] [.int t29] s5 τ (z t29)) (fun t29 => ?_) (fun j30 hj30 => ?_)
      · exact dn_iret C dX12_crowd_147 rfl
      · refine dn_jn (fun z => dn_D G M 7 0 0 (cl_M G M (ci_ih τ)) 142 [(2, .int y_27)] [] s5 τ z) ?_ (fun j31 hj31 => ?_)
        · refine dn_iload_n C dX12_crowd_142 rfl 0 rfl rfl ?_
          refine dn_goto (t := 147) C dX12_crowd_143 (by decide) ?_
          refine dn_pick [] rfl ?_
          exact hj30 y_27
        · refine dn_if_eq (t := 142) C dX12_crowd_134 (by decide) rfl ?_ ?_
          · refine dn_pick [1] rfl ?_
            exact hj31
          · refine dn_iload_n C dX12_crowd_137 rfl 1 rfl rfl ?_
            refine dn_iconst C dX12_crowd_138 ic_i_m1 rfl ?_
            refine dn_icmp_ne (t := 146) C dX12_crowd_139 (by decide) rfl ?_ ?_
            · refine dn_pick [1] rfl ?_
              exact hj31
            · refine dn_iload_n C dX12_crowd_146 rfl 2 rfl rfl ?_
              refine dn_pick [] rfl ?_
              exact hj30 y_28
    · refine dn_iconst C dX12_crowd_28 ic_i_0 rfl ?_
      exact dn_iret C dX12_crowd_29 rfl
  · refine dn_if_ne (t := 19) C dX12_crowd_12 (by decide) rfl ?_ ?_
    · refine dn_iconst C dX12_crowd_15 ic_i_1 rfl ?_
      refine dn_goto (t := 20) C dX12_crowd_16 (by decide) ?_
      exact hj32 (1 : Int32)
    · refine dn_iconst C dX12_crowd_19 ic_i_0 rfl ?_
      exact hj32 (0 : Int32)
def fn_M_greatest_L34  (a0 : Nat) (a1 : Int32) (σ : hp_I) (k : Int32 → Option (Int32 × hp_I)) : Nat → Int32 → Int32 → Option (Int32 × hp_I)
  | 0, _, _ => none
  | fu + 1, x2, x3 =>
    Option.bind (px_ald σ (sh_rf a0 12) (2 : Int32)) fun z8 =>
    if x3 < z8 then (
      Option.bind (fn_M_lives (sh_rf a0 25) x3 σ) fun z9 =>
      px_jn (fun (t10 : Int32) =>
        px_let t10 fun v2_11 =>
        px_let (x3 + 1) fun v3_12 =>
        fn_M_greatest_L34 a0 a1 σ k fu v2_11 v3_12
      ) fun j13 =>
        px_jn (
          j13 x2
        ) fun j14 =>
          if z9 = 0 then (
            j14
          ) else (
            px_jn (
              j13 x3
            ) fun j15 =>
              if x2 = (-1 : Int32) then (
                j15
              ) else (
                Option.bind (px_ald σ (sh_rf a0 25) ((8 : Int32) + x3)) fun z16 =>
                Option.bind (px_ald σ (sh_rf a0 25) ((8 : Int32) + x2)) fun z17 =>
                if z17 < z16 then (
                  j15
                ) else (
                  j14
                )
              )
          )
    ) else (
      k x2
    )
def fn_M_greatest  (o : Nat) (p1 : Int32) (σ : hp_I) : Option (Int32 × hp_I) :=
  px_let (hp_s σ o 0 (0 : Int32)) fun s1 =>
  Option.bind (fn_M_in p1 (0 : Int32) (1 : Int32)) fun z2 =>
  px_jn (fun (t3 : Int32) =>
    px_b2 (fn_M_bad o t3 (1 : Int32) (1 : Int32) s1) fun z4 s5 =>
    if z4 = 0 then (
      px_let (-1 : Int32) fun v2_6 =>
      px_let (0 : Int32) fun v3_7 =>
      fn_M_greatest_L34 o p1 s5
        (fun (y_18 : Int32) =>
          px_jn (fun (t19 : Int32) =>
            some (t19, s5)
          ) fun j20 =>
            px_jn (
              j20 y_18
            ) fun j21 =>
              if p1 = 0 then (
                j21
              ) else (
                if y_18 = (-1 : Int32) then (
                  j21
                ) else (
                  Option.bind (px_ald s5 (sh_rf o 25) ((8 : Int32) + y_18)) fun z22 =>
                  j20 z22
                )
              )
        )
        FU v2_6 v3_7
    ) else (
      some ((0 : Int32), s5)
    )
  ) fun j23 =>
    if z2 = 0 then (
      j23 (1 : Int32)
    ) else (
      j23 (0 : Int32)
    )
set_option maxHeartbeats 4000000 in
set_option maxRecDepth 100000 in
theorem pf_M_greatest_L34 {G : wd_G} {M : wd_M}  (C : cx_C G M RX12 cX12_greatest 4 2 (some .int)) (a0 : Nat) (ha0 : sh_kd a0 = 12) (a1 : Int32) (σ : hp_I) (τ : hp_L) (k : Int32 → Option (Int32 × hp_I)) (hk : ∀ (y2 : Int32), dn_D G M 4 0 0 (cl_M G M (ci_ih τ)) 93 [(0, .ref (wd_b G + a0)), (1, .int a1), (2, .int y2)] [] σ τ (k y2)) : ∀ (fu : Nat) (x2 : Int32) (x3 : Int32), dn_D G M 4 0 0 (cl_M G M (ci_ih τ)) 34 [(0, .ref (wd_b G + a0)), (1, .int a1), (2, .int x2), (3, .int x3)] [] σ τ (fn_M_greatest_L34 a0 a1 σ k fu x2 x3) := by
  intro fu
  induction fu with
  | zero => exact fun x2 x3 => dn_none
  | succ fu ih =>
    intro x2 x3
    unfold fn_M_greatest_L34
    refine dn_iload_n C dX12_greatest_34 rfl 3 rfl rfl ?_
    refine dn_aload_n C dX12_greatest_35 rfl 0 rfl rfl ?_
    refine dn_getR C fd_X12_23 ha0 dX12_greatest_36 rfl ?_
    refine dn_iconst C dX12_greatest_39 ic_i_2 rfl ?_
    refine dn_iald C (kt_12_12 ha0) dX12_greatest_40 rfl (fun z8 => ?_)
    refine dn_icmp_ge (t := 93) C dX12_greatest_41 (by decide) rfl ?_ ?_
    · refine dn_aload_n C dX12_greatest_44 rfl 0 rfl rfl ?_
      refine dn_getR C fd_X12_55 ha0 dX12_greatest_45 rfl ?_
      refine dn_iload_n C dX12_greatest_48 rfl 3 rfl rfl ?_
      refine dn_callS_i (As := [.ref (wd_b G + sh_rf a0 25), .int x3]) (st := []) C (ok_M_lives (cx_g C) (sh_rf a0 25) (kt_12_25 ha0) x3 σ τ) mt_X12_lives ms_X12_lives lk_X12_275 (by decide) rfl ⟨Nat.zero_le _, Nat.zero_le _⟩ (Nat.le_of_ble_eq_true rfl) dX12_greatest_49 rfl rfl (fun z9 => ?_)
      refine dn_jn (fun z => ∀ (t10 : Int32), dn_D G M 4 0 0 (cl_M G M (ci_ih τ)) 86 [(0, .ref (wd_b G + a0)), (1, .int a1), (3, .int x3)] [.int t10] σ τ (z t10)) (fun t10 => ?_) (fun j13 hj13 => ?_)
      · refine dn_istore_n (lv0 := [(0, .ref (wd_b G + a0)), (1, .int a1), (3, .int x3)]) C dX12_greatest_86 rfl (by decide) rfl rfl (fun v2_11 => ?_)
        refine dn_iinc (lv0 := [(2, .int v2_11), (0, .ref (wd_b G + a0)), (1, .int a1)]) (v := x3 + 1) C dX12_greatest_87 3 rfl rfl (by decide) rfl rfl (fun v3_12 => ?_)
        refine dn_goto (t := 34) C dX12_greatest_90 (by decide) ?_
        refine dn_pick [2, 3, 1, 0] rfl ?_
        exact ih v2_11 v3_12
      · refine dn_jn (fun z => dn_D G M 4 0 0 (cl_M G M (ci_ih τ)) 85 [(0, .ref (wd_b G + a0)), (1, .int a1), (2, .int x2), (3, .int x3)] [] σ τ z) ?_ (fun j14 hj14 => ?_)
        · refine dn_iload_n C dX12_greatest_85 rfl 2 rfl rfl ?_
          refine dn_pick [0, 1, 3] rfl ?_
          exact hj13 x2
        · refine dn_if_eq (t := 85) C dX12_greatest_52 (by decide) rfl ?_ ?_
          · exact hj14
          · refine dn_iload_n C dX12_greatest_55 rfl 2 rfl rfl ?_
            refine dn_iconst C dX12_greatest_56 ic_i_m1 rfl ?_
            refine dn_jn (fun z => dn_D G M 4 0 0 (cl_M G M (ci_ih τ)) 81 [(0, .ref (wd_b G + a0)), (1, .int a1), (3, .int x3)] [] σ τ z) ?_ (fun j15 hj15 => ?_)
            · refine dn_iload_n C dX12_greatest_81 rfl 2 rfl rfl ?_
              refine dn_goto (t := 86) C dX12_greatest_82 (by decide) ?_
              exact hj13 x3
            · refine dn_icmp_eq (t := 81) C dX12_greatest_57 (by decide) rfl ?_ ?_
              · refine dn_pick [0, 1, 3] rfl ?_
                exact hj15
              · refine dn_aload_n C dX12_greatest_60 rfl 0 rfl rfl ?_
                refine dn_getR C fd_X12_55 ha0 dX12_greatest_61 rfl ?_
                refine dn_bipush C dX12_greatest_64 ic_b_8 rfl ?_
                refine dn_iload_n C dX12_greatest_66 rfl 3 rfl rfl ?_
                refine dn_iadd C dX12_greatest_67 rfl ?_
                refine dn_iald C (kt_12_25 ha0) dX12_greatest_68 rfl (fun z16 => ?_)
                refine dn_aload_n C dX12_greatest_69 rfl 0 rfl rfl ?_
                refine dn_getR C fd_X12_55 ha0 dX12_greatest_70 rfl ?_
                refine dn_bipush C dX12_greatest_73 ic_b_8 rfl ?_
                refine dn_iload_n C dX12_greatest_75 rfl 2 rfl rfl ?_
                refine dn_iadd C dX12_greatest_76 rfl ?_
                refine dn_iald C (kt_12_25 ha0) dX12_greatest_77 rfl (fun z17 => ?_)
                refine dn_icmp_le (t := 85) C dX12_greatest_78 (by decide) rfl ?_ ?_
                · refine dn_pick [0, 1, 3] rfl ?_
                  exact hj15
                · exact hj14
    · refine dn_pick [0, 1, 2] rfl ?_
      exact hk x2
set_option maxHeartbeats 4000000 in
set_option maxRecDepth 100000 in
theorem ok_M_greatest {G : wd_G} {l : Launch} (hN : gd_ok G)  (o : Nat) (ho : sh_kd o = 12) (p1 : Int32) (σ : hp_I) (τ : hp_L) : cl_C G l 2 yX12_greatest cX12_greatest 4 (some .int) [.ref (wd_b G + o), .int p1] σ τ (ci_ih τ) (fn_M_greatest o p1 σ) := by
  refine cl_of (lv0 := [(0, .ref (wd_b G + o)), (1, .int p1)]) (ci_ih τ) (by decide) (Nat.le_of_ble_eq_true rfl) rfl hN (fun M hM C => ?_)
  have C : cx_C G M RX12 cX12_greatest 4 2 (some .int) := C
  unfold fn_M_greatest
  refine dn_aload_n C dX12_greatest_0 rfl 0 rfl rfl ?_
  refine dn_iconst C dX12_greatest_1 ic_i_0 rfl ?_
  refine dn_putI C fp_X12_93 ho dX12_greatest_2 rfl (fun s1 => ?_)
  refine dn_aload_n C dX12_greatest_5 rfl 0 rfl rfl ?_
  refine dn_iload_n C dX12_greatest_6 rfl 1 rfl rfl ?_
  refine dn_iconst C dX12_greatest_7 ic_i_0 rfl ?_
  refine dn_iconst C dX12_greatest_8 ic_i_1 rfl ?_
  refine dn_callS_i (As := [.int p1, .int (0 : Int32), .int (1 : Int32)]) (st := [.ref (wd_b G + o)]) C (ok_M_in (cx_g C) p1 (0 : Int32) (1 : Int32) s1 τ) mt_X12_in ms_X12_in lk_X12_127 (by decide) rfl ⟨Nat.zero_le _, Nat.zero_le _⟩ (Nat.le_of_ble_eq_true rfl) dX12_greatest_9 rfl rfl (fun z2 => ?_)
  refine dn_jn (fun z => ∀ (t3 : Int32), dn_D G M 4 0 0 (cl_M G M (ci_ih τ)) 20 [(0, .ref (wd_b G + o)), (1, .int p1)] [.int t3, .ref (wd_b G + o)] s1 τ (z t3)) (fun t3 => ?_) (fun j23 hj23 => ?_)
  · refine dn_iconst C dX12_greatest_20 ic_i_1 rfl ?_
    refine dn_iconst C dX12_greatest_21 ic_i_1 rfl ?_
    refine dn_callV_ih (As := [.int t3, .int (1 : Int32), .int (1 : Int32)]) (st := []) C (ok_M_bad (cx_g C) o ho t3 (1 : Int32) (1 : Int32) s1 τ) mt_X12_bad mv_X12_bad lk_X12_172 (by decide) ho rfl ⟨Nat.zero_le _, Nat.zero_le _⟩ (Nat.le_of_ble_eq_true rfl) dX12_greatest_22 rfl rfl (fun z4 s5 => ?_)
    refine dn_if_eq (t := 30) C dX12_greatest_25 (by decide) rfl ?_ ?_
    · refine dn_iconst C dX12_greatest_30 ic_i_m1 rfl ?_
      refine dn_istore_n (lv0 := [(0, .ref (wd_b G + o)), (1, .int p1)]) C dX12_greatest_31 rfl (by decide) rfl rfl (fun v2_6 => ?_)
      refine dn_iconst C dX12_greatest_32 ic_i_0 rfl ?_
      refine dn_istore_n (lv0 := [(2, .int v2_6), (0, .ref (wd_b G + o)), (1, .int p1)]) C dX12_greatest_33 rfl (by decide) rfl rfl (fun v3_7 => ?_)
      refine dn_pick [2, 3, 1, 0] rfl ?_
      refine pf_M_greatest_L34  C  o ho p1 s5 τ _ (fun y_18 => ?_) FU v2_6 v3_7
      refine dn_iload_n C dX12_greatest_93 rfl 1 rfl rfl ?_
      refine dn_jn (fun z => ∀ (t19 : Int32), dn_D G M 4 0 0 (cl_M G M (ci_ih τ)) 115 [] [.int t19] s5 τ (z t19)) (fun t19 => ?_) (fun j20 hj20 => ?_)
      · exact dn_iret C dX12_greatest_115 rfl
      · refine dn_jn (fun z => dn_D G M 4 0 0 (cl_M G M (ci_ih τ)) 102 [(2, .int y_18)] [] s5 τ z) ?_ (fun j21 hj21 => ?_)
        · refine dn_iload_n C dX12_greatest_102 rfl 0 rfl rfl ?_
          refine dn_goto (t := 115) C dX12_greatest_103 (by decide) ?_
          refine dn_pick [] rfl ?_
          exact hj20 y_18
        · refine dn_if_eq (t := 102) C dX12_greatest_94 (by decide) rfl ?_ ?_
          · refine dn_pick [2] rfl ?_
            exact hj21
          · refine dn_iload_n C dX12_greatest_97 rfl 2 rfl rfl ?_
            refine dn_iconst C dX12_greatest_98 ic_i_m1 rfl ?_
            refine dn_icmp_ne (t := 106) C dX12_greatest_99 (by decide) rfl ?_ ?_
            · refine dn_pick [2] rfl ?_
              exact hj21
            · refine dn_aload_n C dX12_greatest_106 rfl 0 rfl rfl ?_
              refine dn_getR C fd_X12_55 ho dX12_greatest_107 rfl ?_
              refine dn_bipush C dX12_greatest_110 ic_b_8 rfl ?_
              refine dn_iload_n C dX12_greatest_112 rfl 2 rfl rfl ?_
              refine dn_iadd C dX12_greatest_113 rfl ?_
              refine dn_iald C (kt_12_25 ho) dX12_greatest_114 rfl (fun z22 => ?_)
              refine dn_pick [] rfl ?_
              exact hj20 z22
    · refine dn_iconst C dX12_greatest_28 ic_i_0 rfl ?_
      exact dn_iret C dX12_greatest_29 rfl
  · refine dn_if_ne (t := 19) C dX12_greatest_12 (by decide) rfl ?_ ?_
    · refine dn_iconst C dX12_greatest_15 ic_i_1 rfl ?_
      refine dn_goto (t := 20) C dX12_greatest_16 (by decide) ?_
      exact hj23 (1 : Int32)
    · refine dn_iconst C dX12_greatest_19 ic_i_0 rfl ?_
      exact hj23 (0 : Int32)
def fn_M_havens_L45  (a0 : Nat) (a1 : Int32) (σ : hp_I) (k : Int32 → Option (Int32 × hp_I)) : Nat → Int32 → Int32 → Option (Int32 × hp_I)
  | 0, _, _ => none
  | fu + 1, x2, x3 =>
    Option.bind (px_ald σ (sh_rf a0 12) (3 : Int32)) fun z9 =>
    if x3 < z9 then (
      Option.bind (fn_M_nose a0 x3 σ) fun z10 =>
      Option.bind (px_ald σ (sh_rf a0 25) ((32 : Int32) + x3)) fun z11 =>
      Option.bind (fn_M_hide a0 z11 σ) fun z12 =>
      px_jn (fun (t13 : Int32) =>
        px_let (x2 &&& t13) fun v2_14 =>
        px_let (x3 + 1) fun v3_15 =>
        fn_M_havens_L45 a0 a1 σ k fu v2_14 v3_15
      ) fun j16 =>
        if z12 < (a1 + z10) then (
          Option.bind (px_ald σ (sh_rf a0 25) ((32 : Int32) + x3)) fun z17 =>
          j16 (((1 : Int32) <<< (z17 &&& 31)) ^^^ (-1 : Int32))
        ) else (
          j16 (-1 : Int32)
        )
    ) else (
      k x2
    )
def fn_M_havens  (o : Nat) (p1 : Int32) (σ : hp_I) : Option (Int32 × hp_I) :=
  px_let (hp_s σ o 0 (0 : Int32)) fun s1 =>
  Option.bind (fn_M_in p1 (1 : Int32) (999 : Int32)) fun z2 =>
  px_jn (fun (t3 : Int32) =>
    px_b2 (fn_M_bad o t3 (1 : Int32) (1 : Int32) s1) fun z4 s5 =>
    if z4 = 0 then (
      Option.bind (px_ald s5 (sh_rf o 12) (0 : Int32)) fun z6 =>
      px_let (((1 : Int32) <<< (z6 &&& 31)) - (1 : Int32)) fun v2_7 =>
      px_let (0 : Int32) fun v3_8 =>
      fn_M_havens_L45 o p1 s5
        (fun (y_18 : Int32) =>
          some (y_18, s5)
        )
        FU v2_7 v3_8
    ) else (
      some ((0 : Int32), s5)
    )
  ) fun j19 =>
    if z2 = 0 then (
      j19 (1 : Int32)
    ) else (
      j19 (0 : Int32)
    )
set_option maxHeartbeats 4000000 in
set_option maxRecDepth 100000 in
theorem pf_M_havens_L45 {G : wd_G} {M : wd_M}  (C : cx_C G M RX12 cX12_havens 4 2 (some .int)) (a0 : Nat) (ha0 : sh_kd a0 = 12) (a1 : Int32) (σ : hp_I) (τ : hp_L) (k : Int32 → Option (Int32 × hp_I)) (hk : ∀ (y2 : Int32), dn_D G M 4 0 0 (cl_M G M (ci_ih τ)) 104 [(2, .int y2)] [] σ τ (k y2)) : ∀ (fu : Nat) (x2 : Int32) (x3 : Int32), dn_D G M 4 0 0 (cl_M G M (ci_ih τ)) 45 [(0, .ref (wd_b G + a0)), (1, .int a1), (2, .int x2), (3, .int x3)] [] σ τ (fn_M_havens_L45 a0 a1 σ k fu x2 x3) := by
  intro fu
  induction fu with
  | zero => exact fun x2 x3 => dn_none
  | succ fu ih =>
    intro x2 x3
    unfold fn_M_havens_L45
    refine dn_iload_n C dX12_havens_45 rfl 3 rfl rfl ?_
    refine dn_aload_n C dX12_havens_46 rfl 0 rfl rfl ?_
    refine dn_getR C fd_X12_23 ha0 dX12_havens_47 rfl ?_
    refine dn_iconst C dX12_havens_50 ic_i_3 rfl ?_
    refine dn_iald C (kt_12_12 ha0) dX12_havens_51 rfl (fun z9 => ?_)
    refine dn_icmp_ge (t := 104) C dX12_havens_52 (by decide) rfl ?_ ?_
    · refine dn_iload_n C dX12_havens_55 rfl 2 rfl rfl ?_
      refine dn_iload_n C dX12_havens_56 rfl 1 rfl rfl ?_
      refine dn_aload_n C dX12_havens_57 rfl 0 rfl rfl ?_
      refine dn_iload_n C dX12_havens_58 rfl 3 rfl rfl ?_
      refine dn_callV_i (As := [.int x3]) (st := [.int a1, .int x2]) C (ok_M_nose (cx_g C) a0 ha0 x3 σ τ) mt_X12_nose mv_X12_nose lk_X12_279 (by decide) ha0 rfl ⟨Nat.zero_le _, Nat.zero_le _⟩ (Nat.le_of_ble_eq_true rfl) dX12_havens_59 rfl rfl (fun z10 => ?_)
      refine dn_iadd C dX12_havens_62 rfl ?_
      refine dn_aload_n C dX12_havens_63 rfl 0 rfl rfl ?_
      refine dn_aload_n C dX12_havens_64 rfl 0 rfl rfl ?_
      refine dn_getR C fd_X12_55 ha0 dX12_havens_65 rfl ?_
      refine dn_bipush C dX12_havens_68 ic_b_32 rfl ?_
      refine dn_iload_n C dX12_havens_70 rfl 3 rfl rfl ?_
      refine dn_iadd C dX12_havens_71 rfl ?_
      refine dn_iald C (kt_12_25 ha0) dX12_havens_72 rfl (fun z11 => ?_)
      refine dn_callV_i (As := [.int z11]) (st := [.int (a1 + z10), .int x2]) C (ok_M_hide (cx_g C) a0 ha0 z11 σ τ) mt_X12_hide mv_X12_hide lk_X12_261 (by decide) ha0 rfl ⟨Nat.zero_le _, Nat.zero_le _⟩ (Nat.le_of_ble_eq_true rfl) dX12_havens_73 rfl rfl (fun z12 => ?_)
      refine dn_jn (fun z => ∀ (t13 : Int32), dn_D G M 4 0 0 (cl_M G M (ci_ih τ)) 96 [(0, .ref (wd_b G + a0)), (1, .int a1), (3, .int x3)] [.int t13, .int x2] σ τ (z t13)) (fun t13 => ?_) (fun j16 hj16 => ?_)
      · refine dn_iand C dX12_havens_96 rfl ?_
        refine dn_istore_n (lv0 := [(0, .ref (wd_b G + a0)), (1, .int a1), (3, .int x3)]) C dX12_havens_97 rfl (by decide) rfl rfl (fun v2_14 => ?_)
        refine dn_iinc (lv0 := [(2, .int v2_14), (0, .ref (wd_b G + a0)), (1, .int a1)]) (v := x3 + 1) C dX12_havens_98 3 rfl rfl (by decide) rfl rfl (fun v3_15 => ?_)
        refine dn_goto (t := 45) C dX12_havens_101 (by decide) ?_
        refine dn_pick [2, 3, 1, 0] rfl ?_
        exact ih v2_14 v3_15
      · refine dn_icmp_le (t := 95) C dX12_havens_76 (by decide) rfl ?_ ?_
        · refine dn_iconst C dX12_havens_79 ic_i_1 rfl ?_
          refine dn_aload_n C dX12_havens_80 rfl 0 rfl rfl ?_
          refine dn_getR C fd_X12_55 ha0 dX12_havens_81 rfl ?_
          refine dn_bipush C dX12_havens_84 ic_b_32 rfl ?_
          refine dn_iload_n C dX12_havens_86 rfl 3 rfl rfl ?_
          refine dn_iadd C dX12_havens_87 rfl ?_
          refine dn_iald C (kt_12_25 ha0) dX12_havens_88 rfl (fun z17 => ?_)
          refine dn_ishl C dX12_havens_89 rfl ?_
          refine dn_iconst C dX12_havens_90 ic_i_m1 rfl ?_
          refine dn_ixor C dX12_havens_91 rfl ?_
          refine dn_goto (t := 96) C dX12_havens_92 (by decide) ?_
          refine dn_pick [0, 1, 3] rfl ?_
          exact hj16 (((1 : Int32) <<< (z17 &&& 31)) ^^^ (-1 : Int32))
        · refine dn_iconst C dX12_havens_95 ic_i_m1 rfl ?_
          refine dn_pick [0, 1, 3] rfl ?_
          exact hj16 (-1 : Int32)
    · refine dn_pick [2] rfl ?_
      exact hk x2
set_option maxHeartbeats 4000000 in
set_option maxRecDepth 100000 in
theorem ok_M_havens {G : wd_G} {l : Launch} (hN : gd_ok G)  (o : Nat) (ho : sh_kd o = 12) (p1 : Int32) (σ : hp_I) (τ : hp_L) : cl_C G l 2 yX12_havens cX12_havens 4 (some .int) [.ref (wd_b G + o), .int p1] σ τ (ci_ih τ) (fn_M_havens o p1 σ) := by
  refine cl_of (lv0 := [(0, .ref (wd_b G + o)), (1, .int p1)]) (ci_ih τ) (by decide) (Nat.le_of_ble_eq_true rfl) rfl hN (fun M hM C => ?_)
  have C : cx_C G M RX12 cX12_havens 4 2 (some .int) := C
  unfold fn_M_havens
  refine dn_aload_n C dX12_havens_0 rfl 0 rfl rfl ?_
  refine dn_iconst C dX12_havens_1 ic_i_0 rfl ?_
  refine dn_putI C fp_X12_93 ho dX12_havens_2 rfl (fun s1 => ?_)
  refine dn_aload_n C dX12_havens_5 rfl 0 rfl rfl ?_
  refine dn_iload_n C dX12_havens_6 rfl 1 rfl rfl ?_
  refine dn_iconst C dX12_havens_7 ic_i_1 rfl ?_
  refine dn_sipush C dX12_havens_8 ic_s_999 rfl ?_
  refine dn_callS_i (As := [.int p1, .int (1 : Int32), .int (999 : Int32)]) (st := [.ref (wd_b G + o)]) C (ok_M_in (cx_g C) p1 (1 : Int32) (999 : Int32) s1 τ) mt_X12_in ms_X12_in lk_X12_127 (by decide) rfl ⟨Nat.zero_le _, Nat.zero_le _⟩ (Nat.le_of_ble_eq_true rfl) dX12_havens_11 rfl rfl (fun z2 => ?_)
  refine dn_jn (fun z => ∀ (t3 : Int32), dn_D G M 4 0 0 (cl_M G M (ci_ih τ)) 22 [(0, .ref (wd_b G + o)), (1, .int p1)] [.int t3, .ref (wd_b G + o)] s1 τ (z t3)) (fun t3 => ?_) (fun j19 hj19 => ?_)
  · refine dn_iconst C dX12_havens_22 ic_i_1 rfl ?_
    refine dn_iconst C dX12_havens_23 ic_i_1 rfl ?_
    refine dn_callV_ih (As := [.int t3, .int (1 : Int32), .int (1 : Int32)]) (st := []) C (ok_M_bad (cx_g C) o ho t3 (1 : Int32) (1 : Int32) s1 τ) mt_X12_bad mv_X12_bad lk_X12_172 (by decide) ho rfl ⟨Nat.zero_le _, Nat.zero_le _⟩ (Nat.le_of_ble_eq_true rfl) dX12_havens_24 rfl rfl (fun z4 s5 => ?_)
    refine dn_if_eq (t := 32) C dX12_havens_27 (by decide) rfl ?_ ?_
    · refine dn_iconst C dX12_havens_32 ic_i_1 rfl ?_
      refine dn_aload_n C dX12_havens_33 rfl 0 rfl rfl ?_
      refine dn_getR C fd_X12_23 ho dX12_havens_34 rfl ?_
      refine dn_iconst C dX12_havens_37 ic_i_0 rfl ?_
      refine dn_iald C (kt_12_12 ho) dX12_havens_38 rfl (fun z6 => ?_)
      refine dn_ishl C dX12_havens_39 rfl ?_
      refine dn_iconst C dX12_havens_40 ic_i_1 rfl ?_
      refine dn_isub C dX12_havens_41 rfl ?_
      refine dn_istore_n (lv0 := [(0, .ref (wd_b G + o)), (1, .int p1)]) C dX12_havens_42 rfl (by decide) rfl rfl (fun v2_7 => ?_)
      refine dn_iconst C dX12_havens_43 ic_i_0 rfl ?_
      refine dn_istore_n (lv0 := [(2, .int v2_7), (0, .ref (wd_b G + o)), (1, .int p1)]) C dX12_havens_44 rfl (by decide) rfl rfl (fun v3_8 => ?_)
      refine dn_pick [2, 3, 1, 0] rfl ?_
      refine pf_M_havens_L45  C  o ho p1 s5 τ _ (fun y_18 => ?_) FU v2_7 v3_8
      refine dn_iload_n C dX12_havens_104 rfl 0 rfl rfl ?_
      exact dn_iret C dX12_havens_105 rfl
    · refine dn_iconst C dX12_havens_30 ic_i_0 rfl ?_
      exact dn_iret C dX12_havens_31 rfl
  · refine dn_if_ne (t := 21) C dX12_havens_14 (by decide) rfl ?_ ?_
    · refine dn_iconst C dX12_havens_17 ic_i_1 rfl ?_
      refine dn_goto (t := 22) C dX12_havens_18 (by decide) ?_
      exact hj19 (1 : Int32)
    · refine dn_iconst C dX12_havens_21 ic_i_0 rfl ?_
      exact hj19 (0 : Int32)
def fn_M_image  (o : Nat) (σ : hp_I) : Option (Int32 × hp_I) :=
  px_let (hp_s σ o 0 (0 : Int32)) fun s1 =>
  if (s1 o 33) = (3 : Int32) then (
    some ((-1 : Int32), s1)
  ) else (
    Option.bind (px_rld (sh_rf o 29) (s1 o 33)) fun z2 =>
    Option.bind (fn_M_putsAll o z2 (0 : Int32) s1) fun s4 =>
    px_let (hp_s s4 o 33 ((s4 o 33) + (1 : Int32))) fun s5 =>
    some (s5 o 33, s5)
  )
set_option maxHeartbeats 4000000 in
set_option maxRecDepth 100000 in
theorem ok_M_image {G : wd_G} {l : Launch} (hN : gd_ok G)  (o : Nat) (ho : sh_kd o = 12) (σ : hp_I) (τ : hp_L) : cl_C G l 2 yX12_image cX12_image 1 (some .int) [.ref (wd_b G + o)] σ τ (ci_ih τ) (fn_M_image o σ) := by
  refine cl_of (lv0 := [(0, .ref (wd_b G + o))]) (ci_ih τ) (by decide) (Nat.le_of_ble_eq_true rfl) rfl hN (fun M hM C => ?_)
  have C : cx_C G M RX12 cX12_image 1 2 (some .int) := C
  unfold fn_M_image
  refine dn_aload_n C dX12_image_0 rfl 0 rfl rfl ?_
  refine dn_iconst C dX12_image_1 ic_i_0 rfl ?_
  refine dn_putI C fp_X12_93 ho dX12_image_2 rfl (fun s1 => ?_)
  refine dn_aload_n C dX12_image_5 rfl 0 rfl rfl ?_
  refine dn_getI C fd_X12_201 ho dX12_image_6 rfl ?_
  refine dn_iconst C dX12_image_9 ic_i_3 rfl ?_
  refine dn_icmp_ne (t := 15) C dX12_image_10 (by decide) rfl ?_ ?_
  · refine dn_iconst C dX12_image_13 ic_i_m1 rfl ?_
    exact dn_iret C dX12_image_14 rfl
  · refine dn_aload_n C dX12_image_15 rfl 0 rfl rfl ?_
    refine dn_aload_n C dX12_image_16 rfl 0 rfl rfl ?_
    refine dn_getR C fd_X12_67 ho dX12_image_17 rfl ?_
    refine dn_aload_n C dX12_image_20 rfl 0 rfl rfl ?_
    refine dn_getI C fd_X12_201 ho dX12_image_21 rfl ?_
    refine dn_aald C (kt_12_29 ho) dX12_image_24 rfl (fun z2 hz2 => ?_)
    refine dn_iconst C dX12_image_25 ic_i_0 rfl ?_
    refine dn_callV_h (As := [.ref (wd_b G + z2), .int (0 : Int32)]) (st := []) C (ok_M_putsAll (cx_g C) o ho z2 (kt_row (kt_12_29 ho) hz2) (0 : Int32) s1 τ) mt_X12_putsAll mv_X12_putsAll lk_X12_408 (by decide) ho rfl ⟨Nat.zero_le _, Nat.zero_le _⟩ (Nat.le_of_ble_eq_true rfl) dX12_image_26 rfl rfl (fun s4 => ?_)
    refine dn_aload_n C dX12_image_29 rfl 0 rfl rfl ?_
    refine dn_dup C dX12_image_30 rfl rfl ?_
    refine dn_getI C fd_X12_201 ho dX12_image_31 rfl ?_
    refine dn_iconst C dX12_image_34 ic_i_1 rfl ?_
    refine dn_iadd C dX12_image_35 rfl ?_
    refine dn_putI C fp_X12_201 ho dX12_image_36 rfl (fun s5 => ?_)
    refine dn_aload_n C dX12_image_39 rfl 0 rfl rfl ?_
    refine dn_getI C fd_X12_201 ho dX12_image_40 rfl ?_
    exact dn_iret C dX12_image_43 rfl
def fn_M_joins  (o : Nat) (p1 : Nat) (p2 : Int32) (p3 : Int32) (σ : hp_I) : Option (Int32 × hp_I) :=
  px_jn (
    px_z (0 : Int32) ((0 : Int32), σ)
  ) fun j1 =>
    if p2 = p3 then (
      j1
    ) else (
      Option.bind (fn_M_lives p1 p2 σ) fun z2 =>
      if z2 = 0 then (
        j1
      ) else (
        Option.bind (fn_M_lives p1 p3 σ) fun z3 =>
        if z3 = 0 then (
          j1
        ) else (
          Option.bind (px_ald σ p1 ((0 : Int32) + p2)) fun z4 =>
          Option.bind (px_ald σ p1 ((0 : Int32) + p3)) fun z5 =>
          if z4 = z5 then (
            Option.bind (px_ald σ p1 ((8 : Int32) + p2)) fun z6 =>
            Option.bind (px_ald σ p1 ((8 : Int32) + p3)) fun z7 =>
            Option.bind (fn_M_less (999 : Int32) (z6 + z7)) fun z8 =>
            Option.bind (px_ast σ p1 ((8 : Int32) + p2) z8) fun s9 =>
            Option.bind (px_ald s9 p1 (42 : Int32)) fun z10 =>
            Option.bind (px_ast s9 p1 (42 : Int32) (z10 &&& (((1 : Int32) <<< (p3 &&& 31)) ^^^ (-1 : Int32)))) fun s11 =>
            Option.bind (px_ald s11 p1 (44 : Int32)) fun z12 =>
            Option.bind (px_ast s11 p1 (44 : Int32) (z12 ||| ((1 : Int32) <<< (p3 &&& 31)))) fun s13 =>
            px_z (1 : Int32) ((1 : Int32), s13)
          ) else (
            j1
          )
        )
      )
    )
set_option maxHeartbeats 4000000 in
set_option maxRecDepth 100000 in
theorem ok_M_joins {G : wd_G} {l : Launch} (hN : gd_ok G)  (o : Nat) (ho : sh_kd o = 12) (p1 : Nat) (hp1 : sh_kd p1 = 13) (p2 : Int32) (p3 : Int32) (σ : hp_I) (τ : hp_L) : cl_C G l 2 yX12_joins cX12_joins 4 (some .boolean) [.ref (wd_b G + o), .ref (wd_b G + p1), .int p2, .int p3] σ τ (ci_ih τ) (fn_M_joins o p1 p2 p3 σ) := by
  refine cl_of (lv0 := [(0, .ref (wd_b G + o)), (1, .ref (wd_b G + p1)), (2, .int p2), (3, .int p3)]) (ci_ih τ) (by decide) (Nat.le_of_ble_eq_true rfl) rfl hN (fun M hM C => ?_)
  have C : cx_C G M RX12 cX12_joins 4 2 (some .boolean) := C
  unfold fn_M_joins
  refine dn_iload_n C dX12_joins_0 rfl 2 rfl rfl ?_
  refine dn_iload_n C dX12_joins_1 rfl 3 rfl rfl ?_
  refine dn_jn (fun z => dn_D G M 4 0 0 (cl_M G M (ci_ih τ)) 34 [] [] σ τ z) ?_ (fun j1 hj1 => ?_)
  · refine dn_iconst C dX12_joins_34 ic_i_0 rfl ?_
    exact dn_zret C dX12_joins_35 rfl
  · refine dn_icmp_eq (t := 34) C dX12_joins_2 (by decide) rfl ?_ ?_
    · refine dn_pick [] rfl ?_
      exact hj1
    · refine dn_aload_n C dX12_joins_5 rfl 1 rfl rfl ?_
      refine dn_iload_n C dX12_joins_6 rfl 2 rfl rfl ?_
      refine dn_callS_i (As := [.ref (wd_b G + p1), .int p2]) (st := []) C (ok_M_lives (cx_g C) p1 hp1 p2 σ τ) mt_X12_lives ms_X12_lives lk_X12_275 (by decide) rfl ⟨Nat.zero_le _, Nat.zero_le _⟩ (Nat.le_of_ble_eq_true rfl) dX12_joins_7 rfl rfl (fun z2 => ?_)
      refine dn_if_eq (t := 34) C dX12_joins_10 (by decide) rfl ?_ ?_
      · refine dn_pick [] rfl ?_
        exact hj1
      · refine dn_aload_n C dX12_joins_13 rfl 1 rfl rfl ?_
        refine dn_iload_n C dX12_joins_14 rfl 3 rfl rfl ?_
        refine dn_callS_i (As := [.ref (wd_b G + p1), .int p3]) (st := []) C (ok_M_lives (cx_g C) p1 hp1 p3 σ τ) mt_X12_lives ms_X12_lives lk_X12_275 (by decide) rfl ⟨Nat.zero_le _, Nat.zero_le _⟩ (Nat.le_of_ble_eq_true rfl) dX12_joins_15 rfl rfl (fun z3 => ?_)
        refine dn_if_eq (t := 34) C dX12_joins_18 (by decide) rfl ?_ ?_
        · refine dn_pick [] rfl ?_
          exact hj1
        · refine dn_aload_n C dX12_joins_21 rfl 1 rfl rfl ?_
          refine dn_iconst C dX12_joins_22 ic_i_0 rfl ?_
          refine dn_iload_n C dX12_joins_23 rfl 2 rfl rfl ?_
          refine dn_iadd C dX12_joins_24 rfl ?_
          refine dn_iald C hp1 dX12_joins_25 rfl (fun z4 => ?_)
          refine dn_aload_n C dX12_joins_26 rfl 1 rfl rfl ?_
          refine dn_iconst C dX12_joins_27 ic_i_0 rfl ?_
          refine dn_iload_n C dX12_joins_28 rfl 3 rfl rfl ?_
          refine dn_iadd C dX12_joins_29 rfl ?_
          refine dn_iald C hp1 dX12_joins_30 rfl (fun z5 => ?_)
          refine dn_icmp_eq (t := 36) C dX12_joins_31 (by decide) rfl ?_ ?_
          · refine dn_aload_n C dX12_joins_36 rfl 1 rfl rfl ?_
            refine dn_bipush C dX12_joins_37 ic_b_8 rfl ?_
            refine dn_iload_n C dX12_joins_39 rfl 2 rfl rfl ?_
            refine dn_iadd C dX12_joins_40 rfl ?_
            refine dn_sipush C dX12_joins_41 ic_s_999 rfl ?_
            refine dn_aload_n C dX12_joins_44 rfl 1 rfl rfl ?_
            refine dn_bipush C dX12_joins_45 ic_b_8 rfl ?_
            refine dn_iload_n C dX12_joins_47 rfl 2 rfl rfl ?_
            refine dn_iadd C dX12_joins_48 rfl ?_
            refine dn_iald C hp1 dX12_joins_49 rfl (fun z6 => ?_)
            refine dn_aload_n C dX12_joins_50 rfl 1 rfl rfl ?_
            refine dn_bipush C dX12_joins_51 ic_b_8 rfl ?_
            refine dn_iload_n C dX12_joins_53 rfl 3 rfl rfl ?_
            refine dn_iadd C dX12_joins_54 rfl ?_
            refine dn_iald C hp1 dX12_joins_55 rfl (fun z7 => ?_)
            refine dn_iadd C dX12_joins_56 rfl ?_
            refine dn_callS_i (As := [.int (999 : Int32), .int (z6 + z7)]) (st := [.int ((8 : Int32) + p2), .ref (wd_b G + p1)]) C (ok_M_less (cx_g C) (999 : Int32) (z6 + z7) σ τ) mt_X12_less ms_X12_less lk_X12_232 (by decide) rfl ⟨Nat.zero_le _, Nat.zero_le _⟩ (Nat.le_of_ble_eq_true rfl) dX12_joins_57 rfl rfl (fun z8 => ?_)
            refine dn_iast C hp1 dX12_joins_60 rfl (fun s9 => ?_)
            refine dn_aload_n C dX12_joins_61 rfl 1 rfl rfl ?_
            refine dn_bipush C dX12_joins_62 ic_b_42 rfl ?_
            refine dn_dup2 C dX12_joins_64 rfl rfl rfl ?_
            refine dn_iald C hp1 dX12_joins_65 rfl (fun z10 => ?_)
            refine dn_iconst C dX12_joins_66 ic_i_1 rfl ?_
            refine dn_iload_n C dX12_joins_67 rfl 3 rfl rfl ?_
            refine dn_ishl C dX12_joins_68 rfl ?_
            refine dn_iconst C dX12_joins_69 ic_i_m1 rfl ?_
            refine dn_ixor C dX12_joins_70 rfl ?_
            refine dn_iand C dX12_joins_71 rfl ?_
            refine dn_iast C hp1 dX12_joins_72 rfl (fun s11 => ?_)
            refine dn_aload_n C dX12_joins_73 rfl 1 rfl rfl ?_
            refine dn_bipush C dX12_joins_74 ic_b_44 rfl ?_
            refine dn_dup2 C dX12_joins_76 rfl rfl rfl ?_
            refine dn_iald C hp1 dX12_joins_77 rfl (fun z12 => ?_)
            refine dn_iconst C dX12_joins_78 ic_i_1 rfl ?_
            refine dn_iload_n C dX12_joins_79 rfl 3 rfl rfl ?_
            refine dn_ishl C dX12_joins_80 rfl ?_
            refine dn_ior C dX12_joins_81 rfl ?_
            refine dn_iast C hp1 dX12_joins_82 rfl (fun s13 => ?_)
            refine dn_iconst C dX12_joins_83 ic_i_1 rfl ?_
            exact dn_zret C dX12_joins_84 rfl
          · refine dn_pick [] rfl ?_
            exact hj1
def fn_M_number_L44  (a0 : Nat) (a1 : Int32) (a2 : Int32) (a3 : Int32) (k : Int32 → hp_I → Option (Int32 × hp_I)) : Nat → Int32 → hp_I → Option (Int32 × hp_I)
  | 0, _, _ => none
  | fu + 1, x4, s0 =>
    Option.bind (fn_M_byteAt a0 (s0 a0 4) s0) fun z8 =>
    Option.bind (fn_M_isDigit z8) fun z9 =>
    if z9 = 0 then (
      k x4 s0
    ) else (
      Option.bind (fn_M_byteAt a0 (s0 a0 4) s0) fun z10 =>
      px_let ((((10 : Int32) * x4) + z10) - (48 : Int32)) fun v4_11 =>
      px_jn (fun (t12 : Int32) =>
        px_let t12 fun v4_13 =>
        px_let (hp_s s0 a0 4 ((s0 a0 4) + (1 : Int32))) fun s14 =>
        fn_M_number_L44 a0 a1 a2 a3 k fu v4_13 s14
      ) fun j15 =>
        if (100000 : Int32) < v4_11 then (
          j15 (100000 : Int32)
        ) else (
          j15 v4_11
        )
    )
def fn_M_number  (o : Nat) (p1 : Int32) (p2 : Int32) (σ : hp_I) : Option (Int32 × hp_I) :=
  if (σ o 5) = 0 then (
    Option.bind (fn_M_blanks o σ) fun s2 =>
    px_let (s2 o 4) fun v3_3 =>
    px_let (0 : Int32) fun v4_4 =>
    Option.bind (fn_M_byteAt o (s2 o 4) s2) fun z5 =>
    Option.bind (fn_M_isDigit z5) fun z6 =>
    px_jn (fun (s7 : hp_I) =>
      fn_M_number_L44 o p1 p2 v3_3
        (fun (y_16 : Int32) (s_17 : hp_I) =>
          Option.bind (fn_M_in y_16 p1 p2) fun z18 =>
          px_jn (fun (s19 : hp_I) =>
            px_jn (fun (t20 : Int32) =>
              some (t20, s19)
            ) fun j21 =>
              if (s19 o 5) = 0 then (
                j21 y_16
              ) else (
                j21 (0 : Int32)
              )
          ) fun j22 =>
            if z18 = 0 then (
              Option.bind (fn_M_wrong o (2 : Int32) v3_3 s_17) fun s24 =>
              j22 s24
            ) else (
              j22 s_17
            )
        )
        FU v4_4 s7
    ) fun j25 =>
      if z6 = 0 then (
        Option.bind (fn_M_wrong o (1 : Int32) (s2 o 4) s2) fun s27 =>
        j25 s27
      ) else (
        j25 s2
      )
  ) else (
    some ((0 : Int32), σ)
  )
set_option maxHeartbeats 4000000 in
set_option maxRecDepth 100000 in
theorem pf_M_number_L44 {G : wd_G} {M : wd_M}  (C : cx_C G M RX12 cX12_number 5 2 (some .int)) (a0 : Nat) (ha0 : sh_kd a0 = 12) (a1 : Int32) (a2 : Int32) (a3 : Int32)  (τ : hp_L) (k : Int32 → hp_I → Option (Int32 × hp_I)) (hk : ∀ (y4 : Int32) (s : hp_I), dn_D G M 5 0 0 (cl_M G M (ci_ih τ)) 106 [(0, .ref (wd_b G + a0)), (1, .int a1), (2, .int a2), (3, .int a3), (4, .int y4)] [] s τ (k y4 s)) : ∀ (fu : Nat) (x4 : Int32) (s0 : hp_I), dn_D G M 5 0 0 (cl_M G M (ci_ih τ)) 44 [(0, .ref (wd_b G + a0)), (1, .int a1), (2, .int a2), (3, .int a3), (4, .int x4)] [] s0 τ (fn_M_number_L44 a0 a1 a2 a3 k fu x4 s0) := by
  intro fu
  induction fu with
  | zero => exact fun x4 s0 => dn_none
  | succ fu ih =>
    intro x4 s0
    unfold fn_M_number_L44
    refine dn_aload_n C dX12_number_44 rfl 0 rfl rfl ?_
    refine dn_aload_n C dX12_number_45 rfl 0 rfl rfl ?_
    refine dn_getI C fd_X12_102 ha0 dX12_number_46 rfl ?_
    refine dn_callV_i (As := [.int (s0 a0 4)]) (st := []) C (ok_M_byteAt (cx_g C) a0 ha0 (s0 a0 4) s0 τ) mt_X12_byteAt mv_X12_byteAt lk_X12_105 (by decide) ha0 rfl ⟨Nat.zero_le _, Nat.zero_le _⟩ (Nat.le_of_ble_eq_true rfl) dX12_number_49 rfl rfl (fun z8 => ?_)
    refine dn_callS_i (As := [.int z8]) (st := []) C (ok_M_isDigit (cx_g C) z8 s0 τ) mt_X12_isDigit ms_X12_isDigit lk_X12_118 (by decide) rfl ⟨Nat.zero_le _, Nat.zero_le _⟩ (Nat.le_of_ble_eq_true rfl) dX12_number_52 rfl rfl (fun z9 => ?_)
    refine dn_if_eq (t := 106) C dX12_number_55 (by decide) rfl ?_ ?_
    · exact hk x4 s0
    · refine dn_bipush C dX12_number_58 ic_b_10 rfl ?_
      refine dn_iload C dX12_number_60 4 rfl rfl ?_
      refine dn_imul C dX12_number_62 rfl ?_
      refine dn_aload_n C dX12_number_63 rfl 0 rfl rfl ?_
      refine dn_aload_n C dX12_number_64 rfl 0 rfl rfl ?_
      refine dn_getI C fd_X12_102 ha0 dX12_number_65 rfl ?_
      refine dn_callV_i (As := [.int (s0 a0 4)]) (st := [.int ((10 : Int32) * x4)]) C (ok_M_byteAt (cx_g C) a0 ha0 (s0 a0 4) s0 τ) mt_X12_byteAt mv_X12_byteAt lk_X12_105 (by decide) ha0 rfl ⟨Nat.zero_le _, Nat.zero_le _⟩ (Nat.le_of_ble_eq_true rfl) dX12_number_68 rfl rfl (fun z10 => ?_)
      refine dn_iadd C dX12_number_71 rfl ?_
      refine dn_bipush C dX12_number_72 ic_b_48 rfl ?_
      refine dn_isub C dX12_number_74 rfl ?_
      refine dn_istore (lv0 := [(0, .ref (wd_b G + a0)), (1, .int a1), (2, .int a2), (3, .int a3)]) C dX12_number_75 (by decide) rfl rfl (fun v4_11 => ?_)
      refine dn_iload C dX12_number_77 0 rfl rfl ?_
      refine dn_ldc C lc_X12_126 dX12_number_79 rfl ?_
      refine dn_jn (fun z => ∀ (t12 : Int32), dn_D G M 5 0 0 (cl_M G M (ci_ih τ)) 91 [(0, .ref (wd_b G + a0)), (1, .int a1), (2, .int a2), (3, .int a3)] [.int t12] s0 τ (z t12)) (fun t12 => ?_) (fun j15 hj15 => ?_)
      · refine dn_istore (lv0 := [(0, .ref (wd_b G + a0)), (1, .int a1), (2, .int a2), (3, .int a3)]) C dX12_number_91 (by decide) rfl rfl (fun v4_13 => ?_)
        refine dn_aload_n C dX12_number_93 rfl 1 rfl rfl ?_
        refine dn_dup C dX12_number_94 rfl rfl ?_
        refine dn_getI C fd_X12_102 ha0 dX12_number_95 rfl ?_
        refine dn_iconst C dX12_number_98 ic_i_1 rfl ?_
        refine dn_iadd C dX12_number_99 rfl ?_
        refine dn_putI C fp_X12_102 ha0 dX12_number_100 rfl (fun s14 => ?_)
        refine dn_goto (t := 44) C dX12_number_103 (by decide) ?_
        refine dn_pick [1, 2, 3, 4, 0] rfl ?_
        exact ih v4_13 s14
      · refine dn_icmp_le (t := 89) C dX12_number_81 (by decide) rfl ?_ ?_
        · refine dn_ldc C lc_X12_126 dX12_number_84 rfl ?_
          refine dn_goto (t := 91) C dX12_number_86 (by decide) ?_
          refine dn_pick [1, 2, 3, 4] rfl ?_
          exact hj15 (100000 : Int32)
        · refine dn_iload C dX12_number_89 0 rfl rfl ?_
          refine dn_pick [1, 2, 3, 4] rfl ?_
          exact hj15 v4_11
set_option maxHeartbeats 4000000 in
set_option maxRecDepth 100000 in
theorem ok_M_number {G : wd_G} {l : Launch} (hN : gd_ok G)  (o : Nat) (ho : sh_kd o = 12) (p1 : Int32) (p2 : Int32) (σ : hp_I) (τ : hp_L) : cl_C G l 2 yX12_number cX12_number 5 (some .int) [.ref (wd_b G + o), .int p1, .int p2] σ τ (ci_ih τ) (fn_M_number o p1 p2 σ) := by
  refine cl_of (lv0 := [(0, .ref (wd_b G + o)), (1, .int p1), (2, .int p2)]) (ci_ih τ) (by decide) (Nat.le_of_ble_eq_true rfl) rfl hN (fun M hM C => ?_)
  have C : cx_C G M RX12 cX12_number 5 2 (some .int) := C
  unfold fn_M_number
  refine dn_aload_n C dX12_number_0 rfl 0 rfl rfl ?_
  refine dn_getI C fd_X12_109 ho dX12_number_1 rfl ?_
  refine dn_if_eq (t := 9) C dX12_number_4 (by decide) rfl ?_ ?_
  · refine dn_aload_n C dX12_number_9 rfl 0 rfl rfl ?_
    refine dn_callV_h (As := []) (st := []) C (ok_M_blanks (cx_g C) o ho σ τ) mt_X12_blanks mv_X12_blanks lk_X12_115 (by decide) ho rfl ⟨Nat.zero_le _, Nat.zero_le _⟩ (Nat.le_of_ble_eq_true rfl) dX12_number_10 rfl rfl (fun s2 => ?_)
    refine dn_aload_n C dX12_number_13 rfl 0 rfl rfl ?_
    refine dn_getI C fd_X12_102 ho dX12_number_14 rfl ?_
    refine dn_istore_n (lv0 := [(0, .ref (wd_b G + o)), (1, .int p1), (2, .int p2)]) C dX12_number_17 rfl (by decide) rfl rfl (fun v3_3 => ?_)
    refine dn_iconst C dX12_number_18 ic_i_0 rfl ?_
    refine dn_istore (lv0 := [(3, .int v3_3), (0, .ref (wd_b G + o)), (1, .int p1), (2, .int p2)]) C dX12_number_19 (by decide) rfl rfl (fun v4_4 => ?_)
    refine dn_aload_n C dX12_number_21 rfl 2 rfl rfl ?_
    refine dn_aload_n C dX12_number_22 rfl 2 rfl rfl ?_
    refine dn_getI C fd_X12_102 ho dX12_number_23 rfl ?_
    refine dn_callV_i (As := [.int (s2 o 4)]) (st := []) C (ok_M_byteAt (cx_g C) o ho (s2 o 4) s2 τ) mt_X12_byteAt mv_X12_byteAt lk_X12_105 (by decide) ho rfl ⟨Nat.zero_le _, Nat.zero_le _⟩ (Nat.le_of_ble_eq_true rfl) dX12_number_26 rfl rfl (fun z5 => ?_)
    refine dn_callS_i (As := [.int z5]) (st := []) C (ok_M_isDigit (cx_g C) z5 s2 τ) mt_X12_isDigit ms_X12_isDigit lk_X12_118 (by decide) rfl ⟨Nat.zero_le _, Nat.zero_le _⟩ (Nat.le_of_ble_eq_true rfl) dX12_number_29 rfl rfl (fun z6 => ?_)
    refine dn_jn (fun z => ∀ (s7 : hp_I), dn_D G M 5 0 0 (cl_M G M (ci_ih τ)) 44 [(0, .ref (wd_b G + o)), (1, .int p1), (2, .int p2), (3, .int v3_3), (4, .int v4_4)] [] s7 τ (z s7)) (fun s7 => ?_) (fun j25 hj25 => ?_)
    · refine pf_M_number_L44  C  o ho p1 p2 v3_3  τ _ (fun y_16 s_17 => ?_) FU v4_4 s7
      refine dn_iload C dX12_number_106 4 rfl rfl ?_
      refine dn_iload_n C dX12_number_108 rfl 1 rfl rfl ?_
      refine dn_iload_n C dX12_number_109 rfl 2 rfl rfl ?_
      refine dn_callS_i (As := [.int y_16, .int p1, .int p2]) (st := []) C (ok_M_in (cx_g C) y_16 p1 p2 s_17 τ) mt_X12_in ms_X12_in lk_X12_127 (by decide) rfl ⟨Nat.zero_le _, Nat.zero_le _⟩ (Nat.le_of_ble_eq_true rfl) dX12_number_110 rfl rfl (fun z18 => ?_)
      refine dn_jn (fun z => ∀ (s19 : hp_I), dn_D G M 5 0 0 (cl_M G M (ci_ih τ)) 122 [(0, .ref (wd_b G + o)), (4, .int y_16)] [] s19 τ (z s19)) (fun s19 => ?_) (fun j22 hj22 => ?_)
      · refine dn_aload_n C dX12_number_122 rfl 0 rfl rfl ?_
        refine dn_getI C fd_X12_109 ho dX12_number_123 rfl ?_
        refine dn_jn (fun z => ∀ (t20 : Int32), dn_D G M 5 0 0 (cl_M G M (ci_ih τ)) 135 [] [.int t20] s19 τ (z t20)) (fun t20 => ?_) (fun j21 hj21 => ?_)
        · exact dn_iret C dX12_number_135 rfl
        · refine dn_if_ne (t := 134) C dX12_number_126 (by decide) rfl ?_ ?_
          · refine dn_iload C dX12_number_129 1 rfl rfl ?_
            refine dn_goto (t := 135) C dX12_number_131 (by decide) ?_
            refine dn_pick [] rfl ?_
            exact hj21 y_16
          · refine dn_iconst C dX12_number_134 ic_i_0 rfl ?_
            refine dn_pick [] rfl ?_
            exact hj21 (0 : Int32)
      · refine dn_if_ne (t := 122) C dX12_number_113 (by decide) rfl ?_ ?_
        · refine dn_aload_n C dX12_number_116 rfl 0 rfl rfl ?_
          refine dn_iconst C dX12_number_117 ic_i_2 rfl ?_
          refine dn_iload_n C dX12_number_118 rfl 3 rfl rfl ?_
          refine dn_callV_h (As := [.int (2 : Int32), .int v3_3]) (st := []) C (ok_M_wrong (cx_g C) o ho (2 : Int32) v3_3 s_17 τ) mt_X12_wrong mv_X12_wrong lk_X12_122 (by decide) ho rfl ⟨Nat.zero_le _, Nat.zero_le _⟩ (Nat.le_of_ble_eq_true rfl) dX12_number_119 rfl rfl (fun s24 => ?_)
          refine dn_pick [0, 4] rfl ?_
          exact hj22 s24
        · refine dn_pick [0, 4] rfl ?_
          exact hj22 s_17
    · refine dn_if_ne (t := 44) C dX12_number_32 (by decide) rfl ?_ ?_
      · refine dn_aload_n C dX12_number_35 rfl 2 rfl rfl ?_
        refine dn_iconst C dX12_number_36 ic_i_1 rfl ?_
        refine dn_aload_n C dX12_number_37 rfl 2 rfl rfl ?_
        refine dn_getI C fd_X12_102 ho dX12_number_38 rfl ?_
        refine dn_callV_h (As := [.int (1 : Int32), .int (s2 o 4)]) (st := []) C (ok_M_wrong (cx_g C) o ho (1 : Int32) (s2 o 4) s2 τ) mt_X12_wrong mv_X12_wrong lk_X12_122 (by decide) ho rfl ⟨Nat.zero_le _, Nat.zero_le _⟩ (Nat.le_of_ble_eq_true rfl) dX12_number_41 rfl rfl (fun s27 => ?_)
        refine dn_pick [2, 3, 4, 1, 0] rfl ?_
        exact hj25 s27
      · refine dn_pick [2, 3, 4, 1, 0] rfl ?_
        exact hj25 s2
  · refine dn_iconst C dX12_number_7 ic_i_0 rfl ?_
    exact dn_iret C dX12_number_8 rfl
def fn_M_proudest  (o : Nat) (p1 : Int32) (σ : hp_I) : Option (Int32 × hp_I) :=
  px_let (hp_s σ o 0 (0 : Int32)) fun s1 =>
  Option.bind (fn_M_in p1 (0 : Int32) (1 : Int32)) fun z2 =>
  px_jn (fun (t3 : Int32) =>
    px_b2 (fn_M_bad o t3 (1 : Int32) (1 : Int32) s1) fun z4 s5 =>
    if z4 = 0 then (
      Option.bind (fn_M_proud o (sh_rf o 25) s5) fun z6 =>
      px_let z6 fun v2_7 =>
      px_jn (fun (t8 : Int32) =>
        some (t8, s5)
      ) fun j9 =>
        px_jn (
          j9 v2_7
        ) fun j10 =>
          if p1 = 0 then (
            j10
          ) else (
            if v2_7 = (-1 : Int32) then (
              j10
            ) else (
              Option.bind (px_ald s5 (sh_rf o 25) ((37 : Int32) + v2_7)) fun z11 =>
              j9 z11
            )
          )
    ) else (
      some ((0 : Int32), s5)
    )
  ) fun j12 =>
    if z2 = 0 then (
      j12 (1 : Int32)
    ) else (
      j12 (0 : Int32)
    )
set_option maxHeartbeats 4000000 in
set_option maxRecDepth 100000 in
theorem ok_M_proudest {G : wd_G} {l : Launch} (hN : gd_ok G)  (o : Nat) (ho : sh_kd o = 12) (p1 : Int32) (σ : hp_I) (τ : hp_L) : cl_C G l 2 yX12_proudest cX12_proudest 3 (some .int) [.ref (wd_b G + o), .int p1] σ τ (ci_ih τ) (fn_M_proudest o p1 σ) := by
  refine cl_of (lv0 := [(0, .ref (wd_b G + o)), (1, .int p1)]) (ci_ih τ) (by decide) (Nat.le_of_ble_eq_true rfl) rfl hN (fun M hM C => ?_)
  have C : cx_C G M RX12 cX12_proudest 3 2 (some .int) := C
  unfold fn_M_proudest
  refine dn_aload_n C dX12_proudest_0 rfl 0 rfl rfl ?_
  refine dn_iconst C dX12_proudest_1 ic_i_0 rfl ?_
  refine dn_putI C fp_X12_93 ho dX12_proudest_2 rfl (fun s1 => ?_)
  refine dn_aload_n C dX12_proudest_5 rfl 0 rfl rfl ?_
  refine dn_iload_n C dX12_proudest_6 rfl 1 rfl rfl ?_
  refine dn_iconst C dX12_proudest_7 ic_i_0 rfl ?_
  refine dn_iconst C dX12_proudest_8 ic_i_1 rfl ?_
  refine dn_callS_i (As := [.int p1, .int (0 : Int32), .int (1 : Int32)]) (st := [.ref (wd_b G + o)]) C (ok_M_in (cx_g C) p1 (0 : Int32) (1 : Int32) s1 τ) mt_X12_in ms_X12_in lk_X12_127 (by decide) rfl ⟨Nat.zero_le _, Nat.zero_le _⟩ (Nat.le_of_ble_eq_true rfl) dX12_proudest_9 rfl rfl (fun z2 => ?_)
  refine dn_jn (fun z => ∀ (t3 : Int32), dn_D G M 3 0 0 (cl_M G M (ci_ih τ)) 20 [(0, .ref (wd_b G + o)), (1, .int p1)] [.int t3, .ref (wd_b G + o)] s1 τ (z t3)) (fun t3 => ?_) (fun j12 hj12 => ?_)
  · refine dn_iconst C dX12_proudest_20 ic_i_1 rfl ?_
    refine dn_iconst C dX12_proudest_21 ic_i_1 rfl ?_
    refine dn_callV_ih (As := [.int t3, .int (1 : Int32), .int (1 : Int32)]) (st := []) C (ok_M_bad (cx_g C) o ho t3 (1 : Int32) (1 : Int32) s1 τ) mt_X12_bad mv_X12_bad lk_X12_172 (by decide) ho rfl ⟨Nat.zero_le _, Nat.zero_le _⟩ (Nat.le_of_ble_eq_true rfl) dX12_proudest_22 rfl rfl (fun z4 s5 => ?_)
    refine dn_if_eq (t := 30) C dX12_proudest_25 (by decide) rfl ?_ ?_
    · refine dn_aload_n C dX12_proudest_30 rfl 0 rfl rfl ?_
      refine dn_aload_n C dX12_proudest_31 rfl 0 rfl rfl ?_
      refine dn_getR C fd_X12_55 ho dX12_proudest_32 rfl ?_
      refine dn_callV_i (As := [.ref (wd_b G + sh_rf o 25)]) (st := []) C (ok_M_proud (cx_g C) o ho (sh_rf o 25) (kt_12_25 ho) s5 τ) mt_X12_proud mv_X12_proud lk_X12_385 (by decide) ho rfl ⟨Nat.zero_le _, Nat.zero_le _⟩ (Nat.le_of_ble_eq_true rfl) dX12_proudest_35 rfl rfl (fun z6 => ?_)
      refine dn_istore_n (lv0 := [(0, .ref (wd_b G + o)), (1, .int p1)]) C dX12_proudest_38 rfl (by decide) rfl rfl (fun v2_7 => ?_)
      refine dn_iload_n C dX12_proudest_39 rfl 2 rfl rfl ?_
      refine dn_jn (fun z => ∀ (t8 : Int32), dn_D G M 3 0 0 (cl_M G M (ci_ih τ)) 61 [] [.int t8] s5 τ (z t8)) (fun t8 => ?_) (fun j9 hj9 => ?_)
      · exact dn_iret C dX12_proudest_61 rfl
      · refine dn_jn (fun z => dn_D G M 3 0 0 (cl_M G M (ci_ih τ)) 48 [(2, .int v2_7)] [] s5 τ z) ?_ (fun j10 hj10 => ?_)
        · refine dn_iload_n C dX12_proudest_48 rfl 0 rfl rfl ?_
          refine dn_goto (t := 61) C dX12_proudest_49 (by decide) ?_
          refine dn_pick [] rfl ?_
          exact hj9 v2_7
        · refine dn_if_eq (t := 48) C dX12_proudest_40 (by decide) rfl ?_ ?_
          · refine dn_pick [0] rfl ?_
            exact hj10
          · refine dn_iload_n C dX12_proudest_43 rfl 0 rfl rfl ?_
            refine dn_iconst C dX12_proudest_44 ic_i_m1 rfl ?_
            refine dn_icmp_ne (t := 52) C dX12_proudest_45 (by decide) rfl ?_ ?_
            · refine dn_pick [0] rfl ?_
              exact hj10
            · refine dn_aload_n C dX12_proudest_52 rfl 1 rfl rfl ?_
              refine dn_getR C fd_X12_55 ho dX12_proudest_53 rfl ?_
              refine dn_bipush C dX12_proudest_56 ic_b_37 rfl ?_
              refine dn_iload_n C dX12_proudest_58 rfl 0 rfl rfl ?_
              refine dn_iadd C dX12_proudest_59 rfl ?_
              refine dn_iald C (kt_12_25 ho) dX12_proudest_60 rfl (fun z11 => ?_)
              refine dn_pick [] rfl ?_
              exact hj9 z11
    · refine dn_iconst C dX12_proudest_28 ic_i_0 rfl ?_
      exact dn_iret C dX12_proudest_29 rfl
  · refine dn_if_ne (t := 19) C dX12_proudest_12 (by decide) rfl ?_ ?_
    · refine dn_iconst C dX12_proudest_15 ic_i_1 rfl ?_
      refine dn_goto (t := 20) C dX12_proudest_16 (by decide) ?_
      exact hj12 (1 : Int32)
    · refine dn_iconst C dX12_proudest_19 ic_i_0 rfl ?_
      exact hj12 (0 : Int32)
def fn_M_restore  (o : Nat) (σ : hp_I) : Option (Int32 × hp_I) :=
  px_let (hp_s σ o 0 (0 : Int32)) fun s1 =>
  if (s1 o 33) = 0 then (
    some ((-1 : Int32), s1)
  ) else (
    px_let (hp_s s1 o 33 ((s1 o 33) - (1 : Int32))) fun s2 =>
    Option.bind (px_rld (sh_rf o 29) (s2 o 33)) fun z3 =>
    Option.bind (fn_M_putsAll o z3 (1 : Int32) s2) fun s5 =>
    px_let (hp_s s5 o 32 (0 : Int32)) fun s6 =>
    some (s6 o 33, s6)
  )
set_option maxHeartbeats 4000000 in
set_option maxRecDepth 100000 in
theorem ok_M_restore {G : wd_G} {l : Launch} (hN : gd_ok G)  (o : Nat) (ho : sh_kd o = 12) (σ : hp_I) (τ : hp_L) : cl_C G l 2 yX12_restore cX12_restore 1 (some .int) [.ref (wd_b G + o)] σ τ (ci_ih τ) (fn_M_restore o σ) := by
  refine cl_of (lv0 := [(0, .ref (wd_b G + o))]) (ci_ih τ) (by decide) (Nat.le_of_ble_eq_true rfl) rfl hN (fun M hM C => ?_)
  have C : cx_C G M RX12 cX12_restore 1 2 (some .int) := C
  unfold fn_M_restore
  refine dn_aload_n C dX12_restore_0 rfl 0 rfl rfl ?_
  refine dn_iconst C dX12_restore_1 ic_i_0 rfl ?_
  refine dn_putI C fp_X12_93 ho dX12_restore_2 rfl (fun s1 => ?_)
  refine dn_aload_n C dX12_restore_5 rfl 0 rfl rfl ?_
  refine dn_getI C fd_X12_201 ho dX12_restore_6 rfl ?_
  refine dn_if_ne (t := 14) C dX12_restore_9 (by decide) rfl ?_ ?_
  · refine dn_iconst C dX12_restore_12 ic_i_m1 rfl ?_
    exact dn_iret C dX12_restore_13 rfl
  · refine dn_aload_n C dX12_restore_14 rfl 0 rfl rfl ?_
    refine dn_dup C dX12_restore_15 rfl rfl ?_
    refine dn_getI C fd_X12_201 ho dX12_restore_16 rfl ?_
    refine dn_iconst C dX12_restore_19 ic_i_1 rfl ?_
    refine dn_isub C dX12_restore_20 rfl ?_
    refine dn_putI C fp_X12_201 ho dX12_restore_21 rfl (fun s2 => ?_)
    refine dn_aload_n C dX12_restore_24 rfl 0 rfl rfl ?_
    refine dn_aload_n C dX12_restore_25 rfl 0 rfl rfl ?_
    refine dn_getR C fd_X12_67 ho dX12_restore_26 rfl ?_
    refine dn_aload_n C dX12_restore_29 rfl 0 rfl rfl ?_
    refine dn_getI C fd_X12_201 ho dX12_restore_30 rfl ?_
    refine dn_aald C (kt_12_29 ho) dX12_restore_33 rfl (fun z3 hz3 => ?_)
    refine dn_iconst C dX12_restore_34 ic_i_1 rfl ?_
    refine dn_callV_h (As := [.ref (wd_b G + z3), .int (1 : Int32)]) (st := []) C (ok_M_putsAll (cx_g C) o ho z3 (kt_row (kt_12_29 ho) hz3) (1 : Int32) s2 τ) mt_X12_putsAll mv_X12_putsAll lk_X12_408 (by decide) ho rfl ⟨Nat.zero_le _, Nat.zero_le _⟩ (Nat.le_of_ble_eq_true rfl) dX12_restore_35 rfl rfl (fun s5 => ?_)
    refine dn_aload_n C dX12_restore_38 rfl 0 rfl rfl ?_
    refine dn_iconst C dX12_restore_39 ic_i_0 rfl ?_
    refine dn_putI C fp_X12_198 ho dX12_restore_40 rfl (fun s6 => ?_)
    refine dn_aload_n C dX12_restore_43 rfl 0 rfl rfl ?_
    refine dn_getI C fd_X12_201 ho dX12_restore_44 rfl ?_
    exact dn_iret C dX12_restore_47 rfl
def fn_M_scheme  (o : Nat) (p1 : Int32) (p2 : Int32) (σ : hp_I) : Option (Int32 × hp_I) :=
  px_let (hp_s σ o 0 (0 : Int32)) fun s1 =>
  Option.bind (fn_M_isThing o (2 : Int32) p1 s1) fun z2 =>
  px_jn (fun (t3 : Int32) =>
    px_b2 (fn_M_bad o t3 (1 : Int32) (0 : Int32) s1) fun z4 s5 =>
    px_jn (fun (s6 : hp_I) =>
      some ((0 : Int32), s6)
    ) fun j7 =>
      if z4 = 0 then (
        Option.bind (fn_M_in p2 (0 : Int32) (5 : Int32)) fun z8 =>
        px_jn (fun (t9 : Int32) =>
          px_b2 (fn_M_bad o t9 (2 : Int32) (1 : Int32) s5) fun z10 s11 =>
          if z10 = 0 then (
            px_sw p2 [
              ((0 : Int32), (
                Option.bind (px_ald s11 (sh_rf o 25) ((0 : Int32) + p1)) fun z13 =>
                some (z13, s11)
              )),
              ((1 : Int32), (
                Option.bind (px_ald s11 (sh_rf o 25) ((8 : Int32) + p1)) fun z14 =>
                some (z14, s11)
              )),
              ((2 : Int32), (
                Option.bind (fn_M_grow o p1 s11) fun z15 =>
                some (z15, s11)
              )),
              ((3 : Int32), (
                Option.bind (px_ald s11 (sh_rf o 25) (42 : Int32)) fun z16 =>
                some ((z16 >>> (p1 &&& 31)) &&& (1 : Int32), s11)
              )),
              ((4 : Int32), (
                Option.bind (px_ald s11 (sh_rf o 25) ((16 : Int32) + p1)) fun z17 =>
                some (z17, s11)
              ))
            ] (
              Option.bind (px_ald s11 (sh_rf o 25) ((24 : Int32) + p1)) fun z12 =>
              some (z12, s11)
            )
          ) else (
            j7 s11
          )
        ) fun j18 =>
          if z8 = 0 then (
            j18 (1 : Int32)
          ) else (
            j18 (0 : Int32)
          )
      ) else (
        j7 s5
      )
  ) fun j19 =>
    if z2 = 0 then (
      j19 (1 : Int32)
    ) else (
      j19 (0 : Int32)
    )
set_option maxHeartbeats 4000000 in
set_option maxRecDepth 100000 in
theorem ok_M_scheme {G : wd_G} {l : Launch} (hN : gd_ok G)  (o : Nat) (ho : sh_kd o = 12) (p1 : Int32) (p2 : Int32) (σ : hp_I) (τ : hp_L) : cl_C G l 2 yX12_scheme cX12_scheme 3 (some .int) [.ref (wd_b G + o), .int p1, .int p2] σ τ (ci_ih τ) (fn_M_scheme o p1 p2 σ) := by
  refine cl_of (lv0 := [(0, .ref (wd_b G + o)), (1, .int p1), (2, .int p2)]) (ci_ih τ) (by decide) (Nat.le_of_ble_eq_true rfl) rfl hN (fun M hM C => ?_)
  have C : cx_C G M RX12 cX12_scheme 3 2 (some .int) := C
  unfold fn_M_scheme
  refine dn_aload_n C dX12_scheme_0 rfl 0 rfl rfl ?_
  refine dn_iconst C dX12_scheme_1 ic_i_0 rfl ?_
  refine dn_putI C fp_X12_93 ho dX12_scheme_2 rfl (fun s1 => ?_)
  refine dn_aload_n C dX12_scheme_5 rfl 0 rfl rfl ?_
  refine dn_aload_n C dX12_scheme_6 rfl 0 rfl rfl ?_
  refine dn_iconst C dX12_scheme_7 ic_i_2 rfl ?_
  refine dn_iload_n C dX12_scheme_8 rfl 1 rfl rfl ?_
  refine dn_callV_i (As := [.int (2 : Int32), .int p1]) (st := [.ref (wd_b G + o)]) C (ok_M_isThing (cx_g C) o ho (2 : Int32) p1 s1 τ) mt_X12_isThing mv_X12_isThing lk_X12_336 (by decide) ho rfl ⟨Nat.zero_le _, Nat.zero_le _⟩ (Nat.le_of_ble_eq_true rfl) dX12_scheme_9 rfl rfl (fun z2 => ?_)
  refine dn_jn (fun z => ∀ (t3 : Int32), dn_D G M 3 0 0 (cl_M G M (ci_ih τ)) 20 [(0, .ref (wd_b G + o)), (1, .int p1), (2, .int p2)] [.int t3, .ref (wd_b G + o)] s1 τ (z t3)) (fun t3 => ?_) (fun j19 hj19 => ?_)
  · refine dn_iconst C dX12_scheme_20 ic_i_1 rfl ?_
    refine dn_iconst C dX12_scheme_21 ic_i_0 rfl ?_
    refine dn_callV_ih (As := [.int t3, .int (1 : Int32), .int (0 : Int32)]) (st := []) C (ok_M_bad (cx_g C) o ho t3 (1 : Int32) (0 : Int32) s1 τ) mt_X12_bad mv_X12_bad lk_X12_172 (by decide) ho rfl ⟨Nat.zero_le _, Nat.zero_le _⟩ (Nat.le_of_ble_eq_true rfl) dX12_scheme_22 rfl rfl (fun z4 s5 => ?_)
    refine dn_jn (fun z => ∀ (s6 : hp_I), dn_D G M 3 0 0 (cl_M G M (ci_ih τ)) 51 [] [] s6 τ (z s6)) (fun s6 => ?_) (fun j7 hj7 => ?_)
    · refine dn_iconst C dX12_scheme_51 ic_i_0 rfl ?_
      exact dn_iret C dX12_scheme_52 rfl
    · refine dn_if_ne (t := 51) C dX12_scheme_25 (by decide) rfl ?_ ?_
      · refine dn_aload_n C dX12_scheme_28 rfl 0 rfl rfl ?_
        refine dn_iload_n C dX12_scheme_29 rfl 2 rfl rfl ?_
        refine dn_iconst C dX12_scheme_30 ic_i_0 rfl ?_
        refine dn_iconst C dX12_scheme_31 ic_i_5 rfl ?_
        refine dn_callS_i (As := [.int p2, .int (0 : Int32), .int (5 : Int32)]) (st := [.ref (wd_b G + o)]) C (ok_M_in (cx_g C) p2 (0 : Int32) (5 : Int32) s5 τ) mt_X12_in ms_X12_in lk_X12_127 (by decide) rfl ⟨Nat.zero_le _, Nat.zero_le _⟩ (Nat.le_of_ble_eq_true rfl) dX12_scheme_32 rfl rfl (fun z8 => ?_)
        refine dn_jn (fun z => ∀ (t9 : Int32), dn_D G M 3 0 0 (cl_M G M (ci_ih τ)) 43 [(0, .ref (wd_b G + o)), (1, .int p1), (2, .int p2)] [.int t9, .ref (wd_b G + o)] s5 τ (z t9)) (fun t9 => ?_) (fun j18 hj18 => ?_)
        · refine dn_iconst C dX12_scheme_43 ic_i_2 rfl ?_
          refine dn_iconst C dX12_scheme_44 ic_i_1 rfl ?_
          refine dn_callV_ih (As := [.int t9, .int (2 : Int32), .int (1 : Int32)]) (st := []) C (ok_M_bad (cx_g C) o ho t9 (2 : Int32) (1 : Int32) s5 τ) mt_X12_bad mv_X12_bad lk_X12_172 (by decide) ho rfl ⟨Nat.zero_le _, Nat.zero_le _⟩ (Nat.le_of_ble_eq_true rfl) dX12_scheme_45 rfl rfl (fun z10 s11 => ?_)
          refine dn_if_eq (t := 53) C dX12_scheme_48 (by decide) rfl ?_ ?_
          · refine dn_iload_n C dX12_scheme_53 rfl 2 rfl rfl ?_
            refine dn_table (t0 := 135) _ C dX12_scheme_54 (by decide) rfl ?_ ⟨⟨34, 88, by decide, rfl, by decide, ?_⟩, ⟨43, 97, by decide, rfl, by decide, ?_⟩, ⟨53, 107, by decide, rfl, by decide, ?_⟩, ⟨59, 113, by decide, rfl, by decide, ?_⟩, ⟨71, 125, by decide, rfl, by decide, ?_⟩, trivial⟩
            · refine dn_aload_n C dX12_scheme_135 rfl 0 rfl rfl ?_
              refine dn_getR C fd_X12_55 ho dX12_scheme_136 rfl ?_
              refine dn_bipush C dX12_scheme_139 ic_b_24 rfl ?_
              refine dn_iload_n C dX12_scheme_141 rfl 1 rfl rfl ?_
              refine dn_iadd C dX12_scheme_142 rfl ?_
              refine dn_iald C (kt_12_25 ho) dX12_scheme_143 rfl (fun z12 => ?_)
              exact dn_iret C dX12_scheme_144 rfl
            · refine dn_aload_n C dX12_scheme_88 rfl 0 rfl rfl ?_
              refine dn_getR C fd_X12_55 ho dX12_scheme_89 rfl ?_
              refine dn_iconst C dX12_scheme_92 ic_i_0 rfl ?_
              refine dn_iload_n C dX12_scheme_93 rfl 1 rfl rfl ?_
              refine dn_iadd C dX12_scheme_94 rfl ?_
              refine dn_iald C (kt_12_25 ho) dX12_scheme_95 rfl (fun z13 => ?_)
              exact dn_iret C dX12_scheme_96 rfl
            · refine dn_aload_n C dX12_scheme_97 rfl 0 rfl rfl ?_
              refine dn_getR C fd_X12_55 ho dX12_scheme_98 rfl ?_
              refine dn_bipush C dX12_scheme_101 ic_b_8 rfl ?_
              refine dn_iload_n C dX12_scheme_103 rfl 1 rfl rfl ?_
              refine dn_iadd C dX12_scheme_104 rfl ?_
              refine dn_iald C (kt_12_25 ho) dX12_scheme_105 rfl (fun z14 => ?_)
              exact dn_iret C dX12_scheme_106 rfl
            · refine dn_aload_n C dX12_scheme_107 rfl 0 rfl rfl ?_
              refine dn_iload_n C dX12_scheme_108 rfl 1 rfl rfl ?_
              refine dn_callV_i (As := [.int p1]) (st := []) C (ok_M_grow (cx_g C) o ho p1 s11 τ) mt_X12_grow mv_X12_grow lk_X12_258 (by decide) ho rfl ⟨Nat.zero_le _, Nat.zero_le _⟩ (Nat.le_of_ble_eq_true rfl) dX12_scheme_109 rfl rfl (fun z15 => ?_)
              exact dn_iret C dX12_scheme_112 rfl
            · refine dn_aload_n C dX12_scheme_113 rfl 0 rfl rfl ?_
              refine dn_getR C fd_X12_55 ho dX12_scheme_114 rfl ?_
              refine dn_bipush C dX12_scheme_117 ic_b_42 rfl ?_
              refine dn_iald C (kt_12_25 ho) dX12_scheme_119 rfl (fun z16 => ?_)
              refine dn_iload_n C dX12_scheme_120 rfl 1 rfl rfl ?_
              refine dn_ishr C dX12_scheme_121 rfl ?_
              refine dn_iconst C dX12_scheme_122 ic_i_1 rfl ?_
              refine dn_iand C dX12_scheme_123 rfl ?_
              exact dn_iret C dX12_scheme_124 rfl
            · refine dn_aload_n C dX12_scheme_125 rfl 0 rfl rfl ?_
              refine dn_getR C fd_X12_55 ho dX12_scheme_126 rfl ?_
              refine dn_bipush C dX12_scheme_129 ic_b_16 rfl ?_
              refine dn_iload_n C dX12_scheme_131 rfl 1 rfl rfl ?_
              refine dn_iadd C dX12_scheme_132 rfl ?_
              refine dn_iald C (kt_12_25 ho) dX12_scheme_133 rfl (fun z17 => ?_)
              exact dn_iret C dX12_scheme_134 rfl
          · refine dn_pick [] rfl ?_
            exact hj7 s11
        · refine dn_if_ne (t := 42) C dX12_scheme_35 (by decide) rfl ?_ ?_
          · refine dn_iconst C dX12_scheme_38 ic_i_1 rfl ?_
            refine dn_goto (t := 43) C dX12_scheme_39 (by decide) ?_
            exact hj18 (1 : Int32)
          · refine dn_iconst C dX12_scheme_42 ic_i_0 rfl ?_
            exact hj18 (0 : Int32)
      · refine dn_pick [] rfl ?_
        exact hj7 s5
  · refine dn_if_ne (t := 19) C dX12_scheme_12 (by decide) rfl ?_ ?_
    · refine dn_iconst C dX12_scheme_15 ic_i_1 rfl ?_
      refine dn_goto (t := 20) C dX12_scheme_16 (by decide) ?_
      exact hj19 (1 : Int32)
    · refine dn_iconst C dX12_scheme_19 ic_i_0 rfl ?_
      exact hj19 (0 : Int32)
def fn_M_sees  (o : Nat) (p1 : Nat) (p2 : Int32) (p3 : Int32) (σ : hp_I) : Option (Int32) :=
  Option.bind (fn_M_lives p1 p3 σ) fun z1 =>
  px_jn (fun (t2 : Int32) =>
    px_z t2 t2
  ) fun j3 =>
    px_jn (
      j3 (0 : Int32)
    ) fun j4 =>
      if z1 = 0 then (
        j4
      ) else (
        Option.bind (px_ald σ p1 ((32 : Int32) + p2)) fun z5 =>
        Option.bind (px_ald σ p1 ((0 : Int32) + p3)) fun z6 =>
        if z5 = z6 then (
          Option.bind (px_ald σ p1 ((8 : Int32) + p3)) fun z7 =>
          Option.bind (fn_M_nose o p2 σ) fun z8 =>
          Option.bind (px_ald σ p1 ((0 : Int32) + p3)) fun z9 =>
          Option.bind (fn_M_hide o z9 σ) fun z10 =>
          if z10 < (z7 + z8) then (
            j3 (1 : Int32)
          ) else (
            j4
          )
        ) else (
          j4
        )
      )
set_option maxHeartbeats 4000000 in
set_option maxRecDepth 100000 in
theorem ok_M_sees {G : wd_G} {l : Launch} (hN : gd_ok G)  (o : Nat) (ho : sh_kd o = 12) (p1 : Nat) (hp1 : sh_kd p1 = 13) (p2 : Int32) (p3 : Int32) (σ : hp_I) (τ : hp_L) : cl_C G l 2 yX12_sees cX12_sees 4 (some .boolean) [.ref (wd_b G + o), .ref (wd_b G + p1), .int p2, .int p3] σ τ (ci_i σ τ) (fn_M_sees o p1 p2 p3 σ) := by
  refine cl_of (lv0 := [(0, .ref (wd_b G + o)), (1, .ref (wd_b G + p1)), (2, .int p2), (3, .int p3)]) (ci_i σ τ) (by decide) (Nat.le_of_ble_eq_true rfl) rfl hN (fun M hM C => ?_)
  have C : cx_C G M RX12 cX12_sees 4 2 (some .boolean) := C
  unfold fn_M_sees
  refine dn_aload_n C dX12_sees_0 rfl 1 rfl rfl ?_
  refine dn_iload_n C dX12_sees_1 rfl 3 rfl rfl ?_
  refine dn_callS_i (As := [.ref (wd_b G + p1), .int p3]) (st := []) C (ok_M_lives (cx_g C) p1 hp1 p3 σ τ) mt_X12_lives ms_X12_lives lk_X12_275 (by decide) rfl ⟨Nat.zero_le _, Nat.zero_le _⟩ (Nat.le_of_ble_eq_true rfl) dX12_sees_2 rfl rfl (fun z1 => ?_)
  refine dn_jn (fun z => ∀ (t2 : Int32), dn_D G M 4 0 0 (cl_M G M (ci_i σ τ)) 51 [] [.int t2] σ τ (z t2)) (fun t2 => ?_) (fun j3 hj3 => ?_)
  · exact dn_zret C dX12_sees_51 rfl
  · refine dn_jn (fun z => dn_D G M 4 0 0 (cl_M G M (ci_i σ τ)) 50 [] [] σ τ z) ?_ (fun j4 hj4 => ?_)
    · refine dn_iconst C dX12_sees_50 ic_i_0 rfl ?_
      exact hj3 (0 : Int32)
    · refine dn_if_eq (t := 50) C dX12_sees_5 (by decide) rfl ?_ ?_
      · refine dn_pick [] rfl ?_
        exact hj4
      · refine dn_aload_n C dX12_sees_8 rfl 1 rfl rfl ?_
        refine dn_bipush C dX12_sees_9 ic_b_32 rfl ?_
        refine dn_iload_n C dX12_sees_11 rfl 2 rfl rfl ?_
        refine dn_iadd C dX12_sees_12 rfl ?_
        refine dn_iald C hp1 dX12_sees_13 rfl (fun z5 => ?_)
        refine dn_aload_n C dX12_sees_14 rfl 1 rfl rfl ?_
        refine dn_iconst C dX12_sees_15 ic_i_0 rfl ?_
        refine dn_iload_n C dX12_sees_16 rfl 3 rfl rfl ?_
        refine dn_iadd C dX12_sees_17 rfl ?_
        refine dn_iald C hp1 dX12_sees_18 rfl (fun z6 => ?_)
        refine dn_icmp_ne (t := 50) C dX12_sees_19 (by decide) rfl ?_ ?_
        · refine dn_aload_n C dX12_sees_22 rfl 1 rfl rfl ?_
          refine dn_bipush C dX12_sees_23 ic_b_8 rfl ?_
          refine dn_iload_n C dX12_sees_25 rfl 3 rfl rfl ?_
          refine dn_iadd C dX12_sees_26 rfl ?_
          refine dn_iald C hp1 dX12_sees_27 rfl (fun z7 => ?_)
          refine dn_aload_n C dX12_sees_28 rfl 0 rfl rfl ?_
          refine dn_iload_n C dX12_sees_29 rfl 2 rfl rfl ?_
          refine dn_callV_i (As := [.int p2]) (st := [.int z7]) C (ok_M_nose (cx_g C) o ho p2 σ τ) mt_X12_nose mv_X12_nose lk_X12_279 (by decide) ho rfl ⟨Nat.zero_le _, Nat.zero_le _⟩ (Nat.le_of_ble_eq_true rfl) dX12_sees_30 rfl rfl (fun z8 => ?_)
          refine dn_iadd C dX12_sees_33 rfl ?_
          refine dn_aload_n C dX12_sees_34 rfl 0 rfl rfl ?_
          refine dn_aload_n C dX12_sees_35 rfl 1 rfl rfl ?_
          refine dn_iconst C dX12_sees_36 ic_i_0 rfl ?_
          refine dn_iload_n C dX12_sees_37 rfl 3 rfl rfl ?_
          refine dn_iadd C dX12_sees_38 rfl ?_
          refine dn_iald C hp1 dX12_sees_39 rfl (fun z9 => ?_)
          refine dn_callV_i (As := [.int z9]) (st := [.int (z7 + z8)]) C (ok_M_hide (cx_g C) o ho z9 σ τ) mt_X12_hide mv_X12_hide lk_X12_261 (by decide) ho rfl ⟨Nat.zero_le _, Nat.zero_le _⟩ (Nat.le_of_ble_eq_true rfl) dX12_sees_40 rfl rfl (fun z10 => ?_)
          refine dn_icmp_le (t := 50) C dX12_sees_43 (by decide) rfl ?_ ?_
          · refine dn_iconst C dX12_sees_46 ic_i_1 rfl ?_
            refine dn_goto (t := 51) C dX12_sees_47 (by decide) ?_
            refine dn_pick [] rfl ?_
            exact hj3 (1 : Int32)
          · refine dn_pick [] rfl ?_
            exact hj4
        · refine dn_pick [] rfl ?_
          exact hj4
def fn_M_sign  (o : Nat) (p1 : Int32) (σ : hp_I) : Option (hp_I) :=
  if (σ o 5) = 0 then (
    Option.bind (fn_M_blanks o σ) fun s2 =>
    Option.bind (fn_M_byteAt o (s2 o 4) s2) fun z3 =>
    px_jn (fun (s4 : hp_I) =>
      some s4
    ) fun j5 =>
      if z3 = p1 then (
        px_let (hp_s s2 o 4 ((s2 o 4) + (1 : Int32))) fun s6 =>
        j5 s6
      ) else (
        Option.bind (fn_M_wrong o (1 : Int32) (s2 o 4) s2) fun s8 =>
        j5 s8
      )
  ) else (
    some σ
  )
set_option maxHeartbeats 4000000 in
set_option maxRecDepth 100000 in
theorem ok_M_sign {G : wd_G} {l : Launch} (hN : gd_ok G)  (o : Nat) (ho : sh_kd o = 12) (p1 : Int32) (σ : hp_I) (τ : hp_L) : cl_C G l 2 yX12_sign cX12_sign 2 none [.ref (wd_b G + o), .int p1] σ τ (ci_h τ) (fn_M_sign o p1 σ) := by
  refine cl_of (lv0 := [(0, .ref (wd_b G + o)), (1, .int p1)]) (ci_h τ) (by decide) (Nat.le_of_ble_eq_true rfl) rfl hN (fun M hM C => ?_)
  have C : cx_C G M RX12 cX12_sign 2 2 none := C
  unfold fn_M_sign
  refine dn_aload_n C dX12_sign_0 rfl 0 rfl rfl ?_
  refine dn_getI C fd_X12_109 ho dX12_sign_1 rfl ?_
  refine dn_if_eq (t := 8) C dX12_sign_4 (by decide) rfl ?_ ?_
  · refine dn_aload_n C dX12_sign_8 rfl 0 rfl rfl ?_
    refine dn_callV_h (As := []) (st := []) C (ok_M_blanks (cx_g C) o ho σ τ) mt_X12_blanks mv_X12_blanks lk_X12_115 (by decide) ho rfl ⟨Nat.zero_le _, Nat.zero_le _⟩ (Nat.le_of_ble_eq_true rfl) dX12_sign_9 rfl rfl (fun s2 => ?_)
    refine dn_aload_n C dX12_sign_12 rfl 0 rfl rfl ?_
    refine dn_aload_n C dX12_sign_13 rfl 0 rfl rfl ?_
    refine dn_getI C fd_X12_102 ho dX12_sign_14 rfl ?_
    refine dn_callV_i (As := [.int (s2 o 4)]) (st := []) C (ok_M_byteAt (cx_g C) o ho (s2 o 4) s2 τ) mt_X12_byteAt mv_X12_byteAt lk_X12_105 (by decide) ho rfl ⟨Nat.zero_le _, Nat.zero_le _⟩ (Nat.le_of_ble_eq_true rfl) dX12_sign_17 rfl rfl (fun z3 => ?_)
    refine dn_iload_n C dX12_sign_20 rfl 1 rfl rfl ?_
    refine dn_jn (fun z => ∀ (s4 : hp_I), dn_D G M 2 0 0 (cl_M G M (ci_h τ)) 46 [] [] s4 τ (z s4)) (fun s4 => ?_) (fun j5 hj5 => ?_)
    · exact dn_vret C dX12_sign_46 rfl
    · refine dn_icmp_ne (t := 37) C dX12_sign_21 (by decide) rfl ?_ ?_
      · refine dn_aload_n C dX12_sign_24 rfl 0 rfl rfl ?_
        refine dn_dup C dX12_sign_25 rfl rfl ?_
        refine dn_getI C fd_X12_102 ho dX12_sign_26 rfl ?_
        refine dn_iconst C dX12_sign_29 ic_i_1 rfl ?_
        refine dn_iadd C dX12_sign_30 rfl ?_
        refine dn_putI C fp_X12_102 ho dX12_sign_31 rfl (fun s6 => ?_)
        refine dn_goto (t := 46) C dX12_sign_34 (by decide) ?_
        refine dn_pick [] rfl ?_
        exact hj5 s6
      · refine dn_aload_n C dX12_sign_37 rfl 0 rfl rfl ?_
        refine dn_iconst C dX12_sign_38 ic_i_1 rfl ?_
        refine dn_aload_n C dX12_sign_39 rfl 0 rfl rfl ?_
        refine dn_getI C fd_X12_102 ho dX12_sign_40 rfl ?_
        refine dn_callV_h (As := [.int (1 : Int32), .int (s2 o 4)]) (st := []) C (ok_M_wrong (cx_g C) o ho (1 : Int32) (s2 o 4) s2 τ) mt_X12_wrong mv_X12_wrong lk_X12_122 (by decide) ho rfl ⟨Nat.zero_le _, Nat.zero_le _⟩ (Nat.le_of_ble_eq_true rfl) dX12_sign_43 rfl rfl (fun s8 => ?_)
        refine dn_pick [] rfl ?_
        exact hj5 s8
  · exact dn_vret C dX12_sign_7 rfl
def fn_M_sizeNow  (o : Nat) (p1 : Int32) (σ : hp_I) : Option (Int32) :=
  Option.bind (fn_M_lives (sh_rf o 25) p1 σ) fun z1 =>
  px_jn (fun (t2 : Int32) =>
    some t2
  ) fun j3 =>
    if z1 = 0 then (
      j3 (0 : Int32)
    ) else (
      Option.bind (px_ald σ (sh_rf o 25) ((8 : Int32) + p1)) fun z4 =>
      j3 z4
    )
set_option maxHeartbeats 4000000 in
set_option maxRecDepth 100000 in
theorem ok_M_sizeNow {G : wd_G} {l : Launch} (hN : gd_ok G)  (o : Nat) (ho : sh_kd o = 12) (p1 : Int32) (σ : hp_I) (τ : hp_L) : cl_C G l 2 yX12_sizeNow cX12_sizeNow 2 (some .int) [.ref (wd_b G + o), .int p1] σ τ (ci_i σ τ) (fn_M_sizeNow o p1 σ) := by
  refine cl_of (lv0 := [(0, .ref (wd_b G + o)), (1, .int p1)]) (ci_i σ τ) (by decide) (Nat.le_of_ble_eq_true rfl) rfl hN (fun M hM C => ?_)
  have C : cx_C G M RX12 cX12_sizeNow 2 2 (some .int) := C
  unfold fn_M_sizeNow
  refine dn_aload_n C dX12_sizeNow_0 rfl 0 rfl rfl ?_
  refine dn_getR C fd_X12_55 ho dX12_sizeNow_1 rfl ?_
  refine dn_iload_n C dX12_sizeNow_4 rfl 1 rfl rfl ?_
  refine dn_callS_i (As := [.ref (wd_b G + sh_rf o 25), .int p1]) (st := []) C (ok_M_lives (cx_g C) (sh_rf o 25) (kt_12_25 ho) p1 σ τ) mt_X12_lives ms_X12_lives lk_X12_275 (by decide) rfl ⟨Nat.zero_le _, Nat.zero_le _⟩ (Nat.le_of_ble_eq_true rfl) dX12_sizeNow_5 rfl rfl (fun z1 => ?_)
  refine dn_jn (fun z => ∀ (t2 : Int32), dn_D G M 2 0 0 (cl_M G M (ci_i σ τ)) 24 [] [.int t2] σ τ (z t2)) (fun t2 => ?_) (fun j3 hj3 => ?_)
  · exact dn_iret C dX12_sizeNow_24 rfl
  · refine dn_if_eq (t := 23) C dX12_sizeNow_8 (by decide) rfl ?_ ?_
    · refine dn_iconst C dX12_sizeNow_23 ic_i_0 rfl ?_
      refine dn_pick [] rfl ?_
      exact hj3 (0 : Int32)
    · refine dn_aload_n C dX12_sizeNow_11 rfl 0 rfl rfl ?_
      refine dn_getR C fd_X12_55 ho dX12_sizeNow_12 rfl ?_
      refine dn_bipush C dX12_sizeNow_15 ic_b_8 rfl ?_
      refine dn_iload_n C dX12_sizeNow_17 rfl 1 rfl rfl ?_
      refine dn_iadd C dX12_sizeNow_18 rfl ?_
      refine dn_iald C (kt_12_25 ho) dX12_sizeNow_19 rfl (fun z4 => ?_)
      refine dn_goto (t := 24) C dX12_sizeNow_20 (by decide) ?_
      refine dn_pick [] rfl ?_
      exact hj3 z4
def fn_M_sizes_L4  (a0 : Nat) (a1 : Nat) (σ : hp_I) (k : Int32 → Option (Int32)) : Nat → Int32 → Int32 → Option (Int32)
  | 0, _, _ => none
  | fu + 1, x2, x3 =>
    Option.bind (px_ald σ (sh_rf a0 12) (2 : Int32)) fun z3 =>
    if x3 < z3 then (
      Option.bind (fn_M_lives a1 x3 σ) fun z4 =>
      px_jn (fun (t5 : Int32) =>
        px_let (x2 + t5) fun v2_6 =>
        px_let (x3 + 1) fun v3_7 =>
        fn_M_sizes_L4 a0 a1 σ k fu v2_6 v3_7
      ) fun j8 =>
        if z4 = 0 then (
          j8 (0 : Int32)
        ) else (
          Option.bind (px_ald σ a1 ((8 : Int32) + x3)) fun z9 =>
          j8 z9
        )
    ) else (
      k x2
    )
def fn_M_sizes  (o : Nat) (p1 : Nat) (σ : hp_I) : Option (Int32) :=
  px_let (0 : Int32) fun v2_1 =>
  px_let (0 : Int32) fun v3_2 =>
  fn_M_sizes_L4 o p1 σ
    (fun (y_10 : Int32) =>
      some y_10
    )
    FU v2_1 v3_2
set_option maxHeartbeats 4000000 in
set_option maxRecDepth 100000 in
theorem pf_M_sizes_L4 {G : wd_G} {M : wd_M}  (C : cx_C G M RX12 cX12_sizes 4 2 (some .int)) (a0 : Nat) (ha0 : sh_kd a0 = 12) (a1 : Nat) (ha1 : sh_kd a1 = 13) (σ : hp_I) (τ : hp_L) (k : Int32 → Option (Int32)) (hk : ∀ (y2 : Int32), dn_D G M 4 0 0 (cl_M G M (ci_i σ τ)) 41 [(2, .int y2)] [] σ τ (k y2)) : ∀ (fu : Nat) (x2 : Int32) (x3 : Int32), dn_D G M 4 0 0 (cl_M G M (ci_i σ τ)) 4 [(0, .ref (wd_b G + a0)), (1, .ref (wd_b G + a1)), (2, .int x2), (3, .int x3)] [] σ τ (fn_M_sizes_L4 a0 a1 σ k fu x2 x3) := by
  intro fu
  induction fu with
  | zero => exact fun x2 x3 => dn_none
  | succ fu ih =>
    intro x2 x3
    unfold fn_M_sizes_L4
    refine dn_iload_n C dX12_sizes_4 rfl 3 rfl rfl ?_
    refine dn_aload_n C dX12_sizes_5 rfl 0 rfl rfl ?_
    refine dn_getR C fd_X12_23 ha0 dX12_sizes_6 rfl ?_
    refine dn_iconst C dX12_sizes_9 ic_i_2 rfl ?_
    refine dn_iald C (kt_12_12 ha0) dX12_sizes_10 rfl (fun z3 => ?_)
    refine dn_icmp_ge (t := 41) C dX12_sizes_11 (by decide) rfl ?_ ?_
    · refine dn_iload_n C dX12_sizes_14 rfl 2 rfl rfl ?_
      refine dn_aload_n C dX12_sizes_15 rfl 1 rfl rfl ?_
      refine dn_iload_n C dX12_sizes_16 rfl 3 rfl rfl ?_
      refine dn_callS_i (As := [.ref (wd_b G + a1), .int x3]) (st := [.int x2]) C (ok_M_lives (cx_g C) a1 ha1 x3 σ τ) mt_X12_lives ms_X12_lives lk_X12_275 (by decide) rfl ⟨Nat.zero_le _, Nat.zero_le _⟩ (Nat.le_of_ble_eq_true rfl) dX12_sizes_17 rfl rfl (fun z4 => ?_)
      refine dn_jn (fun z => ∀ (t5 : Int32), dn_D G M 4 0 0 (cl_M G M (ci_i σ τ)) 33 [(0, .ref (wd_b G + a0)), (1, .ref (wd_b G + a1)), (3, .int x3)] [.int t5, .int x2] σ τ (z t5)) (fun t5 => ?_) (fun j8 hj8 => ?_)
      · refine dn_iadd C dX12_sizes_33 rfl ?_
        refine dn_istore_n (lv0 := [(0, .ref (wd_b G + a0)), (1, .ref (wd_b G + a1)), (3, .int x3)]) C dX12_sizes_34 rfl (by decide) rfl rfl (fun v2_6 => ?_)
        refine dn_iinc (lv0 := [(2, .int v2_6), (0, .ref (wd_b G + a0)), (1, .ref (wd_b G + a1))]) (v := x3 + 1) C dX12_sizes_35 3 rfl rfl (by decide) rfl rfl (fun v3_7 => ?_)
        refine dn_goto (t := 4) C dX12_sizes_38 (by decide) ?_
        refine dn_pick [2, 3, 1, 0] rfl ?_
        exact ih v2_6 v3_7
      · refine dn_if_eq (t := 32) C dX12_sizes_20 (by decide) rfl ?_ ?_
        · refine dn_iconst C dX12_sizes_32 ic_i_0 rfl ?_
          refine dn_pick [0, 1, 3] rfl ?_
          exact hj8 (0 : Int32)
        · refine dn_aload_n C dX12_sizes_23 rfl 1 rfl rfl ?_
          refine dn_bipush C dX12_sizes_24 ic_b_8 rfl ?_
          refine dn_iload_n C dX12_sizes_26 rfl 3 rfl rfl ?_
          refine dn_iadd C dX12_sizes_27 rfl ?_
          refine dn_iald C ha1 dX12_sizes_28 rfl (fun z9 => ?_)
          refine dn_goto (t := 33) C dX12_sizes_29 (by decide) ?_
          refine dn_pick [0, 1, 3] rfl ?_
          exact hj8 z9
    · refine dn_pick [2] rfl ?_
      exact hk x2
set_option maxHeartbeats 4000000 in
set_option maxRecDepth 100000 in
theorem ok_M_sizes {G : wd_G} {l : Launch} (hN : gd_ok G)  (o : Nat) (ho : sh_kd o = 12) (p1 : Nat) (hp1 : sh_kd p1 = 13) (σ : hp_I) (τ : hp_L) : cl_C G l 2 yX12_sizes cX12_sizes 4 (some .int) [.ref (wd_b G + o), .ref (wd_b G + p1)] σ τ (ci_i σ τ) (fn_M_sizes o p1 σ) := by
  refine cl_of (lv0 := [(0, .ref (wd_b G + o)), (1, .ref (wd_b G + p1))]) (ci_i σ τ) (by decide) (Nat.le_of_ble_eq_true rfl) rfl hN (fun M hM C => ?_)
  have C : cx_C G M RX12 cX12_sizes 4 2 (some .int) := C
  unfold fn_M_sizes
  refine dn_iconst C dX12_sizes_0 ic_i_0 rfl ?_
  refine dn_istore_n (lv0 := [(0, .ref (wd_b G + o)), (1, .ref (wd_b G + p1))]) C dX12_sizes_1 rfl (by decide) rfl rfl (fun v2_1 => ?_)
  refine dn_iconst C dX12_sizes_2 ic_i_0 rfl ?_
  refine dn_istore_n (lv0 := [(2, .int v2_1), (0, .ref (wd_b G + o)), (1, .ref (wd_b G + p1))]) C dX12_sizes_3 rfl (by decide) rfl rfl (fun v3_2 => ?_)
  refine dn_pick [2, 3, 1, 0] rfl ?_
  refine pf_M_sizes_L4  C  o ho p1 hp1 σ τ _ (fun y_10 => ?_) FU v2_1 v3_2
  refine dn_iload_n C dX12_sizes_41 rfl 0 rfl rfl ?_
  exact dn_iret C dX12_sizes_42 rfl
def fn_M_starts  (o : Nat) (p1 : Int32) (σ : hp_I) : Option (hp_I) :=
  px_let (hp_s σ o 1 (0 : Int32)) fun s1 =>
  px_let (hp_s s1 o 2 p1) fun s2 =>
  px_let (hp_s s2 o 4 (0 : Int32)) fun s3 =>
  px_let (hp_s s3 o 5 (0 : Int32)) fun s4 =>
  px_let (hp_s s4 o 6 (-1 : Int32)) fun s5 =>
  px_let (hp_s s5 o 7 (0 : Int32)) fun s6 =>
  px_let (hp_s s6 o 8 (0 : Int32)) fun s7 =>
  Option.bind (fn_M_blanks o s7) fun s9 =>
  some s9
set_option maxHeartbeats 4000000 in
set_option maxRecDepth 100000 in
theorem ok_M_starts {G : wd_G} {l : Launch} (hN : gd_ok G)  (o : Nat) (ho : sh_kd o = 12) (p1 : Int32) (σ : hp_I) (τ : hp_L) : cl_C G l 2 yX12_starts cX12_starts 2 none [.ref (wd_b G + o), .int p1] σ τ (ci_h τ) (fn_M_starts o p1 σ) := by
  refine cl_of (lv0 := [(0, .ref (wd_b G + o)), (1, .int p1)]) (ci_h τ) (by decide) (Nat.le_of_ble_eq_true rfl) rfl hN (fun M hM C => ?_)
  have C : cx_C G M RX12 cX12_starts 2 2 none := C
  unfold fn_M_starts
  refine dn_aload_n C dX12_starts_0 rfl 0 rfl rfl ?_
  refine dn_iconst C dX12_starts_1 ic_i_0 rfl ?_
  refine dn_putI C fp_X12_96 ho dX12_starts_2 rfl (fun s1 => ?_)
  refine dn_aload_n C dX12_starts_5 rfl 0 rfl rfl ?_
  refine dn_iload_n C dX12_starts_6 rfl 1 rfl rfl ?_
  refine dn_putI C fp_X12_99 ho dX12_starts_7 rfl (fun s2 => ?_)
  refine dn_aload_n C dX12_starts_10 rfl 0 rfl rfl ?_
  refine dn_iconst C dX12_starts_11 ic_i_0 rfl ?_
  refine dn_putI C fp_X12_102 ho dX12_starts_12 rfl (fun s3 => ?_)
  refine dn_aload_n C dX12_starts_15 rfl 0 rfl rfl ?_
  refine dn_iconst C dX12_starts_16 ic_i_0 rfl ?_
  refine dn_putI C fp_X12_109 ho dX12_starts_17 rfl (fun s4 => ?_)
  refine dn_aload_n C dX12_starts_20 rfl 0 rfl rfl ?_
  refine dn_iconst C dX12_starts_21 ic_i_m1 rfl ?_
  refine dn_putI C fp_X12_112 ho dX12_starts_22 rfl (fun s5 => ?_)
  refine dn_aload_n C dX12_starts_25 rfl 0 rfl rfl ?_
  refine dn_iconst C dX12_starts_26 ic_i_0 rfl ?_
  refine dn_putI C fp_X12_149 ho dX12_starts_27 rfl (fun s6 => ?_)
  refine dn_aload_n C dX12_starts_30 rfl 0 rfl rfl ?_
  refine dn_iconst C dX12_starts_31 ic_i_0 rfl ?_
  refine dn_putI C fp_X12_152 ho dX12_starts_32 rfl (fun s7 => ?_)
  refine dn_aload_n C dX12_starts_35 rfl 0 rfl rfl ?_
  refine dn_callV_h (As := []) (st := []) C (ok_M_blanks (cx_g C) o ho s7 τ) mt_X12_blanks mv_X12_blanks lk_X12_115 (by decide) ho rfl ⟨Nat.zero_le _, Nat.zero_le _⟩ (Nat.le_of_ble_eq_true rfl) dX12_starts_36 rfl rfl (fun s9 => ?_)
  exact dn_vret C dX12_starts_39 rfl
def fn_M_sums_L79  (a0 : Nat) (a1 : Int32) (a2 : Int32) (a3 : Int32) (a4 : Int32) (σ : hp_I) (k : Int32 → Option (Int32 × hp_I)) : Nat → Int32 → Int32 → Option (Int32 × hp_I)
  | 0, _, _ => none
  | fu + 1, x5, x6 =>
    Option.bind (px_ald σ (sh_rf a0 12) (2 : Int32)) fun z17 =>
    if x6 < z17 then (
      Option.bind (fn_M_has a4 x6) fun z18 =>
      px_jn (fun (t19 : Int32) =>
        px_let (x5 + t19) fun v5_20 =>
        px_let (x6 + 1) fun v6_21 =>
        fn_M_sums_L79 a0 a1 a2 a3 a4 σ k fu v5_20 v6_21
      ) fun j22 =>
        if z18 = 0 then (
          j22 (0 : Int32)
        ) else (
          Option.bind (fn_M_lives (sh_rf a0 25) x6 σ) fun z23 =>
          px_jn (
            j22 (1000 : Int32)
          ) fun j24 =>
            if z23 = 0 then (
              j24
            ) else (
              Option.bind (px_ald σ (sh_rf a0 25) ((0 : Int32) + x6)) fun z25 =>
              if z25 = a1 then (
                Option.bind (px_ald σ (sh_rf a0 25) ((8 : Int32) + x6)) fun z26 =>
                j22 z26
              ) else (
                j24
              )
            )
        )
    ) else (
      k x5
    )
def fn_M_sums_L60  (a0 : Nat) (a1 : Int32) (a2 : Int32) (σ : hp_I) (k : Int32 → Option (Int32 × hp_I)) : Nat → Int32 → Int32 → Option (Int32 × hp_I)
  | 0, _, _ => none
  | fu + 1, x3, x4 =>
    Option.bind (px_ald σ (sh_rf a0 12) (2 : Int32)) fun z14 =>
    if x4 < ((1 : Int32) <<< (z14 &&& 31)) then (
      px_let (0 : Int32) fun v5_15 =>
      px_let (0 : Int32) fun v6_16 =>
      fn_M_sums_L79 a0 a1 a2 x3 x4 σ
        (fun (y_27 : Int32) =>
          px_jn (fun (t28 : Int32) =>
            px_let (x3 + t28) fun v3_29 =>
            px_let (x4 + 1) fun v4_30 =>
            fn_M_sums_L60 a0 a1 a2 σ k fu v3_29 v4_30
          ) fun j31 =>
            if y_27 = a2 then (
              j31 (1 : Int32)
            ) else (
              j31 (0 : Int32)
            )
        )
        FU v5_15 v6_16
    ) else (
      k x3
    )
def fn_M_sums  (o : Nat) (p1 : Int32) (p2 : Int32) (σ : hp_I) : Option (Int32 × hp_I) :=
  px_let (hp_s σ o 0 (0 : Int32)) fun s1 =>
  Option.bind (fn_M_isThing o (0 : Int32) p1 s1) fun z2 =>
  px_jn (fun (t3 : Int32) =>
    px_b2 (fn_M_bad o t3 (1 : Int32) (0 : Int32) s1) fun z4 s5 =>
    px_jn (fun (s6 : hp_I) =>
      some ((0 : Int32), s6)
    ) fun j7 =>
      if z4 = 0 then (
        Option.bind (fn_M_in p2 (0 : Int32) (999 : Int32)) fun z8 =>
        px_jn (fun (t9 : Int32) =>
          px_b2 (fn_M_bad o t9 (2 : Int32) (1 : Int32) s5) fun z10 s11 =>
          if z10 = 0 then (
            px_let (0 : Int32) fun v3_12 =>
            px_let (0 : Int32) fun v4_13 =>
            fn_M_sums_L60 o p1 p2 s11
              (fun (y_32 : Int32) =>
                some (y_32, s11)
              )
              FU v3_12 v4_13
          ) else (
            j7 s11
          )
        ) fun j33 =>
          if z8 = 0 then (
            j33 (1 : Int32)
          ) else (
            j33 (0 : Int32)
          )
      ) else (
        j7 s5
      )
  ) fun j34 =>
    if z2 = 0 then (
      j34 (1 : Int32)
    ) else (
      j34 (0 : Int32)
    )
set_option maxHeartbeats 4000000 in
set_option maxRecDepth 100000 in
theorem pf_M_sums_L79 {G : wd_G} {M : wd_M}  (C : cx_C G M RX12 cX12_sums 7 2 (some .int)) (a0 : Nat) (ha0 : sh_kd a0 = 12) (a1 : Int32) (a2 : Int32) (a3 : Int32) (a4 : Int32) (σ : hp_I) (τ : hp_L) (k : Int32 → Option (Int32 × hp_I)) (hk : ∀ (y5 : Int32), dn_D G M 7 0 0 (cl_M G M (ci_ih τ)) 156 [(0, .ref (wd_b G + a0)), (1, .int a1), (2, .int a2), (3, .int a3), (4, .int a4), (5, .int y5)] [] σ τ (k y5)) : ∀ (fu : Nat) (x5 : Int32) (x6 : Int32), dn_D G M 7 0 0 (cl_M G M (ci_ih τ)) 79 [(0, .ref (wd_b G + a0)), (1, .int a1), (2, .int a2), (3, .int a3), (4, .int a4), (5, .int x5), (6, .int x6)] [] σ τ (fn_M_sums_L79 a0 a1 a2 a3 a4 σ k fu x5 x6) := by
  intro fu
  induction fu with
  | zero => exact fun x5 x6 => dn_none
  | succ fu ih =>
    intro x5 x6
    unfold fn_M_sums_L79
    refine dn_iload C dX12_sums_79 6 rfl rfl ?_
    refine dn_aload_n C dX12_sums_81 rfl 0 rfl rfl ?_
    refine dn_getR C fd_X12_23 ha0 dX12_sums_82 rfl ?_
    refine dn_iconst C dX12_sums_85 ic_i_2 rfl ?_
    refine dn_iald C (kt_12_12 ha0) dX12_sums_86 rfl (fun z17 => ?_)
    refine dn_icmp_ge (t := 156) C dX12_sums_87 (by decide) rfl ?_ ?_
    · refine dn_iload C dX12_sums_90 5 rfl rfl ?_
      refine dn_iload C dX12_sums_92 4 rfl rfl ?_
      refine dn_iload C dX12_sums_94 6 rfl rfl ?_
      refine dn_callS_i (As := [.int a4, .int x6]) (st := [.int x5]) C (ok_M_has (cx_g C) a4 x6 σ τ) mt_X12_has ms_X12_has lk_X12_251 (by decide) rfl ⟨Nat.zero_le _, Nat.zero_le _⟩ (Nat.le_of_ble_eq_true rfl) dX12_sums_96 rfl rfl (fun z18 => ?_)
      refine dn_jn (fun z => ∀ (t19 : Int32), dn_D G M 7 0 0 (cl_M G M (ci_ih τ)) 147 [(0, .ref (wd_b G + a0)), (1, .int a1), (2, .int a2), (3, .int a3), (4, .int a4), (6, .int x6)] [.int t19, .int x5] σ τ (z t19)) (fun t19 => ?_) (fun j22 hj22 => ?_)
      · refine dn_iadd C dX12_sums_147 rfl ?_
        refine dn_istore (lv0 := [(0, .ref (wd_b G + a0)), (1, .int a1), (2, .int a2), (3, .int a3), (4, .int a4), (6, .int x6)]) C dX12_sums_148 (by decide) rfl rfl (fun v5_20 => ?_)
        refine dn_iinc (lv0 := [(5, .int v5_20), (0, .ref (wd_b G + a0)), (1, .int a1), (2, .int a2), (3, .int a3), (4, .int a4)]) (v := x6 + 1) C dX12_sums_150 6 rfl rfl (by decide) rfl rfl (fun v6_21 => ?_)
        refine dn_goto (t := 79) C dX12_sums_153 (by decide) ?_
        refine dn_pick [2, 3, 4, 5, 6, 1, 0] rfl ?_
        exact ih v5_20 v6_21
      · refine dn_if_ne (t := 106) C dX12_sums_99 (by decide) rfl ?_ ?_
        · refine dn_iconst C dX12_sums_102 ic_i_0 rfl ?_
          refine dn_goto (t := 147) C dX12_sums_103 (by decide) ?_
          refine dn_pick [0, 1, 2, 3, 4, 6] rfl ?_
          exact hj22 (0 : Int32)
        · refine dn_aload_n C dX12_sums_106 rfl 0 rfl rfl ?_
          refine dn_getR C fd_X12_55 ha0 dX12_sums_107 rfl ?_
          refine dn_iload C dX12_sums_110 6 rfl rfl ?_
          refine dn_callS_i (As := [.ref (wd_b G + sh_rf a0 25), .int x6]) (st := [.int x5]) C (ok_M_lives (cx_g C) (sh_rf a0 25) (kt_12_25 ha0) x6 σ τ) mt_X12_lives ms_X12_lives lk_X12_275 (by decide) rfl ⟨Nat.zero_le _, Nat.zero_le _⟩ (Nat.le_of_ble_eq_true rfl) dX12_sums_112 rfl rfl (fun z23 => ?_)
          refine dn_jn (fun z => dn_D G M 7 0 0 (cl_M G M (ci_ih τ)) 144 [(0, .ref (wd_b G + a0)), (1, .int a1), (2, .int a2), (3, .int a3), (4, .int a4), (6, .int x6)] [.int x5] σ τ z) ?_ (fun j24 hj24 => ?_)
          · refine dn_sipush C dX12_sums_144 ic_s_1000 rfl ?_
            exact hj22 (1000 : Int32)
          · refine dn_if_eq (t := 144) C dX12_sums_115 (by decide) rfl ?_ ?_
            · refine dn_pick [0, 1, 2, 3, 4, 6] rfl ?_
              exact hj24
            · refine dn_aload_n C dX12_sums_118 rfl 0 rfl rfl ?_
              refine dn_getR C fd_X12_55 ha0 dX12_sums_119 rfl ?_
              refine dn_iconst C dX12_sums_122 ic_i_0 rfl ?_
              refine dn_iload C dX12_sums_123 6 rfl rfl ?_
              refine dn_iadd C dX12_sums_125 rfl ?_
              refine dn_iald C (kt_12_25 ha0) dX12_sums_126 rfl (fun z25 => ?_)
              refine dn_iload_n C dX12_sums_127 rfl 1 rfl rfl ?_
              refine dn_icmp_ne (t := 144) C dX12_sums_128 (by decide) rfl ?_ ?_
              · refine dn_aload_n C dX12_sums_131 rfl 0 rfl rfl ?_
                refine dn_getR C fd_X12_55 ha0 dX12_sums_132 rfl ?_
                refine dn_bipush C dX12_sums_135 ic_b_8 rfl ?_
                refine dn_iload C dX12_sums_137 6 rfl rfl ?_
                refine dn_iadd C dX12_sums_139 rfl ?_
                refine dn_iald C (kt_12_25 ha0) dX12_sums_140 rfl (fun z26 => ?_)
                refine dn_goto (t := 147) C dX12_sums_141 (by decide) ?_
                refine dn_pick [0, 1, 2, 3, 4, 6] rfl ?_
                exact hj22 z26
              · refine dn_pick [0, 1, 2, 3, 4, 6] rfl ?_
                exact hj24
    · refine dn_pick [0, 1, 2, 3, 4, 5] rfl ?_
      exact hk x5
set_option maxHeartbeats 4000000 in
set_option maxRecDepth 100000 in
theorem pf_M_sums_L60 {G : wd_G} {M : wd_M}  (C : cx_C G M RX12 cX12_sums 7 2 (some .int)) (a0 : Nat) (ha0 : sh_kd a0 = 12) (a1 : Int32) (a2 : Int32) (σ : hp_I) (τ : hp_L) (k : Int32 → Option (Int32 × hp_I)) (hk : ∀ (y3 : Int32), dn_D G M 7 0 0 (cl_M G M (ci_ih τ)) 176 [(3, .int y3)] [] σ τ (k y3)) : ∀ (fu : Nat) (x3 : Int32) (x4 : Int32), dn_D G M 7 0 0 (cl_M G M (ci_ih τ)) 60 [(0, .ref (wd_b G + a0)), (1, .int a1), (2, .int a2), (3, .int x3), (4, .int x4)] [] σ τ (fn_M_sums_L60 a0 a1 a2 σ k fu x3 x4) := by
  intro fu
  induction fu with
  | zero => exact fun x3 x4 => dn_none
  | succ fu ih =>
    intro x3 x4
    unfold fn_M_sums_L60
    refine dn_iload C dX12_sums_60 4 rfl rfl ?_
    refine dn_iconst C dX12_sums_62 ic_i_1 rfl ?_
    refine dn_aload_n C dX12_sums_63 rfl 0 rfl rfl ?_
    refine dn_getR C fd_X12_23 ha0 dX12_sums_64 rfl ?_
    refine dn_iconst C dX12_sums_67 ic_i_2 rfl ?_
    refine dn_iald C (kt_12_12 ha0) dX12_sums_68 rfl (fun z14 => ?_)
    refine dn_ishl C dX12_sums_69 rfl ?_
    refine dn_icmp_ge (t := 176) C dX12_sums_70 (by decide) rfl ?_ ?_
    · refine dn_iconst C dX12_sums_73 ic_i_0 rfl ?_
      refine dn_istore (lv0 := [(0, .ref (wd_b G + a0)), (1, .int a1), (2, .int a2), (3, .int x3), (4, .int x4)]) C dX12_sums_74 (by decide) rfl rfl (fun v5_15 => ?_)
      refine dn_iconst C dX12_sums_76 ic_i_0 rfl ?_
      refine dn_istore (lv0 := [(5, .int v5_15), (0, .ref (wd_b G + a0)), (1, .int a1), (2, .int a2), (3, .int x3), (4, .int x4)]) C dX12_sums_77 (by decide) rfl rfl (fun v6_16 => ?_)
      refine dn_pick [2, 3, 4, 5, 6, 1, 0] rfl ?_
      refine pf_M_sums_L79  C  a0 ha0 a1 a2 x3 x4 σ τ _ (fun y_27 => ?_) FU v5_15 v6_16
      refine dn_iload_n C dX12_sums_156 rfl 3 rfl rfl ?_
      refine dn_iload C dX12_sums_157 5 rfl rfl ?_
      refine dn_iload_n C dX12_sums_159 rfl 2 rfl rfl ?_
      refine dn_jn (fun z => ∀ (t28 : Int32), dn_D G M 7 0 0 (cl_M G M (ci_ih τ)) 168 [(0, .ref (wd_b G + a0)), (1, .int a1), (2, .int a2), (4, .int x4)] [.int t28, .int x3] σ τ (z t28)) (fun t28 => ?_) (fun j31 hj31 => ?_)
      · refine dn_iadd C dX12_sums_168 rfl ?_
        refine dn_istore_n (lv0 := [(0, .ref (wd_b G + a0)), (1, .int a1), (2, .int a2), (4, .int x4)]) C dX12_sums_169 rfl (by decide) rfl rfl (fun v3_29 => ?_)
        refine dn_iinc (lv0 := [(3, .int v3_29), (0, .ref (wd_b G + a0)), (1, .int a1), (2, .int a2)]) (v := x4 + 1) C dX12_sums_170 4 rfl rfl (by decide) rfl rfl (fun v4_30 => ?_)
        refine dn_goto (t := 60) C dX12_sums_173 (by decide) ?_
        refine dn_pick [2, 3, 4, 1, 0] rfl ?_
        exact ih v3_29 v4_30
      · refine dn_icmp_ne (t := 167) C dX12_sums_160 (by decide) rfl ?_ ?_
        · refine dn_iconst C dX12_sums_163 ic_i_1 rfl ?_
          refine dn_goto (t := 168) C dX12_sums_164 (by decide) ?_
          refine dn_pick [0, 1, 2, 4] rfl ?_
          exact hj31 (1 : Int32)
        · refine dn_iconst C dX12_sums_167 ic_i_0 rfl ?_
          refine dn_pick [0, 1, 2, 4] rfl ?_
          exact hj31 (0 : Int32)
    · refine dn_pick [3] rfl ?_
      exact hk x3
set_option maxHeartbeats 4000000 in
set_option maxRecDepth 100000 in
theorem ok_M_sums {G : wd_G} {l : Launch} (hN : gd_ok G)  (o : Nat) (ho : sh_kd o = 12) (p1 : Int32) (p2 : Int32) (σ : hp_I) (τ : hp_L) : cl_C G l 2 yX12_sums cX12_sums 7 (some .int) [.ref (wd_b G + o), .int p1, .int p2] σ τ (ci_ih τ) (fn_M_sums o p1 p2 σ) := by
  refine cl_of (lv0 := [(0, .ref (wd_b G + o)), (1, .int p1), (2, .int p2)]) (ci_ih τ) (by decide) (Nat.le_of_ble_eq_true rfl) rfl hN (fun M hM C => ?_)
  have C : cx_C G M RX12 cX12_sums 7 2 (some .int) := C
  unfold fn_M_sums
  refine dn_aload_n C dX12_sums_0 rfl 0 rfl rfl ?_
  refine dn_iconst C dX12_sums_1 ic_i_0 rfl ?_
  refine dn_putI C fp_X12_93 ho dX12_sums_2 rfl (fun s1 => ?_)
  refine dn_aload_n C dX12_sums_5 rfl 0 rfl rfl ?_
  refine dn_aload_n C dX12_sums_6 rfl 0 rfl rfl ?_
  refine dn_iconst C dX12_sums_7 ic_i_0 rfl ?_
  refine dn_iload_n C dX12_sums_8 rfl 1 rfl rfl ?_
  refine dn_callV_i (As := [.int (0 : Int32), .int p1]) (st := [.ref (wd_b G + o)]) C (ok_M_isThing (cx_g C) o ho (0 : Int32) p1 s1 τ) mt_X12_isThing mv_X12_isThing lk_X12_336 (by decide) ho rfl ⟨Nat.zero_le _, Nat.zero_le _⟩ (Nat.le_of_ble_eq_true rfl) dX12_sums_9 rfl rfl (fun z2 => ?_)
  refine dn_jn (fun z => ∀ (t3 : Int32), dn_D G M 7 0 0 (cl_M G M (ci_ih τ)) 20 [(0, .ref (wd_b G + o)), (1, .int p1), (2, .int p2)] [.int t3, .ref (wd_b G + o)] s1 τ (z t3)) (fun t3 => ?_) (fun j34 hj34 => ?_)
  · refine dn_iconst C dX12_sums_20 ic_i_1 rfl ?_
    refine dn_iconst C dX12_sums_21 ic_i_0 rfl ?_
    refine dn_callV_ih (As := [.int t3, .int (1 : Int32), .int (0 : Int32)]) (st := []) C (ok_M_bad (cx_g C) o ho t3 (1 : Int32) (0 : Int32) s1 τ) mt_X12_bad mv_X12_bad lk_X12_172 (by decide) ho rfl ⟨Nat.zero_le _, Nat.zero_le _⟩ (Nat.le_of_ble_eq_true rfl) dX12_sums_22 rfl rfl (fun z4 s5 => ?_)
    refine dn_jn (fun z => ∀ (s6 : hp_I), dn_D G M 7 0 0 (cl_M G M (ci_ih τ)) 53 [] [] s6 τ (z s6)) (fun s6 => ?_) (fun j7 hj7 => ?_)
    · refine dn_iconst C dX12_sums_53 ic_i_0 rfl ?_
      exact dn_iret C dX12_sums_54 rfl
    · refine dn_if_ne (t := 53) C dX12_sums_25 (by decide) rfl ?_ ?_
      · refine dn_aload_n C dX12_sums_28 rfl 0 rfl rfl ?_
        refine dn_iload_n C dX12_sums_29 rfl 2 rfl rfl ?_
        refine dn_iconst C dX12_sums_30 ic_i_0 rfl ?_
        refine dn_sipush C dX12_sums_31 ic_s_999 rfl ?_
        refine dn_callS_i (As := [.int p2, .int (0 : Int32), .int (999 : Int32)]) (st := [.ref (wd_b G + o)]) C (ok_M_in (cx_g C) p2 (0 : Int32) (999 : Int32) s5 τ) mt_X12_in ms_X12_in lk_X12_127 (by decide) rfl ⟨Nat.zero_le _, Nat.zero_le _⟩ (Nat.le_of_ble_eq_true rfl) dX12_sums_34 rfl rfl (fun z8 => ?_)
        refine dn_jn (fun z => ∀ (t9 : Int32), dn_D G M 7 0 0 (cl_M G M (ci_ih τ)) 45 [(0, .ref (wd_b G + o)), (1, .int p1), (2, .int p2)] [.int t9, .ref (wd_b G + o)] s5 τ (z t9)) (fun t9 => ?_) (fun j33 hj33 => ?_)
        · refine dn_iconst C dX12_sums_45 ic_i_2 rfl ?_
          refine dn_iconst C dX12_sums_46 ic_i_1 rfl ?_
          refine dn_callV_ih (As := [.int t9, .int (2 : Int32), .int (1 : Int32)]) (st := []) C (ok_M_bad (cx_g C) o ho t9 (2 : Int32) (1 : Int32) s5 τ) mt_X12_bad mv_X12_bad lk_X12_172 (by decide) ho rfl ⟨Nat.zero_le _, Nat.zero_le _⟩ (Nat.le_of_ble_eq_true rfl) dX12_sums_47 rfl rfl (fun z10 s11 => ?_)
          refine dn_if_eq (t := 55) C dX12_sums_50 (by decide) rfl ?_ ?_
          · refine dn_iconst C dX12_sums_55 ic_i_0 rfl ?_
            refine dn_istore_n (lv0 := [(0, .ref (wd_b G + o)), (1, .int p1), (2, .int p2)]) C dX12_sums_56 rfl (by decide) rfl rfl (fun v3_12 => ?_)
            refine dn_iconst C dX12_sums_57 ic_i_0 rfl ?_
            refine dn_istore (lv0 := [(3, .int v3_12), (0, .ref (wd_b G + o)), (1, .int p1), (2, .int p2)]) C dX12_sums_58 (by decide) rfl rfl (fun v4_13 => ?_)
            refine dn_pick [2, 3, 4, 1, 0] rfl ?_
            refine pf_M_sums_L60  C  o ho p1 p2 s11 τ _ (fun y_32 => ?_) FU v3_12 v4_13
            refine dn_iload_n C dX12_sums_176 rfl 0 rfl rfl ?_
            exact dn_iret C dX12_sums_177 rfl
          · refine dn_pick [] rfl ?_
            exact hj7 s11
        · refine dn_if_ne (t := 44) C dX12_sums_37 (by decide) rfl ?_ ?_
          · refine dn_iconst C dX12_sums_40 ic_i_1 rfl ?_
            refine dn_goto (t := 45) C dX12_sums_41 (by decide) ?_
            exact hj33 (1 : Int32)
          · refine dn_iconst C dX12_sums_44 ic_i_0 rfl ?_
            exact hj33 (0 : Int32)
      · refine dn_pick [] rfl ?_
        exact hj7 s5
  · refine dn_if_ne (t := 19) C dX12_sums_12 (by decide) rfl ?_ ?_
    · refine dn_iconst C dX12_sums_15 ic_i_1 rfl ?_
      refine dn_goto (t := 20) C dX12_sums_16 (by decide) ?_
      exact hj34 (1 : Int32)
    · refine dn_iconst C dX12_sums_19 ic_i_0 rfl ?_
      exact hj34 (0 : Int32)
def fn_M_takesSign  (o : Nat) (p1 : Int32) (σ : hp_I) : Option (Int32 × hp_I) :=
  if (σ o 5) = 0 then (
    Option.bind (fn_M_blanks o σ) fun s2 =>
    Option.bind (fn_M_byteAt o (s2 o 4) s2) fun z3 =>
    px_jn (fun (t4 : Int32) =>
      px_let t4 fun v2_5 =>
      px_jn (fun (s6 : hp_I) =>
        px_z v2_5 (v2_5, s6)
      ) fun j7 =>
        if v2_5 = 0 then (
          j7 s2
        ) else (
          px_let (hp_s s2 o 4 ((s2 o 4) + (1 : Int32))) fun s8 =>
          j7 s8
        )
    ) fun j9 =>
      if z3 = p1 then (
        j9 (1 : Int32)
      ) else (
        j9 (0 : Int32)
      )
  ) else (
    px_z (0 : Int32) ((0 : Int32), σ)
  )
set_option maxHeartbeats 4000000 in
set_option maxRecDepth 100000 in
theorem ok_M_takesSign {G : wd_G} {l : Launch} (hN : gd_ok G)  (o : Nat) (ho : sh_kd o = 12) (p1 : Int32) (σ : hp_I) (τ : hp_L) : cl_C G l 2 yX12_takesSign cX12_takesSign 3 (some .boolean) [.ref (wd_b G + o), .int p1] σ τ (ci_ih τ) (fn_M_takesSign o p1 σ) := by
  refine cl_of (lv0 := [(0, .ref (wd_b G + o)), (1, .int p1)]) (ci_ih τ) (by decide) (Nat.le_of_ble_eq_true rfl) rfl hN (fun M hM C => ?_)
  have C : cx_C G M RX12 cX12_takesSign 3 2 (some .boolean) := C
  unfold fn_M_takesSign
  refine dn_aload_n C dX12_takesSign_0 rfl 0 rfl rfl ?_
  refine dn_getI C fd_X12_109 ho dX12_takesSign_1 rfl ?_
  refine dn_if_eq (t := 9) C dX12_takesSign_4 (by decide) rfl ?_ ?_
  · refine dn_aload_n C dX12_takesSign_9 rfl 0 rfl rfl ?_
    refine dn_callV_h (As := []) (st := []) C (ok_M_blanks (cx_g C) o ho σ τ) mt_X12_blanks mv_X12_blanks lk_X12_115 (by decide) ho rfl ⟨Nat.zero_le _, Nat.zero_le _⟩ (Nat.le_of_ble_eq_true rfl) dX12_takesSign_10 rfl rfl (fun s2 => ?_)
    refine dn_aload_n C dX12_takesSign_13 rfl 0 rfl rfl ?_
    refine dn_aload_n C dX12_takesSign_14 rfl 0 rfl rfl ?_
    refine dn_getI C fd_X12_102 ho dX12_takesSign_15 rfl ?_
    refine dn_callV_i (As := [.int (s2 o 4)]) (st := []) C (ok_M_byteAt (cx_g C) o ho (s2 o 4) s2 τ) mt_X12_byteAt mv_X12_byteAt lk_X12_105 (by decide) ho rfl ⟨Nat.zero_le _, Nat.zero_le _⟩ (Nat.le_of_ble_eq_true rfl) dX12_takesSign_18 rfl rfl (fun z3 => ?_)
    refine dn_iload_n C dX12_takesSign_21 rfl 1 rfl rfl ?_
    refine dn_jn (fun z => ∀ (t4 : Int32), dn_D G M 3 0 0 (cl_M G M (ci_ih τ)) 30 [(0, .ref (wd_b G + o))] [.int t4] s2 τ (z t4)) (fun t4 => ?_) (fun j9 hj9 => ?_)
    · refine dn_istore_n (lv0 := [(0, .ref (wd_b G + o))]) C dX12_takesSign_30 rfl (by decide) rfl rfl (fun v2_5 => ?_)
      refine dn_iload_n C dX12_takesSign_31 rfl 0 rfl rfl ?_
      refine dn_jn (fun z => ∀ (s6 : hp_I), dn_D G M 3 0 0 (cl_M G M (ci_ih τ)) 45 [(2, .int v2_5)] [] s6 τ (z s6)) (fun s6 => ?_) (fun j7 hj7 => ?_)
      · refine dn_iload_n C dX12_takesSign_45 rfl 0 rfl rfl ?_
        exact dn_zret C dX12_takesSign_46 rfl
      · refine dn_if_eq (t := 45) C dX12_takesSign_32 (by decide) rfl ?_ ?_
        · refine dn_pick [0] rfl ?_
          exact hj7 s2
        · refine dn_aload_n C dX12_takesSign_35 rfl 1 rfl rfl ?_
          refine dn_dup C dX12_takesSign_36 rfl rfl ?_
          refine dn_getI C fd_X12_102 ho dX12_takesSign_37 rfl ?_
          refine dn_iconst C dX12_takesSign_40 ic_i_1 rfl ?_
          refine dn_iadd C dX12_takesSign_41 rfl ?_
          refine dn_putI C fp_X12_102 ho dX12_takesSign_42 rfl (fun s8 => ?_)
          refine dn_pick [0] rfl ?_
          exact hj7 s8
    · refine dn_icmp_ne (t := 29) C dX12_takesSign_22 (by decide) rfl ?_ ?_
      · refine dn_iconst C dX12_takesSign_25 ic_i_1 rfl ?_
        refine dn_goto (t := 30) C dX12_takesSign_26 (by decide) ?_
        refine dn_pick [0] rfl ?_
        exact hj9 (1 : Int32)
      · refine dn_iconst C dX12_takesSign_29 ic_i_0 rfl ?_
        refine dn_pick [0] rfl ?_
        exact hj9 (0 : Int32)
  · refine dn_iconst C dX12_takesSign_7 ic_i_0 rfl ?_
    exact dn_zret C dX12_takesSign_8 rfl
def fn_M_uncle_L71  (a1 : Int32) (a2 : Int32) (a3 : Int32) (a7 : Int32) (σ : hp_I) (k : Int32 → Int32 → Int32 → Option (Int32 × hp_I)) : Nat → Int32 → Int32 → Int32 → Int32 → Option (Int32 × hp_I)
  | 0, _, _, _, _ => none
  | fu + 1, x4, x5, x6, x8 =>
    if x8 < (2 : Int32) then (
      Option.bind (fn_M_isBest a7 x8 a1 a2) fun z11 =>
      px_jn (fun (a4_12 : Int32) (a5_13 : Int32) (a6_14 : Int32) =>
        px_let (x8 + 1) fun v8_15 =>
        fn_M_uncle_L71 a1 a2 a3 a7 σ k fu a4_12 a5_13 a6_14 v8_15
      ) fun j16 =>
        if z11 = 0 then (
          j16 x4 x5 x6
        ) else (
          Option.bind (fn_M_isBest x8 a7 a1 a2) fun z17 =>
          if z17 = 0 then (
            j16 x4 x5 x6
          ) else (
            px_jn (fun (t18 : Int32) =>
              px_let t18 fun v6_19 =>
              px_jn (fun (t20 : Int32) =>
                px_let t20 fun v5_21 =>
                px_let (x4 + 1) fun v4_22 =>
                j16 v4_22 v5_21 v6_19
              ) fun j23 =>
                if x4 = 0 then (
                  j23 (((10 : Int32) * a7) + x8)
                ) else (
                  j23 x5
                )
            ) fun j24 =>
              if x4 = 0 then (
                Option.bind (fn_M_hasBy a7 x8 a1 a2) fun z25 =>
                Option.bind (fn_M_hasBy x8 a7 a1 a2) fun z26 =>
                j24 (z25 + z26)
              ) else (
                j24 x6
              )
          )
        )
    ) else (
      k x4 x5 x6
    )
def fn_M_uncle_L62  (a1 : Int32) (a2 : Int32) (a3 : Int32) (σ : hp_I) (k : Int32 → Int32 → Int32 → Option (Int32 × hp_I)) : Nat → Int32 → Int32 → Int32 → Int32 → Option (Int32 × hp_I)
  | 0, _, _, _, _ => none
  | fu + 1, x4, x5, x6, x7 =>
    if x7 < (2 : Int32) then (
      px_let (0 : Int32) fun v8_10 =>
      fn_M_uncle_L71 a1 a2 a3 x7 σ
        (fun (y_27 : Int32) (y_28 : Int32) (y_29 : Int32) =>
          px_let (x7 + 1) fun v7_30 =>
          fn_M_uncle_L62 a1 a2 a3 σ k fu y_27 y_28 y_29 v7_30
        )
        FU x4 x5 x6 v8_10
    ) else (
      k x4 x5 x6
    )
def fn_M_uncle  (o : Nat) (p1 : Int32) (p2 : Int32) (p3 : Int32) (σ : hp_I) : Option (Int32 × hp_I) :=
  px_let (hp_s σ o 0 (0 : Int32)) fun s1 =>
  Option.bind (fn_M_in p1 (0 : Int32) (99 : Int32)) fun z2 =>
  px_jn (fun (t3 : Int32) =>
    px_b2 (fn_M_bad o t3 (1 : Int32) (1 : Int32) s1) fun z4 s5 =>
    if z4 = 0 then (
      px_let (0 : Int32) fun v4_6 =>
      px_let (-1 : Int32) fun v5_7 =>
      px_let (0 : Int32) fun v6_8 =>
      px_let (0 : Int32) fun v7_9 =>
      fn_M_uncle_L62 p1 p2 p3 s5
        (fun (y_31 : Int32) (y_32 : Int32) (y_33 : Int32) =>
          px_jn (fun (t34 : Int32) =>
            some (t34, s5)
          ) fun j35 =>
            if p3 = 0 then (
              j35 y_31
            ) else (
              if p3 = (1 : Int32) then (
                j35 y_32
              ) else (
                j35 y_33
              )
            )
        )
        FU v4_6 v5_7 v6_8 v7_9
    ) else (
      some ((0 : Int32), s5)
    )
  ) fun j36 =>
    px_jn (
      j36 (1 : Int32)
    ) fun j37 =>
      if z2 = 0 then (
        j37
      ) else (
        Option.bind (fn_M_in p2 (0 : Int32) (99 : Int32)) fun z38 =>
        if z38 = 0 then (
          j37
        ) else (
          Option.bind (fn_M_in p3 (0 : Int32) (2 : Int32)) fun z39 =>
          if z39 = 0 then (
            j37
          ) else (
            j36 (0 : Int32)
          )
        )
      )
set_option maxHeartbeats 4000000 in
set_option maxRecDepth 100000 in
theorem pf_M_uncle_L71 {G : wd_G} {M : wd_M}  (C : cx_C G M RX12 cX12_uncle 9 2 (some .int)) (a1 : Int32) (a2 : Int32) (a3 : Int32) (a7 : Int32) (σ : hp_I) (τ : hp_L) (k : Int32 → Int32 → Int32 → Option (Int32 × hp_I)) (hk : ∀ (y4 : Int32) (y5 : Int32) (y6 : Int32), dn_D G M 9 0 0 (cl_M G M (ci_ih τ)) 164 [(1, .int a1), (2, .int a2), (3, .int a3), (4, .int y4), (5, .int y5), (6, .int y6), (7, .int a7)] [] σ τ (k y4 y5 y6)) : ∀ (fu : Nat) (x4 : Int32) (x5 : Int32) (x6 : Int32) (x8 : Int32), dn_D G M 9 0 0 (cl_M G M (ci_ih τ)) 71 [(1, .int a1), (2, .int a2), (3, .int a3), (4, .int x4), (5, .int x5), (6, .int x6), (7, .int a7), (8, .int x8)] [] σ τ (fn_M_uncle_L71 a1 a2 a3 a7 σ k fu x4 x5 x6 x8) := by
  intro fu
  induction fu with
  | zero => exact fun x4 x5 x6 x8 => dn_none
  | succ fu ih =>
    intro x4 x5 x6 x8
    unfold fn_M_uncle_L71
    refine dn_iload C dX12_uncle_71 7 rfl rfl ?_
    refine dn_iconst C dX12_uncle_73 ic_i_2 rfl ?_
    refine dn_icmp_ge (t := 164) C dX12_uncle_74 (by decide) rfl ?_ ?_
    · refine dn_iload C dX12_uncle_77 6 rfl rfl ?_
      refine dn_iload C dX12_uncle_79 7 rfl rfl ?_
      refine dn_iload_n C dX12_uncle_81 rfl 0 rfl rfl ?_
      refine dn_iload_n C dX12_uncle_82 rfl 1 rfl rfl ?_
      refine dn_callS_i (As := [.int a7, .int x8, .int a1, .int a2]) (st := []) C (ok_M_isBest (cx_g C) a7 x8 a1 a2 σ τ) mt_X12_isBest ms_X12_isBest lk_X12_375 (by decide) rfl ⟨Nat.zero_le _, Nat.zero_le _⟩ (Nat.le_of_ble_eq_true rfl) dX12_uncle_83 rfl rfl (fun z11 => ?_)
      refine dn_jn (fun z => ∀ (a4_12 : Int32) (a5_13 : Int32) (a6_14 : Int32), dn_D G M 9 0 0 (cl_M G M (ci_ih τ)) 158 [(1, .int a1), (2, .int a2), (3, .int a3), (4, .int a4_12), (5, .int a5_13), (6, .int a6_14), (7, .int a7), (8, .int x8)] [] σ τ (z a4_12 a5_13 a6_14)) (fun a4_12 a5_13 a6_14 => ?_) (fun j16 hj16 => ?_)
      · refine dn_iinc (lv0 := [(1, .int a1), (2, .int a2), (3, .int a3), (4, .int a4_12), (5, .int a5_13), (6, .int a6_14), (7, .int a7)]) (v := x8 + 1) C dX12_uncle_158 7 rfl rfl (by decide) rfl rfl (fun v8_15 => ?_)
        refine dn_goto (t := 71) C dX12_uncle_161 (by decide) ?_
        refine dn_pick [1, 2, 3, 4, 5, 6, 7, 0] rfl ?_
        exact ih a4_12 a5_13 a6_14 v8_15
      · refine dn_if_eq (t := 158) C dX12_uncle_86 (by decide) rfl ?_ ?_
        · exact hj16 x4 x5 x6
        · refine dn_iload C dX12_uncle_89 7 rfl rfl ?_
          refine dn_iload C dX12_uncle_91 6 rfl rfl ?_
          refine dn_iload_n C dX12_uncle_93 rfl 0 rfl rfl ?_
          refine dn_iload_n C dX12_uncle_94 rfl 1 rfl rfl ?_
          refine dn_callS_i (As := [.int x8, .int a7, .int a1, .int a2]) (st := []) C (ok_M_isBest (cx_g C) x8 a7 a1 a2 σ τ) mt_X12_isBest ms_X12_isBest lk_X12_375 (by decide) rfl ⟨Nat.zero_le _, Nat.zero_le _⟩ (Nat.le_of_ble_eq_true rfl) dX12_uncle_95 rfl rfl (fun z17 => ?_)
          refine dn_if_ne (t := 104) C dX12_uncle_98 (by decide) rfl ?_ ?_
          · refine dn_goto (t := 158) C dX12_uncle_101 (by decide) ?_
            exact hj16 x4 x5 x6
          · refine dn_iload C dX12_uncle_104 3 rfl rfl ?_
            refine dn_jn (fun z => ∀ (t18 : Int32), dn_D G M 9 0 0 (cl_M G M (ci_ih τ)) 133 [(1, .int a1), (2, .int a2), (3, .int a3), (4, .int x4), (5, .int x5), (7, .int a7), (8, .int x8)] [.int t18] σ τ (z t18)) (fun t18 => ?_) (fun j24 hj24 => ?_)
            · refine dn_istore (lv0 := [(1, .int a1), (2, .int a2), (3, .int a3), (4, .int x4), (5, .int x5), (7, .int a7), (8, .int x8)]) C dX12_uncle_133 (by decide) rfl rfl (fun v6_19 => ?_)
              refine dn_iload C dX12_uncle_135 4 rfl rfl ?_
              refine dn_jn (fun z => ∀ (t20 : Int32), dn_D G M 9 0 0 (cl_M G M (ci_ih τ)) 153 [(1, .int a1), (2, .int a2), (3, .int a3), (4, .int x4), (6, .int v6_19), (7, .int a7), (8, .int x8)] [.int t20] σ τ (z t20)) (fun t20 => ?_) (fun j23 hj23 => ?_)
              · refine dn_istore (lv0 := [(1, .int a1), (2, .int a2), (3, .int a3), (4, .int x4), (6, .int v6_19), (7, .int a7), (8, .int x8)]) C dX12_uncle_153 (by decide) rfl rfl (fun v5_21 => ?_)
                refine dn_iinc (lv0 := [(5, .int v5_21), (1, .int a1), (2, .int a2), (3, .int a3), (6, .int v6_19), (7, .int a7), (8, .int x8)]) (v := x4 + 1) C dX12_uncle_155 4 rfl rfl (by decide) rfl rfl (fun v4_22 => ?_)
                refine dn_pick [2, 3, 4, 0, 1, 5, 6, 7] rfl ?_
                exact hj16 v4_22 v5_21 v6_19
              · refine dn_if_ne (t := 151) C dX12_uncle_137 (by decide) rfl ?_ ?_
                · refine dn_bipush C dX12_uncle_140 ic_b_10 rfl ?_
                  refine dn_iload C dX12_uncle_142 6 rfl rfl ?_
                  refine dn_imul C dX12_uncle_144 rfl ?_
                  refine dn_iload C dX12_uncle_145 7 rfl rfl ?_
                  refine dn_iadd C dX12_uncle_147 rfl ?_
                  refine dn_goto (t := 153) C dX12_uncle_148 (by decide) ?_
                  refine dn_pick [1, 2, 3, 4, 0, 6, 7] rfl ?_
                  exact hj23 (((10 : Int32) * a7) + x8)
                · refine dn_iload C dX12_uncle_151 5 rfl rfl ?_
                  refine dn_pick [1, 2, 3, 4, 0, 6, 7] rfl ?_
                  exact hj23 x5
            · refine dn_if_ne (t := 131) C dX12_uncle_106 (by decide) rfl ?_ ?_
              · refine dn_iload C dX12_uncle_109 6 rfl rfl ?_
                refine dn_iload C dX12_uncle_111 7 rfl rfl ?_
                refine dn_iload_n C dX12_uncle_113 rfl 0 rfl rfl ?_
                refine dn_iload_n C dX12_uncle_114 rfl 1 rfl rfl ?_
                refine dn_callS_i (As := [.int a7, .int x8, .int a1, .int a2]) (st := []) C (ok_M_hasBy (cx_g C) a7 x8 a1 a2 σ τ) mt_X12_hasBy ms_X12_hasBy lk_X12_371 (by decide) rfl ⟨Nat.zero_le _, Nat.zero_le _⟩ (Nat.le_of_ble_eq_true rfl) dX12_uncle_115 rfl rfl (fun z25 => ?_)
                refine dn_iload C dX12_uncle_118 7 rfl rfl ?_
                refine dn_iload C dX12_uncle_120 6 rfl rfl ?_
                refine dn_iload_n C dX12_uncle_122 rfl 0 rfl rfl ?_
                refine dn_iload_n C dX12_uncle_123 rfl 1 rfl rfl ?_
                refine dn_callS_i (As := [.int x8, .int a7, .int a1, .int a2]) (st := [.int z25]) C (ok_M_hasBy (cx_g C) x8 a7 a1 a2 σ τ) mt_X12_hasBy ms_X12_hasBy lk_X12_371 (by decide) rfl ⟨Nat.zero_le _, Nat.zero_le _⟩ (Nat.le_of_ble_eq_true rfl) dX12_uncle_124 rfl rfl (fun z26 => ?_)
                refine dn_iadd C dX12_uncle_127 rfl ?_
                refine dn_goto (t := 133) C dX12_uncle_128 (by decide) ?_
                refine dn_pick [0, 1, 2, 3, 4, 6, 7] rfl ?_
                exact hj24 (z25 + z26)
              · refine dn_iload C dX12_uncle_131 5 rfl rfl ?_
                refine dn_pick [0, 1, 2, 3, 4, 6, 7] rfl ?_
                exact hj24 x6
    · refine dn_pick [0, 1, 2, 3, 4, 5, 6] rfl ?_
      exact hk x4 x5 x6
set_option maxHeartbeats 4000000 in
set_option maxRecDepth 100000 in
theorem pf_M_uncle_L62 {G : wd_G} {M : wd_M}  (C : cx_C G M RX12 cX12_uncle 9 2 (some .int)) (a1 : Int32) (a2 : Int32) (a3 : Int32) (σ : hp_I) (τ : hp_L) (k : Int32 → Int32 → Int32 → Option (Int32 × hp_I)) (hk : ∀ (y4 : Int32) (y5 : Int32) (y6 : Int32), dn_D G M 9 0 0 (cl_M G M (ci_ih τ)) 170 [(3, .int a3), (4, .int y4), (5, .int y5), (6, .int y6)] [] σ τ (k y4 y5 y6)) : ∀ (fu : Nat) (x4 : Int32) (x5 : Int32) (x6 : Int32) (x7 : Int32), dn_D G M 9 0 0 (cl_M G M (ci_ih τ)) 62 [(1, .int a1), (2, .int a2), (3, .int a3), (4, .int x4), (5, .int x5), (6, .int x6), (7, .int x7)] [] σ τ (fn_M_uncle_L62 a1 a2 a3 σ k fu x4 x5 x6 x7) := by
  intro fu
  induction fu with
  | zero => exact fun x4 x5 x6 x7 => dn_none
  | succ fu ih =>
    intro x4 x5 x6 x7
    unfold fn_M_uncle_L62
    refine dn_iload C dX12_uncle_62 6 rfl rfl ?_
    refine dn_iconst C dX12_uncle_64 ic_i_2 rfl ?_
    refine dn_icmp_ge (t := 170) C dX12_uncle_65 (by decide) rfl ?_ ?_
    · refine dn_iconst C dX12_uncle_68 ic_i_0 rfl ?_
      refine dn_istore (lv0 := [(1, .int a1), (2, .int a2), (3, .int a3), (4, .int x4), (5, .int x5), (6, .int x6), (7, .int x7)]) C dX12_uncle_69 (by decide) rfl rfl (fun v8_10 => ?_)
      refine dn_pick [1, 2, 3, 4, 5, 6, 7, 0] rfl ?_
      refine pf_M_uncle_L71  C  a1 a2 a3 x7 σ τ _ (fun y_27 y_28 y_29 => ?_) FU x4 x5 x6 v8_10
      refine dn_iinc (lv0 := [(1, .int a1), (2, .int a2), (3, .int a3), (4, .int y_27), (5, .int y_28), (6, .int y_29)]) (v := x7 + 1) C dX12_uncle_164 6 rfl rfl (by decide) rfl rfl (fun v7_30 => ?_)
      refine dn_goto (t := 62) C dX12_uncle_167 (by decide) ?_
      refine dn_pick [1, 2, 3, 4, 5, 6, 0] rfl ?_
      exact ih y_27 y_28 y_29 v7_30
    · refine dn_pick [2, 3, 4, 5] rfl ?_
      exact hk x4 x5 x6
set_option maxHeartbeats 4000000 in
set_option maxRecDepth 100000 in
theorem ok_M_uncle {G : wd_G} {l : Launch} (hN : gd_ok G)  (o : Nat) (ho : sh_kd o = 12) (p1 : Int32) (p2 : Int32) (p3 : Int32) (σ : hp_I) (τ : hp_L) : cl_C G l 2 yX12_uncle cX12_uncle 9 (some .int) [.ref (wd_b G + o), .int p1, .int p2, .int p3] σ τ (ci_ih τ) (fn_M_uncle o p1 p2 p3 σ) := by
  refine cl_of (lv0 := [(0, .ref (wd_b G + o)), (1, .int p1), (2, .int p2), (3, .int p3)]) (ci_ih τ) (by decide) (Nat.le_of_ble_eq_true rfl) rfl hN (fun M hM C => ?_)
  have C : cx_C G M RX12 cX12_uncle 9 2 (some .int) := C
  unfold fn_M_uncle
  refine dn_aload_n C dX12_uncle_0 rfl 0 rfl rfl ?_
  refine dn_iconst C dX12_uncle_1 ic_i_0 rfl ?_
  refine dn_putI C fp_X12_93 ho dX12_uncle_2 rfl (fun s1 => ?_)
  refine dn_aload_n C dX12_uncle_5 rfl 0 rfl rfl ?_
  refine dn_iload_n C dX12_uncle_6 rfl 1 rfl rfl ?_
  refine dn_iconst C dX12_uncle_7 ic_i_0 rfl ?_
  refine dn_bipush C dX12_uncle_8 ic_b_99 rfl ?_
  refine dn_callS_i (As := [.int p1, .int (0 : Int32), .int (99 : Int32)]) (st := [.ref (wd_b G + o)]) C (ok_M_in (cx_g C) p1 (0 : Int32) (99 : Int32) s1 τ) mt_X12_in ms_X12_in lk_X12_127 (by decide) rfl ⟨Nat.zero_le _, Nat.zero_le _⟩ (Nat.le_of_ble_eq_true rfl) dX12_uncle_10 rfl rfl (fun z2 => ?_)
  refine dn_jn (fun z => ∀ (t3 : Int32), dn_D G M 9 0 0 (cl_M G M (ci_ih τ)) 40 [(1, .int p1), (2, .int p2), (3, .int p3)] [.int t3, .ref (wd_b G + o)] s1 τ (z t3)) (fun t3 => ?_) (fun j36 hj36 => ?_)
  · refine dn_iconst C dX12_uncle_40 ic_i_1 rfl ?_
    refine dn_iconst C dX12_uncle_41 ic_i_1 rfl ?_
    refine dn_callV_ih (As := [.int t3, .int (1 : Int32), .int (1 : Int32)]) (st := []) C (ok_M_bad (cx_g C) o ho t3 (1 : Int32) (1 : Int32) s1 τ) mt_X12_bad mv_X12_bad lk_X12_172 (by decide) ho rfl ⟨Nat.zero_le _, Nat.zero_le _⟩ (Nat.le_of_ble_eq_true rfl) dX12_uncle_42 rfl rfl (fun z4 s5 => ?_)
    refine dn_if_eq (t := 50) C dX12_uncle_45 (by decide) rfl ?_ ?_
    · refine dn_iconst C dX12_uncle_50 ic_i_0 rfl ?_
      refine dn_istore (lv0 := [(1, .int p1), (2, .int p2), (3, .int p3)]) C dX12_uncle_51 (by decide) rfl rfl (fun v4_6 => ?_)
      refine dn_iconst C dX12_uncle_53 ic_i_m1 rfl ?_
      refine dn_istore (lv0 := [(4, .int v4_6), (1, .int p1), (2, .int p2), (3, .int p3)]) C dX12_uncle_54 (by decide) rfl rfl (fun v5_7 => ?_)
      refine dn_iconst C dX12_uncle_56 ic_i_0 rfl ?_
      refine dn_istore (lv0 := [(5, .int v5_7), (4, .int v4_6), (1, .int p1), (2, .int p2), (3, .int p3)]) C dX12_uncle_57 (by decide) rfl rfl (fun v6_8 => ?_)
      refine dn_iconst C dX12_uncle_59 ic_i_0 rfl ?_
      refine dn_istore (lv0 := [(6, .int v6_8), (5, .int v5_7), (4, .int v4_6), (1, .int p1), (2, .int p2), (3, .int p3)]) C dX12_uncle_60 (by decide) rfl rfl (fun v7_9 => ?_)
      refine dn_pick [4, 5, 6, 3, 2, 1, 0] rfl ?_
      refine pf_M_uncle_L62  C  p1 p2 p3 s5 τ _ (fun y_31 y_32 y_33 => ?_) FU v4_6 v5_7 v6_8 v7_9
      refine dn_iload_n C dX12_uncle_170 rfl 0 rfl rfl ?_
      refine dn_jn (fun z => ∀ (t34 : Int32), dn_D G M 9 0 0 (cl_M G M (ci_ih τ)) 191 [] [.int t34] s5 τ (z t34)) (fun t34 => ?_) (fun j35 hj35 => ?_)
      · exact dn_iret C dX12_uncle_191 rfl
      · refine dn_if_ne (t := 179) C dX12_uncle_171 (by decide) rfl ?_ ?_
        · refine dn_iload C dX12_uncle_174 1 rfl rfl ?_
          refine dn_goto (t := 191) C dX12_uncle_176 (by decide) ?_
          refine dn_pick [] rfl ?_
          exact hj35 y_31
        · refine dn_iload_n C dX12_uncle_179 rfl 0 rfl rfl ?_
          refine dn_iconst C dX12_uncle_180 ic_i_1 rfl ?_
          refine dn_icmp_ne (t := 189) C dX12_uncle_181 (by decide) rfl ?_ ?_
          · refine dn_iload C dX12_uncle_184 2 rfl rfl ?_
            refine dn_goto (t := 191) C dX12_uncle_186 (by decide) ?_
            refine dn_pick [] rfl ?_
            exact hj35 y_32
          · refine dn_iload C dX12_uncle_189 3 rfl rfl ?_
            refine dn_pick [] rfl ?_
            exact hj35 y_33
    · refine dn_iconst C dX12_uncle_48 ic_i_0 rfl ?_
      exact dn_iret C dX12_uncle_49 rfl
  · refine dn_jn (fun z => dn_D G M 9 0 0 (cl_M G M (ci_ih τ)) 35 [(1, .int p1), (2, .int p2), (3, .int p3)] [.ref (wd_b G + o)] s1 τ z) ?_ (fun j37 hj37 => ?_)
    · refine dn_iconst C dX12_uncle_35 ic_i_1 rfl ?_
      refine dn_goto (t := 40) C dX12_uncle_36 (by decide) ?_
      exact hj36 (1 : Int32)
    · refine dn_if_eq (t := 35) C dX12_uncle_13 (by decide) rfl ?_ ?_
      · refine dn_pick [1, 2, 3] rfl ?_
        exact hj37
      · refine dn_iload_n C dX12_uncle_16 rfl 2 rfl rfl ?_
        refine dn_iconst C dX12_uncle_17 ic_i_0 rfl ?_
        refine dn_bipush C dX12_uncle_18 ic_b_99 rfl ?_
        refine dn_callS_i (As := [.int p2, .int (0 : Int32), .int (99 : Int32)]) (st := [.ref (wd_b G + o)]) C (ok_M_in (cx_g C) p2 (0 : Int32) (99 : Int32) s1 τ) mt_X12_in ms_X12_in lk_X12_127 (by decide) rfl ⟨Nat.zero_le _, Nat.zero_le _⟩ (Nat.le_of_ble_eq_true rfl) dX12_uncle_20 rfl rfl (fun z38 => ?_)
        refine dn_if_eq (t := 35) C dX12_uncle_23 (by decide) rfl ?_ ?_
        · refine dn_pick [1, 2, 3] rfl ?_
          exact hj37
        · refine dn_iload_n C dX12_uncle_26 rfl 3 rfl rfl ?_
          refine dn_iconst C dX12_uncle_27 ic_i_0 rfl ?_
          refine dn_iconst C dX12_uncle_28 ic_i_2 rfl ?_
          refine dn_callS_i (As := [.int p3, .int (0 : Int32), .int (2 : Int32)]) (st := [.ref (wd_b G + o)]) C (ok_M_in (cx_g C) p3 (0 : Int32) (2 : Int32) s1 τ) mt_X12_in ms_X12_in lk_X12_127 (by decide) rfl ⟨Nat.zero_le _, Nat.zero_le _⟩ (Nat.le_of_ble_eq_true rfl) dX12_uncle_29 rfl rfl (fun z39 => ?_)
          refine dn_if_ne (t := 39) C dX12_uncle_32 (by decide) rfl ?_ ?_
          · refine dn_pick [1, 2, 3] rfl ?_
            exact hj37
          · refine dn_iconst C dX12_uncle_39 ic_i_0 rfl ?_
            refine dn_pick [1, 2, 3] rfl ?_
            exact hj36 (0 : Int32)
def fn_M_way  (o : Nat) (p1 : Int32) (p2 : Int32) (σ : hp_I) : Option (Int32 × hp_I) :=
  px_let (hp_s σ o 0 (0 : Int32)) fun s1 =>
  Option.bind (fn_M_isThing o (1 : Int32) p1 s1) fun z2 =>
  px_jn (fun (t3 : Int32) =>
    px_b2 (fn_M_bad o t3 (1 : Int32) (0 : Int32) s1) fun z4 s5 =>
    px_jn (fun (s6 : hp_I) =>
      some ((0 : Int32), s6)
    ) fun j7 =>
      if z4 = 0 then (
        Option.bind (fn_M_in p2 (0 : Int32) (2 : Int32)) fun z8 =>
        px_jn (fun (t9 : Int32) =>
          px_b2 (fn_M_bad o t9 (2 : Int32) (1 : Int32) s5) fun z10 s11 =>
          if z10 = 0 then (
            px_jn (fun (t12 : Int32) =>
              some (t12, s11)
            ) fun j13 =>
              if p2 = (2 : Int32) then (
                Option.bind (px_ald s11 (sh_rf o 25) (45 : Int32)) fun z14 =>
                j13 ((z14 >>> (p1 &&& 31)) &&& (1 : Int32))
              ) else (
                Option.bind (fn_M_wayEnd o p1 p2 s11) fun z15 =>
                j13 z15
              )
          ) else (
            j7 s11
          )
        ) fun j16 =>
          if z8 = 0 then (
            j16 (1 : Int32)
          ) else (
            j16 (0 : Int32)
          )
      ) else (
        j7 s5
      )
  ) fun j17 =>
    if z2 = 0 then (
      j17 (1 : Int32)
    ) else (
      j17 (0 : Int32)
    )
set_option maxHeartbeats 4000000 in
set_option maxRecDepth 100000 in
theorem ok_M_way {G : wd_G} {l : Launch} (hN : gd_ok G)  (o : Nat) (ho : sh_kd o = 12) (p1 : Int32) (p2 : Int32) (σ : hp_I) (τ : hp_L) : cl_C G l 2 yX12_way cX12_way 3 (some .int) [.ref (wd_b G + o), .int p1, .int p2] σ τ (ci_ih τ) (fn_M_way o p1 p2 σ) := by
  refine cl_of (lv0 := [(0, .ref (wd_b G + o)), (1, .int p1), (2, .int p2)]) (ci_ih τ) (by decide) (Nat.le_of_ble_eq_true rfl) rfl hN (fun M hM C => ?_)
  have C : cx_C G M RX12 cX12_way 3 2 (some .int) := C
  unfold fn_M_way
  refine dn_aload_n C dX12_way_0 rfl 0 rfl rfl ?_
  refine dn_iconst C dX12_way_1 ic_i_0 rfl ?_
  refine dn_putI C fp_X12_93 ho dX12_way_2 rfl (fun s1 => ?_)
  refine dn_aload_n C dX12_way_5 rfl 0 rfl rfl ?_
  refine dn_aload_n C dX12_way_6 rfl 0 rfl rfl ?_
  refine dn_iconst C dX12_way_7 ic_i_1 rfl ?_
  refine dn_iload_n C dX12_way_8 rfl 1 rfl rfl ?_
  refine dn_callV_i (As := [.int (1 : Int32), .int p1]) (st := [.ref (wd_b G + o)]) C (ok_M_isThing (cx_g C) o ho (1 : Int32) p1 s1 τ) mt_X12_isThing mv_X12_isThing lk_X12_336 (by decide) ho rfl ⟨Nat.zero_le _, Nat.zero_le _⟩ (Nat.le_of_ble_eq_true rfl) dX12_way_9 rfl rfl (fun z2 => ?_)
  refine dn_jn (fun z => ∀ (t3 : Int32), dn_D G M 3 0 0 (cl_M G M (ci_ih τ)) 20 [(0, .ref (wd_b G + o)), (1, .int p1), (2, .int p2)] [.int t3, .ref (wd_b G + o)] s1 τ (z t3)) (fun t3 => ?_) (fun j17 hj17 => ?_)
  · refine dn_iconst C dX12_way_20 ic_i_1 rfl ?_
    refine dn_iconst C dX12_way_21 ic_i_0 rfl ?_
    refine dn_callV_ih (As := [.int t3, .int (1 : Int32), .int (0 : Int32)]) (st := []) C (ok_M_bad (cx_g C) o ho t3 (1 : Int32) (0 : Int32) s1 τ) mt_X12_bad mv_X12_bad lk_X12_172 (by decide) ho rfl ⟨Nat.zero_le _, Nat.zero_le _⟩ (Nat.le_of_ble_eq_true rfl) dX12_way_22 rfl rfl (fun z4 s5 => ?_)
    refine dn_jn (fun z => ∀ (s6 : hp_I), dn_D G M 3 0 0 (cl_M G M (ci_ih τ)) 51 [] [] s6 τ (z s6)) (fun s6 => ?_) (fun j7 hj7 => ?_)
    · refine dn_iconst C dX12_way_51 ic_i_0 rfl ?_
      exact dn_iret C dX12_way_52 rfl
    · refine dn_if_ne (t := 51) C dX12_way_25 (by decide) rfl ?_ ?_
      · refine dn_aload_n C dX12_way_28 rfl 0 rfl rfl ?_
        refine dn_iload_n C dX12_way_29 rfl 2 rfl rfl ?_
        refine dn_iconst C dX12_way_30 ic_i_0 rfl ?_
        refine dn_iconst C dX12_way_31 ic_i_2 rfl ?_
        refine dn_callS_i (As := [.int p2, .int (0 : Int32), .int (2 : Int32)]) (st := [.ref (wd_b G + o)]) C (ok_M_in (cx_g C) p2 (0 : Int32) (2 : Int32) s5 τ) mt_X12_in ms_X12_in lk_X12_127 (by decide) rfl ⟨Nat.zero_le _, Nat.zero_le _⟩ (Nat.le_of_ble_eq_true rfl) dX12_way_32 rfl rfl (fun z8 => ?_)
        refine dn_jn (fun z => ∀ (t9 : Int32), dn_D G M 3 0 0 (cl_M G M (ci_ih τ)) 43 [(0, .ref (wd_b G + o)), (1, .int p1), (2, .int p2)] [.int t9, .ref (wd_b G + o)] s5 τ (z t9)) (fun t9 => ?_) (fun j16 hj16 => ?_)
        · refine dn_iconst C dX12_way_43 ic_i_2 rfl ?_
          refine dn_iconst C dX12_way_44 ic_i_1 rfl ?_
          refine dn_callV_ih (As := [.int t9, .int (2 : Int32), .int (1 : Int32)]) (st := []) C (ok_M_bad (cx_g C) o ho t9 (2 : Int32) (1 : Int32) s5 τ) mt_X12_bad mv_X12_bad lk_X12_172 (by decide) ho rfl ⟨Nat.zero_le _, Nat.zero_le _⟩ (Nat.le_of_ble_eq_true rfl) dX12_way_45 rfl rfl (fun z10 s11 => ?_)
          refine dn_if_eq (t := 53) C dX12_way_48 (by decide) rfl ?_ ?_
          · refine dn_iload_n C dX12_way_53 rfl 2 rfl rfl ?_
            refine dn_iconst C dX12_way_54 ic_i_2 rfl ?_
            refine dn_jn (fun z => ∀ (t12 : Int32), dn_D G M 3 0 0 (cl_M G M (ci_ih τ)) 78 [] [.int t12] s11 τ (z t12)) (fun t12 => ?_) (fun j13 hj13 => ?_)
            · exact dn_iret C dX12_way_78 rfl
            · refine dn_icmp_ne (t := 72) C dX12_way_55 (by decide) rfl ?_ ?_
              · refine dn_aload_n C dX12_way_58 rfl 0 rfl rfl ?_
                refine dn_getR C fd_X12_55 ho dX12_way_59 rfl ?_
                refine dn_bipush C dX12_way_62 ic_b_45 rfl ?_
                refine dn_iald C (kt_12_25 ho) dX12_way_64 rfl (fun z14 => ?_)
                refine dn_iload_n C dX12_way_65 rfl 1 rfl rfl ?_
                refine dn_ishr C dX12_way_66 rfl ?_
                refine dn_iconst C dX12_way_67 ic_i_1 rfl ?_
                refine dn_iand C dX12_way_68 rfl ?_
                refine dn_goto (t := 78) C dX12_way_69 (by decide) ?_
                refine dn_pick [] rfl ?_
                exact hj13 ((z14 >>> (p1 &&& 31)) &&& (1 : Int32))
              · refine dn_aload_n C dX12_way_72 rfl 0 rfl rfl ?_
                refine dn_iload_n C dX12_way_73 rfl 1 rfl rfl ?_
                refine dn_iload_n C dX12_way_74 rfl 2 rfl rfl ?_
                refine dn_callV_i (As := [.int p1, .int p2]) (st := []) C (ok_M_wayEnd (cx_g C) o ho p1 p2 s11 τ) mt_X12_wayEnd mv_X12_wayEnd lk_X12_286 (by decide) ho rfl ⟨Nat.zero_le _, Nat.zero_le _⟩ (Nat.le_of_ble_eq_true rfl) dX12_way_75 rfl rfl (fun z15 => ?_)
                refine dn_pick [] rfl ?_
                exact hj13 z15
          · refine dn_pick [] rfl ?_
            exact hj7 s11
        · refine dn_if_ne (t := 42) C dX12_way_35 (by decide) rfl ?_ ?_
          · refine dn_iconst C dX12_way_38 ic_i_1 rfl ?_
            refine dn_goto (t := 43) C dX12_way_39 (by decide) ?_
            exact hj16 (1 : Int32)
          · refine dn_iconst C dX12_way_42 ic_i_0 rfl ?_
            exact hj16 (0 : Int32)
      · refine dn_pick [] rfl ?_
        exact hj7 s5
  · refine dn_if_ne (t := 19) C dX12_way_12 (by decide) rfl ?_ ?_
    · refine dn_iconst C dX12_way_15 ic_i_1 rfl ?_
      refine dn_goto (t := 20) C dX12_way_16 (by decide) ?_
      exact hj17 (1 : Int32)
    · refine dn_iconst C dX12_way_19 ic_i_0 rfl ?_
      exact hj17 (0 : Int32)
def fn_M_wordHere_L8  (a0 : Nat) (σ : hp_I) (k : Int32 → Int32 → Option (Int32 × hp_I)) : Nat → Int32 → Int32 → Option (Int32 × hp_I)
  | 0, _, _ => none
  | fu + 1, x1, x2 =>
    Option.bind (fn_M_byteAt a0 ((σ a0 4) + x2) σ) fun z5 =>
    Option.bind (fn_M_isSmall z5) fun z6 =>
    if z6 = 0 then (
      k x1 x2
    ) else (
      px_jn (fun (t7 : Int32) =>
        px_let t7 fun v1_8 =>
        px_let (x2 + 1) fun v2_9 =>
        fn_M_wordHere_L8 a0 σ k fu v1_8 v2_9
      ) fun j10 =>
        if x2 < (6 : Int32) then (
          Option.bind (fn_M_byteAt a0 ((σ a0 4) + x2) σ) fun z11 =>
          j10 (((((27 : Int32) * x1) + z11) - (97 : Int32)) + (1 : Int32))
        ) else (
          j10 x1
        )
    )
def fn_M_wordHere  (o : Nat) (σ : hp_I) : Option (Int32 × hp_I) :=
  Option.bind (fn_M_blanks o σ) fun s2 =>
  px_let (0 : Int32) fun v1_3 =>
  px_let (0 : Int32) fun v2_4 =>
  fn_M_wordHere_L8 o s2
    (fun (y_12 : Int32) (y_13 : Int32) =>
      px_jn (fun (t14 : Int32) =>
        some (t14, s2)
      ) fun j15 =>
        if (6 : Int32) < y_13 then (
          j15 (-1 : Int32)
        ) else (
          j15 y_12
        )
    )
    FU v1_3 v2_4
set_option maxHeartbeats 4000000 in
set_option maxRecDepth 100000 in
theorem pf_M_wordHere_L8 {G : wd_G} {M : wd_M}  (C : cx_C G M RX12 cX12_wordHere 3 2 (some .int)) (a0 : Nat) (ha0 : sh_kd a0 = 12) (σ : hp_I) (τ : hp_L) (k : Int32 → Int32 → Option (Int32 × hp_I)) (hk : ∀ (y1 : Int32) (y2 : Int32), dn_D G M 3 0 0 (cl_M G M (ci_ih τ)) 61 [(1, .int y1), (2, .int y2)] [] σ τ (k y1 y2)) : ∀ (fu : Nat) (x1 : Int32) (x2 : Int32), dn_D G M 3 0 0 (cl_M G M (ci_ih τ)) 8 [(0, .ref (wd_b G + a0)), (1, .int x1), (2, .int x2)] [] σ τ (fn_M_wordHere_L8 a0 σ k fu x1 x2) := by
  intro fu
  induction fu with
  | zero => exact fun x1 x2 => dn_none
  | succ fu ih =>
    intro x1 x2
    unfold fn_M_wordHere_L8
    refine dn_aload_n C dX12_wordHere_8 rfl 0 rfl rfl ?_
    refine dn_aload_n C dX12_wordHere_9 rfl 0 rfl rfl ?_
    refine dn_getI C fd_X12_102 ha0 dX12_wordHere_10 rfl ?_
    refine dn_iload_n C dX12_wordHere_13 rfl 2 rfl rfl ?_
    refine dn_iadd C dX12_wordHere_14 rfl ?_
    refine dn_callV_i (As := [.int ((σ a0 4) + x2)]) (st := []) C (ok_M_byteAt (cx_g C) a0 ha0 ((σ a0 4) + x2) σ τ) mt_X12_byteAt mv_X12_byteAt lk_X12_105 (by decide) ha0 rfl ⟨Nat.zero_le _, Nat.zero_le _⟩ (Nat.le_of_ble_eq_true rfl) dX12_wordHere_15 rfl rfl (fun z5 => ?_)
    refine dn_callS_i (As := [.int z5]) (st := []) C (ok_M_isSmall (cx_g C) z5 σ τ) mt_X12_isSmall ms_X12_isSmall lk_X12_131 (by decide) rfl ⟨Nat.zero_le _, Nat.zero_le _⟩ (Nat.le_of_ble_eq_true rfl) dX12_wordHere_18 rfl rfl (fun z6 => ?_)
    refine dn_if_eq (t := 61) C dX12_wordHere_21 (by decide) rfl ?_ ?_
    · refine dn_pick [1, 2] rfl ?_
      exact hk x1 x2
    · refine dn_iload_n C dX12_wordHere_24 rfl 2 rfl rfl ?_
      refine dn_bipush C dX12_wordHere_25 ic_b_6 rfl ?_
      refine dn_jn (fun z => ∀ (t7 : Int32), dn_D G M 3 0 0 (cl_M G M (ci_ih τ)) 54 [(0, .ref (wd_b G + a0)), (2, .int x2)] [.int t7] σ τ (z t7)) (fun t7 => ?_) (fun j10 hj10 => ?_)
      · refine dn_istore_n (lv0 := [(0, .ref (wd_b G + a0)), (2, .int x2)]) C dX12_wordHere_54 rfl (by decide) rfl rfl (fun v1_8 => ?_)
        refine dn_iinc (lv0 := [(1, .int v1_8), (0, .ref (wd_b G + a0))]) (v := x2 + 1) C dX12_wordHere_55 2 rfl rfl (by decide) rfl rfl (fun v2_9 => ?_)
        refine dn_goto (t := 8) C dX12_wordHere_58 (by decide) ?_
        refine dn_pick [2, 1, 0] rfl ?_
        exact ih v1_8 v2_9
      · refine dn_icmp_ge (t := 53) C dX12_wordHere_27 (by decide) rfl ?_ ?_
        · refine dn_bipush C dX12_wordHere_30 ic_b_27 rfl ?_
          refine dn_iload_n C dX12_wordHere_32 rfl 1 rfl rfl ?_
          refine dn_imul C dX12_wordHere_33 rfl ?_
          refine dn_aload_n C dX12_wordHere_34 rfl 0 rfl rfl ?_
          refine dn_aload_n C dX12_wordHere_35 rfl 0 rfl rfl ?_
          refine dn_getI C fd_X12_102 ha0 dX12_wordHere_36 rfl ?_
          refine dn_iload_n C dX12_wordHere_39 rfl 2 rfl rfl ?_
          refine dn_iadd C dX12_wordHere_40 rfl ?_
          refine dn_callV_i (As := [.int ((σ a0 4) + x2)]) (st := [.int ((27 : Int32) * x1)]) C (ok_M_byteAt (cx_g C) a0 ha0 ((σ a0 4) + x2) σ τ) mt_X12_byteAt mv_X12_byteAt lk_X12_105 (by decide) ha0 rfl ⟨Nat.zero_le _, Nat.zero_le _⟩ (Nat.le_of_ble_eq_true rfl) dX12_wordHere_41 rfl rfl (fun z11 => ?_)
          refine dn_iadd C dX12_wordHere_44 rfl ?_
          refine dn_bipush C dX12_wordHere_45 ic_b_97 rfl ?_
          refine dn_isub C dX12_wordHere_47 rfl ?_
          refine dn_iconst C dX12_wordHere_48 ic_i_1 rfl ?_
          refine dn_iadd C dX12_wordHere_49 rfl ?_
          refine dn_goto (t := 54) C dX12_wordHere_50 (by decide) ?_
          refine dn_pick [0, 2] rfl ?_
          exact hj10 (((((27 : Int32) * x1) + z11) - (97 : Int32)) + (1 : Int32))
        · refine dn_iload_n C dX12_wordHere_53 rfl 1 rfl rfl ?_
          refine dn_pick [0, 2] rfl ?_
          exact hj10 x1
set_option maxHeartbeats 4000000 in
set_option maxRecDepth 100000 in
theorem ok_M_wordHere {G : wd_G} {l : Launch} (hN : gd_ok G)  (o : Nat) (ho : sh_kd o = 12) (σ : hp_I) (τ : hp_L) : cl_C G l 2 yX12_wordHere cX12_wordHere 3 (some .int) [.ref (wd_b G + o)] σ τ (ci_ih τ) (fn_M_wordHere o σ) := by
  refine cl_of (lv0 := [(0, .ref (wd_b G + o))]) (ci_ih τ) (by decide) (Nat.le_of_ble_eq_true rfl) rfl hN (fun M hM C => ?_)
  have C : cx_C G M RX12 cX12_wordHere 3 2 (some .int) := C
  unfold fn_M_wordHere
  refine dn_aload_n C dX12_wordHere_0 rfl 0 rfl rfl ?_
  refine dn_callV_h (As := []) (st := []) C (ok_M_blanks (cx_g C) o ho σ τ) mt_X12_blanks mv_X12_blanks lk_X12_115 (by decide) ho rfl ⟨Nat.zero_le _, Nat.zero_le _⟩ (Nat.le_of_ble_eq_true rfl) dX12_wordHere_1 rfl rfl (fun s2 => ?_)
  refine dn_iconst C dX12_wordHere_4 ic_i_0 rfl ?_
  refine dn_istore_n (lv0 := [(0, .ref (wd_b G + o))]) C dX12_wordHere_5 rfl (by decide) rfl rfl (fun v1_3 => ?_)
  refine dn_iconst C dX12_wordHere_6 ic_i_0 rfl ?_
  refine dn_istore_n (lv0 := [(1, .int v1_3), (0, .ref (wd_b G + o))]) C dX12_wordHere_7 rfl (by decide) rfl rfl (fun v2_4 => ?_)
  refine dn_pick [2, 1, 0] rfl ?_
  refine pf_M_wordHere_L8  C  o ho s2 τ _ (fun y_12 y_13 => ?_) FU v1_3 v2_4
  refine dn_iload_n C dX12_wordHere_61 rfl 1 rfl rfl ?_
  refine dn_bipush C dX12_wordHere_62 ic_b_6 rfl ?_
  refine dn_jn (fun z => ∀ (t14 : Int32), dn_D G M 3 0 0 (cl_M G M (ci_ih τ)) 72 [] [.int t14] s2 τ (z t14)) (fun t14 => ?_) (fun j15 hj15 => ?_)
  · exact dn_iret C dX12_wordHere_72 rfl
  · refine dn_icmp_le (t := 71) C dX12_wordHere_64 (by decide) rfl ?_ ?_
    · refine dn_iconst C dX12_wordHere_67 ic_i_m1 rfl ?_
      refine dn_goto (t := 72) C dX12_wordHere_68 (by decide) ?_
      refine dn_pick [] rfl ?_
      exact hj15 (-1 : Int32)
    · refine dn_iload_n C dX12_wordHere_71 rfl 0 rfl rfl ?_
      refine dn_pick [] rfl ?_
      exact hj15 y_12
def fn_M_book_L48  (a0 : Nat) (k : Int32 → hp_I → Option (Int32 × hp_I)) : Nat → Int32 → Int32 → hp_I → Option (Int32 × hp_I)
  | 0, _, _, _ => none
  | fu + 1, x2, x3, s0 =>
    if (s0 a0 5) = 0 then (
      if (s0 a0 4) < (s0 a0 2) then (
        Option.bind (fn_M_blanks a0 s0) fun s11 =>
        px_let (s11 a0 4) fun v4_12 =>
        Option.bind (px_ald s11 (sh_rf a0 12) (3 : Int32)) fun z13 =>
        px_b2 (fn_M_number a0 (0 : Int32) (z13 - (1 : Int32)) s11) fun z14 s15 =>
        px_let z14 fun v5_16 =>
        px_jn (fun (s17 : hp_I) =>
          px_b2 (fn_M_number a0 (0 : Int32) (1 : Int32) s17) fun z18 s19 =>
          px_let z18 fun v6_20 =>
          Option.bind (fn_M_sign a0 (59 : Int32) s19) fun s22 =>
          px_jn (fun (a2_23 : Int32) (a3_24 : Int32) (s25 : hp_I) =>
            Option.bind (fn_M_blanks a0 s25) fun s27 =>
            fn_M_book_L48 a0 k fu a2_23 a3_24 s27
          ) fun j28 =>
            if (s22 a0 5) = 0 then (
              px_let (x3 ||| ((1 : Int32) <<< (v5_16 &&& 31))) fun v3_29 =>
              Option.bind (px_rld (sh_rf a0 20) x2) fun z30 =>
              Option.bind (px_ast s22 z30 (0 : Int32) v5_16) fun s31 =>
              Option.bind (px_rld (sh_rf a0 20) x2) fun z32 =>
              Option.bind (px_ast s31 z32 (1 : Int32) v6_20) fun s33 =>
              px_let (x2 + 1) fun v2_34 =>
              j28 v2_34 v3_29 s33
            ) else (
              j28 x2 x3 s22
            )
        ) fun j35 =>
          if (s15 a0 5) = 0 then (
            Option.bind (fn_M_has x3 v5_16) fun z36 =>
            if z36 = 0 then (
              j35 s15
            ) else (
              Option.bind (fn_M_wrong a0 (2 : Int32) v4_12 s15) fun s38 =>
              j35 s38
            )
          ) else (
            j35 s15
          )
      ) else (
        k x2 s0
      )
    ) else (
      k x2 s0
    )
def fn_M_book  (o : Nat) (p1 : Int32) (σ : hp_I) : Option (Int32 × hp_I) :=
  px_let (hp_s σ o 0 (0 : Int32)) fun s1 =>
  Option.bind (fn_M_in p1 (0 : Int32) (s1 o 1)) fun z2 =>
  px_jn (fun (t3 : Int32) =>
    px_b2 (fn_M_bad o t3 (1 : Int32) (1 : Int32) s1) fun z4 s5 =>
    if z4 = 0 then (
      Option.bind (fn_M_starts o p1 s5) fun s7 =>
      px_let (0 : Int32) fun v2_8 =>
      px_let (0 : Int32) fun v3_9 =>
      fn_M_book_L48 o
        (fun (y_39 : Int32) (s_40 : hp_I) =>
          if (s_40 o 5) = 0 then (
            px_let (hp_s s_40 o 3 (-1 : Int32)) fun s43 =>
            px_let (hp_s s43 o 30 y_39) fun s44 =>
            Option.bind (fn_M_lays (sh_rf o 20) (sh_rf o 19) y_39 s44) fun s46 =>
            some (y_39, s46)
          ) else (
            px_b2 (fn_M_ends o s_40) fun z41 s42 =>
            some (z41, s42)
          )
        )
        FU v2_8 v3_9 s7
    ) else (
      some ((0 : Int32), s5)
    )
  ) fun j47 =>
    px_jn (
      j47 (1 : Int32)
    ) fun j48 =>
      if z2 = 0 then (
        j48
      ) else (
        if (60 : Int32) < p1 then (
          j48
        ) else (
          j47 (0 : Int32)
        )
      )
set_option maxHeartbeats 4000000 in
set_option maxRecDepth 100000 in
theorem pf_M_book_L48 {G : wd_G} {M : wd_M}  (C : cx_C G M RX12 cX12_book 7 3 (some .int)) (a0 : Nat) (ha0 : sh_kd a0 = 12)  (τ : hp_L) (k : Int32 → hp_I → Option (Int32 × hp_I)) (hk : ∀ (y2 : Int32) (s : hp_I), dn_D G M 7 0 0 (cl_M G M (ci_ih τ)) 172 [(0, .ref (wd_b G + a0)), (2, .int y2)] [] s τ (k y2 s)) : ∀ (fu : Nat) (x2 : Int32) (x3 : Int32) (s0 : hp_I), dn_D G M 7 0 0 (cl_M G M (ci_ih τ)) 48 [(0, .ref (wd_b G + a0)), (2, .int x2), (3, .int x3)] [] s0 τ (fn_M_book_L48 a0 k fu x2 x3 s0) := by
  intro fu
  induction fu with
  | zero => exact fun x2 x3 s0 => dn_none
  | succ fu ih =>
    intro x2 x3 s0
    unfold fn_M_book_L48
    refine dn_aload_n C dX12_book_48 rfl 0 rfl rfl ?_
    refine dn_getI C fd_X12_109 ha0 dX12_book_49 rfl ?_
    refine dn_if_ne (t := 172) C dX12_book_52 (by decide) rfl ?_ ?_
    · refine dn_aload_n C dX12_book_55 rfl 0 rfl rfl ?_
      refine dn_getI C fd_X12_102 ha0 dX12_book_56 rfl ?_
      refine dn_aload_n C dX12_book_59 rfl 0 rfl rfl ?_
      refine dn_getI C fd_X12_99 ha0 dX12_book_60 rfl ?_
      refine dn_icmp_ge (t := 172) C dX12_book_63 (by decide) rfl ?_ ?_
      · refine dn_aload_n C dX12_book_66 rfl 0 rfl rfl ?_
        refine dn_callV_h (As := []) (st := []) C (ok_M_blanks (cx_g C) a0 ha0 s0 τ) mt_X12_blanks mv_X12_blanks lk_X12_115 (by decide) ha0 rfl ⟨Nat.zero_le _, Nat.zero_le _⟩ (Nat.le_of_ble_eq_true rfl) dX12_book_67 rfl rfl (fun s11 => ?_)
        refine dn_aload_n C dX12_book_70 rfl 0 rfl rfl ?_
        refine dn_getI C fd_X12_102 ha0 dX12_book_71 rfl ?_
        refine dn_istore (lv0 := [(0, .ref (wd_b G + a0)), (2, .int x2), (3, .int x3)]) C dX12_book_74 (by decide) rfl rfl (fun v4_12 => ?_)
        refine dn_aload_n C dX12_book_76 rfl 1 rfl rfl ?_
        refine dn_iconst C dX12_book_77 ic_i_0 rfl ?_
        refine dn_aload_n C dX12_book_78 rfl 1 rfl rfl ?_
        refine dn_getR C fd_X12_23 ha0 dX12_book_79 rfl ?_
        refine dn_iconst C dX12_book_82 ic_i_3 rfl ?_
        refine dn_iald C (kt_12_12 ha0) dX12_book_83 rfl (fun z13 => ?_)
        refine dn_iconst C dX12_book_84 ic_i_1 rfl ?_
        refine dn_isub C dX12_book_85 rfl ?_
        refine dn_callV_ih (As := [.int (0 : Int32), .int (z13 - (1 : Int32))]) (st := []) C (ok_M_number (cx_g C) a0 ha0 (0 : Int32) (z13 - (1 : Int32)) s11 τ) mt_X12_number mv_X12_number lk_X12_165 (by decide) ha0 rfl ⟨Nat.zero_le _, Nat.zero_le _⟩ (Nat.le_of_ble_eq_true rfl) dX12_book_86 rfl rfl (fun z14 s15 => ?_)
        refine dn_istore (lv0 := [(4, .int v4_12), (0, .ref (wd_b G + a0)), (2, .int x2), (3, .int x3)]) C dX12_book_89 (by decide) rfl rfl (fun v5_16 => ?_)
        refine dn_aload_n C dX12_book_91 rfl 2 rfl rfl ?_
        refine dn_getI C fd_X12_109 ha0 dX12_book_92 rfl ?_
        refine dn_jn (fun z => ∀ (s17 : hp_I), dn_D G M 7 0 0 (cl_M G M (ci_ih τ)) 114 [(0, .ref (wd_b G + a0)), (2, .int x2), (3, .int x3), (5, .int v5_16)] [] s17 τ (z s17)) (fun s17 => ?_) (fun j35 hj35 => ?_)
        · refine dn_aload_n C dX12_book_114 rfl 0 rfl rfl ?_
          refine dn_iconst C dX12_book_115 ic_i_0 rfl ?_
          refine dn_iconst C dX12_book_116 ic_i_1 rfl ?_
          refine dn_callV_ih (As := [.int (0 : Int32), .int (1 : Int32)]) (st := []) C (ok_M_number (cx_g C) a0 ha0 (0 : Int32) (1 : Int32) s17 τ) mt_X12_number mv_X12_number lk_X12_165 (by decide) ha0 rfl ⟨Nat.zero_le _, Nat.zero_le _⟩ (Nat.le_of_ble_eq_true rfl) dX12_book_117 rfl rfl (fun z18 s19 => ?_)
          refine dn_istore (lv0 := [(0, .ref (wd_b G + a0)), (2, .int x2), (3, .int x3), (5, .int v5_16)]) C dX12_book_120 (by decide) rfl rfl (fun v6_20 => ?_)
          refine dn_aload_n C dX12_book_122 rfl 1 rfl rfl ?_
          refine dn_bipush C dX12_book_123 ic_b_59 rfl ?_
          refine dn_callV_h (As := [.int (59 : Int32)]) (st := []) C (ok_M_sign (cx_g C) a0 ha0 (59 : Int32) s19 τ) mt_X12_sign mv_X12_sign lk_X12_168 (by decide) ha0 rfl ⟨Nat.zero_le _, Nat.zero_le _⟩ (Nat.le_of_ble_eq_true rfl) dX12_book_125 rfl rfl (fun s22 => ?_)
          refine dn_aload_n C dX12_book_128 rfl 1 rfl rfl ?_
          refine dn_getI C fd_X12_109 ha0 dX12_book_129 rfl ?_
          refine dn_jn (fun z => ∀ (a2_23 : Int32) (a3_24 : Int32) (s25 : hp_I), dn_D G M 7 0 0 (cl_M G M (ci_ih τ)) 165 [(0, .ref (wd_b G + a0)), (2, .int a2_23), (3, .int a3_24)] [] s25 τ (z a2_23 a3_24 s25)) (fun a2_23 a3_24 s25 => ?_) (fun j28 hj28 => ?_)
          · refine dn_aload_n C dX12_book_165 rfl 0 rfl rfl ?_
            refine dn_callV_h (As := []) (st := []) C (ok_M_blanks (cx_g C) a0 ha0 s25 τ) mt_X12_blanks mv_X12_blanks lk_X12_115 (by decide) ha0 rfl ⟨Nat.zero_le _, Nat.zero_le _⟩ (Nat.le_of_ble_eq_true rfl) dX12_book_166 rfl rfl (fun s27 => ?_)
            refine dn_goto (t := 48) C dX12_book_169 (by decide) ?_
            exact ih a2_23 a3_24 s27
          · refine dn_if_ne (t := 165) C dX12_book_132 (by decide) rfl ?_ ?_
            · refine dn_iload_n C dX12_book_135 rfl 3 rfl rfl ?_
              refine dn_iconst C dX12_book_136 ic_i_1 rfl ?_
              refine dn_iload C dX12_book_137 4 rfl rfl ?_
              refine dn_ishl C dX12_book_139 rfl ?_
              refine dn_ior C dX12_book_140 rfl ?_
              refine dn_istore_n (lv0 := [(6, .int v6_20), (0, .ref (wd_b G + a0)), (2, .int x2), (5, .int v5_16)]) C dX12_book_141 rfl (by decide) rfl rfl (fun v3_29 => ?_)
              refine dn_aload_n C dX12_book_142 rfl 2 rfl rfl ?_
              refine dn_getR C fd_X12_43 ha0 dX12_book_143 rfl ?_
              refine dn_iload_n C dX12_book_146 rfl 3 rfl rfl ?_
              refine dn_aald C (kt_12_20 ha0) dX12_book_147 rfl (fun z30 hz30 => ?_)
              refine dn_iconst C dX12_book_148 ic_i_0 rfl ?_
              refine dn_iload C dX12_book_149 4 rfl rfl ?_
              refine dn_iast C (kt_row (kt_12_20 ha0) hz30) dX12_book_151 rfl (fun s31 => ?_)
              refine dn_aload_n C dX12_book_152 rfl 2 rfl rfl ?_
              refine dn_getR C fd_X12_43 ha0 dX12_book_153 rfl ?_
              refine dn_iload_n C dX12_book_156 rfl 3 rfl rfl ?_
              refine dn_aald C (kt_12_20 ha0) dX12_book_157 rfl (fun z32 hz32 => ?_)
              refine dn_iconst C dX12_book_158 ic_i_1 rfl ?_
              refine dn_iload C dX12_book_159 1 rfl rfl ?_
              refine dn_iast C (kt_row (kt_12_20 ha0) hz32) dX12_book_161 rfl (fun s33 => ?_)
              refine dn_iinc (lv0 := [(3, .int v3_29), (6, .int v6_20), (0, .ref (wd_b G + a0)), (5, .int v5_16)]) (v := x2 + 1) C dX12_book_162 3 rfl rfl (by decide) rfl rfl (fun v2_34 => ?_)
              refine dn_pick [3, 0, 1] rfl ?_
              exact hj28 v2_34 v3_29 s33
            · refine dn_pick [1, 2, 3] rfl ?_
              exact hj28 x2 x3 s22
        · refine dn_if_ne (t := 114) C dX12_book_95 (by decide) rfl ?_ ?_
          · refine dn_iload_n C dX12_book_98 rfl 4 rfl rfl ?_
            refine dn_iload C dX12_book_99 0 rfl rfl ?_
            refine dn_callS_i (As := [.int x3, .int v5_16]) (st := []) C (ok_M_has (cx_g C) x3 v5_16 s15 τ) mt_X12_has ms_X12_has lk_X12_251 (by decide) rfl ⟨Nat.zero_le _, Nat.zero_le _⟩ (Nat.le_of_ble_eq_true rfl) dX12_book_101 rfl rfl (fun z36 => ?_)
            refine dn_if_eq (t := 114) C dX12_book_104 (by decide) rfl ?_ ?_
            · refine dn_pick [2, 3, 4, 0] rfl ?_
              exact hj35 s15
            · refine dn_aload_n C dX12_book_107 rfl 2 rfl rfl ?_
              refine dn_iconst C dX12_book_108 ic_i_2 rfl ?_
              refine dn_iload C dX12_book_109 1 rfl rfl ?_
              refine dn_callV_h (As := [.int (2 : Int32), .int v4_12]) (st := []) C (ok_M_wrong (cx_g C) a0 ha0 (2 : Int32) v4_12 s15 τ) mt_X12_wrong mv_X12_wrong lk_X12_122 (by decide) ha0 rfl ⟨Nat.zero_le _, Nat.zero_le _⟩ (Nat.le_of_ble_eq_true rfl) dX12_book_111 rfl rfl (fun s38 => ?_)
              refine dn_pick [2, 3, 4, 0] rfl ?_
              exact hj35 s38
          · refine dn_pick [2, 3, 4, 0] rfl ?_
            exact hj35 s15
      · refine dn_pick [0, 1] rfl ?_
        exact hk x2 s0
    · refine dn_pick [0, 1] rfl ?_
      exact hk x2 s0
set_option maxHeartbeats 4000000 in
set_option maxRecDepth 100000 in
theorem ok_M_book {G : wd_G} {l : Launch} (hN : gd_ok G)  (o : Nat) (ho : sh_kd o = 12) (p1 : Int32) (σ : hp_I) (τ : hp_L) : cl_C G l 3 yX12_book cX12_book 7 (some .int) [.ref (wd_b G + o), .int p1] σ τ (ci_ih τ) (fn_M_book o p1 σ) := by
  refine cl_of (lv0 := [(0, .ref (wd_b G + o)), (1, .int p1)]) (ci_ih τ) (by decide) (Nat.le_of_ble_eq_true rfl) rfl hN (fun M hM C => ?_)
  have C : cx_C G M RX12 cX12_book 7 3 (some .int) := C
  unfold fn_M_book
  refine dn_aload_n C dX12_book_0 rfl 0 rfl rfl ?_
  refine dn_iconst C dX12_book_1 ic_i_0 rfl ?_
  refine dn_putI C fp_X12_93 ho dX12_book_2 rfl (fun s1 => ?_)
  refine dn_aload_n C dX12_book_5 rfl 0 rfl rfl ?_
  refine dn_iload_n C dX12_book_6 rfl 1 rfl rfl ?_
  refine dn_iconst C dX12_book_7 ic_i_0 rfl ?_
  refine dn_aload_n C dX12_book_8 rfl 0 rfl rfl ?_
  refine dn_getI C fd_X12_96 ho dX12_book_9 rfl ?_
  refine dn_callS_i (As := [.int p1, .int (0 : Int32), .int (s1 o 1)]) (st := [.ref (wd_b G + o)]) C (ok_M_in (cx_g C) p1 (0 : Int32) (s1 o 1) s1 τ) mt_X12_in ms_X12_in lk_X12_127 (by decide) rfl ⟨Nat.zero_le _, Nat.zero_le _⟩ (Nat.le_of_ble_eq_true rfl) dX12_book_12 rfl rfl (fun z2 => ?_)
  refine dn_jn (fun z => ∀ (t3 : Int32), dn_D G M 7 0 0 (cl_M G M (ci_ih τ)) 29 [(0, .ref (wd_b G + o)), (1, .int p1)] [.int t3, .ref (wd_b G + o)] s1 τ (z t3)) (fun t3 => ?_) (fun j47 hj47 => ?_)
  · refine dn_iconst C dX12_book_29 ic_i_1 rfl ?_
    refine dn_iconst C dX12_book_30 ic_i_1 rfl ?_
    refine dn_callV_ih (As := [.int t3, .int (1 : Int32), .int (1 : Int32)]) (st := []) C (ok_M_bad (cx_g C) o ho t3 (1 : Int32) (1 : Int32) s1 τ) mt_X12_bad mv_X12_bad lk_X12_172 (by decide) ho rfl ⟨Nat.zero_le _, Nat.zero_le _⟩ (Nat.le_of_ble_eq_true rfl) dX12_book_31 rfl rfl (fun z4 s5 => ?_)
    refine dn_if_eq (t := 39) C dX12_book_34 (by decide) rfl ?_ ?_
    · refine dn_aload_n C dX12_book_39 rfl 0 rfl rfl ?_
      refine dn_iload_n C dX12_book_40 rfl 1 rfl rfl ?_
      refine dn_callV_h (As := [.int p1]) (st := []) C (ok_M_starts (cx_g C) o ho p1 s5 τ) mt_X12_starts mv_X12_starts lk_X12_176 (by decide) ho rfl ⟨Nat.zero_le _, Nat.zero_le _⟩ (Nat.le_of_ble_eq_true rfl) dX12_book_41 rfl rfl (fun s7 => ?_)
      refine dn_iconst C dX12_book_44 ic_i_0 rfl ?_
      refine dn_istore_n (lv0 := [(0, .ref (wd_b G + o)), (1, .int p1)]) C dX12_book_45 rfl (by decide) rfl rfl (fun v2_8 => ?_)
      refine dn_iconst C dX12_book_46 ic_i_0 rfl ?_
      refine dn_istore_n (lv0 := [(2, .int v2_8), (0, .ref (wd_b G + o)), (1, .int p1)]) C dX12_book_47 rfl (by decide) rfl rfl (fun v3_9 => ?_)
      refine dn_pick [2, 1, 0] rfl ?_
      refine pf_M_book_L48  C  o ho  τ _ (fun y_39 s_40 => ?_) FU v2_8 v3_9 s7
      refine dn_aload_n C dX12_book_172 rfl 0 rfl rfl ?_
      refine dn_getI C fd_X12_109 ho dX12_book_173 rfl ?_
      refine dn_if_eq (t := 184) C dX12_book_176 (by decide) rfl ?_ ?_
      · refine dn_aload_n C dX12_book_184 rfl 0 rfl rfl ?_
        refine dn_iconst C dX12_book_185 ic_i_m1 rfl ?_
        refine dn_putI C fp_X12_9 ho dX12_book_186 rfl (fun s43 => ?_)
        refine dn_aload_n C dX12_book_189 rfl 0 rfl rfl ?_
        refine dn_iload_n C dX12_book_190 rfl 1 rfl rfl ?_
        refine dn_putI C fp_X12_192 ho dX12_book_191 rfl (fun s44 => ?_)
        refine dn_aload_n C dX12_book_194 rfl 0 rfl rfl ?_
        refine dn_getR C fd_X12_43 ho dX12_book_195 rfl ?_
        refine dn_aload_n C dX12_book_198 rfl 0 rfl rfl ?_
        refine dn_getR C fd_X12_40 ho dX12_book_199 rfl ?_
        refine dn_iload_n C dX12_book_202 rfl 1 rfl rfl ?_
        refine dn_callS_h (As := [.ref (wd_b G + sh_rf o 20), .ref (wd_b G + sh_rf o 19), .int y_39]) (st := []) C (ok_M_lays (cx_g C) (sh_rf o 20) (kt_12_20 ho) (sh_rf o 19) (kt_12_19 ho) y_39 s44 τ) mt_X12_lays ms_X12_lays lk_X12_185 (by decide) rfl ⟨Nat.zero_le _, Nat.zero_le _⟩ (Nat.le_of_ble_eq_true rfl) dX12_book_203 rfl rfl (fun s46 => ?_)
        refine dn_iload_n C dX12_book_206 rfl 1 rfl rfl ?_
        exact dn_iret C dX12_book_207 rfl
      · refine dn_aload_n C dX12_book_179 rfl 0 rfl rfl ?_
        refine dn_callV_ih (As := []) (st := []) C (ok_M_ends (cx_g C) o ho s_40 τ) mt_X12_ends mv_X12_ends lk_X12_182 (by decide) ho rfl ⟨Nat.zero_le _, Nat.zero_le _⟩ (Nat.le_of_ble_eq_true rfl) dX12_book_180 rfl rfl (fun z41 s42 => ?_)
        exact dn_iret C dX12_book_183 rfl
    · refine dn_iconst C dX12_book_37 ic_i_0 rfl ?_
      exact dn_iret C dX12_book_38 rfl
  · refine dn_jn (fun z => dn_D G M 7 0 0 (cl_M G M (ci_ih τ)) 24 [(0, .ref (wd_b G + o)), (1, .int p1)] [.ref (wd_b G + o)] s1 τ z) ?_ (fun j48 hj48 => ?_)
    · refine dn_iconst C dX12_book_24 ic_i_1 rfl ?_
      refine dn_goto (t := 29) C dX12_book_25 (by decide) ?_
      exact hj47 (1 : Int32)
    · refine dn_if_eq (t := 24) C dX12_book_15 (by decide) rfl ?_ ?_
      · exact hj48
      · refine dn_iload_n C dX12_book_18 rfl 1 rfl rfl ?_
        refine dn_bipush C dX12_book_19 ic_b_60 rfl ?_
        refine dn_icmp_le (t := 28) C dX12_book_21 (by decide) rfl ?_ ?_
        · exact hj48
        · refine dn_iconst C dX12_book_28 ic_i_0 rfl ?_
          exact hj47 (0 : Int32)
def fn_M_escapes_L73  (a0 : Nat) (a1 : Int32) (σ : hp_I) (k : Int32 → Option (Int32 × hp_I)) : Nat → Int32 → Int32 → Option (Int32 × hp_I)
  | 0, _, _ => none
  | fu + 1, x2, x3 =>
    Option.bind (px_ald σ (sh_rf a0 12) (3 : Int32)) fun z12 =>
    if x3 < z12 then (
      Option.bind (px_ald σ (sh_rf a0 25) ((8 : Int32) + a1)) fun z13 =>
      Option.bind (fn_M_nose a0 x3 σ) fun z14 =>
      Option.bind (px_ald σ (sh_rf a0 25) ((32 : Int32) + x3)) fun z15 =>
      Option.bind (fn_M_hide a0 z15 σ) fun z16 =>
      px_jn (fun (t17 : Int32) =>
        px_let (x2 &&& t17) fun v2_18 =>
        px_let (x3 + 1) fun v3_19 =>
        fn_M_escapes_L73 a0 a1 σ k fu v2_18 v3_19
      ) fun j20 =>
        if z16 < (z13 + z14) then (
          Option.bind (px_ald σ (sh_rf a0 25) ((32 : Int32) + x3)) fun z21 =>
          j20 (((1 : Int32) <<< (z21 &&& 31)) ^^^ (-1 : Int32))
        ) else (
          j20 (-1 : Int32)
        )
    ) else (
      k x2
    )
def fn_M_escapes  (o : Nat) (p1 : Int32) (σ : hp_I) : Option (Int32 × hp_I) :=
  px_let (hp_s σ o 0 (0 : Int32)) fun s1 =>
  Option.bind (fn_M_isThing o (2 : Int32) p1 s1) fun z2 =>
  px_jn (fun (t3 : Int32) =>
    px_b2 (fn_M_bad o t3 (1 : Int32) (0 : Int32) s1) fun z4 s5 =>
    if z4 = 0 then (
      Option.bind (fn_M_lives (sh_rf o 25) p1 s5) fun z6 =>
      if z6 = 0 then (
        some ((0 : Int32), s5)
      ) else (
        Option.bind (px_ald s5 (sh_rf o 25) ((0 : Int32) + p1)) fun z7 =>
        Option.bind (fn_M_beside o (sh_rf o 25) z7 s5) fun z8 =>
        Option.bind (px_ald s5 (sh_rf o 25) ((0 : Int32) + p1)) fun z9 =>
        px_let (z8 ||| ((1 : Int32) <<< (z9 &&& 31))) fun v2_10 =>
        px_let (0 : Int32) fun v3_11 =>
        fn_M_escapes_L73 o p1 s5
          (fun (y_22 : Int32) =>
            some (y_22, s5)
          )
          FU v2_10 v3_11
      )
    ) else (
      some ((0 : Int32), s5)
    )
  ) fun j23 =>
    if z2 = 0 then (
      j23 (1 : Int32)
    ) else (
      j23 (0 : Int32)
    )
set_option maxHeartbeats 4000000 in
set_option maxRecDepth 100000 in
theorem pf_M_escapes_L73 {G : wd_G} {M : wd_M}  (C : cx_C G M RX12 cX12_escapes 4 3 (some .int)) (a0 : Nat) (ha0 : sh_kd a0 = 12) (a1 : Int32) (σ : hp_I) (τ : hp_L) (k : Int32 → Option (Int32 × hp_I)) (hk : ∀ (y2 : Int32), dn_D G M 4 0 0 (cl_M G M (ci_ih τ)) 140 [(2, .int y2)] [] σ τ (k y2)) : ∀ (fu : Nat) (x2 : Int32) (x3 : Int32), dn_D G M 4 0 0 (cl_M G M (ci_ih τ)) 73 [(0, .ref (wd_b G + a0)), (1, .int a1), (2, .int x2), (3, .int x3)] [] σ τ (fn_M_escapes_L73 a0 a1 σ k fu x2 x3) := by
  intro fu
  induction fu with
  | zero => exact fun x2 x3 => dn_none
  | succ fu ih =>
    intro x2 x3
    unfold fn_M_escapes_L73
    refine dn_iload_n C dX12_escapes_73 rfl 3 rfl rfl ?_
    refine dn_aload_n C dX12_escapes_74 rfl 0 rfl rfl ?_
    refine dn_getR C fd_X12_23 ha0 dX12_escapes_75 rfl ?_
    refine dn_iconst C dX12_escapes_78 ic_i_3 rfl ?_
    refine dn_iald C (kt_12_12 ha0) dX12_escapes_79 rfl (fun z12 => ?_)
    refine dn_icmp_ge (t := 140) C dX12_escapes_80 (by decide) rfl ?_ ?_
    · refine dn_iload_n C dX12_escapes_83 rfl 2 rfl rfl ?_
      refine dn_aload_n C dX12_escapes_84 rfl 0 rfl rfl ?_
      refine dn_getR C fd_X12_55 ha0 dX12_escapes_85 rfl ?_
      refine dn_bipush C dX12_escapes_88 ic_b_8 rfl ?_
      refine dn_iload_n C dX12_escapes_90 rfl 1 rfl rfl ?_
      refine dn_iadd C dX12_escapes_91 rfl ?_
      refine dn_iald C (kt_12_25 ha0) dX12_escapes_92 rfl (fun z13 => ?_)
      refine dn_aload_n C dX12_escapes_93 rfl 0 rfl rfl ?_
      refine dn_iload_n C dX12_escapes_94 rfl 3 rfl rfl ?_
      refine dn_callV_i (As := [.int x3]) (st := [.int z13, .int x2]) C (ok_M_nose (cx_g C) a0 ha0 x3 σ τ) mt_X12_nose mv_X12_nose lk_X12_279 (by decide) ha0 rfl ⟨Nat.zero_le _, Nat.zero_le _⟩ (Nat.le_of_ble_eq_true rfl) dX12_escapes_95 rfl rfl (fun z14 => ?_)
      refine dn_iadd C dX12_escapes_98 rfl ?_
      refine dn_aload_n C dX12_escapes_99 rfl 0 rfl rfl ?_
      refine dn_aload_n C dX12_escapes_100 rfl 0 rfl rfl ?_
      refine dn_getR C fd_X12_55 ha0 dX12_escapes_101 rfl ?_
      refine dn_bipush C dX12_escapes_104 ic_b_32 rfl ?_
      refine dn_iload_n C dX12_escapes_106 rfl 3 rfl rfl ?_
      refine dn_iadd C dX12_escapes_107 rfl ?_
      refine dn_iald C (kt_12_25 ha0) dX12_escapes_108 rfl (fun z15 => ?_)
      refine dn_callV_i (As := [.int z15]) (st := [.int (z13 + z14), .int x2]) C (ok_M_hide (cx_g C) a0 ha0 z15 σ τ) mt_X12_hide mv_X12_hide lk_X12_261 (by decide) ha0 rfl ⟨Nat.zero_le _, Nat.zero_le _⟩ (Nat.le_of_ble_eq_true rfl) dX12_escapes_109 rfl rfl (fun z16 => ?_)
      refine dn_jn (fun z => ∀ (t17 : Int32), dn_D G M 4 0 0 (cl_M G M (ci_ih τ)) 132 [(0, .ref (wd_b G + a0)), (1, .int a1), (3, .int x3)] [.int t17, .int x2] σ τ (z t17)) (fun t17 => ?_) (fun j20 hj20 => ?_)
      · refine dn_iand C dX12_escapes_132 rfl ?_
        refine dn_istore_n (lv0 := [(0, .ref (wd_b G + a0)), (1, .int a1), (3, .int x3)]) C dX12_escapes_133 rfl (by decide) rfl rfl (fun v2_18 => ?_)
        refine dn_iinc (lv0 := [(2, .int v2_18), (0, .ref (wd_b G + a0)), (1, .int a1)]) (v := x3 + 1) C dX12_escapes_134 3 rfl rfl (by decide) rfl rfl (fun v3_19 => ?_)
        refine dn_goto (t := 73) C dX12_escapes_137 (by decide) ?_
        refine dn_pick [2, 3, 1, 0] rfl ?_
        exact ih v2_18 v3_19
      · refine dn_icmp_le (t := 131) C dX12_escapes_112 (by decide) rfl ?_ ?_
        · refine dn_iconst C dX12_escapes_115 ic_i_1 rfl ?_
          refine dn_aload_n C dX12_escapes_116 rfl 0 rfl rfl ?_
          refine dn_getR C fd_X12_55 ha0 dX12_escapes_117 rfl ?_
          refine dn_bipush C dX12_escapes_120 ic_b_32 rfl ?_
          refine dn_iload_n C dX12_escapes_122 rfl 3 rfl rfl ?_
          refine dn_iadd C dX12_escapes_123 rfl ?_
          refine dn_iald C (kt_12_25 ha0) dX12_escapes_124 rfl (fun z21 => ?_)
          refine dn_ishl C dX12_escapes_125 rfl ?_
          refine dn_iconst C dX12_escapes_126 ic_i_m1 rfl ?_
          refine dn_ixor C dX12_escapes_127 rfl ?_
          refine dn_goto (t := 132) C dX12_escapes_128 (by decide) ?_
          refine dn_pick [0, 1, 3] rfl ?_
          exact hj20 (((1 : Int32) <<< (z21 &&& 31)) ^^^ (-1 : Int32))
        · refine dn_iconst C dX12_escapes_131 ic_i_m1 rfl ?_
          refine dn_pick [0, 1, 3] rfl ?_
          exact hj20 (-1 : Int32)
    · refine dn_pick [2] rfl ?_
      exact hk x2
set_option maxHeartbeats 4000000 in
set_option maxRecDepth 100000 in
theorem ok_M_escapes {G : wd_G} {l : Launch} (hN : gd_ok G)  (o : Nat) (ho : sh_kd o = 12) (p1 : Int32) (σ : hp_I) (τ : hp_L) : cl_C G l 3 yX12_escapes cX12_escapes 4 (some .int) [.ref (wd_b G + o), .int p1] σ τ (ci_ih τ) (fn_M_escapes o p1 σ) := by
  refine cl_of (lv0 := [(0, .ref (wd_b G + o)), (1, .int p1)]) (ci_ih τ) (by decide) (Nat.le_of_ble_eq_true rfl) rfl hN (fun M hM C => ?_)
  have C : cx_C G M RX12 cX12_escapes 4 3 (some .int) := C
  unfold fn_M_escapes
  refine dn_aload_n C dX12_escapes_0 rfl 0 rfl rfl ?_
  refine dn_iconst C dX12_escapes_1 ic_i_0 rfl ?_
  refine dn_putI C fp_X12_93 ho dX12_escapes_2 rfl (fun s1 => ?_)
  refine dn_aload_n C dX12_escapes_5 rfl 0 rfl rfl ?_
  refine dn_aload_n C dX12_escapes_6 rfl 0 rfl rfl ?_
  refine dn_iconst C dX12_escapes_7 ic_i_2 rfl ?_
  refine dn_iload_n C dX12_escapes_8 rfl 1 rfl rfl ?_
  refine dn_callV_i (As := [.int (2 : Int32), .int p1]) (st := [.ref (wd_b G + o)]) C (ok_M_isThing (cx_g C) o ho (2 : Int32) p1 s1 τ) mt_X12_isThing mv_X12_isThing lk_X12_336 (by decide) ho rfl ⟨Nat.zero_le _, Nat.zero_le _⟩ (Nat.le_of_ble_eq_true rfl) dX12_escapes_9 rfl rfl (fun z2 => ?_)
  refine dn_jn (fun z => ∀ (t3 : Int32), dn_D G M 4 0 0 (cl_M G M (ci_ih τ)) 20 [(0, .ref (wd_b G + o)), (1, .int p1)] [.int t3, .ref (wd_b G + o)] s1 τ (z t3)) (fun t3 => ?_) (fun j23 hj23 => ?_)
  · refine dn_iconst C dX12_escapes_20 ic_i_1 rfl ?_
    refine dn_iconst C dX12_escapes_21 ic_i_0 rfl ?_
    refine dn_callV_ih (As := [.int t3, .int (1 : Int32), .int (0 : Int32)]) (st := []) C (ok_M_bad (cx_g C) o ho t3 (1 : Int32) (0 : Int32) s1 τ) mt_X12_bad mv_X12_bad lk_X12_172 (by decide) ho rfl ⟨Nat.zero_le _, Nat.zero_le _⟩ (Nat.le_of_ble_eq_true rfl) dX12_escapes_22 rfl rfl (fun z4 s5 => ?_)
    refine dn_if_eq (t := 30) C dX12_escapes_25 (by decide) rfl ?_ ?_
    · refine dn_aload_n C dX12_escapes_30 rfl 0 rfl rfl ?_
      refine dn_getR C fd_X12_55 ho dX12_escapes_31 rfl ?_
      refine dn_iload_n C dX12_escapes_34 rfl 1 rfl rfl ?_
      refine dn_callS_i (As := [.ref (wd_b G + sh_rf o 25), .int p1]) (st := []) C (ok_M_lives (cx_g C) (sh_rf o 25) (kt_12_25 ho) p1 s5 τ) mt_X12_lives ms_X12_lives lk_X12_275 (by decide) rfl ⟨Nat.zero_le _, Nat.zero_le _⟩ (Nat.le_of_ble_eq_true rfl) dX12_escapes_35 rfl rfl (fun z6 => ?_)
      refine dn_if_ne (t := 43) C dX12_escapes_38 (by decide) rfl ?_ ?_
      · refine dn_iconst C dX12_escapes_41 ic_i_0 rfl ?_
        exact dn_iret C dX12_escapes_42 rfl
      · refine dn_aload_n C dX12_escapes_43 rfl 0 rfl rfl ?_
        refine dn_aload_n C dX12_escapes_44 rfl 0 rfl rfl ?_
        refine dn_getR C fd_X12_55 ho dX12_escapes_45 rfl ?_
        refine dn_aload_n C dX12_escapes_48 rfl 0 rfl rfl ?_
        refine dn_getR C fd_X12_55 ho dX12_escapes_49 rfl ?_
        refine dn_iconst C dX12_escapes_52 ic_i_0 rfl ?_
        refine dn_iload_n C dX12_escapes_53 rfl 1 rfl rfl ?_
        refine dn_iadd C dX12_escapes_54 rfl ?_
        refine dn_iald C (kt_12_25 ho) dX12_escapes_55 rfl (fun z7 => ?_)
        refine dn_callV_i (As := [.ref (wd_b G + sh_rf o 25), .int z7]) (st := []) C (ok_M_beside (cx_g C) o ho (sh_rf o 25) (kt_12_25 ho) z7 s5 τ) mt_X12_beside mv_X12_beside lk_X12_299 (by decide) ho rfl ⟨Nat.zero_le _, Nat.zero_le _⟩ (Nat.le_of_ble_eq_true rfl) dX12_escapes_56 rfl rfl (fun z8 => ?_)
        refine dn_iconst C dX12_escapes_59 ic_i_1 rfl ?_
        refine dn_aload_n C dX12_escapes_60 rfl 0 rfl rfl ?_
        refine dn_getR C fd_X12_55 ho dX12_escapes_61 rfl ?_
        refine dn_iconst C dX12_escapes_64 ic_i_0 rfl ?_
        refine dn_iload_n C dX12_escapes_65 rfl 1 rfl rfl ?_
        refine dn_iadd C dX12_escapes_66 rfl ?_
        refine dn_iald C (kt_12_25 ho) dX12_escapes_67 rfl (fun z9 => ?_)
        refine dn_ishl C dX12_escapes_68 rfl ?_
        refine dn_ior C dX12_escapes_69 rfl ?_
        refine dn_istore_n (lv0 := [(0, .ref (wd_b G + o)), (1, .int p1)]) C dX12_escapes_70 rfl (by decide) rfl rfl (fun v2_10 => ?_)
        refine dn_iconst C dX12_escapes_71 ic_i_0 rfl ?_
        refine dn_istore_n (lv0 := [(2, .int v2_10), (0, .ref (wd_b G + o)), (1, .int p1)]) C dX12_escapes_72 rfl (by decide) rfl rfl (fun v3_11 => ?_)
        refine dn_pick [2, 3, 1, 0] rfl ?_
        refine pf_M_escapes_L73  C  o ho p1 s5 τ _ (fun y_22 => ?_) FU v2_10 v3_11
        refine dn_iload_n C dX12_escapes_140 rfl 0 rfl rfl ?_
        exact dn_iret C dX12_escapes_141 rfl
    · refine dn_iconst C dX12_escapes_28 ic_i_0 rfl ?_
      exact dn_iret C dX12_escapes_29 rfl
  · refine dn_if_ne (t := 19) C dX12_escapes_12 (by decide) rfl ?_ ?_
    · refine dn_iconst C dX12_escapes_15 ic_i_1 rfl ?_
      refine dn_goto (t := 20) C dX12_escapes_16 (by decide) ?_
      exact hj23 (1 : Int32)
    · refine dn_iconst C dX12_escapes_19 ic_i_0 rfl ?_
      exact hj23 (0 : Int32)
def fn_M_farOf_L32  (a0 : Nat) (a2 : Int32) (a4 : Int32) (a5 : Int32) (σ : hp_I) (k : Int32 → Option (Int32)) : Nat → Int32 → Int32 → Option (Int32)
  | 0, _, _ => none
  | fu + 1, x3, x6 =>
    Option.bind (px_ald σ (sh_rf a0 12) (0 : Int32)) fun z7 =>
    if x6 < z7 then (
      Option.bind (fn_M_has a4 x6) fun z8 =>
      px_jn (fun (t9 : Int32) =>
        px_let (x3 ||| t9) fun v3_10 =>
        px_let (x6 + 1) fun v6_11 =>
        fn_M_farOf_L32 a0 a2 a4 a5 σ k fu v3_10 v6_11
      ) fun j12 =>
        if z8 = 0 then (
          j12 (0 : Int32)
        ) else (
          Option.bind (fn_M_beside a0 (sh_rf a0 25) x6 σ) fun z13 =>
          j12 z13
        )
    ) else (
      k x3
    )
def fn_M_farOf_L10  (a0 : Nat) (a2 : Int32) (σ : hp_I) (k : Int32 → Option (Int32)) : Nat → Int32 → Int32 → Int32 → Option (Int32)
  | 0, _, _, _ => none
  | fu + 1, x3, x4, x5 =>
    Option.bind (fn_M_has x3 a2) fun z4 =>
    if z4 = 0 then (
      if x3 = x4 then (
        some (-1 : Int32)
      ) else (
        px_let x3 fun v4_5 =>
        px_let (0 : Int32) fun v6_6 =>
        fn_M_farOf_L32 a0 a2 v4_5 x5 σ
          (fun (y_14 : Int32) =>
            px_let (x5 + 1) fun v5_15 =>
            fn_M_farOf_L10 a0 a2 σ k fu y_14 v4_5 v5_15
          )
          FU x3 v6_6
      )
    ) else (
      k x5
    )
def fn_M_farOf  (o : Nat) (p1 : Int32) (p2 : Int32) (σ : hp_I) : Option (Int32) :=
  px_let ((1 : Int32) <<< (p1 &&& 31)) fun v3_1 =>
  px_let (0 : Int32) fun v4_2 =>
  px_let (0 : Int32) fun v5_3 =>
  fn_M_farOf_L10 o p2 σ
    (fun (y_16 : Int32) =>
      some y_16
    )
    FU v3_1 v4_2 v5_3
set_option maxHeartbeats 4000000 in
set_option maxRecDepth 100000 in
theorem pf_M_farOf_L32 {G : wd_G} {M : wd_M}  (C : cx_C G M RX12 cX12_farOf 7 3 (some .int)) (a0 : Nat) (ha0 : sh_kd a0 = 12) (a2 : Int32) (a4 : Int32) (a5 : Int32) (σ : hp_I) (τ : hp_L) (k : Int32 → Option (Int32)) (hk : ∀ (y3 : Int32), dn_D G M 7 0 0 (cl_M G M (ci_i σ τ)) 76 [(0, .ref (wd_b G + a0)), (2, .int a2), (3, .int y3), (4, .int a4), (5, .int a5)] [] σ τ (k y3)) : ∀ (fu : Nat) (x3 : Int32) (x6 : Int32), dn_D G M 7 0 0 (cl_M G M (ci_i σ τ)) 32 [(0, .ref (wd_b G + a0)), (2, .int a2), (3, .int x3), (4, .int a4), (5, .int a5), (6, .int x6)] [] σ τ (fn_M_farOf_L32 a0 a2 a4 a5 σ k fu x3 x6) := by
  intro fu
  induction fu with
  | zero => exact fun x3 x6 => dn_none
  | succ fu ih =>
    intro x3 x6
    unfold fn_M_farOf_L32
    refine dn_iload C dX12_farOf_32 5 rfl rfl ?_
    refine dn_aload_n C dX12_farOf_34 rfl 0 rfl rfl ?_
    refine dn_getR C fd_X12_23 ha0 dX12_farOf_35 rfl ?_
    refine dn_iconst C dX12_farOf_38 ic_i_0 rfl ?_
    refine dn_iald C (kt_12_12 ha0) dX12_farOf_39 rfl (fun z7 => ?_)
    refine dn_icmp_ge (t := 76) C dX12_farOf_40 (by decide) rfl ?_ ?_
    · refine dn_iload_n C dX12_farOf_43 rfl 2 rfl rfl ?_
      refine dn_iload C dX12_farOf_44 3 rfl rfl ?_
      refine dn_iload C dX12_farOf_46 5 rfl rfl ?_
      refine dn_callS_i (As := [.int a4, .int x6]) (st := [.int x3]) C (ok_M_has (cx_g C) a4 x6 σ τ) mt_X12_has ms_X12_has lk_X12_251 (by decide) rfl ⟨Nat.zero_le _, Nat.zero_le _⟩ (Nat.le_of_ble_eq_true rfl) dX12_farOf_48 rfl rfl (fun z8 => ?_)
      refine dn_jn (fun z => ∀ (t9 : Int32), dn_D G M 7 0 0 (cl_M G M (ci_i σ τ)) 68 [(0, .ref (wd_b G + a0)), (2, .int a2), (4, .int a4), (5, .int a5), (6, .int x6)] [.int t9, .int x3] σ τ (z t9)) (fun t9 => ?_) (fun j12 hj12 => ?_)
      · refine dn_ior C dX12_farOf_68 rfl ?_
        refine dn_istore_n (lv0 := [(0, .ref (wd_b G + a0)), (2, .int a2), (4, .int a4), (5, .int a5), (6, .int x6)]) C dX12_farOf_69 rfl (by decide) rfl rfl (fun v3_10 => ?_)
        refine dn_iinc (lv0 := [(3, .int v3_10), (0, .ref (wd_b G + a0)), (2, .int a2), (4, .int a4), (5, .int a5)]) (v := x6 + 1) C dX12_farOf_70 5 rfl rfl (by decide) rfl rfl (fun v6_11 => ?_)
        refine dn_goto (t := 32) C dX12_farOf_73 (by decide) ?_
        refine dn_pick [2, 3, 1, 4, 5, 0] rfl ?_
        exact ih v3_10 v6_11
      · refine dn_if_eq (t := 67) C dX12_farOf_51 (by decide) rfl ?_ ?_
        · refine dn_iconst C dX12_farOf_67 ic_i_0 rfl ?_
          refine dn_pick [0, 1, 3, 4, 5] rfl ?_
          exact hj12 (0 : Int32)
        · refine dn_aload_n C dX12_farOf_54 rfl 0 rfl rfl ?_
          refine dn_aload_n C dX12_farOf_55 rfl 0 rfl rfl ?_
          refine dn_getR C fd_X12_55 ha0 dX12_farOf_56 rfl ?_
          refine dn_iload C dX12_farOf_59 5 rfl rfl ?_
          refine dn_callV_i (As := [.ref (wd_b G + sh_rf a0 25), .int x6]) (st := [.int x3]) C (ok_M_beside (cx_g C) a0 ha0 (sh_rf a0 25) (kt_12_25 ha0) x6 σ τ) mt_X12_beside mv_X12_beside lk_X12_299 (by decide) ha0 rfl ⟨Nat.zero_le _, Nat.zero_le _⟩ (Nat.le_of_ble_eq_true rfl) dX12_farOf_61 rfl rfl (fun z13 => ?_)
          refine dn_goto (t := 68) C dX12_farOf_64 (by decide) ?_
          refine dn_pick [0, 1, 3, 4, 5] rfl ?_
          exact hj12 z13
    · refine dn_pick [0, 1, 2, 3, 4] rfl ?_
      exact hk x3
set_option maxHeartbeats 4000000 in
set_option maxRecDepth 100000 in
theorem pf_M_farOf_L10 {G : wd_G} {M : wd_M}  (C : cx_C G M RX12 cX12_farOf 7 3 (some .int)) (a0 : Nat) (ha0 : sh_kd a0 = 12) (a2 : Int32) (σ : hp_I) (τ : hp_L) (k : Int32 → Option (Int32)) (hk : ∀ (y5 : Int32), dn_D G M 7 0 0 (cl_M G M (ci_i σ τ)) 82 [(5, .int y5)] [] σ τ (k y5)) : ∀ (fu : Nat) (x3 : Int32) (x4 : Int32) (x5 : Int32), dn_D G M 7 0 0 (cl_M G M (ci_i σ τ)) 10 [(0, .ref (wd_b G + a0)), (2, .int a2), (3, .int x3), (4, .int x4), (5, .int x5)] [] σ τ (fn_M_farOf_L10 a0 a2 σ k fu x3 x4 x5) := by
  intro fu
  induction fu with
  | zero => exact fun x3 x4 x5 => dn_none
  | succ fu ih =>
    intro x3 x4 x5
    unfold fn_M_farOf_L10
    refine dn_iload_n C dX12_farOf_10 rfl 2 rfl rfl ?_
    refine dn_iload_n C dX12_farOf_11 rfl 1 rfl rfl ?_
    refine dn_callS_i (As := [.int x3, .int a2]) (st := []) C (ok_M_has (cx_g C) x3 a2 σ τ) mt_X12_has ms_X12_has lk_X12_251 (by decide) rfl ⟨Nat.zero_le _, Nat.zero_le _⟩ (Nat.le_of_ble_eq_true rfl) dX12_farOf_12 rfl rfl (fun z4 => ?_)
    refine dn_if_ne (t := 82) C dX12_farOf_15 (by decide) rfl ?_ ?_
    · refine dn_iload_n C dX12_farOf_18 rfl 2 rfl rfl ?_
      refine dn_iload C dX12_farOf_19 3 rfl rfl ?_
      refine dn_icmp_ne (t := 26) C dX12_farOf_21 (by decide) rfl ?_ ?_
      · refine dn_iconst C dX12_farOf_24 ic_i_m1 rfl ?_
        exact dn_iret C dX12_farOf_25 rfl
      · refine dn_iload_n C dX12_farOf_26 rfl 2 rfl rfl ?_
        refine dn_istore (lv0 := [(0, .ref (wd_b G + a0)), (2, .int a2), (3, .int x3), (5, .int x5)]) C dX12_farOf_27 (by decide) rfl rfl (fun v4_5 => ?_)
        refine dn_iconst C dX12_farOf_29 ic_i_0 rfl ?_
        refine dn_istore (lv0 := [(4, .int v4_5), (0, .ref (wd_b G + a0)), (2, .int a2), (3, .int x3), (5, .int x5)]) C dX12_farOf_30 (by decide) rfl rfl (fun v6_6 => ?_)
        refine dn_pick [2, 3, 4, 1, 5, 0] rfl ?_
        refine pf_M_farOf_L32  C  a0 ha0 a2 v4_5 x5 σ τ _ (fun y_14 => ?_) FU x3 v6_6
        refine dn_iinc (lv0 := [(0, .ref (wd_b G + a0)), (2, .int a2), (3, .int y_14), (4, .int v4_5)]) (v := x5 + 1) C dX12_farOf_76 4 rfl rfl (by decide) rfl rfl (fun v5_15 => ?_)
        refine dn_goto (t := 10) C dX12_farOf_79 (by decide) ?_
        refine dn_pick [1, 2, 3, 4, 0] rfl ?_
        exact ih y_14 v4_5 v5_15
    · refine dn_pick [4] rfl ?_
      exact hk x5
set_option maxHeartbeats 4000000 in
set_option maxRecDepth 100000 in
theorem ok_M_farOf {G : wd_G} {l : Launch} (hN : gd_ok G)  (o : Nat) (ho : sh_kd o = 12) (p1 : Int32) (p2 : Int32) (σ : hp_I) (τ : hp_L) : cl_C G l 3 yX12_farOf cX12_farOf 7 (some .int) [.ref (wd_b G + o), .int p1, .int p2] σ τ (ci_i σ τ) (fn_M_farOf o p1 p2 σ) := by
  refine cl_of (lv0 := [(0, .ref (wd_b G + o)), (1, .int p1), (2, .int p2)]) (ci_i σ τ) (by decide) (Nat.le_of_ble_eq_true rfl) rfl hN (fun M hM C => ?_)
  have C : cx_C G M RX12 cX12_farOf 7 3 (some .int) := C
  unfold fn_M_farOf
  refine dn_iconst C dX12_farOf_0 ic_i_1 rfl ?_
  refine dn_iload_n C dX12_farOf_1 rfl 1 rfl rfl ?_
  refine dn_ishl C dX12_farOf_2 rfl ?_
  refine dn_istore_n (lv0 := [(0, .ref (wd_b G + o)), (1, .int p1), (2, .int p2)]) C dX12_farOf_3 rfl (by decide) rfl rfl (fun v3_1 => ?_)
  refine dn_iconst C dX12_farOf_4 ic_i_0 rfl ?_
  refine dn_istore (lv0 := [(3, .int v3_1), (0, .ref (wd_b G + o)), (1, .int p1), (2, .int p2)]) C dX12_farOf_5 (by decide) rfl rfl (fun v4_2 => ?_)
  refine dn_iconst C dX12_farOf_7 ic_i_0 rfl ?_
  refine dn_istore (lv0 := [(4, .int v4_2), (3, .int v3_1), (0, .ref (wd_b G + o)), (1, .int p1), (2, .int p2)]) C dX12_farOf_8 (by decide) rfl rfl (fun v5_3 => ?_)
  refine dn_pick [3, 5, 2, 1, 0] rfl ?_
  refine pf_M_farOf_L10  C  o ho p2 σ τ _ (fun y_16 => ?_) FU v3_1 v4_2 v5_3
  refine dn_iload C dX12_farOf_82 0 rfl rfl ?_
  exact dn_iret C dX12_farOf_84 rfl
def fn_M_givenBy_L5  (a0 : Nat) (a1 : Int32) (a2 : Int32) (σ : hp_I) (k : Int32 → Option (Int32)) : Nat → Int32 → Int32 → Option (Int32)
  | 0, _, _ => none
  | fu + 1, x3, x4 =>
    Option.bind (px_ald σ (sh_rf a0 12) (2 : Int32)) fun z3 =>
    if x4 < z3 then (
      Option.bind (fn_M_has a1 x4) fun z4 =>
      px_jn (fun (t5 : Int32) =>
        px_let (x3 + t5) fun v3_6 =>
        px_let (x4 + 1) fun v4_7 =>
        fn_M_givenBy_L5 a0 a1 a2 σ k fu v3_6 v4_7
      ) fun j8 =>
        if z4 = 0 then (
          j8 (0 : Int32)
        ) else (
          Option.bind (fn_M_sizeNow a0 x4 σ) fun z9 =>
          Option.bind (fn_M_less a2 z9) fun z10 =>
          j8 z10
        )
    ) else (
      k x3
    )
def fn_M_givenBy  (o : Nat) (p1 : Int32) (p2 : Int32) (σ : hp_I) : Option (Int32) :=
  px_let (0 : Int32) fun v3_1 =>
  px_let (0 : Int32) fun v4_2 =>
  fn_M_givenBy_L5 o p1 p2 σ
    (fun (y_11 : Int32) =>
      some y_11
    )
    FU v3_1 v4_2
set_option maxHeartbeats 4000000 in
set_option maxRecDepth 100000 in
theorem pf_M_givenBy_L5 {G : wd_G} {M : wd_M}  (C : cx_C G M RX12 cX12_givenBy 5 3 (some .int)) (a0 : Nat) (ha0 : sh_kd a0 = 12) (a1 : Int32) (a2 : Int32) (σ : hp_I) (τ : hp_L) (k : Int32 → Option (Int32)) (hk : ∀ (y3 : Int32), dn_D G M 5 0 0 (cl_M G M (ci_i σ τ)) 48 [(3, .int y3)] [] σ τ (k y3)) : ∀ (fu : Nat) (x3 : Int32) (x4 : Int32), dn_D G M 5 0 0 (cl_M G M (ci_i σ τ)) 5 [(0, .ref (wd_b G + a0)), (1, .int a1), (2, .int a2), (3, .int x3), (4, .int x4)] [] σ τ (fn_M_givenBy_L5 a0 a1 a2 σ k fu x3 x4) := by
  intro fu
  induction fu with
  | zero => exact fun x3 x4 => dn_none
  | succ fu ih =>
    intro x3 x4
    unfold fn_M_givenBy_L5
    refine dn_iload C dX12_givenBy_5 4 rfl rfl ?_
    refine dn_aload_n C dX12_givenBy_7 rfl 0 rfl rfl ?_
    refine dn_getR C fd_X12_23 ha0 dX12_givenBy_8 rfl ?_
    refine dn_iconst C dX12_givenBy_11 ic_i_2 rfl ?_
    refine dn_iald C (kt_12_12 ha0) dX12_givenBy_12 rfl (fun z3 => ?_)
    refine dn_icmp_ge (t := 48) C dX12_givenBy_13 (by decide) rfl ?_ ?_
    · refine dn_iload_n C dX12_givenBy_16 rfl 3 rfl rfl ?_
      refine dn_iload_n C dX12_givenBy_17 rfl 1 rfl rfl ?_
      refine dn_iload C dX12_givenBy_18 4 rfl rfl ?_
      refine dn_callS_i (As := [.int a1, .int x4]) (st := [.int x3]) C (ok_M_has (cx_g C) a1 x4 σ τ) mt_X12_has ms_X12_has lk_X12_251 (by decide) rfl ⟨Nat.zero_le _, Nat.zero_le _⟩ (Nat.le_of_ble_eq_true rfl) dX12_givenBy_20 rfl rfl (fun z4 => ?_)
      refine dn_jn (fun z => ∀ (t5 : Int32), dn_D G M 5 0 0 (cl_M G M (ci_i σ τ)) 40 [(0, .ref (wd_b G + a0)), (1, .int a1), (2, .int a2), (4, .int x4)] [.int t5, .int x3] σ τ (z t5)) (fun t5 => ?_) (fun j8 hj8 => ?_)
      · refine dn_iadd C dX12_givenBy_40 rfl ?_
        refine dn_istore_n (lv0 := [(0, .ref (wd_b G + a0)), (1, .int a1), (2, .int a2), (4, .int x4)]) C dX12_givenBy_41 rfl (by decide) rfl rfl (fun v3_6 => ?_)
        refine dn_iinc (lv0 := [(3, .int v3_6), (0, .ref (wd_b G + a0)), (1, .int a1), (2, .int a2)]) (v := x4 + 1) C dX12_givenBy_42 4 rfl rfl (by decide) rfl rfl (fun v4_7 => ?_)
        refine dn_goto (t := 5) C dX12_givenBy_45 (by decide) ?_
        refine dn_pick [2, 3, 4, 1, 0] rfl ?_
        exact ih v3_6 v4_7
      · refine dn_if_eq (t := 39) C dX12_givenBy_23 (by decide) rfl ?_ ?_
        · refine dn_iconst C dX12_givenBy_39 ic_i_0 rfl ?_
          refine dn_pick [0, 1, 2, 4] rfl ?_
          exact hj8 (0 : Int32)
        · refine dn_iload_n C dX12_givenBy_26 rfl 2 rfl rfl ?_
          refine dn_aload_n C dX12_givenBy_27 rfl 0 rfl rfl ?_
          refine dn_iload C dX12_givenBy_28 4 rfl rfl ?_
          refine dn_callV_i (As := [.int x4]) (st := [.int a2, .int x3]) C (ok_M_sizeNow (cx_g C) a0 ha0 x4 σ τ) mt_X12_sizeNow mv_X12_sizeNow lk_X12_379 (by decide) ha0 rfl ⟨Nat.zero_le _, Nat.zero_le _⟩ (Nat.le_of_ble_eq_true rfl) dX12_givenBy_30 rfl rfl (fun z9 => ?_)
          refine dn_callS_i (As := [.int a2, .int z9]) (st := [.int x3]) C (ok_M_less (cx_g C) a2 z9 σ τ) mt_X12_less ms_X12_less lk_X12_232 (by decide) rfl ⟨Nat.zero_le _, Nat.zero_le _⟩ (Nat.le_of_ble_eq_true rfl) dX12_givenBy_33 rfl rfl (fun z10 => ?_)
          refine dn_goto (t := 40) C dX12_givenBy_36 (by decide) ?_
          refine dn_pick [0, 1, 2, 4] rfl ?_
          exact hj8 z10
    · refine dn_pick [3] rfl ?_
      exact hk x3
set_option maxHeartbeats 4000000 in
set_option maxRecDepth 100000 in
theorem ok_M_givenBy {G : wd_G} {l : Launch} (hN : gd_ok G)  (o : Nat) (ho : sh_kd o = 12) (p1 : Int32) (p2 : Int32) (σ : hp_I) (τ : hp_L) : cl_C G l 3 yX12_givenBy cX12_givenBy 5 (some .int) [.ref (wd_b G + o), .int p1, .int p2] σ τ (ci_i σ τ) (fn_M_givenBy o p1 p2 σ) := by
  refine cl_of (lv0 := [(0, .ref (wd_b G + o)), (1, .int p1), (2, .int p2)]) (ci_i σ τ) (by decide) (Nat.le_of_ble_eq_true rfl) rfl hN (fun M hM C => ?_)
  have C : cx_C G M RX12 cX12_givenBy 5 3 (some .int) := C
  unfold fn_M_givenBy
  refine dn_iconst C dX12_givenBy_0 ic_i_0 rfl ?_
  refine dn_istore_n (lv0 := [(0, .ref (wd_b G + o)), (1, .int p1), (2, .int p2)]) C dX12_givenBy_1 rfl (by decide) rfl rfl (fun v3_1 => ?_)
  refine dn_iconst C dX12_givenBy_2 ic_i_0 rfl ?_
  refine dn_istore (lv0 := [(3, .int v3_1), (0, .ref (wd_b G + o)), (1, .int p1), (2, .int p2)]) C dX12_givenBy_3 (by decide) rfl rfl (fun v4_2 => ?_)
  refine dn_pick [2, 3, 4, 1, 0] rfl ?_
  refine pf_M_givenBy_L5  C  o ho p1 p2 σ τ _ (fun y_11 => ?_) FU v3_1 v4_2
  refine dn_iload_n C dX12_givenBy_48 rfl 0 rfl rfl ?_
  exact dn_iret C dX12_givenBy_49 rfl
def fn_M_goesTo  (o : Nat) (p1 : Nat) (p2 : Int32) (p3 : Int32) (σ : hp_I) : Option (Int32 × hp_I) :=
  Option.bind (px_ald σ p1 p2) fun z1 =>
  Option.bind (fn_M_beside o p1 z1 σ) fun z2 =>
  Option.bind (fn_M_has z2 p3) fun z3 =>
  px_jn (fun (t4 : Int32) (s5 : hp_I) =>
    px_z t4 (t4, s5)
  ) fun j6 =>
    px_jn (fun (s7 : hp_I) =>
      j6 (0 : Int32) s7
    ) fun j8 =>
      if z3 = 0 then (
        j8 σ
      ) else (
        px_b2 (fn_M_becomes p1 p2 p3 σ) fun z9 s10 =>
        if z9 = 0 then (
          j8 s10
        ) else (
          j6 (1 : Int32) s10
        )
      )
set_option maxHeartbeats 4000000 in
set_option maxRecDepth 100000 in
theorem ok_M_goesTo {G : wd_G} {l : Launch} (hN : gd_ok G)  (o : Nat) (ho : sh_kd o = 12) (p1 : Nat) (hp1 : sh_kd p1 = 13) (p2 : Int32) (p3 : Int32) (σ : hp_I) (τ : hp_L) : cl_C G l 3 yX12_goesTo cX12_goesTo 4 (some .boolean) [.ref (wd_b G + o), .ref (wd_b G + p1), .int p2, .int p3] σ τ (ci_ih τ) (fn_M_goesTo o p1 p2 p3 σ) := by
  refine cl_of (lv0 := [(0, .ref (wd_b G + o)), (1, .ref (wd_b G + p1)), (2, .int p2), (3, .int p3)]) (ci_ih τ) (by decide) (Nat.le_of_ble_eq_true rfl) rfl hN (fun M hM C => ?_)
  have C : cx_C G M RX12 cX12_goesTo 4 3 (some .boolean) := C
  unfold fn_M_goesTo
  refine dn_aload_n C dX12_goesTo_0 rfl 0 rfl rfl ?_
  refine dn_aload_n C dX12_goesTo_1 rfl 1 rfl rfl ?_
  refine dn_aload_n C dX12_goesTo_2 rfl 1 rfl rfl ?_
  refine dn_iload_n C dX12_goesTo_3 rfl 2 rfl rfl ?_
  refine dn_iald C hp1 dX12_goesTo_4 rfl (fun z1 => ?_)
  refine dn_callV_i (As := [.ref (wd_b G + p1), .int z1]) (st := []) C (ok_M_beside (cx_g C) o ho p1 hp1 z1 σ τ) mt_X12_beside mv_X12_beside lk_X12_299 (by decide) ho rfl ⟨Nat.zero_le _, Nat.zero_le _⟩ (Nat.le_of_ble_eq_true rfl) dX12_goesTo_5 rfl rfl (fun z2 => ?_)
  refine dn_iload_n C dX12_goesTo_8 rfl 3 rfl rfl ?_
  refine dn_callS_i (As := [.int z2, .int p3]) (st := []) C (ok_M_has (cx_g C) z2 p3 σ τ) mt_X12_has ms_X12_has lk_X12_251 (by decide) rfl ⟨Nat.zero_le _, Nat.zero_le _⟩ (Nat.le_of_ble_eq_true rfl) dX12_goesTo_9 rfl rfl (fun z3 => ?_)
  refine dn_jn (fun z => ∀ (t4 : Int32) (s5 : hp_I), dn_D G M 4 0 0 (cl_M G M (ci_ih τ)) 29 [] [.int t4] s5 τ (z t4 s5)) (fun t4 s5 => ?_) (fun j6 hj6 => ?_)
  · exact dn_zret C dX12_goesTo_29 rfl
  · refine dn_jn (fun z => ∀ (s7 : hp_I), dn_D G M 4 0 0 (cl_M G M (ci_ih τ)) 28 [] [] s7 τ (z s7)) (fun s7 => ?_) (fun j8 hj8 => ?_)
    · refine dn_iconst C dX12_goesTo_28 ic_i_0 rfl ?_
      exact hj6 (0 : Int32) s7
    · refine dn_if_eq (t := 28) C dX12_goesTo_12 (by decide) rfl ?_ ?_
      · refine dn_pick [] rfl ?_
        exact hj8 σ
      · refine dn_aload_n C dX12_goesTo_15 rfl 1 rfl rfl ?_
        refine dn_iload_n C dX12_goesTo_16 rfl 2 rfl rfl ?_
        refine dn_iload_n C dX12_goesTo_17 rfl 3 rfl rfl ?_
        refine dn_callS_ih (As := [.ref (wd_b G + p1), .int p2, .int p3]) (st := []) C (ok_M_becomes (cx_g C) p1 hp1 p2 p3 σ τ) mt_X12_becomes ms_X12_becomes lk_X12_302 (by decide) rfl ⟨Nat.zero_le _, Nat.zero_le _⟩ (Nat.le_of_ble_eq_true rfl) dX12_goesTo_18 rfl rfl (fun z9 s10 => ?_)
        refine dn_if_eq (t := 28) C dX12_goesTo_21 (by decide) rfl ?_ ?_
        · refine dn_pick [] rfl ?_
          exact hj8 s10
        · refine dn_iconst C dX12_goesTo_24 ic_i_1 rfl ?_
          refine dn_goto (t := 29) C dX12_goesTo_25 (by decide) ?_
          refine dn_pick [] rfl ?_
          exact hj6 (1 : Int32) s10
def fn_M_isWord  (o : Nat) (p1 : Int32) (p2 : Int32) (p3 : Int32) (p4 : Int32) (p5 : Int32) (p6 : Int32) (σ : hp_I) : Option (Int32 × hp_I) :=
  px_jn (fun (t1 : Int32) (s2 : hp_I) =>
    px_z t1 (t1, s2)
  ) fun j3 =>
    px_jn (fun (s4 : hp_I) =>
      j3 (0 : Int32) s4
    ) fun j5 =>
      if (σ o 5) = 0 then (
        px_b2 (fn_M_wordHere o σ) fun z6 s7 =>
        Option.bind (fn_M_six p1 p2 p3 p4 p5 p6) fun z8 =>
        if z6 = z8 then (
          j3 (1 : Int32) s7
        ) else (
          j5 s7
        )
      ) else (
        j5 σ
      )
set_option maxHeartbeats 4000000 in
set_option maxRecDepth 100000 in
theorem ok_M_isWord {G : wd_G} {l : Launch} (hN : gd_ok G)  (o : Nat) (ho : sh_kd o = 12) (p1 : Int32) (p2 : Int32) (p3 : Int32) (p4 : Int32) (p5 : Int32) (p6 : Int32) (σ : hp_I) (τ : hp_L) : cl_C G l 3 yX12_isWord cX12_isWord 7 (some .boolean) [.ref (wd_b G + o), .int p1, .int p2, .int p3, .int p4, .int p5, .int p6] σ τ (ci_ih τ) (fn_M_isWord o p1 p2 p3 p4 p5 p6 σ) := by
  refine cl_of (lv0 := [(0, .ref (wd_b G + o)), (1, .int p1), (2, .int p2), (3, .int p3), (4, .int p4), (5, .int p5), (6, .int p6)]) (ci_ih τ) (by decide) (Nat.le_of_ble_eq_true rfl) rfl hN (fun M hM C => ?_)
  have C : cx_C G M RX12 cX12_isWord 7 3 (some .boolean) := C
  unfold fn_M_isWord
  refine dn_aload_n C dX12_isWord_0 rfl 0 rfl rfl ?_
  refine dn_getI C fd_X12_109 ho dX12_isWord_1 rfl ?_
  refine dn_jn (fun z => ∀ (t1 : Int32) (s2 : hp_I), dn_D G M 7 0 0 (cl_M G M (ci_ih τ)) 31 [] [.int t1] s2 τ (z t1 s2)) (fun t1 s2 => ?_) (fun j3 hj3 => ?_)
  · exact dn_zret C dX12_isWord_31 rfl
  · refine dn_jn (fun z => ∀ (s4 : hp_I), dn_D G M 7 0 0 (cl_M G M (ci_ih τ)) 30 [] [] s4 τ (z s4)) (fun s4 => ?_) (fun j5 hj5 => ?_)
    · refine dn_iconst C dX12_isWord_30 ic_i_0 rfl ?_
      exact hj3 (0 : Int32) s4
    · refine dn_if_ne (t := 30) C dX12_isWord_4 (by decide) rfl ?_ ?_
      · refine dn_aload_n C dX12_isWord_7 rfl 0 rfl rfl ?_
        refine dn_callV_ih (As := []) (st := []) C (ok_M_wordHere (cx_g C) o ho σ τ) mt_X12_wordHere mv_X12_wordHere lk_X12_134 (by decide) ho rfl ⟨Nat.zero_le _, Nat.zero_le _⟩ (Nat.le_of_ble_eq_true rfl) dX12_isWord_8 rfl rfl (fun z6 s7 => ?_)
        refine dn_iload_n C dX12_isWord_11 rfl 1 rfl rfl ?_
        refine dn_iload_n C dX12_isWord_12 rfl 2 rfl rfl ?_
        refine dn_iload_n C dX12_isWord_13 rfl 3 rfl rfl ?_
        refine dn_iload C dX12_isWord_14 4 rfl rfl ?_
        refine dn_iload C dX12_isWord_16 5 rfl rfl ?_
        refine dn_iload C dX12_isWord_18 6 rfl rfl ?_
        refine dn_callS_i (As := [.int p1, .int p2, .int p3, .int p4, .int p5, .int p6]) (st := [.int z6]) C (ok_M_six (cx_g C) p1 p2 p3 p4 p5 p6 s7 τ) mt_X12_six ms_X12_six lk_X12_138 (by decide) rfl ⟨Nat.zero_le _, Nat.zero_le _⟩ (Nat.le_of_ble_eq_true rfl) dX12_isWord_20 rfl rfl (fun z8 => ?_)
        refine dn_icmp_ne (t := 30) C dX12_isWord_23 (by decide) rfl ?_ ?_
        · refine dn_iconst C dX12_isWord_26 ic_i_1 rfl ?_
          refine dn_goto (t := 31) C dX12_isWord_27 (by decide) ?_
          refine dn_pick [] rfl ?_
          exact hj3 (1 : Int32) s7
        · refine dn_pick [] rfl ?_
          exact hj5 s7
      · refine dn_pick [] rfl ?_
        exact hj5 σ
def fn_M_moreBy  (o : Nat) (p1 : Int32) (p2 : Int32) (p3 : Int32) (p4 : Int32) (p5 : Int32) (p6 : Int32) (p7 : Int32) (σ : hp_I) : Option (Int32 × hp_I) :=
  Option.bind (px_ast σ (sh_rf o 22) (0 : Int32) p1) fun s1 =>
  Option.bind (px_ast s1 (sh_rf o 22) (1 : Int32) p2) fun s2 =>
  Option.bind (px_ast s2 (sh_rf o 22) (2 : Int32) p3) fun s3 =>
  Option.bind (px_ast s3 (sh_rf o 22) (3 : Int32) p4) fun s4 =>
  Option.bind (px_ast s4 (sh_rf o 22) (4 : Int32) p5) fun s5 =>
  Option.bind (px_ast s5 (sh_rf o 22) (5 : Int32) p6) fun s6 =>
  Option.bind (px_ast s6 (sh_rf o 22) (6 : Int32) p7) fun s7 =>
  px_b2 (fn_M_byLaw o s7) fun z8 s9 =>
  some (z8, s9)
set_option maxHeartbeats 4000000 in
set_option maxRecDepth 100000 in
theorem ok_M_moreBy {G : wd_G} {l : Launch} (hN : gd_ok G)  (o : Nat) (ho : sh_kd o = 12) (p1 : Int32) (p2 : Int32) (p3 : Int32) (p4 : Int32) (p5 : Int32) (p6 : Int32) (p7 : Int32) (σ : hp_I) (τ : hp_L) : cl_C G l 3 yX12_moreBy cX12_moreBy 8 (some .int) [.ref (wd_b G + o), .int p1, .int p2, .int p3, .int p4, .int p5, .int p6, .int p7] σ τ (ci_ih τ) (fn_M_moreBy o p1 p2 p3 p4 p5 p6 p7 σ) := by
  refine cl_of (lv0 := [(0, .ref (wd_b G + o)), (1, .int p1), (2, .int p2), (3, .int p3), (4, .int p4), (5, .int p5), (6, .int p6), (7, .int p7)]) (ci_ih τ) (by decide) (Nat.le_of_ble_eq_true rfl) rfl hN (fun M hM C => ?_)
  have C : cx_C G M RX12 cX12_moreBy 8 3 (some .int) := C
  unfold fn_M_moreBy
  refine dn_aload_n C dX12_moreBy_0 rfl 0 rfl rfl ?_
  refine dn_getR C fd_X12_49 ho dX12_moreBy_1 rfl ?_
  refine dn_iconst C dX12_moreBy_4 ic_i_0 rfl ?_
  refine dn_iload_n C dX12_moreBy_5 rfl 1 rfl rfl ?_
  refine dn_iast C (kt_12_22 ho) dX12_moreBy_6 rfl (fun s1 => ?_)
  refine dn_aload_n C dX12_moreBy_7 rfl 0 rfl rfl ?_
  refine dn_getR C fd_X12_49 ho dX12_moreBy_8 rfl ?_
  refine dn_iconst C dX12_moreBy_11 ic_i_1 rfl ?_
  refine dn_iload_n C dX12_moreBy_12 rfl 2 rfl rfl ?_
  refine dn_iast C (kt_12_22 ho) dX12_moreBy_13 rfl (fun s2 => ?_)
  refine dn_aload_n C dX12_moreBy_14 rfl 0 rfl rfl ?_
  refine dn_getR C fd_X12_49 ho dX12_moreBy_15 rfl ?_
  refine dn_iconst C dX12_moreBy_18 ic_i_2 rfl ?_
  refine dn_iload_n C dX12_moreBy_19 rfl 3 rfl rfl ?_
  refine dn_iast C (kt_12_22 ho) dX12_moreBy_20 rfl (fun s3 => ?_)
  refine dn_aload_n C dX12_moreBy_21 rfl 0 rfl rfl ?_
  refine dn_getR C fd_X12_49 ho dX12_moreBy_22 rfl ?_
  refine dn_iconst C dX12_moreBy_25 ic_i_3 rfl ?_
  refine dn_iload C dX12_moreBy_26 4 rfl rfl ?_
  refine dn_iast C (kt_12_22 ho) dX12_moreBy_28 rfl (fun s4 => ?_)
  refine dn_aload_n C dX12_moreBy_29 rfl 0 rfl rfl ?_
  refine dn_getR C fd_X12_49 ho dX12_moreBy_30 rfl ?_
  refine dn_iconst C dX12_moreBy_33 ic_i_4 rfl ?_
  refine dn_iload C dX12_moreBy_34 5 rfl rfl ?_
  refine dn_iast C (kt_12_22 ho) dX12_moreBy_36 rfl (fun s5 => ?_)
  refine dn_aload_n C dX12_moreBy_37 rfl 0 rfl rfl ?_
  refine dn_getR C fd_X12_49 ho dX12_moreBy_38 rfl ?_
  refine dn_iconst C dX12_moreBy_41 ic_i_5 rfl ?_
  refine dn_iload C dX12_moreBy_42 6 rfl rfl ?_
  refine dn_iast C (kt_12_22 ho) dX12_moreBy_44 rfl (fun s6 => ?_)
  refine dn_aload_n C dX12_moreBy_45 rfl 0 rfl rfl ?_
  refine dn_getR C fd_X12_49 ho dX12_moreBy_46 rfl ?_
  refine dn_bipush C dX12_moreBy_49 ic_b_6 rfl ?_
  refine dn_iload C dX12_moreBy_51 7 rfl rfl ?_
  refine dn_iast C (kt_12_22 ho) dX12_moreBy_53 rfl (fun s7 => ?_)
  refine dn_aload_n C dX12_moreBy_54 rfl 0 rfl rfl ?_
  refine dn_callV_ih (As := []) (st := []) C (ok_M_byLaw (cx_g C) o ho s7 τ) mt_X12_byLaw mv_X12_byLaw lk_X12_255 (by decide) ho rfl ⟨Nat.zero_le _, Nat.zero_le _⟩ (Nat.le_of_ble_eq_true rfl) dX12_moreBy_55 rfl rfl (fun z8 s9 => ?_)
  exact dn_iret C dX12_moreBy_58 rfl
def fn_M_room_L58  (a0 : Nat) (a1 : Int32) (a2 : Int32) (σ : hp_I) (k : Int32 → Option (Int32 × hp_I)) : Nat → Int32 → Int32 → Option (Int32 × hp_I)
  | 0, _, _ => none
  | fu + 1, x3, x4 =>
    Option.bind (px_ald σ (sh_rf a0 12) (2 : Int32)) fun z14 =>
    if x4 < z14 then (
      Option.bind (fn_M_lives (sh_rf a0 25) x4 σ) fun z15 =>
      px_jn (fun (t16 : Int32) =>
        px_let (x3 ||| t16) fun v3_17 =>
        px_let (x4 + 1) fun v4_18 =>
        fn_M_room_L58 a0 a1 a2 σ k fu v3_17 v4_18
      ) fun j19 =>
        px_jn (
          j19 (0 : Int32)
        ) fun j20 =>
          if z15 = 0 then (
            j20
          ) else (
            Option.bind (px_ald σ (sh_rf a0 25) ((0 : Int32) + x4)) fun z21 =>
            if z21 = a1 then (
              j19 ((1 : Int32) <<< (x4 &&& 31))
            ) else (
              j20
            )
          )
    ) else (
      k x3
    )
def fn_M_room  (o : Nat) (p1 : Int32) (p2 : Int32) (σ : hp_I) : Option (Int32 × hp_I) :=
  px_let (hp_s σ o 0 (0 : Int32)) fun s1 =>
  Option.bind (fn_M_isThing o (0 : Int32) p1 s1) fun z2 =>
  px_jn (fun (t3 : Int32) =>
    px_b2 (fn_M_bad o t3 (1 : Int32) (0 : Int32) s1) fun z4 s5 =>
    px_jn (fun (s6 : hp_I) =>
      some ((0 : Int32), s6)
    ) fun j7 =>
      if z4 = 0 then (
        Option.bind (fn_M_in p2 (0 : Int32) (3 : Int32)) fun z8 =>
        px_jn (fun (t9 : Int32) =>
          px_b2 (fn_M_bad o t9 (2 : Int32) (1 : Int32) s5) fun z10 s11 =>
          if z10 = 0 then (
            px_let (0 : Int32) fun v3_12 =>
            px_let (0 : Int32) fun v4_13 =>
            fn_M_room_L58 o p1 p2 s11
              (fun (y_22 : Int32) =>
                px_jn (fun (t23 : Int32) =>
                  some (t23, s11)
                ) fun j24 =>
                  if p2 = 0 then (
                    Option.bind (fn_M_hide o p1 s11) fun z25 =>
                    j24 z25
                  ) else (
                    if p2 = (1 : Int32) then (
                      j24 y_22
                    ) else (
                      if p2 = (2 : Int32) then (
                        Option.bind (fn_M_catsIn o (sh_rf o 25) p1 s11) fun z26 =>
                        j24 z26
                      ) else (
                        Option.bind (fn_M_beside o (sh_rf o 25) p1 s11) fun z27 =>
                        j24 z27
                      )
                    )
                  )
              )
              FU v3_12 v4_13
          ) else (
            j7 s11
          )
        ) fun j28 =>
          if z8 = 0 then (
            j28 (1 : Int32)
          ) else (
            j28 (0 : Int32)
          )
      ) else (
        j7 s5
      )
  ) fun j29 =>
    if z2 = 0 then (
      j29 (1 : Int32)
    ) else (
      j29 (0 : Int32)
    )
set_option maxHeartbeats 4000000 in
set_option maxRecDepth 100000 in
theorem pf_M_room_L58 {G : wd_G} {M : wd_M}  (C : cx_C G M RX12 cX12_room 5 3 (some .int)) (a0 : Nat) (ha0 : sh_kd a0 = 12) (a1 : Int32) (a2 : Int32) (σ : hp_I) (τ : hp_L) (k : Int32 → Option (Int32 × hp_I)) (hk : ∀ (y3 : Int32), dn_D G M 5 0 0 (cl_M G M (ci_ih τ)) 111 [(0, .ref (wd_b G + a0)), (1, .int a1), (2, .int a2), (3, .int y3)] [] σ τ (k y3)) : ∀ (fu : Nat) (x3 : Int32) (x4 : Int32), dn_D G M 5 0 0 (cl_M G M (ci_ih τ)) 58 [(0, .ref (wd_b G + a0)), (1, .int a1), (2, .int a2), (3, .int x3), (4, .int x4)] [] σ τ (fn_M_room_L58 a0 a1 a2 σ k fu x3 x4) := by
  intro fu
  induction fu with
  | zero => exact fun x3 x4 => dn_none
  | succ fu ih =>
    intro x3 x4
    unfold fn_M_room_L58
    refine dn_iload C dX12_room_58 4 rfl rfl ?_
    refine dn_aload_n C dX12_room_60 rfl 0 rfl rfl ?_
    refine dn_getR C fd_X12_23 ha0 dX12_room_61 rfl ?_
    refine dn_iconst C dX12_room_64 ic_i_2 rfl ?_
    refine dn_iald C (kt_12_12 ha0) dX12_room_65 rfl (fun z14 => ?_)
    refine dn_icmp_ge (t := 111) C dX12_room_66 (by decide) rfl ?_ ?_
    · refine dn_iload_n C dX12_room_69 rfl 3 rfl rfl ?_
      refine dn_aload_n C dX12_room_70 rfl 0 rfl rfl ?_
      refine dn_getR C fd_X12_55 ha0 dX12_room_71 rfl ?_
      refine dn_iload C dX12_room_74 4 rfl rfl ?_
      refine dn_callS_i (As := [.ref (wd_b G + sh_rf a0 25), .int x4]) (st := [.int x3]) C (ok_M_lives (cx_g C) (sh_rf a0 25) (kt_12_25 ha0) x4 σ τ) mt_X12_lives ms_X12_lives lk_X12_275 (by decide) rfl ⟨Nat.zero_le _, Nat.zero_le _⟩ (Nat.le_of_ble_eq_true rfl) dX12_room_76 rfl rfl (fun z15 => ?_)
      refine dn_jn (fun z => ∀ (t16 : Int32), dn_D G M 5 0 0 (cl_M G M (ci_ih τ)) 103 [(0, .ref (wd_b G + a0)), (1, .int a1), (2, .int a2), (4, .int x4)] [.int t16, .int x3] σ τ (z t16)) (fun t16 => ?_) (fun j19 hj19 => ?_)
      · refine dn_ior C dX12_room_103 rfl ?_
        refine dn_istore_n (lv0 := [(0, .ref (wd_b G + a0)), (1, .int a1), (2, .int a2), (4, .int x4)]) C dX12_room_104 rfl (by decide) rfl rfl (fun v3_17 => ?_)
        refine dn_iinc (lv0 := [(3, .int v3_17), (0, .ref (wd_b G + a0)), (1, .int a1), (2, .int a2)]) (v := x4 + 1) C dX12_room_105 4 rfl rfl (by decide) rfl rfl (fun v4_18 => ?_)
        refine dn_goto (t := 58) C dX12_room_108 (by decide) ?_
        refine dn_pick [2, 3, 4, 1, 0] rfl ?_
        exact ih v3_17 v4_18
      · refine dn_jn (fun z => dn_D G M 5 0 0 (cl_M G M (ci_ih τ)) 102 [(0, .ref (wd_b G + a0)), (1, .int a1), (2, .int a2), (4, .int x4)] [.int x3] σ τ z) ?_ (fun j20 hj20 => ?_)
        · refine dn_iconst C dX12_room_102 ic_i_0 rfl ?_
          exact hj19 (0 : Int32)
        · refine dn_if_eq (t := 102) C dX12_room_79 (by decide) rfl ?_ ?_
          · refine dn_pick [0, 1, 2, 4] rfl ?_
            exact hj20
          · refine dn_aload_n C dX12_room_82 rfl 0 rfl rfl ?_
            refine dn_getR C fd_X12_55 ha0 dX12_room_83 rfl ?_
            refine dn_iconst C dX12_room_86 ic_i_0 rfl ?_
            refine dn_iload C dX12_room_87 4 rfl rfl ?_
            refine dn_iadd C dX12_room_89 rfl ?_
            refine dn_iald C (kt_12_25 ha0) dX12_room_90 rfl (fun z21 => ?_)
            refine dn_iload_n C dX12_room_91 rfl 1 rfl rfl ?_
            refine dn_icmp_ne (t := 102) C dX12_room_92 (by decide) rfl ?_ ?_
            · refine dn_iconst C dX12_room_95 ic_i_1 rfl ?_
              refine dn_iload C dX12_room_96 4 rfl rfl ?_
              refine dn_ishl C dX12_room_98 rfl ?_
              refine dn_goto (t := 103) C dX12_room_99 (by decide) ?_
              refine dn_pick [0, 1, 2, 4] rfl ?_
              exact hj19 ((1 : Int32) <<< (x4 &&& 31))
            · refine dn_pick [0, 1, 2, 4] rfl ?_
              exact hj20
    · refine dn_pick [0, 1, 2, 3] rfl ?_
      exact hk x3
set_option maxHeartbeats 4000000 in
set_option maxRecDepth 100000 in
theorem ok_M_room {G : wd_G} {l : Launch} (hN : gd_ok G)  (o : Nat) (ho : sh_kd o = 12) (p1 : Int32) (p2 : Int32) (σ : hp_I) (τ : hp_L) : cl_C G l 3 yX12_room cX12_room 5 (some .int) [.ref (wd_b G + o), .int p1, .int p2] σ τ (ci_ih τ) (fn_M_room o p1 p2 σ) := by
  refine cl_of (lv0 := [(0, .ref (wd_b G + o)), (1, .int p1), (2, .int p2)]) (ci_ih τ) (by decide) (Nat.le_of_ble_eq_true rfl) rfl hN (fun M hM C => ?_)
  have C : cx_C G M RX12 cX12_room 5 3 (some .int) := C
  unfold fn_M_room
  refine dn_aload_n C dX12_room_0 rfl 0 rfl rfl ?_
  refine dn_iconst C dX12_room_1 ic_i_0 rfl ?_
  refine dn_putI C fp_X12_93 ho dX12_room_2 rfl (fun s1 => ?_)
  refine dn_aload_n C dX12_room_5 rfl 0 rfl rfl ?_
  refine dn_aload_n C dX12_room_6 rfl 0 rfl rfl ?_
  refine dn_iconst C dX12_room_7 ic_i_0 rfl ?_
  refine dn_iload_n C dX12_room_8 rfl 1 rfl rfl ?_
  refine dn_callV_i (As := [.int (0 : Int32), .int p1]) (st := [.ref (wd_b G + o)]) C (ok_M_isThing (cx_g C) o ho (0 : Int32) p1 s1 τ) mt_X12_isThing mv_X12_isThing lk_X12_336 (by decide) ho rfl ⟨Nat.zero_le _, Nat.zero_le _⟩ (Nat.le_of_ble_eq_true rfl) dX12_room_9 rfl rfl (fun z2 => ?_)
  refine dn_jn (fun z => ∀ (t3 : Int32), dn_D G M 5 0 0 (cl_M G M (ci_ih τ)) 20 [(0, .ref (wd_b G + o)), (1, .int p1), (2, .int p2)] [.int t3, .ref (wd_b G + o)] s1 τ (z t3)) (fun t3 => ?_) (fun j29 hj29 => ?_)
  · refine dn_iconst C dX12_room_20 ic_i_1 rfl ?_
    refine dn_iconst C dX12_room_21 ic_i_0 rfl ?_
    refine dn_callV_ih (As := [.int t3, .int (1 : Int32), .int (0 : Int32)]) (st := []) C (ok_M_bad (cx_g C) o ho t3 (1 : Int32) (0 : Int32) s1 τ) mt_X12_bad mv_X12_bad lk_X12_172 (by decide) ho rfl ⟨Nat.zero_le _, Nat.zero_le _⟩ (Nat.le_of_ble_eq_true rfl) dX12_room_22 rfl rfl (fun z4 s5 => ?_)
    refine dn_jn (fun z => ∀ (s6 : hp_I), dn_D G M 5 0 0 (cl_M G M (ci_ih τ)) 51 [] [] s6 τ (z s6)) (fun s6 => ?_) (fun j7 hj7 => ?_)
    · refine dn_iconst C dX12_room_51 ic_i_0 rfl ?_
      exact dn_iret C dX12_room_52 rfl
    · refine dn_if_ne (t := 51) C dX12_room_25 (by decide) rfl ?_ ?_
      · refine dn_aload_n C dX12_room_28 rfl 0 rfl rfl ?_
        refine dn_iload_n C dX12_room_29 rfl 2 rfl rfl ?_
        refine dn_iconst C dX12_room_30 ic_i_0 rfl ?_
        refine dn_iconst C dX12_room_31 ic_i_3 rfl ?_
        refine dn_callS_i (As := [.int p2, .int (0 : Int32), .int (3 : Int32)]) (st := [.ref (wd_b G + o)]) C (ok_M_in (cx_g C) p2 (0 : Int32) (3 : Int32) s5 τ) mt_X12_in ms_X12_in lk_X12_127 (by decide) rfl ⟨Nat.zero_le _, Nat.zero_le _⟩ (Nat.le_of_ble_eq_true rfl) dX12_room_32 rfl rfl (fun z8 => ?_)
        refine dn_jn (fun z => ∀ (t9 : Int32), dn_D G M 5 0 0 (cl_M G M (ci_ih τ)) 43 [(0, .ref (wd_b G + o)), (1, .int p1), (2, .int p2)] [.int t9, .ref (wd_b G + o)] s5 τ (z t9)) (fun t9 => ?_) (fun j28 hj28 => ?_)
        · refine dn_iconst C dX12_room_43 ic_i_2 rfl ?_
          refine dn_iconst C dX12_room_44 ic_i_1 rfl ?_
          refine dn_callV_ih (As := [.int t9, .int (2 : Int32), .int (1 : Int32)]) (st := []) C (ok_M_bad (cx_g C) o ho t9 (2 : Int32) (1 : Int32) s5 τ) mt_X12_bad mv_X12_bad lk_X12_172 (by decide) ho rfl ⟨Nat.zero_le _, Nat.zero_le _⟩ (Nat.le_of_ble_eq_true rfl) dX12_room_45 rfl rfl (fun z10 s11 => ?_)
          refine dn_if_eq (t := 53) C dX12_room_48 (by decide) rfl ?_ ?_
          · refine dn_iconst C dX12_room_53 ic_i_0 rfl ?_
            refine dn_istore_n (lv0 := [(0, .ref (wd_b G + o)), (1, .int p1), (2, .int p2)]) C dX12_room_54 rfl (by decide) rfl rfl (fun v3_12 => ?_)
            refine dn_iconst C dX12_room_55 ic_i_0 rfl ?_
            refine dn_istore (lv0 := [(3, .int v3_12), (0, .ref (wd_b G + o)), (1, .int p1), (2, .int p2)]) C dX12_room_56 (by decide) rfl rfl (fun v4_13 => ?_)
            refine dn_pick [2, 3, 4, 1, 0] rfl ?_
            refine pf_M_room_L58  C  o ho p1 p2 s11 τ _ (fun y_22 => ?_) FU v3_12 v4_13
            refine dn_iload_n C dX12_room_111 rfl 2 rfl rfl ?_
            refine dn_jn (fun z => ∀ (t23 : Int32), dn_D G M 5 0 0 (cl_M G M (ci_ih τ)) 158 [] [.int t23] s11 τ (z t23)) (fun t23 => ?_) (fun j24 hj24 => ?_)
            · exact dn_iret C dX12_room_158 rfl
            · refine dn_if_ne (t := 123) C dX12_room_112 (by decide) rfl ?_ ?_
              · refine dn_aload_n C dX12_room_115 rfl 0 rfl rfl ?_
                refine dn_iload_n C dX12_room_116 rfl 1 rfl rfl ?_
                refine dn_callV_i (As := [.int p1]) (st := []) C (ok_M_hide (cx_g C) o ho p1 s11 τ) mt_X12_hide mv_X12_hide lk_X12_261 (by decide) ho rfl ⟨Nat.zero_le _, Nat.zero_le _⟩ (Nat.le_of_ble_eq_true rfl) dX12_room_117 rfl rfl (fun z25 => ?_)
                refine dn_goto (t := 158) C dX12_room_120 (by decide) ?_
                refine dn_pick [] rfl ?_
                exact hj24 z25
              · refine dn_iload_n C dX12_room_123 rfl 2 rfl rfl ?_
                refine dn_iconst C dX12_room_124 ic_i_1 rfl ?_
                refine dn_icmp_ne (t := 132) C dX12_room_125 (by decide) rfl ?_ ?_
                · refine dn_iload_n C dX12_room_128 rfl 3 rfl rfl ?_
                  refine dn_goto (t := 158) C dX12_room_129 (by decide) ?_
                  refine dn_pick [] rfl ?_
                  exact hj24 y_22
                · refine dn_iload_n C dX12_room_132 rfl 2 rfl rfl ?_
                  refine dn_iconst C dX12_room_133 ic_i_2 rfl ?_
                  refine dn_icmp_ne (t := 149) C dX12_room_134 (by decide) rfl ?_ ?_
                  · refine dn_aload_n C dX12_room_137 rfl 0 rfl rfl ?_
                    refine dn_aload_n C dX12_room_138 rfl 0 rfl rfl ?_
                    refine dn_getR C fd_X12_55 ho dX12_room_139 rfl ?_
                    refine dn_iload_n C dX12_room_142 rfl 1 rfl rfl ?_
                    refine dn_callV_i (As := [.ref (wd_b G + sh_rf o 25), .int p1]) (st := []) C (ok_M_catsIn (cx_g C) o ho (sh_rf o 25) (kt_12_25 ho) p1 s11 τ) mt_X12_catsIn mv_X12_catsIn lk_X12_264 (by decide) ho rfl ⟨Nat.zero_le _, Nat.zero_le _⟩ (Nat.le_of_ble_eq_true rfl) dX12_room_143 rfl rfl (fun z26 => ?_)
                    refine dn_goto (t := 158) C dX12_room_146 (by decide) ?_
                    refine dn_pick [] rfl ?_
                    exact hj24 z26
                  · refine dn_aload_n C dX12_room_149 rfl 0 rfl rfl ?_
                    refine dn_aload_n C dX12_room_150 rfl 0 rfl rfl ?_
                    refine dn_getR C fd_X12_55 ho dX12_room_151 rfl ?_
                    refine dn_iload_n C dX12_room_154 rfl 1 rfl rfl ?_
                    refine dn_callV_i (As := [.ref (wd_b G + sh_rf o 25), .int p1]) (st := []) C (ok_M_beside (cx_g C) o ho (sh_rf o 25) (kt_12_25 ho) p1 s11 τ) mt_X12_beside mv_X12_beside lk_X12_299 (by decide) ho rfl ⟨Nat.zero_le _, Nat.zero_le _⟩ (Nat.le_of_ble_eq_true rfl) dX12_room_155 rfl rfl (fun z27 => ?_)
                    refine dn_pick [] rfl ?_
                    exact hj24 z27
          · refine dn_pick [] rfl ?_
            exact hj7 s11
        · refine dn_if_ne (t := 42) C dX12_room_35 (by decide) rfl ?_ ?_
          · refine dn_iconst C dX12_room_38 ic_i_1 rfl ?_
            refine dn_goto (t := 43) C dX12_room_39 (by decide) ?_
            exact hj28 (1 : Int32)
          · refine dn_iconst C dX12_room_42 ic_i_0 rfl ?_
            exact hj28 (0 : Int32)
      · refine dn_pick [] rfl ?_
        exact hj7 s5
  · refine dn_if_ne (t := 19) C dX12_room_12 (by decide) rfl ?_ ?_
    · refine dn_iconst C dX12_room_15 ic_i_1 rfl ?_
      refine dn_goto (t := 20) C dX12_room_16 (by decide) ?_
      exact hj29 (1 : Int32)
    · refine dn_iconst C dX12_room_19 ic_i_0 rfl ?_
      exact hj29 (0 : Int32)
def fn_M_seen_L5  (a0 : Nat) (a1 : Nat) (a2 : Int32) (σ : hp_I) (k : Int32 → Option (Int32)) : Nat → Int32 → Int32 → Option (Int32)
  | 0, _, _ => none
  | fu + 1, x3, x4 =>
    Option.bind (px_ald σ (sh_rf a0 12) (2 : Int32)) fun z3 =>
    if x4 < z3 then (
      Option.bind (fn_M_sees a0 a1 a2 x4 σ) fun z4 =>
      px_jn (fun (t5 : Int32) =>
        px_let (x3 ||| t5) fun v3_6 =>
        px_let (x4 + 1) fun v4_7 =>
        fn_M_seen_L5 a0 a1 a2 σ k fu v3_6 v4_7
      ) fun j8 =>
        if z4 = 0 then (
          j8 (0 : Int32)
        ) else (
          j8 ((1 : Int32) <<< (x4 &&& 31))
        )
    ) else (
      k x3
    )
def fn_M_seen  (o : Nat) (p1 : Nat) (p2 : Int32) (σ : hp_I) : Option (Int32) :=
  px_let (0 : Int32) fun v3_1 =>
  px_let (0 : Int32) fun v4_2 =>
  fn_M_seen_L5 o p1 p2 σ
    (fun (y_9 : Int32) =>
      some y_9
    )
    FU v3_1 v4_2
set_option maxHeartbeats 4000000 in
set_option maxRecDepth 100000 in
theorem pf_M_seen_L5 {G : wd_G} {M : wd_M}  (C : cx_C G M RX12 cX12_seen 5 3 (some .int)) (a0 : Nat) (ha0 : sh_kd a0 = 12) (a1 : Nat) (ha1 : sh_kd a1 = 13) (a2 : Int32) (σ : hp_I) (τ : hp_L) (k : Int32 → Option (Int32)) (hk : ∀ (y3 : Int32), dn_D G M 5 0 0 (cl_M G M (ci_i σ τ)) 44 [(3, .int y3)] [] σ τ (k y3)) : ∀ (fu : Nat) (x3 : Int32) (x4 : Int32), dn_D G M 5 0 0 (cl_M G M (ci_i σ τ)) 5 [(0, .ref (wd_b G + a0)), (1, .ref (wd_b G + a1)), (2, .int a2), (3, .int x3), (4, .int x4)] [] σ τ (fn_M_seen_L5 a0 a1 a2 σ k fu x3 x4) := by
  intro fu
  induction fu with
  | zero => exact fun x3 x4 => dn_none
  | succ fu ih =>
    intro x3 x4
    unfold fn_M_seen_L5
    refine dn_iload C dX12_seen_5 4 rfl rfl ?_
    refine dn_aload_n C dX12_seen_7 rfl 0 rfl rfl ?_
    refine dn_getR C fd_X12_23 ha0 dX12_seen_8 rfl ?_
    refine dn_iconst C dX12_seen_11 ic_i_2 rfl ?_
    refine dn_iald C (kt_12_12 ha0) dX12_seen_12 rfl (fun z3 => ?_)
    refine dn_icmp_ge (t := 44) C dX12_seen_13 (by decide) rfl ?_ ?_
    · refine dn_iload_n C dX12_seen_16 rfl 3 rfl rfl ?_
      refine dn_aload_n C dX12_seen_17 rfl 0 rfl rfl ?_
      refine dn_aload_n C dX12_seen_18 rfl 1 rfl rfl ?_
      refine dn_iload_n C dX12_seen_19 rfl 2 rfl rfl ?_
      refine dn_iload C dX12_seen_20 4 rfl rfl ?_
      refine dn_callV_i (As := [.ref (wd_b G + a1), .int a2, .int x4]) (st := [.int x3]) C (ok_M_sees (cx_g C) a0 ha0 a1 ha1 a2 x4 σ τ) mt_X12_sees mv_X12_sees lk_X12_282 (by decide) ha0 rfl ⟨Nat.zero_le _, Nat.zero_le _⟩ (Nat.le_of_ble_eq_true rfl) dX12_seen_22 rfl rfl (fun z4 => ?_)
      refine dn_jn (fun z => ∀ (t5 : Int32), dn_D G M 5 0 0 (cl_M G M (ci_i σ τ)) 36 [(0, .ref (wd_b G + a0)), (1, .ref (wd_b G + a1)), (2, .int a2), (4, .int x4)] [.int t5, .int x3] σ τ (z t5)) (fun t5 => ?_) (fun j8 hj8 => ?_)
      · refine dn_ior C dX12_seen_36 rfl ?_
        refine dn_istore_n (lv0 := [(0, .ref (wd_b G + a0)), (1, .ref (wd_b G + a1)), (2, .int a2), (4, .int x4)]) C dX12_seen_37 rfl (by decide) rfl rfl (fun v3_6 => ?_)
        refine dn_iinc (lv0 := [(3, .int v3_6), (0, .ref (wd_b G + a0)), (1, .ref (wd_b G + a1)), (2, .int a2)]) (v := x4 + 1) C dX12_seen_38 4 rfl rfl (by decide) rfl rfl (fun v4_7 => ?_)
        refine dn_goto (t := 5) C dX12_seen_41 (by decide) ?_
        refine dn_pick [2, 3, 4, 1, 0] rfl ?_
        exact ih v3_6 v4_7
      · refine dn_if_eq (t := 35) C dX12_seen_25 (by decide) rfl ?_ ?_
        · refine dn_iconst C dX12_seen_35 ic_i_0 rfl ?_
          refine dn_pick [0, 1, 2, 4] rfl ?_
          exact hj8 (0 : Int32)
        · refine dn_iconst C dX12_seen_28 ic_i_1 rfl ?_
          refine dn_iload C dX12_seen_29 4 rfl rfl ?_
          refine dn_ishl C dX12_seen_31 rfl ?_
          refine dn_goto (t := 36) C dX12_seen_32 (by decide) ?_
          refine dn_pick [0, 1, 2, 4] rfl ?_
          exact hj8 ((1 : Int32) <<< (x4 &&& 31))
    · refine dn_pick [3] rfl ?_
      exact hk x3
set_option maxHeartbeats 4000000 in
set_option maxRecDepth 100000 in
theorem ok_M_seen {G : wd_G} {l : Launch} (hN : gd_ok G)  (o : Nat) (ho : sh_kd o = 12) (p1 : Nat) (hp1 : sh_kd p1 = 13) (p2 : Int32) (σ : hp_I) (τ : hp_L) : cl_C G l 3 yX12_seen cX12_seen 5 (some .int) [.ref (wd_b G + o), .ref (wd_b G + p1), .int p2] σ τ (ci_i σ τ) (fn_M_seen o p1 p2 σ) := by
  refine cl_of (lv0 := [(0, .ref (wd_b G + o)), (1, .ref (wd_b G + p1)), (2, .int p2)]) (ci_i σ τ) (by decide) (Nat.le_of_ble_eq_true rfl) rfl hN (fun M hM C => ?_)
  have C : cx_C G M RX12 cX12_seen 5 3 (some .int) := C
  unfold fn_M_seen
  refine dn_iconst C dX12_seen_0 ic_i_0 rfl ?_
  refine dn_istore_n (lv0 := [(0, .ref (wd_b G + o)), (1, .ref (wd_b G + p1)), (2, .int p2)]) C dX12_seen_1 rfl (by decide) rfl rfl (fun v3_1 => ?_)
  refine dn_iconst C dX12_seen_2 ic_i_0 rfl ?_
  refine dn_istore (lv0 := [(3, .int v3_1), (0, .ref (wd_b G + o)), (1, .ref (wd_b G + p1)), (2, .int p2)]) C dX12_seen_3 (by decide) rfl rfl (fun v4_2 => ?_)
  refine dn_pick [2, 3, 4, 1, 0] rfl ?_
  refine pf_M_seen_L5  C  o ho p1 hp1 p2 σ τ _ (fun y_9 => ?_) FU v3_1 v4_2
  refine dn_iload_n C dX12_seen_44 rfl 0 rfl rfl ?_
  exact dn_iret C dX12_seen_45 rfl
def fn_M_told  (o : Nat) (p1 : Int32) (σ : hp_I) : Option (Int32 × hp_I) :=
  px_let (hp_s σ o 0 (0 : Int32)) fun s1 =>
  Option.bind (fn_M_in p1 (0 : Int32) (11 : Int32)) fun z2 =>
  px_jn (fun (t3 : Int32) =>
    px_b2 (fn_M_bad o t3 (1 : Int32) (1 : Int32) s1) fun z4 s5 =>
    if z4 = 0 then (
      px_sw p1 [
        ((0 : Int32), (
          Option.bind (px_ald s5 (sh_rf o 12) p1) fun z7 =>
          some (z7, s5)
        )),
        ((1 : Int32), (
          Option.bind (px_ald s5 (sh_rf o 12) p1) fun z8 =>
          some (z8, s5)
        )),
        ((2 : Int32), (
          Option.bind (px_ald s5 (sh_rf o 12) p1) fun z9 =>
          some (z9, s5)
        )),
        ((3 : Int32), (
          Option.bind (px_ald s5 (sh_rf o 12) p1) fun z10 =>
          some (z10, s5)
        )),
        ((4 : Int32), (
          Option.bind (px_ald s5 (sh_rf o 25) (46 : Int32)) fun z11 =>
          some (z11, s5)
        )),
        ((5 : Int32), (
          Option.bind (px_ald s5 (sh_rf o 25) (42 : Int32)) fun z12 =>
          some (z12, s5)
        )),
        ((6 : Int32), (
          Option.bind (px_ald s5 (sh_rf o 25) (43 : Int32)) fun z13 =>
          some (z13, s5)
        )),
        ((7 : Int32), (
          Option.bind (px_ald s5 (sh_rf o 25) (44 : Int32)) fun z14 =>
          some (z14, s5)
        )),
        ((8 : Int32), (
          Option.bind (px_ald s5 (sh_rf o 25) (45 : Int32)) fun z15 =>
          some (z15, s5)
        )),
        ((9 : Int32), (
          some (s5 o 30, s5)
        )),
        ((10 : Int32), (
          some (s5 o 32, s5)
        ))
      ] (
        Option.bind (fn_M_sizes o (sh_rf o 25) s5) fun z6 =>
        some (z6, s5)
      )
    ) else (
      some ((0 : Int32), s5)
    )
  ) fun j16 =>
    if z2 = 0 then (
      j16 (1 : Int32)
    ) else (
      j16 (0 : Int32)
    )
set_option maxHeartbeats 4000000 in
set_option maxRecDepth 100000 in
theorem ok_M_told {G : wd_G} {l : Launch} (hN : gd_ok G)  (o : Nat) (ho : sh_kd o = 12) (p1 : Int32) (σ : hp_I) (τ : hp_L) : cl_C G l 3 yX12_told cX12_told 2 (some .int) [.ref (wd_b G + o), .int p1] σ τ (ci_ih τ) (fn_M_told o p1 σ) := by
  refine cl_of (lv0 := [(0, .ref (wd_b G + o)), (1, .int p1)]) (ci_ih τ) (by decide) (Nat.le_of_ble_eq_true rfl) rfl hN (fun M hM C => ?_)
  have C : cx_C G M RX12 cX12_told 2 3 (some .int) := C
  unfold fn_M_told
  refine dn_aload_n C dX12_told_0 rfl 0 rfl rfl ?_
  refine dn_iconst C dX12_told_1 ic_i_0 rfl ?_
  refine dn_putI C fp_X12_93 ho dX12_told_2 rfl (fun s1 => ?_)
  refine dn_aload_n C dX12_told_5 rfl 0 rfl rfl ?_
  refine dn_iload_n C dX12_told_6 rfl 1 rfl rfl ?_
  refine dn_iconst C dX12_told_7 ic_i_0 rfl ?_
  refine dn_bipush C dX12_told_8 ic_b_11 rfl ?_
  refine dn_callS_i (As := [.int p1, .int (0 : Int32), .int (11 : Int32)]) (st := [.ref (wd_b G + o)]) C (ok_M_in (cx_g C) p1 (0 : Int32) (11 : Int32) s1 τ) mt_X12_in ms_X12_in lk_X12_127 (by decide) rfl ⟨Nat.zero_le _, Nat.zero_le _⟩ (Nat.le_of_ble_eq_true rfl) dX12_told_10 rfl rfl (fun z2 => ?_)
  refine dn_jn (fun z => ∀ (t3 : Int32), dn_D G M 2 0 0 (cl_M G M (ci_ih τ)) 21 [(0, .ref (wd_b G + o)), (1, .int p1)] [.int t3, .ref (wd_b G + o)] s1 τ (z t3)) (fun t3 => ?_) (fun j16 hj16 => ?_)
  · refine dn_iconst C dX12_told_21 ic_i_1 rfl ?_
    refine dn_iconst C dX12_told_22 ic_i_1 rfl ?_
    refine dn_callV_ih (As := [.int t3, .int (1 : Int32), .int (1 : Int32)]) (st := []) C (ok_M_bad (cx_g C) o ho t3 (1 : Int32) (1 : Int32) s1 τ) mt_X12_bad mv_X12_bad lk_X12_172 (by decide) ho rfl ⟨Nat.zero_le _, Nat.zero_le _⟩ (Nat.le_of_ble_eq_true rfl) dX12_told_23 rfl rfl (fun z4 s5 => ?_)
    refine dn_if_eq (t := 31) C dX12_told_26 (by decide) rfl ?_ ?_
    · refine dn_iload_n C dX12_told_31 rfl 1 rfl rfl ?_
      refine dn_table (t0 := 149) _ C dX12_told_32 (by decide) rfl ?_ ⟨⟨60, 92, by decide, rfl, by decide, ?_⟩, ⟨60, 92, by decide, rfl, by decide, ?_⟩, ⟨60, 92, by decide, rfl, by decide, ?_⟩, ⟨60, 92, by decide, rfl, by decide, ?_⟩, ⟨67, 99, by decide, rfl, by decide, ?_⟩, ⟨75, 107, by decide, rfl, by decide, ?_⟩, ⟨83, 115, by decide, rfl, by decide, ?_⟩, ⟨91, 123, by decide, rfl, by decide, ?_⟩, ⟨99, 131, by decide, rfl, by decide, ?_⟩, ⟨107, 139, by decide, rfl, by decide, ?_⟩, ⟨112, 144, by decide, rfl, by decide, ?_⟩, trivial⟩
      · refine dn_aload_n C dX12_told_149 rfl 0 rfl rfl ?_
        refine dn_aload_n C dX12_told_150 rfl 0 rfl rfl ?_
        refine dn_getR C fd_X12_55 ho dX12_told_151 rfl ?_
        refine dn_callV_i (As := [.ref (wd_b G + sh_rf o 25)]) (st := []) C (ok_M_sizes (cx_g C) o ho (sh_rf o 25) (kt_12_25 ho) s5 τ) mt_X12_sizes mv_X12_sizes lk_X12_332 (by decide) ho rfl ⟨Nat.zero_le _, Nat.zero_le _⟩ (Nat.le_of_ble_eq_true rfl) dX12_told_154 rfl rfl (fun z6 => ?_)
        exact dn_iret C dX12_told_157 rfl
      · refine dn_aload_n C dX12_told_92 rfl 0 rfl rfl ?_
        refine dn_getR C fd_X12_23 ho dX12_told_93 rfl ?_
        refine dn_iload_n C dX12_told_96 rfl 1 rfl rfl ?_
        refine dn_iald C (kt_12_12 ho) dX12_told_97 rfl (fun z7 => ?_)
        exact dn_iret C dX12_told_98 rfl
      · refine dn_aload_n C dX12_told_92 rfl 0 rfl rfl ?_
        refine dn_getR C fd_X12_23 ho dX12_told_93 rfl ?_
        refine dn_iload_n C dX12_told_96 rfl 1 rfl rfl ?_
        refine dn_iald C (kt_12_12 ho) dX12_told_97 rfl (fun z8 => ?_)
        exact dn_iret C dX12_told_98 rfl
      · refine dn_aload_n C dX12_told_92 rfl 0 rfl rfl ?_
        refine dn_getR C fd_X12_23 ho dX12_told_93 rfl ?_
        refine dn_iload_n C dX12_told_96 rfl 1 rfl rfl ?_
        refine dn_iald C (kt_12_12 ho) dX12_told_97 rfl (fun z9 => ?_)
        exact dn_iret C dX12_told_98 rfl
      · refine dn_aload_n C dX12_told_92 rfl 0 rfl rfl ?_
        refine dn_getR C fd_X12_23 ho dX12_told_93 rfl ?_
        refine dn_iload_n C dX12_told_96 rfl 1 rfl rfl ?_
        refine dn_iald C (kt_12_12 ho) dX12_told_97 rfl (fun z10 => ?_)
        exact dn_iret C dX12_told_98 rfl
      · refine dn_aload_n C dX12_told_99 rfl 0 rfl rfl ?_
        refine dn_getR C fd_X12_55 ho dX12_told_100 rfl ?_
        refine dn_bipush C dX12_told_103 ic_b_46 rfl ?_
        refine dn_iald C (kt_12_25 ho) dX12_told_105 rfl (fun z11 => ?_)
        exact dn_iret C dX12_told_106 rfl
      · refine dn_aload_n C dX12_told_107 rfl 0 rfl rfl ?_
        refine dn_getR C fd_X12_55 ho dX12_told_108 rfl ?_
        refine dn_bipush C dX12_told_111 ic_b_42 rfl ?_
        refine dn_iald C (kt_12_25 ho) dX12_told_113 rfl (fun z12 => ?_)
        exact dn_iret C dX12_told_114 rfl
      · refine dn_aload_n C dX12_told_115 rfl 0 rfl rfl ?_
        refine dn_getR C fd_X12_55 ho dX12_told_116 rfl ?_
        refine dn_bipush C dX12_told_119 ic_b_43 rfl ?_
        refine dn_iald C (kt_12_25 ho) dX12_told_121 rfl (fun z13 => ?_)
        exact dn_iret C dX12_told_122 rfl
      · refine dn_aload_n C dX12_told_123 rfl 0 rfl rfl ?_
        refine dn_getR C fd_X12_55 ho dX12_told_124 rfl ?_
        refine dn_bipush C dX12_told_127 ic_b_44 rfl ?_
        refine dn_iald C (kt_12_25 ho) dX12_told_129 rfl (fun z14 => ?_)
        exact dn_iret C dX12_told_130 rfl
      · refine dn_aload_n C dX12_told_131 rfl 0 rfl rfl ?_
        refine dn_getR C fd_X12_55 ho dX12_told_132 rfl ?_
        refine dn_bipush C dX12_told_135 ic_b_45 rfl ?_
        refine dn_iald C (kt_12_25 ho) dX12_told_137 rfl (fun z15 => ?_)
        exact dn_iret C dX12_told_138 rfl
      · refine dn_aload_n C dX12_told_139 rfl 0 rfl rfl ?_
        refine dn_getI C fd_X12_192 ho dX12_told_140 rfl ?_
        exact dn_iret C dX12_told_143 rfl
      · refine dn_aload_n C dX12_told_144 rfl 0 rfl rfl ?_
        refine dn_getI C fd_X12_198 ho dX12_told_145 rfl ?_
        exact dn_iret C dX12_told_148 rfl
    · refine dn_iconst C dX12_told_29 ic_i_0 rfl ?_
      exact dn_iret C dX12_told_30 rfl
  · refine dn_if_ne (t := 20) C dX12_told_13 (by decide) rfl ?_ ?_
    · refine dn_iconst C dX12_told_16 ic_i_1 rfl ?_
      refine dn_goto (t := 21) C dX12_told_17 (by decide) ?_
      exact hj16 (1 : Int32)
    · refine dn_iconst C dX12_told_20 ic_i_0 rfl ?_
      exact hj16 (0 : Int32)
def fn_M_weight_L34  (a0 : Nat) (a1 : Int32) (σ : hp_I) (k : Int32 → Option (Int32 × hp_I)) : Nat → Int32 → Int32 → Option (Int32 × hp_I)
  | 0, _, _ => none
  | fu + 1, x2, x3 =>
    Option.bind (px_ald σ (sh_rf a0 12) (2 : Int32)) fun z8 =>
    if x3 < z8 then (
      Option.bind (px_ald σ (sh_rf a0 25) ((0 : Int32) + x3)) fun z9 =>
      px_jn (fun (t10 : Int32) =>
        px_let (x2 + t10) fun v2_11 =>
        px_let (x3 + 1) fun v3_12 =>
        fn_M_weight_L34 a0 a1 σ k fu v2_11 v3_12
      ) fun j13 =>
        if z9 = a1 then (
          Option.bind (fn_M_sizeNow a0 x3 σ) fun z14 =>
          j13 z14
        ) else (
          j13 (0 : Int32)
        )
    ) else (
      k x2
    )
def fn_M_weight  (o : Nat) (p1 : Int32) (σ : hp_I) : Option (Int32 × hp_I) :=
  px_let (hp_s σ o 0 (0 : Int32)) fun s1 =>
  Option.bind (fn_M_isThing o (0 : Int32) p1 s1) fun z2 =>
  px_jn (fun (t3 : Int32) =>
    px_b2 (fn_M_bad o t3 (1 : Int32) (0 : Int32) s1) fun z4 s5 =>
    if z4 = 0 then (
      px_let (0 : Int32) fun v2_6 =>
      px_let (0 : Int32) fun v3_7 =>
      fn_M_weight_L34 o p1 s5
        (fun (y_15 : Int32) =>
          some (y_15, s5)
        )
        FU v2_6 v3_7
    ) else (
      some ((0 : Int32), s5)
    )
  ) fun j16 =>
    if z2 = 0 then (
      j16 (1 : Int32)
    ) else (
      j16 (0 : Int32)
    )
set_option maxHeartbeats 4000000 in
set_option maxRecDepth 100000 in
theorem pf_M_weight_L34 {G : wd_G} {M : wd_M}  (C : cx_C G M RX12 cX12_weight 4 3 (some .int)) (a0 : Nat) (ha0 : sh_kd a0 = 12) (a1 : Int32) (σ : hp_I) (τ : hp_L) (k : Int32 → Option (Int32 × hp_I)) (hk : ∀ (y2 : Int32), dn_D G M 4 0 0 (cl_M G M (ci_ih τ)) 74 [(2, .int y2)] [] σ τ (k y2)) : ∀ (fu : Nat) (x2 : Int32) (x3 : Int32), dn_D G M 4 0 0 (cl_M G M (ci_ih τ)) 34 [(0, .ref (wd_b G + a0)), (1, .int a1), (2, .int x2), (3, .int x3)] [] σ τ (fn_M_weight_L34 a0 a1 σ k fu x2 x3) := by
  intro fu
  induction fu with
  | zero => exact fun x2 x3 => dn_none
  | succ fu ih =>
    intro x2 x3
    unfold fn_M_weight_L34
    refine dn_iload_n C dX12_weight_34 rfl 3 rfl rfl ?_
    refine dn_aload_n C dX12_weight_35 rfl 0 rfl rfl ?_
    refine dn_getR C fd_X12_23 ha0 dX12_weight_36 rfl ?_
    refine dn_iconst C dX12_weight_39 ic_i_2 rfl ?_
    refine dn_iald C (kt_12_12 ha0) dX12_weight_40 rfl (fun z8 => ?_)
    refine dn_icmp_ge (t := 74) C dX12_weight_41 (by decide) rfl ?_ ?_
    · refine dn_iload_n C dX12_weight_44 rfl 2 rfl rfl ?_
      refine dn_aload_n C dX12_weight_45 rfl 0 rfl rfl ?_
      refine dn_getR C fd_X12_55 ha0 dX12_weight_46 rfl ?_
      refine dn_iconst C dX12_weight_49 ic_i_0 rfl ?_
      refine dn_iload_n C dX12_weight_50 rfl 3 rfl rfl ?_
      refine dn_iadd C dX12_weight_51 rfl ?_
      refine dn_iald C (kt_12_25 ha0) dX12_weight_52 rfl (fun z9 => ?_)
      refine dn_iload_n C dX12_weight_53 rfl 1 rfl rfl ?_
      refine dn_jn (fun z => ∀ (t10 : Int32), dn_D G M 4 0 0 (cl_M G M (ci_ih τ)) 66 [(0, .ref (wd_b G + a0)), (1, .int a1), (3, .int x3)] [.int t10, .int x2] σ τ (z t10)) (fun t10 => ?_) (fun j13 hj13 => ?_)
      · refine dn_iadd C dX12_weight_66 rfl ?_
        refine dn_istore_n (lv0 := [(0, .ref (wd_b G + a0)), (1, .int a1), (3, .int x3)]) C dX12_weight_67 rfl (by decide) rfl rfl (fun v2_11 => ?_)
        refine dn_iinc (lv0 := [(2, .int v2_11), (0, .ref (wd_b G + a0)), (1, .int a1)]) (v := x3 + 1) C dX12_weight_68 3 rfl rfl (by decide) rfl rfl (fun v3_12 => ?_)
        refine dn_goto (t := 34) C dX12_weight_71 (by decide) ?_
        refine dn_pick [2, 3, 1, 0] rfl ?_
        exact ih v2_11 v3_12
      · refine dn_icmp_ne (t := 65) C dX12_weight_54 (by decide) rfl ?_ ?_
        · refine dn_aload_n C dX12_weight_57 rfl 0 rfl rfl ?_
          refine dn_iload_n C dX12_weight_58 rfl 3 rfl rfl ?_
          refine dn_callV_i (As := [.int x3]) (st := [.int x2]) C (ok_M_sizeNow (cx_g C) a0 ha0 x3 σ τ) mt_X12_sizeNow mv_X12_sizeNow lk_X12_379 (by decide) ha0 rfl ⟨Nat.zero_le _, Nat.zero_le _⟩ (Nat.le_of_ble_eq_true rfl) dX12_weight_59 rfl rfl (fun z14 => ?_)
          refine dn_goto (t := 66) C dX12_weight_62 (by decide) ?_
          refine dn_pick [0, 1, 3] rfl ?_
          exact hj13 z14
        · refine dn_iconst C dX12_weight_65 ic_i_0 rfl ?_
          refine dn_pick [0, 1, 3] rfl ?_
          exact hj13 (0 : Int32)
    · refine dn_pick [2] rfl ?_
      exact hk x2
set_option maxHeartbeats 4000000 in
set_option maxRecDepth 100000 in
theorem ok_M_weight {G : wd_G} {l : Launch} (hN : gd_ok G)  (o : Nat) (ho : sh_kd o = 12) (p1 : Int32) (σ : hp_I) (τ : hp_L) : cl_C G l 3 yX12_weight cX12_weight 4 (some .int) [.ref (wd_b G + o), .int p1] σ τ (ci_ih τ) (fn_M_weight o p1 σ) := by
  refine cl_of (lv0 := [(0, .ref (wd_b G + o)), (1, .int p1)]) (ci_ih τ) (by decide) (Nat.le_of_ble_eq_true rfl) rfl hN (fun M hM C => ?_)
  have C : cx_C G M RX12 cX12_weight 4 3 (some .int) := C
  unfold fn_M_weight
  refine dn_aload_n C dX12_weight_0 rfl 0 rfl rfl ?_
  refine dn_iconst C dX12_weight_1 ic_i_0 rfl ?_
  refine dn_putI C fp_X12_93 ho dX12_weight_2 rfl (fun s1 => ?_)
  refine dn_aload_n C dX12_weight_5 rfl 0 rfl rfl ?_
  refine dn_aload_n C dX12_weight_6 rfl 0 rfl rfl ?_
  refine dn_iconst C dX12_weight_7 ic_i_0 rfl ?_
  refine dn_iload_n C dX12_weight_8 rfl 1 rfl rfl ?_
  refine dn_callV_i (As := [.int (0 : Int32), .int p1]) (st := [.ref (wd_b G + o)]) C (ok_M_isThing (cx_g C) o ho (0 : Int32) p1 s1 τ) mt_X12_isThing mv_X12_isThing lk_X12_336 (by decide) ho rfl ⟨Nat.zero_le _, Nat.zero_le _⟩ (Nat.le_of_ble_eq_true rfl) dX12_weight_9 rfl rfl (fun z2 => ?_)
  refine dn_jn (fun z => ∀ (t3 : Int32), dn_D G M 4 0 0 (cl_M G M (ci_ih τ)) 20 [(0, .ref (wd_b G + o)), (1, .int p1)] [.int t3, .ref (wd_b G + o)] s1 τ (z t3)) (fun t3 => ?_) (fun j16 hj16 => ?_)
  · refine dn_iconst C dX12_weight_20 ic_i_1 rfl ?_
    refine dn_iconst C dX12_weight_21 ic_i_0 rfl ?_
    refine dn_callV_ih (As := [.int t3, .int (1 : Int32), .int (0 : Int32)]) (st := []) C (ok_M_bad (cx_g C) o ho t3 (1 : Int32) (0 : Int32) s1 τ) mt_X12_bad mv_X12_bad lk_X12_172 (by decide) ho rfl ⟨Nat.zero_le _, Nat.zero_le _⟩ (Nat.le_of_ble_eq_true rfl) dX12_weight_22 rfl rfl (fun z4 s5 => ?_)
    refine dn_if_eq (t := 30) C dX12_weight_25 (by decide) rfl ?_ ?_
    · refine dn_iconst C dX12_weight_30 ic_i_0 rfl ?_
      refine dn_istore_n (lv0 := [(0, .ref (wd_b G + o)), (1, .int p1)]) C dX12_weight_31 rfl (by decide) rfl rfl (fun v2_6 => ?_)
      refine dn_iconst C dX12_weight_32 ic_i_0 rfl ?_
      refine dn_istore_n (lv0 := [(2, .int v2_6), (0, .ref (wd_b G + o)), (1, .int p1)]) C dX12_weight_33 rfl (by decide) rfl rfl (fun v3_7 => ?_)
      refine dn_pick [2, 3, 1, 0] rfl ?_
      refine pf_M_weight_L34  C  o ho p1 s5 τ _ (fun y_15 => ?_) FU v2_6 v3_7
      refine dn_iload_n C dX12_weight_74 rfl 0 rfl rfl ?_
      exact dn_iret C dX12_weight_75 rfl
    · refine dn_iconst C dX12_weight_28 ic_i_0 rfl ?_
      exact dn_iret C dX12_weight_29 rfl
  · refine dn_if_ne (t := 19) C dX12_weight_12 (by decide) rfl ?_ ?_
    · refine dn_iconst C dX12_weight_15 ic_i_1 rfl ?_
      refine dn_goto (t := 20) C dX12_weight_16 (by decide) ?_
      exact hj16 (1 : Int32)
    · refine dn_iconst C dX12_weight_19 ic_i_0 rfl ?_
      exact hj16 (0 : Int32)
def fn_M_cat  (o : Nat) (p1 : Int32) (p2 : Int32) (σ : hp_I) : Option (Int32 × hp_I) :=
  px_let (hp_s σ o 0 (0 : Int32)) fun s1 =>
  Option.bind (fn_M_isThing o (3 : Int32) p1 s1) fun z2 =>
  px_jn (fun (t3 : Int32) =>
    px_b2 (fn_M_bad o t3 (1 : Int32) (0 : Int32) s1) fun z4 s5 =>
    px_jn (fun (s6 : hp_I) =>
      some ((0 : Int32), s6)
    ) fun j7 =>
      if z4 = 0 then (
        Option.bind (fn_M_in p2 (0 : Int32) (3 : Int32)) fun z8 =>
        px_jn (fun (t9 : Int32) =>
          px_b2 (fn_M_bad o t9 (2 : Int32) (1 : Int32) s5) fun z10 s11 =>
          if z10 = 0 then (
            px_jn (fun (t12 : Int32) =>
              some (t12, s11)
            ) fun j13 =>
              if p2 = 0 then (
                Option.bind (px_ald s11 (sh_rf o 25) ((32 : Int32) + p1)) fun z14 =>
                j13 z14
              ) else (
                if p2 = (1 : Int32) then (
                  Option.bind (fn_M_nose o p1 s11) fun z15 =>
                  j13 z15
                ) else (
                  if p2 = (2 : Int32) then (
                    Option.bind (px_ald s11 (sh_rf o 25) ((37 : Int32) + p1)) fun z16 =>
                    j13 z16
                  ) else (
                    Option.bind (fn_M_seen o (sh_rf o 25) p1 s11) fun z17 =>
                    j13 z17
                  )
                )
              )
          ) else (
            j7 s11
          )
        ) fun j18 =>
          if z8 = 0 then (
            j18 (1 : Int32)
          ) else (
            j18 (0 : Int32)
          )
      ) else (
        j7 s5
      )
  ) fun j19 =>
    if z2 = 0 then (
      j19 (1 : Int32)
    ) else (
      j19 (0 : Int32)
    )
set_option maxHeartbeats 4000000 in
set_option maxRecDepth 100000 in
theorem ok_M_cat {G : wd_G} {l : Launch} (hN : gd_ok G)  (o : Nat) (ho : sh_kd o = 12) (p1 : Int32) (p2 : Int32) (σ : hp_I) (τ : hp_L) : cl_C G l 4 yX12_cat cX12_cat 3 (some .int) [.ref (wd_b G + o), .int p1, .int p2] σ τ (ci_ih τ) (fn_M_cat o p1 p2 σ) := by
  refine cl_of (lv0 := [(0, .ref (wd_b G + o)), (1, .int p1), (2, .int p2)]) (ci_ih τ) (by decide) (Nat.le_of_ble_eq_true rfl) rfl hN (fun M hM C => ?_)
  have C : cx_C G M RX12 cX12_cat 3 4 (some .int) := C
  unfold fn_M_cat
  refine dn_aload_n C dX12_cat_0 rfl 0 rfl rfl ?_
  refine dn_iconst C dX12_cat_1 ic_i_0 rfl ?_
  refine dn_putI C fp_X12_93 ho dX12_cat_2 rfl (fun s1 => ?_)
  refine dn_aload_n C dX12_cat_5 rfl 0 rfl rfl ?_
  refine dn_aload_n C dX12_cat_6 rfl 0 rfl rfl ?_
  refine dn_iconst C dX12_cat_7 ic_i_3 rfl ?_
  refine dn_iload_n C dX12_cat_8 rfl 1 rfl rfl ?_
  refine dn_callV_i (As := [.int (3 : Int32), .int p1]) (st := [.ref (wd_b G + o)]) C (ok_M_isThing (cx_g C) o ho (3 : Int32) p1 s1 τ) mt_X12_isThing mv_X12_isThing lk_X12_336 (by decide) ho rfl ⟨Nat.zero_le _, Nat.zero_le _⟩ (Nat.le_of_ble_eq_true rfl) dX12_cat_9 rfl rfl (fun z2 => ?_)
  refine dn_jn (fun z => ∀ (t3 : Int32), dn_D G M 3 0 0 (cl_M G M (ci_ih τ)) 20 [(0, .ref (wd_b G + o)), (1, .int p1), (2, .int p2)] [.int t3, .ref (wd_b G + o)] s1 τ (z t3)) (fun t3 => ?_) (fun j19 hj19 => ?_)
  · refine dn_iconst C dX12_cat_20 ic_i_1 rfl ?_
    refine dn_iconst C dX12_cat_21 ic_i_0 rfl ?_
    refine dn_callV_ih (As := [.int t3, .int (1 : Int32), .int (0 : Int32)]) (st := []) C (ok_M_bad (cx_g C) o ho t3 (1 : Int32) (0 : Int32) s1 τ) mt_X12_bad mv_X12_bad lk_X12_172 (by decide) ho rfl ⟨Nat.zero_le _, Nat.zero_le _⟩ (Nat.le_of_ble_eq_true rfl) dX12_cat_22 rfl rfl (fun z4 s5 => ?_)
    refine dn_jn (fun z => ∀ (s6 : hp_I), dn_D G M 3 0 0 (cl_M G M (ci_ih τ)) 51 [] [] s6 τ (z s6)) (fun s6 => ?_) (fun j7 hj7 => ?_)
    · refine dn_iconst C dX12_cat_51 ic_i_0 rfl ?_
      exact dn_iret C dX12_cat_52 rfl
    · refine dn_if_ne (t := 51) C dX12_cat_25 (by decide) rfl ?_ ?_
      · refine dn_aload_n C dX12_cat_28 rfl 0 rfl rfl ?_
        refine dn_iload_n C dX12_cat_29 rfl 2 rfl rfl ?_
        refine dn_iconst C dX12_cat_30 ic_i_0 rfl ?_
        refine dn_iconst C dX12_cat_31 ic_i_3 rfl ?_
        refine dn_callS_i (As := [.int p2, .int (0 : Int32), .int (3 : Int32)]) (st := [.ref (wd_b G + o)]) C (ok_M_in (cx_g C) p2 (0 : Int32) (3 : Int32) s5 τ) mt_X12_in ms_X12_in lk_X12_127 (by decide) rfl ⟨Nat.zero_le _, Nat.zero_le _⟩ (Nat.le_of_ble_eq_true rfl) dX12_cat_32 rfl rfl (fun z8 => ?_)
        refine dn_jn (fun z => ∀ (t9 : Int32), dn_D G M 3 0 0 (cl_M G M (ci_ih τ)) 43 [(0, .ref (wd_b G + o)), (1, .int p1), (2, .int p2)] [.int t9, .ref (wd_b G + o)] s5 τ (z t9)) (fun t9 => ?_) (fun j18 hj18 => ?_)
        · refine dn_iconst C dX12_cat_43 ic_i_2 rfl ?_
          refine dn_iconst C dX12_cat_44 ic_i_1 rfl ?_
          refine dn_callV_ih (As := [.int t9, .int (2 : Int32), .int (1 : Int32)]) (st := []) C (ok_M_bad (cx_g C) o ho t9 (2 : Int32) (1 : Int32) s5 τ) mt_X12_bad mv_X12_bad lk_X12_172 (by decide) ho rfl ⟨Nat.zero_le _, Nat.zero_le _⟩ (Nat.le_of_ble_eq_true rfl) dX12_cat_45 rfl rfl (fun z10 s11 => ?_)
          refine dn_if_eq (t := 53) C dX12_cat_48 (by decide) rfl ?_ ?_
          · refine dn_iload_n C dX12_cat_53 rfl 2 rfl rfl ?_
            refine dn_jn (fun z => ∀ (t12 : Int32), dn_D G M 3 0 0 (cl_M G M (ci_ih τ)) 108 [] [.int t12] s11 τ (z t12)) (fun t12 => ?_) (fun j13 hj13 => ?_)
            · exact dn_iret C dX12_cat_108 rfl
            · refine dn_if_ne (t := 69) C dX12_cat_54 (by decide) rfl ?_ ?_
              · refine dn_aload_n C dX12_cat_57 rfl 0 rfl rfl ?_
                refine dn_getR C fd_X12_55 ho dX12_cat_58 rfl ?_
                refine dn_bipush C dX12_cat_61 ic_b_32 rfl ?_
                refine dn_iload_n C dX12_cat_63 rfl 1 rfl rfl ?_
                refine dn_iadd C dX12_cat_64 rfl ?_
                refine dn_iald C (kt_12_25 ho) dX12_cat_65 rfl (fun z14 => ?_)
                refine dn_goto (t := 108) C dX12_cat_66 (by decide) ?_
                refine dn_pick [] rfl ?_
                exact hj13 z14
              · refine dn_iload_n C dX12_cat_69 rfl 2 rfl rfl ?_
                refine dn_iconst C dX12_cat_70 ic_i_1 rfl ?_
                refine dn_icmp_ne (t := 82) C dX12_cat_71 (by decide) rfl ?_ ?_
                · refine dn_aload_n C dX12_cat_74 rfl 0 rfl rfl ?_
                  refine dn_iload_n C dX12_cat_75 rfl 1 rfl rfl ?_
                  refine dn_callV_i (As := [.int p1]) (st := []) C (ok_M_nose (cx_g C) o ho p1 s11 τ) mt_X12_nose mv_X12_nose lk_X12_279 (by decide) ho rfl ⟨Nat.zero_le _, Nat.zero_le _⟩ (Nat.le_of_ble_eq_true rfl) dX12_cat_76 rfl rfl (fun z15 => ?_)
                  refine dn_goto (t := 108) C dX12_cat_79 (by decide) ?_
                  refine dn_pick [] rfl ?_
                  exact hj13 z15
                · refine dn_iload_n C dX12_cat_82 rfl 2 rfl rfl ?_
                  refine dn_iconst C dX12_cat_83 ic_i_2 rfl ?_
                  refine dn_icmp_ne (t := 99) C dX12_cat_84 (by decide) rfl ?_ ?_
                  · refine dn_aload_n C dX12_cat_87 rfl 0 rfl rfl ?_
                    refine dn_getR C fd_X12_55 ho dX12_cat_88 rfl ?_
                    refine dn_bipush C dX12_cat_91 ic_b_37 rfl ?_
                    refine dn_iload_n C dX12_cat_93 rfl 1 rfl rfl ?_
                    refine dn_iadd C dX12_cat_94 rfl ?_
                    refine dn_iald C (kt_12_25 ho) dX12_cat_95 rfl (fun z16 => ?_)
                    refine dn_goto (t := 108) C dX12_cat_96 (by decide) ?_
                    refine dn_pick [] rfl ?_
                    exact hj13 z16
                  · refine dn_aload_n C dX12_cat_99 rfl 0 rfl rfl ?_
                    refine dn_aload_n C dX12_cat_100 rfl 0 rfl rfl ?_
                    refine dn_getR C fd_X12_55 ho dX12_cat_101 rfl ?_
                    refine dn_iload_n C dX12_cat_104 rfl 1 rfl rfl ?_
                    refine dn_callV_i (As := [.ref (wd_b G + sh_rf o 25), .int p1]) (st := []) C (ok_M_seen (cx_g C) o ho (sh_rf o 25) (kt_12_25 ho) p1 s11 τ) mt_X12_seen mv_X12_seen lk_X12_289 (by decide) ho rfl ⟨Nat.zero_le _, Nat.zero_le _⟩ (Nat.le_of_ble_eq_true rfl) dX12_cat_105 rfl rfl (fun z17 => ?_)
                    refine dn_pick [] rfl ?_
                    exact hj13 z17
          · refine dn_pick [] rfl ?_
            exact hj7 s11
        · refine dn_if_ne (t := 42) C dX12_cat_35 (by decide) rfl ?_ ?_
          · refine dn_iconst C dX12_cat_38 ic_i_1 rfl ?_
            refine dn_goto (t := 43) C dX12_cat_39 (by decide) ?_
            exact hj18 (1 : Int32)
          · refine dn_iconst C dX12_cat_42 ic_i_0 rfl ?_
            exact hj18 (0 : Int32)
      · refine dn_pick [] rfl ?_
        exact hj7 s5
  · refine dn_if_ne (t := 19) C dX12_cat_12 (by decide) rfl ?_ ?_
    · refine dn_iconst C dX12_cat_15 ic_i_1 rfl ?_
      refine dn_goto (t := 20) C dX12_cat_16 (by decide) ?_
      exact hj19 (1 : Int32)
    · refine dn_iconst C dX12_cat_19 ic_i_0 rfl ?_
      exact hj19 (0 : Int32)
def fn_M_crumbs_L76  (a0 : Nat) (a1 : Int32) (a2 : Int32) (a3 : Int32) (σ : hp_I) (k : Int32 → Option (Int32 × hp_I)) : Nat → Int32 → Option (Int32 × hp_I)
  | 0, _ => none
  | fu + 1, x4 =>
    if x4 < (999 : Int32) then (
      Option.bind (fn_M_givenBy a0 a2 (x4 + (1 : Int32)) σ) fun z14 =>
      if z14 ≤ a3 then (
        px_let (x4 + 1) fun v4_15 =>
        fn_M_crumbs_L76 a0 a1 a2 a3 σ k fu v4_15
      ) else (
        k x4
      )
    ) else (
      k x4
    )
def fn_M_crumbs  (o : Nat) (p1 : Int32) (p2 : Int32) (p3 : Int32) (σ : hp_I) : Option (Int32 × hp_I) :=
  px_let (hp_s σ o 0 (0 : Int32)) fun s1 =>
  Option.bind (fn_M_isThing o (2 : Int32) p1 s1) fun z2 =>
  px_jn (fun (t3 : Int32) =>
    px_b2 (fn_M_bad o t3 (1 : Int32) (0 : Int32) s1) fun z4 s5 =>
    px_jn (fun (s6 : hp_I) =>
      some ((0 : Int32), s6)
    ) fun j7 =>
      if z4 = 0 then (
        Option.bind (px_ald s5 (sh_rf o 12) (2 : Int32)) fun z8 =>
        Option.bind (fn_M_in p2 (0 : Int32) (((1 : Int32) <<< (z8 &&& 31)) - (1 : Int32))) fun z9 =>
        px_jn (fun (t10 : Int32) =>
          px_b2 (fn_M_bad o t10 (2 : Int32) (1 : Int32) s5) fun z11 s12 =>
          if z11 = 0 then (
            px_let (0 : Int32) fun v4_13 =>
            fn_M_crumbs_L76 o p1 p2 p3 s12
              (fun (y_16 : Int32) =>
                Option.bind (fn_M_has p2 p1) fun z17 =>
                px_jn (fun (t18 : Int32) =>
                  some (t18, s12)
                ) fun j19 =>
                  if z17 = 0 then (
                    j19 (0 : Int32)
                  ) else (
                    Option.bind (fn_M_sizeNow o p1 s12) fun z20 =>
                    Option.bind (fn_M_less y_16 z20) fun z21 =>
                    j19 z21
                  )
              )
              FU v4_13
          ) else (
            j7 s12
          )
        ) fun j22 =>
          px_jn (
            j22 (1 : Int32)
          ) fun j23 =>
            if z9 = 0 then (
              j23
            ) else (
              Option.bind (fn_M_in p3 (0 : Int32) (999 : Int32)) fun z24 =>
              if z24 = 0 then (
                j23
              ) else (
                j22 (0 : Int32)
              )
            )
      ) else (
        j7 s5
      )
  ) fun j25 =>
    if z2 = 0 then (
      j25 (1 : Int32)
    ) else (
      j25 (0 : Int32)
    )
set_option maxHeartbeats 4000000 in
set_option maxRecDepth 100000 in
theorem pf_M_crumbs_L76 {G : wd_G} {M : wd_M}  (C : cx_C G M RX12 cX12_crumbs 5 4 (some .int)) (a0 : Nat) (ha0 : sh_kd a0 = 12) (a1 : Int32) (a2 : Int32) (a3 : Int32) (σ : hp_I) (τ : hp_L) (k : Int32 → Option (Int32 × hp_I)) (hk : ∀ (y4 : Int32), dn_D G M 5 0 0 (cl_M G M (ci_ih τ)) 103 [(0, .ref (wd_b G + a0)), (1, .int a1), (2, .int a2), (4, .int y4)] [] σ τ (k y4)) : ∀ (fu : Nat) (x4 : Int32), dn_D G M 5 0 0 (cl_M G M (ci_ih τ)) 76 [(0, .ref (wd_b G + a0)), (1, .int a1), (2, .int a2), (3, .int a3), (4, .int x4)] [] σ τ (fn_M_crumbs_L76 a0 a1 a2 a3 σ k fu x4) := by
  intro fu
  induction fu with
  | zero => exact fun x4 => dn_none
  | succ fu ih =>
    intro x4
    unfold fn_M_crumbs_L76
    refine dn_iload C dX12_crumbs_76 4 rfl rfl ?_
    refine dn_sipush C dX12_crumbs_78 ic_s_999 rfl ?_
    refine dn_icmp_ge (t := 103) C dX12_crumbs_81 (by decide) rfl ?_ ?_
    · refine dn_aload_n C dX12_crumbs_84 rfl 0 rfl rfl ?_
      refine dn_iload_n C dX12_crumbs_85 rfl 2 rfl rfl ?_
      refine dn_iload C dX12_crumbs_86 4 rfl rfl ?_
      refine dn_iconst C dX12_crumbs_88 ic_i_1 rfl ?_
      refine dn_iadd C dX12_crumbs_89 rfl ?_
      refine dn_callV_i (As := [.int a2, .int (x4 + (1 : Int32))]) (st := []) C (ok_M_givenBy (cx_g C) a0 ha0 a2 (x4 + (1 : Int32)) σ τ) mt_X12_givenBy mv_X12_givenBy lk_X12_382 (by decide) ha0 rfl ⟨Nat.zero_le _, Nat.zero_le _⟩ (Nat.le_of_ble_eq_true rfl) dX12_crumbs_90 rfl rfl (fun z14 => ?_)
      refine dn_iload_n C dX12_crumbs_93 rfl 3 rfl rfl ?_
      refine dn_icmp_gt (t := 103) C dX12_crumbs_94 (by decide) rfl ?_ ?_
      · refine dn_iinc (lv0 := [(0, .ref (wd_b G + a0)), (1, .int a1), (2, .int a2), (3, .int a3)]) (v := x4 + 1) C dX12_crumbs_97 4 rfl rfl (by decide) rfl rfl (fun v4_15 => ?_)
        refine dn_goto (t := 76) C dX12_crumbs_100 (by decide) ?_
        refine dn_pick [1, 2, 3, 4, 0] rfl ?_
        exact ih v4_15
      · refine dn_pick [0, 1, 2, 4] rfl ?_
        exact hk x4
    · refine dn_pick [0, 1, 2, 4] rfl ?_
      exact hk x4
set_option maxHeartbeats 4000000 in
set_option maxRecDepth 100000 in
theorem ok_M_crumbs {G : wd_G} {l : Launch} (hN : gd_ok G)  (o : Nat) (ho : sh_kd o = 12) (p1 : Int32) (p2 : Int32) (p3 : Int32) (σ : hp_I) (τ : hp_L) : cl_C G l 4 yX12_crumbs cX12_crumbs 5 (some .int) [.ref (wd_b G + o), .int p1, .int p2, .int p3] σ τ (ci_ih τ) (fn_M_crumbs o p1 p2 p3 σ) := by
  refine cl_of (lv0 := [(0, .ref (wd_b G + o)), (1, .int p1), (2, .int p2), (3, .int p3)]) (ci_ih τ) (by decide) (Nat.le_of_ble_eq_true rfl) rfl hN (fun M hM C => ?_)
  have C : cx_C G M RX12 cX12_crumbs 5 4 (some .int) := C
  unfold fn_M_crumbs
  refine dn_aload_n C dX12_crumbs_0 rfl 0 rfl rfl ?_
  refine dn_iconst C dX12_crumbs_1 ic_i_0 rfl ?_
  refine dn_putI C fp_X12_93 ho dX12_crumbs_2 rfl (fun s1 => ?_)
  refine dn_aload_n C dX12_crumbs_5 rfl 0 rfl rfl ?_
  refine dn_aload_n C dX12_crumbs_6 rfl 0 rfl rfl ?_
  refine dn_iconst C dX12_crumbs_7 ic_i_2 rfl ?_
  refine dn_iload_n C dX12_crumbs_8 rfl 1 rfl rfl ?_
  refine dn_callV_i (As := [.int (2 : Int32), .int p1]) (st := [.ref (wd_b G + o)]) C (ok_M_isThing (cx_g C) o ho (2 : Int32) p1 s1 τ) mt_X12_isThing mv_X12_isThing lk_X12_336 (by decide) ho rfl ⟨Nat.zero_le _, Nat.zero_le _⟩ (Nat.le_of_ble_eq_true rfl) dX12_crumbs_9 rfl rfl (fun z2 => ?_)
  refine dn_jn (fun z => ∀ (t3 : Int32), dn_D G M 5 0 0 (cl_M G M (ci_ih τ)) 20 [(0, .ref (wd_b G + o)), (1, .int p1), (2, .int p2), (3, .int p3)] [.int t3, .ref (wd_b G + o)] s1 τ (z t3)) (fun t3 => ?_) (fun j25 hj25 => ?_)
  · refine dn_iconst C dX12_crumbs_20 ic_i_1 rfl ?_
    refine dn_iconst C dX12_crumbs_21 ic_i_0 rfl ?_
    refine dn_callV_ih (As := [.int t3, .int (1 : Int32), .int (0 : Int32)]) (st := []) C (ok_M_bad (cx_g C) o ho t3 (1 : Int32) (0 : Int32) s1 τ) mt_X12_bad mv_X12_bad lk_X12_172 (by decide) ho rfl ⟨Nat.zero_le _, Nat.zero_le _⟩ (Nat.le_of_ble_eq_true rfl) dX12_crumbs_22 rfl rfl (fun z4 s5 => ?_)
    refine dn_jn (fun z => ∀ (s6 : hp_I), dn_D G M 5 0 0 (cl_M G M (ci_ih τ)) 71 [] [] s6 τ (z s6)) (fun s6 => ?_) (fun j7 hj7 => ?_)
    · refine dn_iconst C dX12_crumbs_71 ic_i_0 rfl ?_
      exact dn_iret C dX12_crumbs_72 rfl
    · refine dn_if_ne (t := 71) C dX12_crumbs_25 (by decide) rfl ?_ ?_
      · refine dn_aload_n C dX12_crumbs_28 rfl 0 rfl rfl ?_
        refine dn_iload_n C dX12_crumbs_29 rfl 2 rfl rfl ?_
        refine dn_iconst C dX12_crumbs_30 ic_i_0 rfl ?_
        refine dn_iconst C dX12_crumbs_31 ic_i_1 rfl ?_
        refine dn_aload_n C dX12_crumbs_32 rfl 0 rfl rfl ?_
        refine dn_getR C fd_X12_23 ho dX12_crumbs_33 rfl ?_
        refine dn_iconst C dX12_crumbs_36 ic_i_2 rfl ?_
        refine dn_iald C (kt_12_12 ho) dX12_crumbs_37 rfl (fun z8 => ?_)
        refine dn_ishl C dX12_crumbs_38 rfl ?_
        refine dn_iconst C dX12_crumbs_39 ic_i_1 rfl ?_
        refine dn_isub C dX12_crumbs_40 rfl ?_
        refine dn_callS_i (As := [.int p2, .int (0 : Int32), .int (((1 : Int32) <<< (z8 &&& 31)) - (1 : Int32))]) (st := [.ref (wd_b G + o)]) C (ok_M_in (cx_g C) p2 (0 : Int32) (((1 : Int32) <<< (z8 &&& 31)) - (1 : Int32)) s5 τ) mt_X12_in ms_X12_in lk_X12_127 (by decide) rfl ⟨Nat.zero_le _, Nat.zero_le _⟩ (Nat.le_of_ble_eq_true rfl) dX12_crumbs_41 rfl rfl (fun z9 => ?_)
        refine dn_jn (fun z => ∀ (t10 : Int32), dn_D G M 5 0 0 (cl_M G M (ci_ih τ)) 63 [(0, .ref (wd_b G + o)), (1, .int p1), (2, .int p2), (3, .int p3)] [.int t10, .ref (wd_b G + o)] s5 τ (z t10)) (fun t10 => ?_) (fun j22 hj22 => ?_)
        · refine dn_iconst C dX12_crumbs_63 ic_i_2 rfl ?_
          refine dn_iconst C dX12_crumbs_64 ic_i_1 rfl ?_
          refine dn_callV_ih (As := [.int t10, .int (2 : Int32), .int (1 : Int32)]) (st := []) C (ok_M_bad (cx_g C) o ho t10 (2 : Int32) (1 : Int32) s5 τ) mt_X12_bad mv_X12_bad lk_X12_172 (by decide) ho rfl ⟨Nat.zero_le _, Nat.zero_le _⟩ (Nat.le_of_ble_eq_true rfl) dX12_crumbs_65 rfl rfl (fun z11 s12 => ?_)
          refine dn_if_eq (t := 73) C dX12_crumbs_68 (by decide) rfl ?_ ?_
          · refine dn_iconst C dX12_crumbs_73 ic_i_0 rfl ?_
            refine dn_istore (lv0 := [(0, .ref (wd_b G + o)), (1, .int p1), (2, .int p2), (3, .int p3)]) C dX12_crumbs_74 (by decide) rfl rfl (fun v4_13 => ?_)
            refine dn_pick [1, 2, 3, 4, 0] rfl ?_
            refine pf_M_crumbs_L76  C  o ho p1 p2 p3 s12 τ _ (fun y_16 => ?_) FU v4_13
            refine dn_iload_n C dX12_crumbs_103 rfl 2 rfl rfl ?_
            refine dn_iload_n C dX12_crumbs_104 rfl 1 rfl rfl ?_
            refine dn_callS_i (As := [.int p2, .int p1]) (st := []) C (ok_M_has (cx_g C) p2 p1 s12 τ) mt_X12_has ms_X12_has lk_X12_251 (by decide) rfl ⟨Nat.zero_le _, Nat.zero_le _⟩ (Nat.le_of_ble_eq_true rfl) dX12_crumbs_105 rfl rfl (fun z17 => ?_)
            refine dn_jn (fun z => ∀ (t18 : Int32), dn_D G M 5 0 0 (cl_M G M (ci_ih τ)) 125 [] [.int t18] s12 τ (z t18)) (fun t18 => ?_) (fun j19 hj19 => ?_)
            · exact dn_iret C dX12_crumbs_125 rfl
            · refine dn_if_eq (t := 124) C dX12_crumbs_108 (by decide) rfl ?_ ?_
              · refine dn_iconst C dX12_crumbs_124 ic_i_0 rfl ?_
                refine dn_pick [] rfl ?_
                exact hj19 (0 : Int32)
              · refine dn_iload C dX12_crumbs_111 3 rfl rfl ?_
                refine dn_aload_n C dX12_crumbs_113 rfl 0 rfl rfl ?_
                refine dn_iload_n C dX12_crumbs_114 rfl 1 rfl rfl ?_
                refine dn_callV_i (As := [.int p1]) (st := [.int y_16]) C (ok_M_sizeNow (cx_g C) o ho p1 s12 τ) mt_X12_sizeNow mv_X12_sizeNow lk_X12_379 (by decide) ho rfl ⟨Nat.zero_le _, Nat.zero_le _⟩ (Nat.le_of_ble_eq_true rfl) dX12_crumbs_115 rfl rfl (fun z20 => ?_)
                refine dn_callS_i (As := [.int y_16, .int z20]) (st := []) C (ok_M_less (cx_g C) y_16 z20 s12 τ) mt_X12_less ms_X12_less lk_X12_232 (by decide) rfl ⟨Nat.zero_le _, Nat.zero_le _⟩ (Nat.le_of_ble_eq_true rfl) dX12_crumbs_118 rfl rfl (fun z21 => ?_)
                refine dn_goto (t := 125) C dX12_crumbs_121 (by decide) ?_
                refine dn_pick [] rfl ?_
                exact hj19 z21
          · refine dn_pick [] rfl ?_
            exact hj7 s12
        · refine dn_jn (fun z => dn_D G M 5 0 0 (cl_M G M (ci_ih τ)) 58 [(0, .ref (wd_b G + o)), (1, .int p1), (2, .int p2), (3, .int p3)] [.ref (wd_b G + o)] s5 τ z) ?_ (fun j23 hj23 => ?_)
          · refine dn_iconst C dX12_crumbs_58 ic_i_1 rfl ?_
            refine dn_goto (t := 63) C dX12_crumbs_59 (by decide) ?_
            exact hj22 (1 : Int32)
          · refine dn_if_eq (t := 58) C dX12_crumbs_44 (by decide) rfl ?_ ?_
            · exact hj23
            · refine dn_iload_n C dX12_crumbs_47 rfl 3 rfl rfl ?_
              refine dn_iconst C dX12_crumbs_48 ic_i_0 rfl ?_
              refine dn_sipush C dX12_crumbs_49 ic_s_999 rfl ?_
              refine dn_callS_i (As := [.int p3, .int (0 : Int32), .int (999 : Int32)]) (st := [.ref (wd_b G + o)]) C (ok_M_in (cx_g C) p3 (0 : Int32) (999 : Int32) s5 τ) mt_X12_in ms_X12_in lk_X12_127 (by decide) rfl ⟨Nat.zero_le _, Nat.zero_le _⟩ (Nat.le_of_ble_eq_true rfl) dX12_crumbs_52 rfl rfl (fun z24 => ?_)
              refine dn_if_ne (t := 62) C dX12_crumbs_55 (by decide) rfl ?_ ?_
              · exact hj23
              · refine dn_iconst C dX12_crumbs_62 ic_i_0 rfl ?_
                exact hj22 (0 : Int32)
      · refine dn_pick [] rfl ?_
        exact hj7 s5
  · refine dn_if_ne (t := 19) C dX12_crumbs_12 (by decide) rfl ?_ ?_
    · refine dn_iconst C dX12_crumbs_15 ic_i_1 rfl ?_
      refine dn_goto (t := 20) C dX12_crumbs_16 (by decide) ?_
      exact hj25 (1 : Int32)
    · refine dn_iconst C dX12_crumbs_19 ic_i_0 rfl ?_
      exact hj25 (0 : Int32)
def fn_M_far  (o : Nat) (p1 : Int32) (p2 : Int32) (σ : hp_I) : Option (Int32 × hp_I) :=
  px_let (hp_s σ o 0 (0 : Int32)) fun s1 =>
  Option.bind (fn_M_isThing o (0 : Int32) p1 s1) fun z2 =>
  px_jn (fun (t3 : Int32) =>
    px_b2 (fn_M_bad o t3 (1 : Int32) (0 : Int32) s1) fun z4 s5 =>
    if z4 = 0 then (
      Option.bind (fn_M_farOf o p1 p2 s5) fun z6 =>
      some (z6, s5)
    ) else (
      some ((0 : Int32), s5)
    )
  ) fun j7 =>
    px_jn (
      j7 (1 : Int32)
    ) fun j8 =>
      if z2 = 0 then (
        j8
      ) else (
        Option.bind (fn_M_isThing o (0 : Int32) p2 s1) fun z9 =>
        if z9 = 0 then (
          j8
        ) else (
          j7 (0 : Int32)
        )
      )
set_option maxHeartbeats 4000000 in
set_option maxRecDepth 100000 in
theorem ok_M_far {G : wd_G} {l : Launch} (hN : gd_ok G)  (o : Nat) (ho : sh_kd o = 12) (p1 : Int32) (p2 : Int32) (σ : hp_I) (τ : hp_L) : cl_C G l 4 yX12_far cX12_far 3 (some .int) [.ref (wd_b G + o), .int p1, .int p2] σ τ (ci_ih τ) (fn_M_far o p1 p2 σ) := by
  refine cl_of (lv0 := [(0, .ref (wd_b G + o)), (1, .int p1), (2, .int p2)]) (ci_ih τ) (by decide) (Nat.le_of_ble_eq_true rfl) rfl hN (fun M hM C => ?_)
  have C : cx_C G M RX12 cX12_far 3 4 (some .int) := C
  unfold fn_M_far
  refine dn_aload_n C dX12_far_0 rfl 0 rfl rfl ?_
  refine dn_iconst C dX12_far_1 ic_i_0 rfl ?_
  refine dn_putI C fp_X12_93 ho dX12_far_2 rfl (fun s1 => ?_)
  refine dn_aload_n C dX12_far_5 rfl 0 rfl rfl ?_
  refine dn_aload_n C dX12_far_6 rfl 0 rfl rfl ?_
  refine dn_iconst C dX12_far_7 ic_i_0 rfl ?_
  refine dn_iload_n C dX12_far_8 rfl 1 rfl rfl ?_
  refine dn_callV_i (As := [.int (0 : Int32), .int p1]) (st := [.ref (wd_b G + o)]) C (ok_M_isThing (cx_g C) o ho (0 : Int32) p1 s1 τ) mt_X12_isThing mv_X12_isThing lk_X12_336 (by decide) ho rfl ⟨Nat.zero_le _, Nat.zero_le _⟩ (Nat.le_of_ble_eq_true rfl) dX12_far_9 rfl rfl (fun z2 => ?_)
  refine dn_jn (fun z => ∀ (t3 : Int32), dn_D G M 3 0 0 (cl_M G M (ci_ih τ)) 29 [(0, .ref (wd_b G + o)), (1, .int p1), (2, .int p2)] [.int t3, .ref (wd_b G + o)] s1 τ (z t3)) (fun t3 => ?_) (fun j7 hj7 => ?_)
  · refine dn_iconst C dX12_far_29 ic_i_1 rfl ?_
    refine dn_iconst C dX12_far_30 ic_i_0 rfl ?_
    refine dn_callV_ih (As := [.int t3, .int (1 : Int32), .int (0 : Int32)]) (st := []) C (ok_M_bad (cx_g C) o ho t3 (1 : Int32) (0 : Int32) s1 τ) mt_X12_bad mv_X12_bad lk_X12_172 (by decide) ho rfl ⟨Nat.zero_le _, Nat.zero_le _⟩ (Nat.le_of_ble_eq_true rfl) dX12_far_31 rfl rfl (fun z4 s5 => ?_)
    refine dn_if_eq (t := 39) C dX12_far_34 (by decide) rfl ?_ ?_
    · refine dn_aload_n C dX12_far_39 rfl 0 rfl rfl ?_
      refine dn_iload_n C dX12_far_40 rfl 1 rfl rfl ?_
      refine dn_iload_n C dX12_far_41 rfl 2 rfl rfl ?_
      refine dn_callV_i (As := [.int p1, .int p2]) (st := []) C (ok_M_farOf (cx_g C) o ho p1 p2 s5 τ) mt_X12_farOf mv_X12_farOf lk_X12_339 (by decide) ho rfl ⟨Nat.zero_le _, Nat.zero_le _⟩ (Nat.le_of_ble_eq_true rfl) dX12_far_42 rfl rfl (fun z6 => ?_)
      exact dn_iret C dX12_far_45 rfl
    · refine dn_iconst C dX12_far_37 ic_i_0 rfl ?_
      exact dn_iret C dX12_far_38 rfl
  · refine dn_jn (fun z => dn_D G M 3 0 0 (cl_M G M (ci_ih τ)) 24 [(0, .ref (wd_b G + o)), (1, .int p1), (2, .int p2)] [.ref (wd_b G + o)] s1 τ z) ?_ (fun j8 hj8 => ?_)
    · refine dn_iconst C dX12_far_24 ic_i_1 rfl ?_
      refine dn_goto (t := 29) C dX12_far_25 (by decide) ?_
      exact hj7 (1 : Int32)
    · refine dn_if_eq (t := 24) C dX12_far_12 (by decide) rfl ?_ ?_
      · exact hj8
      · refine dn_aload_n C dX12_far_15 rfl 0 rfl rfl ?_
        refine dn_iconst C dX12_far_16 ic_i_0 rfl ?_
        refine dn_iload_n C dX12_far_17 rfl 2 rfl rfl ?_
        refine dn_callV_i (As := [.int (0 : Int32), .int p2]) (st := [.ref (wd_b G + o)]) C (ok_M_isThing (cx_g C) o ho (0 : Int32) p2 s1 τ) mt_X12_isThing mv_X12_isThing lk_X12_336 (by decide) ho rfl ⟨Nat.zero_le _, Nat.zero_le _⟩ (Nat.le_of_ble_eq_true rfl) dX12_far_18 rfl rfl (fun z9 => ?_)
        refine dn_if_ne (t := 28) C dX12_far_21 (by decide) rfl ?_ ?_
        · exact hj8
        · refine dn_iconst C dX12_far_28 ic_i_0 rfl ?_
          exact hj7 (0 : Int32)
def fn_M_hungry_L9  (a0 : Nat) (σ : hp_I) (k : Int32 → Option (Int32 × hp_I)) : Nat → Int32 → Int32 → Option (Int32 × hp_I)
  | 0, _, _ => none
  | fu + 1, x1, x2 =>
    Option.bind (px_ald σ (sh_rf a0 12) (3 : Int32)) fun z4 =>
    if x2 < z4 then (
      Option.bind (fn_M_seen a0 (sh_rf a0 25) x2 σ) fun z5 =>
      px_jn (fun (t6 : Int32) =>
        px_let (x1 ||| t6) fun v1_7 =>
        px_let (x2 + 1) fun v2_8 =>
        fn_M_hungry_L9 a0 σ k fu v1_7 v2_8
      ) fun j9 =>
        if z5 = 0 then (
          j9 ((1 : Int32) <<< (x2 &&& 31))
        ) else (
          j9 (0 : Int32)
        )
    ) else (
      k x1
    )
def fn_M_hungry  (o : Nat) (σ : hp_I) : Option (Int32 × hp_I) :=
  px_let (hp_s σ o 0 (0 : Int32)) fun s1 =>
  px_let (0 : Int32) fun v1_2 =>
  px_let (0 : Int32) fun v2_3 =>
  fn_M_hungry_L9 o s1
    (fun (y_10 : Int32) =>
      some (y_10, s1)
    )
    FU v1_2 v2_3
set_option maxHeartbeats 4000000 in
set_option maxRecDepth 100000 in
theorem pf_M_hungry_L9 {G : wd_G} {M : wd_M}  (C : cx_C G M RX12 cX12_hungry 3 4 (some .int)) (a0 : Nat) (ha0 : sh_kd a0 = 12) (σ : hp_I) (τ : hp_L) (k : Int32 → Option (Int32 × hp_I)) (hk : ∀ (y1 : Int32), dn_D G M 3 0 0 (cl_M G M (ci_ih τ)) 47 [(1, .int y1)] [] σ τ (k y1)) : ∀ (fu : Nat) (x1 : Int32) (x2 : Int32), dn_D G M 3 0 0 (cl_M G M (ci_ih τ)) 9 [(0, .ref (wd_b G + a0)), (1, .int x1), (2, .int x2)] [] σ τ (fn_M_hungry_L9 a0 σ k fu x1 x2) := by
  intro fu
  induction fu with
  | zero => exact fun x1 x2 => dn_none
  | succ fu ih =>
    intro x1 x2
    unfold fn_M_hungry_L9
    refine dn_iload_n C dX12_hungry_9 rfl 2 rfl rfl ?_
    refine dn_aload_n C dX12_hungry_10 rfl 0 rfl rfl ?_
    refine dn_getR C fd_X12_23 ha0 dX12_hungry_11 rfl ?_
    refine dn_iconst C dX12_hungry_14 ic_i_3 rfl ?_
    refine dn_iald C (kt_12_12 ha0) dX12_hungry_15 rfl (fun z4 => ?_)
    refine dn_icmp_ge (t := 47) C dX12_hungry_16 (by decide) rfl ?_ ?_
    · refine dn_iload_n C dX12_hungry_19 rfl 1 rfl rfl ?_
      refine dn_aload_n C dX12_hungry_20 rfl 0 rfl rfl ?_
      refine dn_aload_n C dX12_hungry_21 rfl 0 rfl rfl ?_
      refine dn_getR C fd_X12_55 ha0 dX12_hungry_22 rfl ?_
      refine dn_iload_n C dX12_hungry_25 rfl 2 rfl rfl ?_
      refine dn_callV_i (As := [.ref (wd_b G + sh_rf a0 25), .int x2]) (st := [.int x1]) C (ok_M_seen (cx_g C) a0 ha0 (sh_rf a0 25) (kt_12_25 ha0) x2 σ τ) mt_X12_seen mv_X12_seen lk_X12_289 (by decide) ha0 rfl ⟨Nat.zero_le _, Nat.zero_le _⟩ (Nat.le_of_ble_eq_true rfl) dX12_hungry_26 rfl rfl (fun z5 => ?_)
      refine dn_jn (fun z => ∀ (t6 : Int32), dn_D G M 3 0 0 (cl_M G M (ci_ih τ)) 39 [(0, .ref (wd_b G + a0)), (2, .int x2)] [.int t6, .int x1] σ τ (z t6)) (fun t6 => ?_) (fun j9 hj9 => ?_)
      · refine dn_ior C dX12_hungry_39 rfl ?_
        refine dn_istore_n (lv0 := [(0, .ref (wd_b G + a0)), (2, .int x2)]) C dX12_hungry_40 rfl (by decide) rfl rfl (fun v1_7 => ?_)
        refine dn_iinc (lv0 := [(1, .int v1_7), (0, .ref (wd_b G + a0))]) (v := x2 + 1) C dX12_hungry_41 2 rfl rfl (by decide) rfl rfl (fun v2_8 => ?_)
        refine dn_goto (t := 9) C dX12_hungry_44 (by decide) ?_
        refine dn_pick [2, 1, 0] rfl ?_
        exact ih v1_7 v2_8
      · refine dn_if_ne (t := 38) C dX12_hungry_29 (by decide) rfl ?_ ?_
        · refine dn_iconst C dX12_hungry_32 ic_i_1 rfl ?_
          refine dn_iload_n C dX12_hungry_33 rfl 2 rfl rfl ?_
          refine dn_ishl C dX12_hungry_34 rfl ?_
          refine dn_goto (t := 39) C dX12_hungry_35 (by decide) ?_
          refine dn_pick [0, 2] rfl ?_
          exact hj9 ((1 : Int32) <<< (x2 &&& 31))
        · refine dn_iconst C dX12_hungry_38 ic_i_0 rfl ?_
          refine dn_pick [0, 2] rfl ?_
          exact hj9 (0 : Int32)
    · refine dn_pick [1] rfl ?_
      exact hk x1
set_option maxHeartbeats 4000000 in
set_option maxRecDepth 100000 in
theorem ok_M_hungry {G : wd_G} {l : Launch} (hN : gd_ok G)  (o : Nat) (ho : sh_kd o = 12) (σ : hp_I) (τ : hp_L) : cl_C G l 4 yX12_hungry cX12_hungry 3 (some .int) [.ref (wd_b G + o)] σ τ (ci_ih τ) (fn_M_hungry o σ) := by
  refine cl_of (lv0 := [(0, .ref (wd_b G + o))]) (ci_ih τ) (by decide) (Nat.le_of_ble_eq_true rfl) rfl hN (fun M hM C => ?_)
  have C : cx_C G M RX12 cX12_hungry 3 4 (some .int) := C
  unfold fn_M_hungry
  refine dn_aload_n C dX12_hungry_0 rfl 0 rfl rfl ?_
  refine dn_iconst C dX12_hungry_1 ic_i_0 rfl ?_
  refine dn_putI C fp_X12_93 ho dX12_hungry_2 rfl (fun s1 => ?_)
  refine dn_iconst C dX12_hungry_5 ic_i_0 rfl ?_
  refine dn_istore_n (lv0 := [(0, .ref (wd_b G + o))]) C dX12_hungry_6 rfl (by decide) rfl rfl (fun v1_2 => ?_)
  refine dn_iconst C dX12_hungry_7 ic_i_0 rfl ?_
  refine dn_istore_n (lv0 := [(1, .int v1_2), (0, .ref (wd_b G + o))]) C dX12_hungry_8 rfl (by decide) rfl rfl (fun v2_3 => ?_)
  refine dn_pick [2, 1, 0] rfl ?_
  refine pf_M_hungry_L9  C  o ho s1 τ _ (fun y_10 => ?_) FU v1_2 v2_3
  refine dn_iload_n C dX12_hungry_47 rfl 0 rfl rfl ?_
  exact dn_iret C dX12_hungry_48 rfl
def fn_M_kindHere  (o : Nat) (σ : hp_I) : Option (Int32 × hp_I) :=
  px_b2 (fn_M_isWord o (18 : Int32) (15 : Int32) (15 : Int32) (13 : Int32) (0 : Int32) (0 : Int32) σ) fun z1 s2 =>
  if z1 = 0 then (
    px_b2 (fn_M_isWord o (23 : Int32) (1 : Int32) (25 : Int32) (0 : Int32) (0 : Int32) (0 : Int32) s2) fun z3 s4 =>
    if z3 = 0 then (
      px_b2 (fn_M_isWord o (19 : Int32) (3 : Int32) (8 : Int32) (5 : Int32) (13 : Int32) (5 : Int32) s4) fun z5 s6 =>
      if z5 = 0 then (
        px_b2 (fn_M_isWord o (3 : Int32) (1 : Int32) (20 : Int32) (0 : Int32) (0 : Int32) (0 : Int32) s6) fun z7 s8 =>
        px_jn (fun (t9 : Int32) =>
          some (t9, s8)
        ) fun j10 =>
          if z7 = 0 then (
            j10 (-1 : Int32)
          ) else (
            j10 (3 : Int32)
          )
      ) else (
        some ((2 : Int32), s6)
      )
    ) else (
      some ((1 : Int32), s4)
    )
  ) else (
    some ((0 : Int32), s2)
  )
set_option maxHeartbeats 4000000 in
set_option maxRecDepth 100000 in
theorem ok_M_kindHere {G : wd_G} {l : Launch} (hN : gd_ok G)  (o : Nat) (ho : sh_kd o = 12) (σ : hp_I) (τ : hp_L) : cl_C G l 4 yX12_kindHere cX12_kindHere 1 (some .int) [.ref (wd_b G + o)] σ τ (ci_ih τ) (fn_M_kindHere o σ) := by
  refine cl_of (lv0 := [(0, .ref (wd_b G + o))]) (ci_ih τ) (by decide) (Nat.le_of_ble_eq_true rfl) rfl hN (fun M hM C => ?_)
  have C : cx_C G M RX12 cX12_kindHere 1 4 (some .int) := C
  unfold fn_M_kindHere
  refine dn_aload_n C dX12_kindHere_0 rfl 0 rfl rfl ?_
  refine dn_bipush C dX12_kindHere_1 ic_b_18 rfl ?_
  refine dn_bipush C dX12_kindHere_3 ic_b_15 rfl ?_
  refine dn_bipush C dX12_kindHere_5 ic_b_15 rfl ?_
  refine dn_bipush C dX12_kindHere_7 ic_b_13 rfl ?_
  refine dn_iconst C dX12_kindHere_9 ic_i_0 rfl ?_
  refine dn_iconst C dX12_kindHere_10 ic_i_0 rfl ?_
  refine dn_callV_ih (As := [.int (18 : Int32), .int (15 : Int32), .int (15 : Int32), .int (13 : Int32), .int (0 : Int32), .int (0 : Int32)]) (st := []) C (ok_M_isWord (cx_g C) o ho (18 : Int32) (15 : Int32) (15 : Int32) (13 : Int32) (0 : Int32) (0 : Int32) σ τ) mt_X12_isWord mv_X12_isWord lk_X12_142 (by decide) ho rfl ⟨Nat.zero_le _, Nat.zero_le _⟩ (Nat.le_of_ble_eq_true rfl) dX12_kindHere_11 rfl rfl (fun z1 s2 => ?_)
  refine dn_if_eq (t := 19) C dX12_kindHere_14 (by decide) rfl ?_ ?_
  · refine dn_aload_n C dX12_kindHere_19 rfl 0 rfl rfl ?_
    refine dn_bipush C dX12_kindHere_20 ic_b_23 rfl ?_
    refine dn_iconst C dX12_kindHere_22 ic_i_1 rfl ?_
    refine dn_bipush C dX12_kindHere_23 ic_b_25 rfl ?_
    refine dn_iconst C dX12_kindHere_25 ic_i_0 rfl ?_
    refine dn_iconst C dX12_kindHere_26 ic_i_0 rfl ?_
    refine dn_iconst C dX12_kindHere_27 ic_i_0 rfl ?_
    refine dn_callV_ih (As := [.int (23 : Int32), .int (1 : Int32), .int (25 : Int32), .int (0 : Int32), .int (0 : Int32), .int (0 : Int32)]) (st := []) C (ok_M_isWord (cx_g C) o ho (23 : Int32) (1 : Int32) (25 : Int32) (0 : Int32) (0 : Int32) (0 : Int32) s2 τ) mt_X12_isWord mv_X12_isWord lk_X12_142 (by decide) ho rfl ⟨Nat.zero_le _, Nat.zero_le _⟩ (Nat.le_of_ble_eq_true rfl) dX12_kindHere_28 rfl rfl (fun z3 s4 => ?_)
    refine dn_if_eq (t := 36) C dX12_kindHere_31 (by decide) rfl ?_ ?_
    · refine dn_aload_n C dX12_kindHere_36 rfl 0 rfl rfl ?_
      refine dn_bipush C dX12_kindHere_37 ic_b_19 rfl ?_
      refine dn_iconst C dX12_kindHere_39 ic_i_3 rfl ?_
      refine dn_bipush C dX12_kindHere_40 ic_b_8 rfl ?_
      refine dn_iconst C dX12_kindHere_42 ic_i_5 rfl ?_
      refine dn_bipush C dX12_kindHere_43 ic_b_13 rfl ?_
      refine dn_iconst C dX12_kindHere_45 ic_i_5 rfl ?_
      refine dn_callV_ih (As := [.int (19 : Int32), .int (3 : Int32), .int (8 : Int32), .int (5 : Int32), .int (13 : Int32), .int (5 : Int32)]) (st := []) C (ok_M_isWord (cx_g C) o ho (19 : Int32) (3 : Int32) (8 : Int32) (5 : Int32) (13 : Int32) (5 : Int32) s4 τ) mt_X12_isWord mv_X12_isWord lk_X12_142 (by decide) ho rfl ⟨Nat.zero_le _, Nat.zero_le _⟩ (Nat.le_of_ble_eq_true rfl) dX12_kindHere_46 rfl rfl (fun z5 s6 => ?_)
      refine dn_if_eq (t := 54) C dX12_kindHere_49 (by decide) rfl ?_ ?_
      · refine dn_aload_n C dX12_kindHere_54 rfl 0 rfl rfl ?_
        refine dn_iconst C dX12_kindHere_55 ic_i_3 rfl ?_
        refine dn_iconst C dX12_kindHere_56 ic_i_1 rfl ?_
        refine dn_bipush C dX12_kindHere_57 ic_b_20 rfl ?_
        refine dn_iconst C dX12_kindHere_59 ic_i_0 rfl ?_
        refine dn_iconst C dX12_kindHere_60 ic_i_0 rfl ?_
        refine dn_iconst C dX12_kindHere_61 ic_i_0 rfl ?_
        refine dn_callV_ih (As := [.int (3 : Int32), .int (1 : Int32), .int (20 : Int32), .int (0 : Int32), .int (0 : Int32), .int (0 : Int32)]) (st := []) C (ok_M_isWord (cx_g C) o ho (3 : Int32) (1 : Int32) (20 : Int32) (0 : Int32) (0 : Int32) (0 : Int32) s6 τ) mt_X12_isWord mv_X12_isWord lk_X12_142 (by decide) ho rfl ⟨Nat.zero_le _, Nat.zero_le _⟩ (Nat.le_of_ble_eq_true rfl) dX12_kindHere_62 rfl rfl (fun z7 s8 => ?_)
        refine dn_jn (fun z => ∀ (t9 : Int32), dn_D G M 1 0 0 (cl_M G M (ci_ih τ)) 73 [] [.int t9] s8 τ (z t9)) (fun t9 => ?_) (fun j10 hj10 => ?_)
        · exact dn_iret C dX12_kindHere_73 rfl
        · refine dn_if_eq (t := 72) C dX12_kindHere_65 (by decide) rfl ?_ ?_
          · refine dn_iconst C dX12_kindHere_72 ic_i_m1 rfl ?_
            refine dn_pick [] rfl ?_
            exact hj10 (-1 : Int32)
          · refine dn_iconst C dX12_kindHere_68 ic_i_3 rfl ?_
            refine dn_goto (t := 73) C dX12_kindHere_69 (by decide) ?_
            refine dn_pick [] rfl ?_
            exact hj10 (3 : Int32)
      · refine dn_iconst C dX12_kindHere_52 ic_i_2 rfl ?_
        exact dn_iret C dX12_kindHere_53 rfl
    · refine dn_iconst C dX12_kindHere_34 ic_i_1 rfl ?_
      exact dn_iret C dX12_kindHere_35 rfl
  · refine dn_iconst C dX12_kindHere_17 ic_i_0 rfl ?_
    exact dn_iret C dX12_kindHere_18 rfl
def fn_M_moreOf  (o : Nat) (p1 : Nat) (p2 : Int32) (σ : hp_I) : Option (Int32 × hp_I) :=
  Option.bind (px_ald σ p1 ((8 : Int32) + p2)) fun z1 =>
  Option.bind (fn_M_grow o p2 σ) fun z2 =>
  Option.bind (px_ald σ p1 ((0 : Int32) + p2)) fun z3 =>
  Option.bind (fn_M_hide o z3 σ) fun z4 =>
  Option.bind (px_ald σ p1 ((0 : Int32) + p2)) fun z5 =>
  Option.bind (fn_M_catsIn o p1 z5 σ) fun z6 =>
  Option.bind (fn_M_ones z6) fun z7 =>
  Option.bind (px_ald σ p1 (46 : Int32)) fun z8 =>
  Option.bind (px_ald σ p1 (43 : Int32)) fun z9 =>
  Option.bind (fn_M_ones z9) fun z10 =>
  px_b2 (fn_M_moreBy o z1 z2 z4 z7 z8 z10 p2 σ) fun z11 s12 =>
  some (z11, s12)
set_option maxHeartbeats 4000000 in
set_option maxRecDepth 100000 in
theorem ok_M_moreOf {G : wd_G} {l : Launch} (hN : gd_ok G)  (o : Nat) (ho : sh_kd o = 12) (p1 : Nat) (hp1 : sh_kd p1 = 13) (p2 : Int32) (σ : hp_I) (τ : hp_L) : cl_C G l 4 yX12_moreOf cX12_moreOf 3 (some .int) [.ref (wd_b G + o), .ref (wd_b G + p1), .int p2] σ τ (ci_ih τ) (fn_M_moreOf o p1 p2 σ) := by
  refine cl_of (lv0 := [(0, .ref (wd_b G + o)), (1, .ref (wd_b G + p1)), (2, .int p2)]) (ci_ih τ) (by decide) (Nat.le_of_ble_eq_true rfl) rfl hN (fun M hM C => ?_)
  have C : cx_C G M RX12 cX12_moreOf 3 4 (some .int) := C
  unfold fn_M_moreOf
  refine dn_aload_n C dX12_moreOf_0 rfl 0 rfl rfl ?_
  refine dn_aload_n C dX12_moreOf_1 rfl 1 rfl rfl ?_
  refine dn_bipush C dX12_moreOf_2 ic_b_8 rfl ?_
  refine dn_iload_n C dX12_moreOf_4 rfl 2 rfl rfl ?_
  refine dn_iadd C dX12_moreOf_5 rfl ?_
  refine dn_iald C hp1 dX12_moreOf_6 rfl (fun z1 => ?_)
  refine dn_aload_n C dX12_moreOf_7 rfl 0 rfl rfl ?_
  refine dn_iload_n C dX12_moreOf_8 rfl 2 rfl rfl ?_
  refine dn_callV_i (As := [.int p2]) (st := [.int z1, .ref (wd_b G + o)]) C (ok_M_grow (cx_g C) o ho p2 σ τ) mt_X12_grow mv_X12_grow lk_X12_258 (by decide) ho rfl ⟨Nat.zero_le _, Nat.zero_le _⟩ (Nat.le_of_ble_eq_true rfl) dX12_moreOf_9 rfl rfl (fun z2 => ?_)
  refine dn_aload_n C dX12_moreOf_12 rfl 0 rfl rfl ?_
  refine dn_aload_n C dX12_moreOf_13 rfl 1 rfl rfl ?_
  refine dn_iconst C dX12_moreOf_14 ic_i_0 rfl ?_
  refine dn_iload_n C dX12_moreOf_15 rfl 2 rfl rfl ?_
  refine dn_iadd C dX12_moreOf_16 rfl ?_
  refine dn_iald C hp1 dX12_moreOf_17 rfl (fun z3 => ?_)
  refine dn_callV_i (As := [.int z3]) (st := [.int z2, .int z1, .ref (wd_b G + o)]) C (ok_M_hide (cx_g C) o ho z3 σ τ) mt_X12_hide mv_X12_hide lk_X12_261 (by decide) ho rfl ⟨Nat.zero_le _, Nat.zero_le _⟩ (Nat.le_of_ble_eq_true rfl) dX12_moreOf_18 rfl rfl (fun z4 => ?_)
  refine dn_aload_n C dX12_moreOf_21 rfl 0 rfl rfl ?_
  refine dn_aload_n C dX12_moreOf_22 rfl 1 rfl rfl ?_
  refine dn_aload_n C dX12_moreOf_23 rfl 1 rfl rfl ?_
  refine dn_iconst C dX12_moreOf_24 ic_i_0 rfl ?_
  refine dn_iload_n C dX12_moreOf_25 rfl 2 rfl rfl ?_
  refine dn_iadd C dX12_moreOf_26 rfl ?_
  refine dn_iald C hp1 dX12_moreOf_27 rfl (fun z5 => ?_)
  refine dn_callV_i (As := [.ref (wd_b G + p1), .int z5]) (st := [.int z4, .int z2, .int z1, .ref (wd_b G + o)]) C (ok_M_catsIn (cx_g C) o ho p1 hp1 z5 σ τ) mt_X12_catsIn mv_X12_catsIn lk_X12_264 (by decide) ho rfl ⟨Nat.zero_le _, Nat.zero_le _⟩ (Nat.le_of_ble_eq_true rfl) dX12_moreOf_28 rfl rfl (fun z6 => ?_)
  refine dn_callS_i (As := [.int z6]) (st := [.int z4, .int z2, .int z1, .ref (wd_b G + o)]) C (ok_M_ones (cx_g C) z6 σ τ) mt_X12_ones ms_X12_ones lk_X12_268 (by decide) rfl ⟨Nat.zero_le _, Nat.zero_le _⟩ (Nat.le_of_ble_eq_true rfl) dX12_moreOf_31 rfl rfl (fun z7 => ?_)
  refine dn_aload_n C dX12_moreOf_34 rfl 1 rfl rfl ?_
  refine dn_bipush C dX12_moreOf_35 ic_b_46 rfl ?_
  refine dn_iald C hp1 dX12_moreOf_37 rfl (fun z8 => ?_)
  refine dn_aload_n C dX12_moreOf_38 rfl 1 rfl rfl ?_
  refine dn_bipush C dX12_moreOf_39 ic_b_43 rfl ?_
  refine dn_iald C hp1 dX12_moreOf_41 rfl (fun z9 => ?_)
  refine dn_callS_i (As := [.int z9]) (st := [.int z8, .int z7, .int z4, .int z2, .int z1, .ref (wd_b G + o)]) C (ok_M_ones (cx_g C) z9 σ τ) mt_X12_ones ms_X12_ones lk_X12_268 (by decide) rfl ⟨Nat.zero_le _, Nat.zero_le _⟩ (Nat.le_of_ble_eq_true rfl) dX12_moreOf_42 rfl rfl (fun z10 => ?_)
  refine dn_iload_n C dX12_moreOf_45 rfl 2 rfl rfl ?_
  refine dn_callV_ih (As := [.int z1, .int z2, .int z4, .int z7, .int z8, .int z10, .int p2]) (st := []) C (ok_M_moreBy (cx_g C) o ho z1 z2 z4 z7 z8 z10 p2 σ τ) mt_X12_moreBy mv_X12_moreBy lk_X12_271 (by decide) ho rfl ⟨Nat.zero_le _, Nat.zero_le _⟩ (Nat.le_of_ble_eq_true rfl) dX12_moreOf_46 rfl rfl (fun z11 s12 => ?_)
  exact dn_iret C dX12_moreOf_49 rfl
def fn_M_safe_L15  (a0 : Nat) (σ : hp_I) (k : Int32 → Option (Int32 × hp_I)) : Nat → Int32 → Int32 → Option (Int32 × hp_I)
  | 0, _, _ => none
  | fu + 1, x1, x2 =>
    Option.bind (px_ald σ (sh_rf a0 12) (3 : Int32)) fun z5 =>
    if x2 < z5 then (
      Option.bind (fn_M_seen a0 (sh_rf a0 25) x2 σ) fun z6 =>
      px_let (x1 &&& (z6 ^^^ (-1 : Int32))) fun v1_7 =>
      px_let (x2 + 1) fun v2_8 =>
      fn_M_safe_L15 a0 σ k fu v1_7 v2_8
    ) else (
      k x1
    )
def fn_M_safe  (o : Nat) (σ : hp_I) : Option (Int32 × hp_I) :=
  px_let (hp_s σ o 0 (0 : Int32)) fun s1 =>
  Option.bind (px_ald s1 (sh_rf o 25) (42 : Int32)) fun z2 =>
  px_let z2 fun v1_3 =>
  px_let (0 : Int32) fun v2_4 =>
  fn_M_safe_L15 o s1
    (fun (y_9 : Int32) =>
      some (y_9, s1)
    )
    FU v1_3 v2_4
set_option maxHeartbeats 4000000 in
set_option maxRecDepth 100000 in
theorem pf_M_safe_L15 {G : wd_G} {M : wd_M}  (C : cx_C G M RX12 cX12_safe 3 4 (some .int)) (a0 : Nat) (ha0 : sh_kd a0 = 12) (σ : hp_I) (τ : hp_L) (k : Int32 → Option (Int32 × hp_I)) (hk : ∀ (y1 : Int32), dn_D G M 3 0 0 (cl_M G M (ci_ih τ)) 45 [(1, .int y1)] [] σ τ (k y1)) : ∀ (fu : Nat) (x1 : Int32) (x2 : Int32), dn_D G M 3 0 0 (cl_M G M (ci_ih τ)) 15 [(0, .ref (wd_b G + a0)), (1, .int x1), (2, .int x2)] [] σ τ (fn_M_safe_L15 a0 σ k fu x1 x2) := by
  intro fu
  induction fu with
  | zero => exact fun x1 x2 => dn_none
  | succ fu ih =>
    intro x1 x2
    unfold fn_M_safe_L15
    refine dn_iload_n C dX12_safe_15 rfl 2 rfl rfl ?_
    refine dn_aload_n C dX12_safe_16 rfl 0 rfl rfl ?_
    refine dn_getR C fd_X12_23 ha0 dX12_safe_17 rfl ?_
    refine dn_iconst C dX12_safe_20 ic_i_3 rfl ?_
    refine dn_iald C (kt_12_12 ha0) dX12_safe_21 rfl (fun z5 => ?_)
    refine dn_icmp_ge (t := 45) C dX12_safe_22 (by decide) rfl ?_ ?_
    · refine dn_iload_n C dX12_safe_25 rfl 1 rfl rfl ?_
      refine dn_aload_n C dX12_safe_26 rfl 0 rfl rfl ?_
      refine dn_aload_n C dX12_safe_27 rfl 0 rfl rfl ?_
      refine dn_getR C fd_X12_55 ha0 dX12_safe_28 rfl ?_
      refine dn_iload_n C dX12_safe_31 rfl 2 rfl rfl ?_
      refine dn_callV_i (As := [.ref (wd_b G + sh_rf a0 25), .int x2]) (st := [.int x1]) C (ok_M_seen (cx_g C) a0 ha0 (sh_rf a0 25) (kt_12_25 ha0) x2 σ τ) mt_X12_seen mv_X12_seen lk_X12_289 (by decide) ha0 rfl ⟨Nat.zero_le _, Nat.zero_le _⟩ (Nat.le_of_ble_eq_true rfl) dX12_safe_32 rfl rfl (fun z6 => ?_)
      refine dn_iconst C dX12_safe_35 ic_i_m1 rfl ?_
      refine dn_ixor C dX12_safe_36 rfl ?_
      refine dn_iand C dX12_safe_37 rfl ?_
      refine dn_istore_n (lv0 := [(0, .ref (wd_b G + a0)), (2, .int x2)]) C dX12_safe_38 rfl (by decide) rfl rfl (fun v1_7 => ?_)
      refine dn_iinc (lv0 := [(1, .int v1_7), (0, .ref (wd_b G + a0))]) (v := x2 + 1) C dX12_safe_39 2 rfl rfl (by decide) rfl rfl (fun v2_8 => ?_)
      refine dn_goto (t := 15) C dX12_safe_42 (by decide) ?_
      refine dn_pick [2, 1, 0] rfl ?_
      exact ih v1_7 v2_8
    · refine dn_pick [1] rfl ?_
      exact hk x1
set_option maxHeartbeats 4000000 in
set_option maxRecDepth 100000 in
theorem ok_M_safe {G : wd_G} {l : Launch} (hN : gd_ok G)  (o : Nat) (ho : sh_kd o = 12) (σ : hp_I) (τ : hp_L) : cl_C G l 4 yX12_safe cX12_safe 3 (some .int) [.ref (wd_b G + o)] σ τ (ci_ih τ) (fn_M_safe o σ) := by
  refine cl_of (lv0 := [(0, .ref (wd_b G + o))]) (ci_ih τ) (by decide) (Nat.le_of_ble_eq_true rfl) rfl hN (fun M hM C => ?_)
  have C : cx_C G M RX12 cX12_safe 3 4 (some .int) := C
  unfold fn_M_safe
  refine dn_aload_n C dX12_safe_0 rfl 0 rfl rfl ?_
  refine dn_iconst C dX12_safe_1 ic_i_0 rfl ?_
  refine dn_putI C fp_X12_93 ho dX12_safe_2 rfl (fun s1 => ?_)
  refine dn_aload_n C dX12_safe_5 rfl 0 rfl rfl ?_
  refine dn_getR C fd_X12_55 ho dX12_safe_6 rfl ?_
  refine dn_bipush C dX12_safe_9 ic_b_42 rfl ?_
  refine dn_iald C (kt_12_25 ho) dX12_safe_11 rfl (fun z2 => ?_)
  refine dn_istore_n (lv0 := [(0, .ref (wd_b G + o))]) C dX12_safe_12 rfl (by decide) rfl rfl (fun v1_3 => ?_)
  refine dn_iconst C dX12_safe_13 ic_i_0 rfl ?_
  refine dn_istore_n (lv0 := [(1, .int v1_3), (0, .ref (wd_b G + o))]) C dX12_safe_14 rfl (by decide) rfl rfl (fun v2_4 => ?_)
  refine dn_pick [2, 1, 0] rfl ?_
  refine pf_M_safe_L15  C  o ho s1 τ _ (fun y_9 => ?_) FU v1_3 v2_4
  refine dn_iload_n C dX12_safe_45 rfl 0 rfl rfl ?_
  exact dn_iret C dX12_safe_46 rfl
def fn_M_stepHere  (o : Nat) (σ : hp_I) : Option (Int32 × hp_I) :=
  px_b2 (fn_M_isWord o (8 : Int32) (9 : Int32) (4 : Int32) (5 : Int32) (0 : Int32) (0 : Int32) σ) fun z1 s2 =>
  if z1 = 0 then (
    px_b2 (fn_M_isWord o (3 : Int32) (1 : Int32) (12 : Int32) (12 : Int32) (0 : Int32) (0 : Int32) s2) fun z3 s4 =>
    if z3 = 0 then (
      px_b2 (fn_M_isWord o (6 : Int32) (5 : Int32) (5 : Int32) (4 : Int32) (0 : Int32) (0 : Int32) s4) fun z5 s6 =>
      if z5 = 0 then (
        px_b2 (fn_M_isWord o (10 : Int32) (15 : Int32) (9 : Int32) (14 : Int32) (0 : Int32) (0 : Int32) s6) fun z7 s8 =>
        if z7 = 0 then (
          px_b2 (fn_M_isWord o (19 : Int32) (8 : Int32) (21 : Int32) (20 : Int32) (0 : Int32) (0 : Int32) s8) fun z9 s10 =>
          if z9 = 0 then (
            px_b2 (fn_M_isWord o (14 : Int32) (9 : Int32) (7 : Int32) (8 : Int32) (20 : Int32) (0 : Int32) s10) fun z11 s12 =>
            if z11 = 0 then (
              px_b2 (fn_M_isWord o (1 : Int32) (7 : Int32) (1 : Int32) (9 : Int32) (14 : Int32) (0 : Int32) s12) fun z13 s14 =>
              px_jn (fun (t15 : Int32) =>
                some (t15, s14)
              ) fun j16 =>
                if z13 = 0 then (
                  j16 (-1 : Int32)
                ) else (
                  j16 (6 : Int32)
                )
            ) else (
              some ((5 : Int32), s12)
            )
          ) else (
            some ((4 : Int32), s10)
          )
        ) else (
          some ((3 : Int32), s8)
        )
      ) else (
        some ((2 : Int32), s6)
      )
    ) else (
      some ((1 : Int32), s4)
    )
  ) else (
    some ((0 : Int32), s2)
  )
set_option maxHeartbeats 4000000 in
set_option maxRecDepth 100000 in
theorem ok_M_stepHere {G : wd_G} {l : Launch} (hN : gd_ok G)  (o : Nat) (ho : sh_kd o = 12) (σ : hp_I) (τ : hp_L) : cl_C G l 4 yX12_stepHere cX12_stepHere 1 (some .int) [.ref (wd_b G + o)] σ τ (ci_ih τ) (fn_M_stepHere o σ) := by
  refine cl_of (lv0 := [(0, .ref (wd_b G + o))]) (ci_ih τ) (by decide) (Nat.le_of_ble_eq_true rfl) rfl hN (fun M hM C => ?_)
  have C : cx_C G M RX12 cX12_stepHere 1 4 (some .int) := C
  unfold fn_M_stepHere
  refine dn_aload_n C dX12_stepHere_0 rfl 0 rfl rfl ?_
  refine dn_bipush C dX12_stepHere_1 ic_b_8 rfl ?_
  refine dn_bipush C dX12_stepHere_3 ic_b_9 rfl ?_
  refine dn_iconst C dX12_stepHere_5 ic_i_4 rfl ?_
  refine dn_iconst C dX12_stepHere_6 ic_i_5 rfl ?_
  refine dn_iconst C dX12_stepHere_7 ic_i_0 rfl ?_
  refine dn_iconst C dX12_stepHere_8 ic_i_0 rfl ?_
  refine dn_callV_ih (As := [.int (8 : Int32), .int (9 : Int32), .int (4 : Int32), .int (5 : Int32), .int (0 : Int32), .int (0 : Int32)]) (st := []) C (ok_M_isWord (cx_g C) o ho (8 : Int32) (9 : Int32) (4 : Int32) (5 : Int32) (0 : Int32) (0 : Int32) σ τ) mt_X12_isWord mv_X12_isWord lk_X12_142 (by decide) ho rfl ⟨Nat.zero_le _, Nat.zero_le _⟩ (Nat.le_of_ble_eq_true rfl) dX12_stepHere_9 rfl rfl (fun z1 s2 => ?_)
  refine dn_if_eq (t := 17) C dX12_stepHere_12 (by decide) rfl ?_ ?_
  · refine dn_aload_n C dX12_stepHere_17 rfl 0 rfl rfl ?_
    refine dn_iconst C dX12_stepHere_18 ic_i_3 rfl ?_
    refine dn_iconst C dX12_stepHere_19 ic_i_1 rfl ?_
    refine dn_bipush C dX12_stepHere_20 ic_b_12 rfl ?_
    refine dn_bipush C dX12_stepHere_22 ic_b_12 rfl ?_
    refine dn_iconst C dX12_stepHere_24 ic_i_0 rfl ?_
    refine dn_iconst C dX12_stepHere_25 ic_i_0 rfl ?_
    refine dn_callV_ih (As := [.int (3 : Int32), .int (1 : Int32), .int (12 : Int32), .int (12 : Int32), .int (0 : Int32), .int (0 : Int32)]) (st := []) C (ok_M_isWord (cx_g C) o ho (3 : Int32) (1 : Int32) (12 : Int32) (12 : Int32) (0 : Int32) (0 : Int32) s2 τ) mt_X12_isWord mv_X12_isWord lk_X12_142 (by decide) ho rfl ⟨Nat.zero_le _, Nat.zero_le _⟩ (Nat.le_of_ble_eq_true rfl) dX12_stepHere_26 rfl rfl (fun z3 s4 => ?_)
    refine dn_if_eq (t := 34) C dX12_stepHere_29 (by decide) rfl ?_ ?_
    · refine dn_aload_n C dX12_stepHere_34 rfl 0 rfl rfl ?_
      refine dn_bipush C dX12_stepHere_35 ic_b_6 rfl ?_
      refine dn_iconst C dX12_stepHere_37 ic_i_5 rfl ?_
      refine dn_iconst C dX12_stepHere_38 ic_i_5 rfl ?_
      refine dn_iconst C dX12_stepHere_39 ic_i_4 rfl ?_
      refine dn_iconst C dX12_stepHere_40 ic_i_0 rfl ?_
      refine dn_iconst C dX12_stepHere_41 ic_i_0 rfl ?_
      refine dn_callV_ih (As := [.int (6 : Int32), .int (5 : Int32), .int (5 : Int32), .int (4 : Int32), .int (0 : Int32), .int (0 : Int32)]) (st := []) C (ok_M_isWord (cx_g C) o ho (6 : Int32) (5 : Int32) (5 : Int32) (4 : Int32) (0 : Int32) (0 : Int32) s4 τ) mt_X12_isWord mv_X12_isWord lk_X12_142 (by decide) ho rfl ⟨Nat.zero_le _, Nat.zero_le _⟩ (Nat.le_of_ble_eq_true rfl) dX12_stepHere_42 rfl rfl (fun z5 s6 => ?_)
      refine dn_if_eq (t := 50) C dX12_stepHere_45 (by decide) rfl ?_ ?_
      · refine dn_aload_n C dX12_stepHere_50 rfl 0 rfl rfl ?_
        refine dn_bipush C dX12_stepHere_51 ic_b_10 rfl ?_
        refine dn_bipush C dX12_stepHere_53 ic_b_15 rfl ?_
        refine dn_bipush C dX12_stepHere_55 ic_b_9 rfl ?_
        refine dn_bipush C dX12_stepHere_57 ic_b_14 rfl ?_
        refine dn_iconst C dX12_stepHere_59 ic_i_0 rfl ?_
        refine dn_iconst C dX12_stepHere_60 ic_i_0 rfl ?_
        refine dn_callV_ih (As := [.int (10 : Int32), .int (15 : Int32), .int (9 : Int32), .int (14 : Int32), .int (0 : Int32), .int (0 : Int32)]) (st := []) C (ok_M_isWord (cx_g C) o ho (10 : Int32) (15 : Int32) (9 : Int32) (14 : Int32) (0 : Int32) (0 : Int32) s6 τ) mt_X12_isWord mv_X12_isWord lk_X12_142 (by decide) ho rfl ⟨Nat.zero_le _, Nat.zero_le _⟩ (Nat.le_of_ble_eq_true rfl) dX12_stepHere_61 rfl rfl (fun z7 s8 => ?_)
        refine dn_if_eq (t := 69) C dX12_stepHere_64 (by decide) rfl ?_ ?_
        · refine dn_aload_n C dX12_stepHere_69 rfl 0 rfl rfl ?_
          refine dn_bipush C dX12_stepHere_70 ic_b_19 rfl ?_
          refine dn_bipush C dX12_stepHere_72 ic_b_8 rfl ?_
          refine dn_bipush C dX12_stepHere_74 ic_b_21 rfl ?_
          refine dn_bipush C dX12_stepHere_76 ic_b_20 rfl ?_
          refine dn_iconst C dX12_stepHere_78 ic_i_0 rfl ?_
          refine dn_iconst C dX12_stepHere_79 ic_i_0 rfl ?_
          refine dn_callV_ih (As := [.int (19 : Int32), .int (8 : Int32), .int (21 : Int32), .int (20 : Int32), .int (0 : Int32), .int (0 : Int32)]) (st := []) C (ok_M_isWord (cx_g C) o ho (19 : Int32) (8 : Int32) (21 : Int32) (20 : Int32) (0 : Int32) (0 : Int32) s8 τ) mt_X12_isWord mv_X12_isWord lk_X12_142 (by decide) ho rfl ⟨Nat.zero_le _, Nat.zero_le _⟩ (Nat.le_of_ble_eq_true rfl) dX12_stepHere_80 rfl rfl (fun z9 s10 => ?_)
          refine dn_if_eq (t := 88) C dX12_stepHere_83 (by decide) rfl ?_ ?_
          · refine dn_aload_n C dX12_stepHere_88 rfl 0 rfl rfl ?_
            refine dn_bipush C dX12_stepHere_89 ic_b_14 rfl ?_
            refine dn_bipush C dX12_stepHere_91 ic_b_9 rfl ?_
            refine dn_bipush C dX12_stepHere_93 ic_b_7 rfl ?_
            refine dn_bipush C dX12_stepHere_95 ic_b_8 rfl ?_
            refine dn_bipush C dX12_stepHere_97 ic_b_20 rfl ?_
            refine dn_iconst C dX12_stepHere_99 ic_i_0 rfl ?_
            refine dn_callV_ih (As := [.int (14 : Int32), .int (9 : Int32), .int (7 : Int32), .int (8 : Int32), .int (20 : Int32), .int (0 : Int32)]) (st := []) C (ok_M_isWord (cx_g C) o ho (14 : Int32) (9 : Int32) (7 : Int32) (8 : Int32) (20 : Int32) (0 : Int32) s10 τ) mt_X12_isWord mv_X12_isWord lk_X12_142 (by decide) ho rfl ⟨Nat.zero_le _, Nat.zero_le _⟩ (Nat.le_of_ble_eq_true rfl) dX12_stepHere_100 rfl rfl (fun z11 s12 => ?_)
            refine dn_if_eq (t := 108) C dX12_stepHere_103 (by decide) rfl ?_ ?_
            · refine dn_aload_n C dX12_stepHere_108 rfl 0 rfl rfl ?_
              refine dn_iconst C dX12_stepHere_109 ic_i_1 rfl ?_
              refine dn_bipush C dX12_stepHere_110 ic_b_7 rfl ?_
              refine dn_iconst C dX12_stepHere_112 ic_i_1 rfl ?_
              refine dn_bipush C dX12_stepHere_113 ic_b_9 rfl ?_
              refine dn_bipush C dX12_stepHere_115 ic_b_14 rfl ?_
              refine dn_iconst C dX12_stepHere_117 ic_i_0 rfl ?_
              refine dn_callV_ih (As := [.int (1 : Int32), .int (7 : Int32), .int (1 : Int32), .int (9 : Int32), .int (14 : Int32), .int (0 : Int32)]) (st := []) C (ok_M_isWord (cx_g C) o ho (1 : Int32) (7 : Int32) (1 : Int32) (9 : Int32) (14 : Int32) (0 : Int32) s12 τ) mt_X12_isWord mv_X12_isWord lk_X12_142 (by decide) ho rfl ⟨Nat.zero_le _, Nat.zero_le _⟩ (Nat.le_of_ble_eq_true rfl) dX12_stepHere_118 rfl rfl (fun z13 s14 => ?_)
              refine dn_jn (fun z => ∀ (t15 : Int32), dn_D G M 1 0 0 (cl_M G M (ci_ih τ)) 130 [] [.int t15] s14 τ (z t15)) (fun t15 => ?_) (fun j16 hj16 => ?_)
              · exact dn_iret C dX12_stepHere_130 rfl
              · refine dn_if_eq (t := 129) C dX12_stepHere_121 (by decide) rfl ?_ ?_
                · refine dn_iconst C dX12_stepHere_129 ic_i_m1 rfl ?_
                  refine dn_pick [] rfl ?_
                  exact hj16 (-1 : Int32)
                · refine dn_bipush C dX12_stepHere_124 ic_b_6 rfl ?_
                  refine dn_goto (t := 130) C dX12_stepHere_126 (by decide) ?_
                  refine dn_pick [] rfl ?_
                  exact hj16 (6 : Int32)
            · refine dn_iconst C dX12_stepHere_106 ic_i_5 rfl ?_
              exact dn_iret C dX12_stepHere_107 rfl
          · refine dn_iconst C dX12_stepHere_86 ic_i_4 rfl ?_
            exact dn_iret C dX12_stepHere_87 rfl
        · refine dn_iconst C dX12_stepHere_67 ic_i_3 rfl ?_
          exact dn_iret C dX12_stepHere_68 rfl
      · refine dn_iconst C dX12_stepHere_48 ic_i_2 rfl ?_
        exact dn_iret C dX12_stepHere_49 rfl
    · refine dn_iconst C dX12_stepHere_32 ic_i_1 rfl ?_
      exact dn_iret C dX12_stepHere_33 rfl
  · refine dn_iconst C dX12_stepHere_15 ic_i_0 rfl ?_
    exact dn_iret C dX12_stepHere_16 rfl
def fn_M_takes  (o : Nat) (p1 : Int32) (p2 : Int32) (p3 : Int32) (p4 : Int32) (p5 : Int32) (p6 : Int32) (σ : hp_I) : Option (Int32 × hp_I) :=
  px_b2 (fn_M_isWord o p1 p2 p3 p4 p5 p6 σ) fun z1 s2 =>
  px_let z1 fun v7_3 =>
  px_jn (fun (s4 : hp_I) =>
    px_z v7_3 (v7_3, s4)
  ) fun j5 =>
    if v7_3 = 0 then (
      j5 s2
    ) else (
      Option.bind (fn_M_skipWord o s2) fun s7 =>
      j5 s7
    )
set_option maxHeartbeats 4000000 in
set_option maxRecDepth 100000 in
theorem ok_M_takes {G : wd_G} {l : Launch} (hN : gd_ok G)  (o : Nat) (ho : sh_kd o = 12) (p1 : Int32) (p2 : Int32) (p3 : Int32) (p4 : Int32) (p5 : Int32) (p6 : Int32) (σ : hp_I) (τ : hp_L) : cl_C G l 4 yX12_takes cX12_takes 8 (some .boolean) [.ref (wd_b G + o), .int p1, .int p2, .int p3, .int p4, .int p5, .int p6] σ τ (ci_ih τ) (fn_M_takes o p1 p2 p3 p4 p5 p6 σ) := by
  refine cl_of (lv0 := [(0, .ref (wd_b G + o)), (1, .int p1), (2, .int p2), (3, .int p3), (4, .int p4), (5, .int p5), (6, .int p6)]) (ci_ih τ) (by decide) (Nat.le_of_ble_eq_true rfl) rfl hN (fun M hM C => ?_)
  have C : cx_C G M RX12 cX12_takes 8 4 (some .boolean) := C
  unfold fn_M_takes
  refine dn_aload_n C dX12_takes_0 rfl 0 rfl rfl ?_
  refine dn_iload_n C dX12_takes_1 rfl 1 rfl rfl ?_
  refine dn_iload_n C dX12_takes_2 rfl 2 rfl rfl ?_
  refine dn_iload_n C dX12_takes_3 rfl 3 rfl rfl ?_
  refine dn_iload C dX12_takes_4 4 rfl rfl ?_
  refine dn_iload C dX12_takes_6 5 rfl rfl ?_
  refine dn_iload C dX12_takes_8 6 rfl rfl ?_
  refine dn_callV_ih (As := [.int p1, .int p2, .int p3, .int p4, .int p5, .int p6]) (st := []) C (ok_M_isWord (cx_g C) o ho p1 p2 p3 p4 p5 p6 σ τ) mt_X12_isWord mv_X12_isWord lk_X12_142 (by decide) ho rfl ⟨Nat.zero_le _, Nat.zero_le _⟩ (Nat.le_of_ble_eq_true rfl) dX12_takes_10 rfl rfl (fun z1 s2 => ?_)
  refine dn_istore (lv0 := [(0, .ref (wd_b G + o)), (1, .int p1), (2, .int p2), (3, .int p3), (4, .int p4), (5, .int p5), (6, .int p6)]) C dX12_takes_13 (by decide) rfl rfl (fun v7_3 => ?_)
  refine dn_iload C dX12_takes_15 0 rfl rfl ?_
  refine dn_jn (fun z => ∀ (s4 : hp_I), dn_D G M 8 0 0 (cl_M G M (ci_ih τ)) 24 [(7, .int v7_3)] [] s4 τ (z s4)) (fun s4 => ?_) (fun j5 hj5 => ?_)
  · refine dn_iload C dX12_takes_24 0 rfl rfl ?_
    exact dn_zret C dX12_takes_26 rfl
  · refine dn_if_eq (t := 24) C dX12_takes_17 (by decide) rfl ?_ ?_
    · refine dn_pick [0] rfl ?_
      exact hj5 s2
    · refine dn_aload_n C dX12_takes_20 rfl 1 rfl rfl ?_
      refine dn_callV_h (As := []) (st := []) C (ok_M_skipWord (cx_g C) o ho s2 τ) mt_X12_skipWord mv_X12_skipWord lk_X12_146 (by decide) ho rfl ⟨Nat.zero_le _, Nat.zero_le _⟩ (Nat.le_of_ble_eq_true rfl) dX12_takes_21 rfl rfl (fun s7 => ?_)
      refine dn_pick [0] rfl ?_
      exact hj5 s7
def fn_M_takes2_L13  (a0 : Nat) (a1 : Nat) (a2 : Int32) (a4 : Int32) (σ : hp_I) (k : Int32 → Option (hp_I)) : Nat → Int32 → Int32 → Option (hp_I)
  | 0, _, _ => none
  | fu + 1, x3, x5 =>
    Option.bind (px_ald σ (sh_rf a0 12) (2 : Int32)) fun z5 =>
    if x5 < z5 then (
      Option.bind (fn_M_has a4 x5) fun z6 =>
      px_jn (fun (t7 : Int32) =>
        px_let t7 fun v3_8 =>
        px_let (x5 + 1) fun v5_9 =>
        fn_M_takes2_L13 a0 a1 a2 a4 σ k fu v3_8 v5_9
      ) fun j10 =>
        px_jn (
          j10 x3
        ) fun j11 =>
          if z6 = 0 then (
            j11
          ) else (
            px_jn (
              j10 x5
            ) fun j12 =>
              if x3 = (-1 : Int32) then (
                j12
              ) else (
                Option.bind (px_ald σ a1 ((8 : Int32) + x5)) fun z13 =>
                Option.bind (px_ald σ a1 ((8 : Int32) + x3)) fun z14 =>
                if z14 < z13 then (
                  j12
                ) else (
                  j11
                )
              )
          )
    ) else (
      k x3
    )
def fn_M_takes2  (o : Nat) (p1 : Nat) (p2 : Int32) (σ : hp_I) : Option (hp_I) :=
  px_let (-1 : Int32) fun v3_1 =>
  Option.bind (fn_M_seen o p1 p2 σ) fun z2 =>
  px_let z2 fun v4_3 =>
  px_let (0 : Int32) fun v5_4 =>
  fn_M_takes2_L13 o p1 p2 v4_3 σ
    (fun (y_15 : Int32) =>
      if y_15 = (-1 : Int32) then (
        some σ
      ) else (
        Option.bind (px_ald σ p1 (42 : Int32)) fun z16 =>
        Option.bind (px_ast σ p1 (42 : Int32) (z16 &&& (((1 : Int32) <<< (y_15 &&& 31)) ^^^ (-1 : Int32)))) fun s17 =>
        Option.bind (px_ald s17 p1 (43 : Int32)) fun z18 =>
        Option.bind (px_ast s17 p1 (43 : Int32) (z18 ||| ((1 : Int32) <<< (y_15 &&& 31)))) fun s19 =>
        Option.bind (px_ald s19 p1 (46 : Int32)) fun z20 =>
        Option.bind (px_ast s19 p1 ((16 : Int32) + y_15) z20) fun s21 =>
        Option.bind (px_ast s21 p1 ((24 : Int32) + y_15) p2) fun s22 =>
        Option.bind (px_ald s22 p1 ((37 : Int32) + p2)) fun z23 =>
        Option.bind (px_ast s22 p1 ((37 : Int32) + p2) (z23 + (1 : Int32))) fun s24 =>
        some s24
      )
    )
    FU v3_1 v5_4
set_option maxHeartbeats 4000000 in
set_option maxRecDepth 100000 in
theorem pf_M_takes2_L13 {G : wd_G} {M : wd_M}  (C : cx_C G M RX12 cX12_takes2 6 4 none) (a0 : Nat) (ha0 : sh_kd a0 = 12) (a1 : Nat) (ha1 : sh_kd a1 = 13) (a2 : Int32) (a4 : Int32) (σ : hp_I) (τ : hp_L) (k : Int32 → Option (hp_I)) (hk : ∀ (y3 : Int32), dn_D G M 6 0 0 (cl_M G M (ci_h τ)) 68 [(1, .ref (wd_b G + a1)), (2, .int a2), (3, .int y3)] [] σ τ (k y3)) : ∀ (fu : Nat) (x3 : Int32) (x5 : Int32), dn_D G M 6 0 0 (cl_M G M (ci_h τ)) 13 [(0, .ref (wd_b G + a0)), (1, .ref (wd_b G + a1)), (2, .int a2), (3, .int x3), (4, .int a4), (5, .int x5)] [] σ τ (fn_M_takes2_L13 a0 a1 a2 a4 σ k fu x3 x5) := by
  intro fu
  induction fu with
  | zero => exact fun x3 x5 => dn_none
  | succ fu ih =>
    intro x3 x5
    unfold fn_M_takes2_L13
    refine dn_iload C dX12_takes2_13 5 rfl rfl ?_
    refine dn_aload_n C dX12_takes2_15 rfl 0 rfl rfl ?_
    refine dn_getR C fd_X12_23 ha0 dX12_takes2_16 rfl ?_
    refine dn_iconst C dX12_takes2_19 ic_i_2 rfl ?_
    refine dn_iald C (kt_12_12 ha0) dX12_takes2_20 rfl (fun z5 => ?_)
    refine dn_icmp_ge (t := 68) C dX12_takes2_21 (by decide) rfl ?_ ?_
    · refine dn_iload C dX12_takes2_24 4 rfl rfl ?_
      refine dn_iload C dX12_takes2_26 5 rfl rfl ?_
      refine dn_callS_i (As := [.int a4, .int x5]) (st := []) C (ok_M_has (cx_g C) a4 x5 σ τ) mt_X12_has ms_X12_has lk_X12_251 (by decide) rfl ⟨Nat.zero_le _, Nat.zero_le _⟩ (Nat.le_of_ble_eq_true rfl) dX12_takes2_28 rfl rfl (fun z6 => ?_)
      refine dn_jn (fun z => ∀ (t7 : Int32), dn_D G M 6 0 0 (cl_M G M (ci_h τ)) 61 [(0, .ref (wd_b G + a0)), (1, .ref (wd_b G + a1)), (2, .int a2), (4, .int a4), (5, .int x5)] [.int t7] σ τ (z t7)) (fun t7 => ?_) (fun j10 hj10 => ?_)
      · refine dn_istore_n (lv0 := [(0, .ref (wd_b G + a0)), (1, .ref (wd_b G + a1)), (2, .int a2), (4, .int a4), (5, .int x5)]) C dX12_takes2_61 rfl (by decide) rfl rfl (fun v3_8 => ?_)
        refine dn_iinc (lv0 := [(3, .int v3_8), (0, .ref (wd_b G + a0)), (1, .ref (wd_b G + a1)), (2, .int a2), (4, .int a4)]) (v := x5 + 1) C dX12_takes2_62 5 rfl rfl (by decide) rfl rfl (fun v5_9 => ?_)
        refine dn_goto (t := 13) C dX12_takes2_65 (by decide) ?_
        refine dn_pick [2, 3, 4, 1, 5, 0] rfl ?_
        exact ih v3_8 v5_9
      · refine dn_jn (fun z => dn_D G M 6 0 0 (cl_M G M (ci_h τ)) 60 [(0, .ref (wd_b G + a0)), (1, .ref (wd_b G + a1)), (2, .int a2), (3, .int x3), (4, .int a4), (5, .int x5)] [] σ τ z) ?_ (fun j11 hj11 => ?_)
        · refine dn_iload_n C dX12_takes2_60 rfl 3 rfl rfl ?_
          refine dn_pick [0, 1, 2, 4, 5] rfl ?_
          exact hj10 x3
        · refine dn_if_eq (t := 60) C dX12_takes2_31 (by decide) rfl ?_ ?_
          · exact hj11
          · refine dn_iload_n C dX12_takes2_34 rfl 3 rfl rfl ?_
            refine dn_iconst C dX12_takes2_35 ic_i_m1 rfl ?_
            refine dn_jn (fun z => dn_D G M 6 0 0 (cl_M G M (ci_h τ)) 55 [(0, .ref (wd_b G + a0)), (1, .ref (wd_b G + a1)), (2, .int a2), (4, .int a4), (5, .int x5)] [] σ τ z) ?_ (fun j12 hj12 => ?_)
            · refine dn_iload C dX12_takes2_55 4 rfl rfl ?_
              refine dn_goto (t := 61) C dX12_takes2_57 (by decide) ?_
              exact hj10 x5
            · refine dn_icmp_eq (t := 55) C dX12_takes2_36 (by decide) rfl ?_ ?_
              · refine dn_pick [0, 1, 2, 4, 5] rfl ?_
                exact hj12
              · refine dn_aload_n C dX12_takes2_39 rfl 1 rfl rfl ?_
                refine dn_bipush C dX12_takes2_40 ic_b_8 rfl ?_
                refine dn_iload C dX12_takes2_42 5 rfl rfl ?_
                refine dn_iadd C dX12_takes2_44 rfl ?_
                refine dn_iald C ha1 dX12_takes2_45 rfl (fun z13 => ?_)
                refine dn_aload_n C dX12_takes2_46 rfl 1 rfl rfl ?_
                refine dn_bipush C dX12_takes2_47 ic_b_8 rfl ?_
                refine dn_iload_n C dX12_takes2_49 rfl 3 rfl rfl ?_
                refine dn_iadd C dX12_takes2_50 rfl ?_
                refine dn_iald C ha1 dX12_takes2_51 rfl (fun z14 => ?_)
                refine dn_icmp_le (t := 60) C dX12_takes2_52 (by decide) rfl ?_ ?_
                · refine dn_pick [0, 1, 2, 4, 5] rfl ?_
                  exact hj12
                · exact hj11
    · refine dn_pick [1, 2, 3] rfl ?_
      exact hk x3
set_option maxHeartbeats 4000000 in
set_option maxRecDepth 100000 in
theorem ok_M_takes2 {G : wd_G} {l : Launch} (hN : gd_ok G)  (o : Nat) (ho : sh_kd o = 12) (p1 : Nat) (hp1 : sh_kd p1 = 13) (p2 : Int32) (σ : hp_I) (τ : hp_L) : cl_C G l 4 yX12_takes2 cX12_takes2 6 none [.ref (wd_b G + o), .ref (wd_b G + p1), .int p2] σ τ (ci_h τ) (fn_M_takes2 o p1 p2 σ) := by
  refine cl_of (lv0 := [(0, .ref (wd_b G + o)), (1, .ref (wd_b G + p1)), (2, .int p2)]) (ci_h τ) (by decide) (Nat.le_of_ble_eq_true rfl) rfl hN (fun M hM C => ?_)
  have C : cx_C G M RX12 cX12_takes2 6 4 none := C
  unfold fn_M_takes2
  refine dn_iconst C dX12_takes2_0 ic_i_m1 rfl ?_
  refine dn_istore_n (lv0 := [(0, .ref (wd_b G + o)), (1, .ref (wd_b G + p1)), (2, .int p2)]) C dX12_takes2_1 rfl (by decide) rfl rfl (fun v3_1 => ?_)
  refine dn_aload_n C dX12_takes2_2 rfl 1 rfl rfl ?_
  refine dn_aload_n C dX12_takes2_3 rfl 2 rfl rfl ?_
  refine dn_iload_n C dX12_takes2_4 rfl 3 rfl rfl ?_
  refine dn_callV_i (As := [.ref (wd_b G + p1), .int p2]) (st := []) C (ok_M_seen (cx_g C) o ho p1 hp1 p2 σ τ) mt_X12_seen mv_X12_seen lk_X12_289 (by decide) ho rfl ⟨Nat.zero_le _, Nat.zero_le _⟩ (Nat.le_of_ble_eq_true rfl) dX12_takes2_5 rfl rfl (fun z2 => ?_)
  refine dn_istore (lv0 := [(3, .int v3_1), (0, .ref (wd_b G + o)), (1, .ref (wd_b G + p1)), (2, .int p2)]) C dX12_takes2_8 (by decide) rfl rfl (fun v4_3 => ?_)
  refine dn_iconst C dX12_takes2_10 ic_i_0 rfl ?_
  refine dn_istore (lv0 := [(4, .int v4_3), (3, .int v3_1), (0, .ref (wd_b G + o)), (1, .ref (wd_b G + p1)), (2, .int p2)]) C dX12_takes2_11 (by decide) rfl rfl (fun v5_4 => ?_)
  refine dn_pick [3, 4, 5, 2, 1, 0] rfl ?_
  refine pf_M_takes2_L13  C  o ho p1 hp1 p2 v4_3 σ τ _ (fun y_15 => ?_) FU v3_1 v5_4
  refine dn_iload_n C dX12_takes2_68 rfl 2 rfl rfl ?_
  refine dn_iconst C dX12_takes2_69 ic_i_m1 rfl ?_
  refine dn_icmp_ne (t := 74) C dX12_takes2_70 (by decide) rfl ?_ ?_
  · exact dn_vret C dX12_takes2_73 rfl
  · refine dn_aload_n C dX12_takes2_74 rfl 0 rfl rfl ?_
    refine dn_bipush C dX12_takes2_75 ic_b_42 rfl ?_
    refine dn_dup2 C dX12_takes2_77 rfl rfl rfl ?_
    refine dn_iald C hp1 dX12_takes2_78 rfl (fun z16 => ?_)
    refine dn_iconst C dX12_takes2_79 ic_i_1 rfl ?_
    refine dn_iload_n C dX12_takes2_80 rfl 2 rfl rfl ?_
    refine dn_ishl C dX12_takes2_81 rfl ?_
    refine dn_iconst C dX12_takes2_82 ic_i_m1 rfl ?_
    refine dn_ixor C dX12_takes2_83 rfl ?_
    refine dn_iand C dX12_takes2_84 rfl ?_
    refine dn_iast C hp1 dX12_takes2_85 rfl (fun s17 => ?_)
    refine dn_aload_n C dX12_takes2_86 rfl 0 rfl rfl ?_
    refine dn_bipush C dX12_takes2_87 ic_b_43 rfl ?_
    refine dn_dup2 C dX12_takes2_89 rfl rfl rfl ?_
    refine dn_iald C hp1 dX12_takes2_90 rfl (fun z18 => ?_)
    refine dn_iconst C dX12_takes2_91 ic_i_1 rfl ?_
    refine dn_iload_n C dX12_takes2_92 rfl 2 rfl rfl ?_
    refine dn_ishl C dX12_takes2_93 rfl ?_
    refine dn_ior C dX12_takes2_94 rfl ?_
    refine dn_iast C hp1 dX12_takes2_95 rfl (fun s19 => ?_)
    refine dn_aload_n C dX12_takes2_96 rfl 0 rfl rfl ?_
    refine dn_bipush C dX12_takes2_97 ic_b_16 rfl ?_
    refine dn_iload_n C dX12_takes2_99 rfl 2 rfl rfl ?_
    refine dn_iadd C dX12_takes2_100 rfl ?_
    refine dn_aload_n C dX12_takes2_101 rfl 0 rfl rfl ?_
    refine dn_bipush C dX12_takes2_102 ic_b_46 rfl ?_
    refine dn_iald C hp1 dX12_takes2_104 rfl (fun z20 => ?_)
    refine dn_iast C hp1 dX12_takes2_105 rfl (fun s21 => ?_)
    refine dn_aload_n C dX12_takes2_106 rfl 0 rfl rfl ?_
    refine dn_bipush C dX12_takes2_107 ic_b_24 rfl ?_
    refine dn_iload_n C dX12_takes2_109 rfl 2 rfl rfl ?_
    refine dn_iadd C dX12_takes2_110 rfl ?_
    refine dn_iload_n C dX12_takes2_111 rfl 1 rfl rfl ?_
    refine dn_iast C hp1 dX12_takes2_112 rfl (fun s22 => ?_)
    refine dn_aload_n C dX12_takes2_113 rfl 0 rfl rfl ?_
    refine dn_bipush C dX12_takes2_114 ic_b_37 rfl ?_
    refine dn_iload_n C dX12_takes2_116 rfl 1 rfl rfl ?_
    refine dn_iadd C dX12_takes2_117 rfl ?_
    refine dn_dup2 C dX12_takes2_118 rfl rfl rfl ?_
    refine dn_iald C hp1 dX12_takes2_119 rfl (fun z23 => ?_)
    refine dn_iconst C dX12_takes2_120 ic_i_1 rfl ?_
    refine dn_iadd C dX12_takes2_121 rfl ?_
    refine dn_iast C hp1 dX12_takes2_122 rfl (fun s24 => ?_)
    exact dn_vret C dX12_takes2_123 rfl
def fn_M_would  (o : Nat) (p1 : Int32) (p2 : Int32) (p3 : Int32) (p4 : Int32) (p5 : Int32) (p6 : Int32) (p7 : Int32) (σ : hp_I) : Option (Int32 × hp_I) :=
  px_let (hp_s σ o 0 (0 : Int32)) fun s1 =>
  Option.bind (fn_M_in p1 (0 : Int32) (999 : Int32)) fun z2 =>
  px_jn (fun (t3 : Int32) =>
    px_b2 (fn_M_bad o t3 (1 : Int32) (1 : Int32) s1) fun z4 s5 =>
    if z4 = 0 then (
      px_b2 (fn_M_moreBy o p1 p2 p3 p4 p5 p6 p7 s5) fun z6 s7 =>
      some (z6, s7)
    ) else (
      some ((0 : Int32), s5)
    )
  ) fun j8 =>
    px_jn (
      j8 (1 : Int32)
    ) fun j9 =>
      if z2 = 0 then (
        j9
      ) else (
        Option.bind (fn_M_in p2 (0 : Int32) (9 : Int32)) fun z10 =>
        if z10 = 0 then (
          j9
        ) else (
          Option.bind (fn_M_in p3 (0 : Int32) (60 : Int32)) fun z11 =>
          if z11 = 0 then (
            j9
          ) else (
            Option.bind (fn_M_in p4 (0 : Int32) (5 : Int32)) fun z12 =>
            if z12 = 0 then (
              j9
            ) else (
              Option.bind (fn_M_in p5 (0 : Int32) (900 : Int32)) fun z13 =>
              if z13 = 0 then (
                j9
              ) else (
                Option.bind (fn_M_in p6 (0 : Int32) (8 : Int32)) fun z14 =>
                if z14 = 0 then (
                  j9
                ) else (
                  Option.bind (fn_M_in p7 (0 : Int32) (7 : Int32)) fun z15 =>
                  if z15 = 0 then (
                    j9
                  ) else (
                    j8 (0 : Int32)
                  )
                )
              )
            )
          )
        )
      )
set_option maxHeartbeats 4000000 in
set_option maxRecDepth 100000 in
theorem ok_M_would {G : wd_G} {l : Launch} (hN : gd_ok G)  (o : Nat) (ho : sh_kd o = 12) (p1 : Int32) (p2 : Int32) (p3 : Int32) (p4 : Int32) (p5 : Int32) (p6 : Int32) (p7 : Int32) (σ : hp_I) (τ : hp_L) : cl_C G l 4 yX12_would cX12_would 8 (some .int) [.ref (wd_b G + o), .int p1, .int p2, .int p3, .int p4, .int p5, .int p6, .int p7] σ τ (ci_ih τ) (fn_M_would o p1 p2 p3 p4 p5 p6 p7 σ) := by
  refine cl_of (lv0 := [(0, .ref (wd_b G + o)), (1, .int p1), (2, .int p2), (3, .int p3), (4, .int p4), (5, .int p5), (6, .int p6), (7, .int p7)]) (ci_ih τ) (by decide) (Nat.le_of_ble_eq_true rfl) rfl hN (fun M hM C => ?_)
  have C : cx_C G M RX12 cX12_would 8 4 (some .int) := C
  unfold fn_M_would
  refine dn_aload_n C dX12_would_0 rfl 0 rfl rfl ?_
  refine dn_iconst C dX12_would_1 ic_i_0 rfl ?_
  refine dn_putI C fp_X12_93 ho dX12_would_2 rfl (fun s1 => ?_)
  refine dn_aload_n C dX12_would_5 rfl 0 rfl rfl ?_
  refine dn_iload_n C dX12_would_6 rfl 1 rfl rfl ?_
  refine dn_iconst C dX12_would_7 ic_i_0 rfl ?_
  refine dn_sipush C dX12_would_8 ic_s_999 rfl ?_
  refine dn_callS_i (As := [.int p1, .int (0 : Int32), .int (999 : Int32)]) (st := [.ref (wd_b G + o)]) C (ok_M_in (cx_g C) p1 (0 : Int32) (999 : Int32) s1 τ) mt_X12_in ms_X12_in lk_X12_127 (by decide) rfl ⟨Nat.zero_le _, Nat.zero_le _⟩ (Nat.le_of_ble_eq_true rfl) dX12_would_11 rfl rfl (fun z2 => ?_)
  refine dn_jn (fun z => ∀ (t3 : Int32), dn_D G M 8 0 0 (cl_M G M (ci_ih τ)) 86 [(0, .ref (wd_b G + o)), (1, .int p1), (2, .int p2), (3, .int p3), (4, .int p4), (5, .int p5), (6, .int p6), (7, .int p7)] [.int t3, .ref (wd_b G + o)] s1 τ (z t3)) (fun t3 => ?_) (fun j8 hj8 => ?_)
  · refine dn_iconst C dX12_would_86 ic_i_1 rfl ?_
    refine dn_iconst C dX12_would_87 ic_i_1 rfl ?_
    refine dn_callV_ih (As := [.int t3, .int (1 : Int32), .int (1 : Int32)]) (st := []) C (ok_M_bad (cx_g C) o ho t3 (1 : Int32) (1 : Int32) s1 τ) mt_X12_bad mv_X12_bad lk_X12_172 (by decide) ho rfl ⟨Nat.zero_le _, Nat.zero_le _⟩ (Nat.le_of_ble_eq_true rfl) dX12_would_88 rfl rfl (fun z4 s5 => ?_)
    refine dn_if_eq (t := 96) C dX12_would_91 (by decide) rfl ?_ ?_
    · refine dn_aload_n C dX12_would_96 rfl 0 rfl rfl ?_
      refine dn_iload_n C dX12_would_97 rfl 1 rfl rfl ?_
      refine dn_iload_n C dX12_would_98 rfl 2 rfl rfl ?_
      refine dn_iload_n C dX12_would_99 rfl 3 rfl rfl ?_
      refine dn_iload C dX12_would_100 4 rfl rfl ?_
      refine dn_iload C dX12_would_102 5 rfl rfl ?_
      refine dn_iload C dX12_would_104 6 rfl rfl ?_
      refine dn_iload C dX12_would_106 7 rfl rfl ?_
      refine dn_callV_ih (As := [.int p1, .int p2, .int p3, .int p4, .int p5, .int p6, .int p7]) (st := []) C (ok_M_moreBy (cx_g C) o ho p1 p2 p3 p4 p5 p6 p7 s5 τ) mt_X12_moreBy mv_X12_moreBy lk_X12_271 (by decide) ho rfl ⟨Nat.zero_le _, Nat.zero_le _⟩ (Nat.le_of_ble_eq_true rfl) dX12_would_108 rfl rfl (fun z6 s7 => ?_)
      exact dn_iret C dX12_would_111 rfl
    · refine dn_iconst C dX12_would_94 ic_i_0 rfl ?_
      exact dn_iret C dX12_would_95 rfl
  · refine dn_jn (fun z => dn_D G M 8 0 0 (cl_M G M (ci_ih τ)) 81 [(0, .ref (wd_b G + o)), (1, .int p1), (2, .int p2), (3, .int p3), (4, .int p4), (5, .int p5), (6, .int p6), (7, .int p7)] [.ref (wd_b G + o)] s1 τ z) ?_ (fun j9 hj9 => ?_)
    · refine dn_iconst C dX12_would_81 ic_i_1 rfl ?_
      refine dn_goto (t := 86) C dX12_would_82 (by decide) ?_
      exact hj8 (1 : Int32)
    · refine dn_if_eq (t := 81) C dX12_would_14 (by decide) rfl ?_ ?_
      · exact hj9
      · refine dn_iload_n C dX12_would_17 rfl 2 rfl rfl ?_
        refine dn_iconst C dX12_would_18 ic_i_0 rfl ?_
        refine dn_bipush C dX12_would_19 ic_b_9 rfl ?_
        refine dn_callS_i (As := [.int p2, .int (0 : Int32), .int (9 : Int32)]) (st := [.ref (wd_b G + o)]) C (ok_M_in (cx_g C) p2 (0 : Int32) (9 : Int32) s1 τ) mt_X12_in ms_X12_in lk_X12_127 (by decide) rfl ⟨Nat.zero_le _, Nat.zero_le _⟩ (Nat.le_of_ble_eq_true rfl) dX12_would_21 rfl rfl (fun z10 => ?_)
        refine dn_if_eq (t := 81) C dX12_would_24 (by decide) rfl ?_ ?_
        · exact hj9
        · refine dn_iload_n C dX12_would_27 rfl 3 rfl rfl ?_
          refine dn_iconst C dX12_would_28 ic_i_0 rfl ?_
          refine dn_bipush C dX12_would_29 ic_b_60 rfl ?_
          refine dn_callS_i (As := [.int p3, .int (0 : Int32), .int (60 : Int32)]) (st := [.ref (wd_b G + o)]) C (ok_M_in (cx_g C) p3 (0 : Int32) (60 : Int32) s1 τ) mt_X12_in ms_X12_in lk_X12_127 (by decide) rfl ⟨Nat.zero_le _, Nat.zero_le _⟩ (Nat.le_of_ble_eq_true rfl) dX12_would_31 rfl rfl (fun z11 => ?_)
          refine dn_if_eq (t := 81) C dX12_would_34 (by decide) rfl ?_ ?_
          · exact hj9
          · refine dn_iload C dX12_would_37 4 rfl rfl ?_
            refine dn_iconst C dX12_would_39 ic_i_0 rfl ?_
            refine dn_iconst C dX12_would_40 ic_i_5 rfl ?_
            refine dn_callS_i (As := [.int p4, .int (0 : Int32), .int (5 : Int32)]) (st := [.ref (wd_b G + o)]) C (ok_M_in (cx_g C) p4 (0 : Int32) (5 : Int32) s1 τ) mt_X12_in ms_X12_in lk_X12_127 (by decide) rfl ⟨Nat.zero_le _, Nat.zero_le _⟩ (Nat.le_of_ble_eq_true rfl) dX12_would_41 rfl rfl (fun z12 => ?_)
            refine dn_if_eq (t := 81) C dX12_would_44 (by decide) rfl ?_ ?_
            · exact hj9
            · refine dn_iload C dX12_would_47 5 rfl rfl ?_
              refine dn_iconst C dX12_would_49 ic_i_0 rfl ?_
              refine dn_sipush C dX12_would_50 ic_s_900 rfl ?_
              refine dn_callS_i (As := [.int p5, .int (0 : Int32), .int (900 : Int32)]) (st := [.ref (wd_b G + o)]) C (ok_M_in (cx_g C) p5 (0 : Int32) (900 : Int32) s1 τ) mt_X12_in ms_X12_in lk_X12_127 (by decide) rfl ⟨Nat.zero_le _, Nat.zero_le _⟩ (Nat.le_of_ble_eq_true rfl) dX12_would_53 rfl rfl (fun z13 => ?_)
              refine dn_if_eq (t := 81) C dX12_would_56 (by decide) rfl ?_ ?_
              · exact hj9
              · refine dn_iload C dX12_would_59 6 rfl rfl ?_
                refine dn_iconst C dX12_would_61 ic_i_0 rfl ?_
                refine dn_bipush C dX12_would_62 ic_b_8 rfl ?_
                refine dn_callS_i (As := [.int p6, .int (0 : Int32), .int (8 : Int32)]) (st := [.ref (wd_b G + o)]) C (ok_M_in (cx_g C) p6 (0 : Int32) (8 : Int32) s1 τ) mt_X12_in ms_X12_in lk_X12_127 (by decide) rfl ⟨Nat.zero_le _, Nat.zero_le _⟩ (Nat.le_of_ble_eq_true rfl) dX12_would_64 rfl rfl (fun z14 => ?_)
                refine dn_if_eq (t := 81) C dX12_would_67 (by decide) rfl ?_ ?_
                · exact hj9
                · refine dn_iload C dX12_would_70 7 rfl rfl ?_
                  refine dn_iconst C dX12_would_72 ic_i_0 rfl ?_
                  refine dn_bipush C dX12_would_73 ic_b_7 rfl ?_
                  refine dn_callS_i (As := [.int p7, .int (0 : Int32), .int (7 : Int32)]) (st := [.ref (wd_b G + o)]) C (ok_M_in (cx_g C) p7 (0 : Int32) (7 : Int32) s1 τ) mt_X12_in ms_X12_in lk_X12_127 (by decide) rfl ⟨Nat.zero_le _, Nat.zero_le _⟩ (Nat.le_of_ble_eq_true rfl) dX12_would_75 rfl rfl (fun z15 => ?_)
                  refine dn_if_ne (t := 85) C dX12_would_78 (by decide) rfl ?_ ?_
                  · exact hj9
                  · refine dn_iconst C dX12_would_85 ic_i_0 rfl ?_
                    exact hj8 (0 : Int32)
def fn_M_clause  (o : Nat) (σ : hp_I) : Option (hp_I) :=
  px_b2 (fn_M_kindHere o σ) fun z1 s2 =>
  px_let z1 fun v1_3 =>
  px_jn (fun (s4 : hp_I) =>
    if (s4 o 5) = 0 then (
      Option.bind (fn_M_skipWord o s4) fun s6 =>
      px_let (hp_s s6 o 7 ((s6 o 7) + (1 : Int32))) fun s7 =>
      Option.bind (px_ald s7 (sh_rf o 11) v1_3) fun z8 =>
      Option.bind (fn_M_placeOf v1_3 z8) fun z9 =>
      Option.bind (px_rld (sh_rf o 13) z9) fun z10 =>
      px_jn (fun (t11 : Int32) =>
        px_b2 (fn_M_number o (0 : Int32) t11 s7) fun z12 s13 =>
        Option.bind (px_ast s13 z10 (0 : Int32) z12) fun s14 =>
        px_jn (fun (s15 : hp_I) =>
          px_jn (fun (s16 : hp_I) =>
            px_jn (fun (s17 : hp_I) =>
              Option.bind (fn_M_sign o (59 : Int32) s17) fun s19 =>
              Option.bind (px_ald s19 (sh_rf o 11) v1_3) fun z20 =>
              px_jn (fun (t21 : Int32) =>
                Option.bind (px_ast s19 (sh_rf o 11) v1_3 (z20 + t21)) fun s22 =>
                some s22
              ) fun j23 =>
                if (s19 o 5) = 0 then (
                  j23 (1 : Int32)
                ) else (
                  j23 (0 : Int32)
                )
            ) fun j24 =>
              if v1_3 = (3 : Int32) then (
                px_b2 (fn_M_number o (0 : Int32) (20 : Int32) s16) fun z25 s26 =>
                Option.bind (px_ast s26 z10 (1 : Int32) z25) fun s27 =>
                j24 s27
              ) else (
                j24 s16
              )
          ) fun j28 =>
            if v1_3 = (2 : Int32) then (
              px_b2 (fn_M_number o (1 : Int32) (60 : Int32) s15) fun z29 s30 =>
              Option.bind (px_ast s30 z10 (1 : Int32) z29) fun s31 =>
              px_b2 (fn_M_number o (0 : Int32) (9 : Int32) s31) fun z32 s33 =>
              Option.bind (px_ast s33 z10 (2 : Int32) z32) fun s34 =>
              j28 s34
            ) else (
              j28 s15
            )
        ) fun j35 =>
          if v1_3 = (1 : Int32) then (
            Option.bind (fn_M_blanks o s14) fun s37 =>
            px_let (s37 o 4) fun v3_38 =>
            Option.bind (px_ald s37 (sh_rf o 11) (0 : Int32)) fun z39 =>
            px_b2 (fn_M_number o (0 : Int32) (z39 - (1 : Int32)) s37) fun z40 s41 =>
            Option.bind (px_ast s41 z10 (1 : Int32) z40) fun s42 =>
            if (s42 o 5) = 0 then (
              Option.bind (px_ald s42 z10 (0 : Int32)) fun z43 =>
              Option.bind (px_ald s42 z10 (1 : Int32)) fun z44 =>
              if z43 = z44 then (
                Option.bind (fn_M_wrong o (2 : Int32) v3_38 s42) fun s46 =>
                j35 s46
              ) else (
                j35 s42
              )
            ) else (
              j35 s42
            )
          ) else (
            j35 s14
          )
      ) fun j47 =>
        if v1_3 = 0 then (
          j47 (60 : Int32)
        ) else (
          Option.bind (px_ald s7 (sh_rf o 11) (0 : Int32)) fun z48 =>
          j47 (z48 - (1 : Int32))
        )
    ) else (
      some s4
    )
  ) fun j49 =>
    if v1_3 = (-1 : Int32) then (
      Option.bind (fn_M_wrong o (1 : Int32) (s2 o 4) s2) fun s51 =>
      j49 s51
    ) else (
      px_jn (
        Option.bind (fn_M_wrong o (3 : Int32) (s2 o 4) s2) fun s53 =>
        j49 s53
      ) fun j54 =>
        if (s2 o 7) = (60 : Int32) then (
          j54
        ) else (
          Option.bind (px_ald s2 (sh_rf o 11) v1_3) fun z55 =>
          Option.bind (fn_M_mostOf v1_3) fun z56 =>
          if z55 = z56 then (
            j54
          ) else (
            j49 s2
          )
        )
    )
set_option maxHeartbeats 4000000 in
set_option maxRecDepth 100000 in
theorem ok_M_clause {G : wd_G} {l : Launch} (hN : gd_ok G)  (o : Nat) (ho : sh_kd o = 12) (σ : hp_I) (τ : hp_L) : cl_C G l 5 yX12_clause cX12_clause 4 none [.ref (wd_b G + o)] σ τ (ci_h τ) (fn_M_clause o σ) := by
  refine cl_of (lv0 := [(0, .ref (wd_b G + o))]) (ci_h τ) (by decide) (Nat.le_of_ble_eq_true rfl) rfl hN (fun M hM C => ?_)
  have C : cx_C G M RX12 cX12_clause 4 5 none := C
  unfold fn_M_clause
  refine dn_aload_n C dX12_clause_0 rfl 0 rfl rfl ?_
  refine dn_callV_ih (As := []) (st := []) C (ok_M_kindHere (cx_g C) o ho σ τ) mt_X12_kindHere mv_X12_kindHere lk_X12_155 (by decide) ho rfl ⟨Nat.zero_le _, Nat.zero_le _⟩ (Nat.le_of_ble_eq_true rfl) dX12_clause_1 rfl rfl (fun z1 s2 => ?_)
  refine dn_istore_n (lv0 := [(0, .ref (wd_b G + o))]) C dX12_clause_4 rfl (by decide) rfl rfl (fun v1_3 => ?_)
  refine dn_iload_n C dX12_clause_5 rfl 0 rfl rfl ?_
  refine dn_iconst C dX12_clause_6 ic_i_m1 rfl ?_
  refine dn_jn (fun z => ∀ (s4 : hp_I), dn_D G M 4 0 0 (cl_M G M (ci_h τ)) 53 [(0, .ref (wd_b G + o)), (1, .int v1_3)] [] s4 τ (z s4)) (fun s4 => ?_) (fun j49 hj49 => ?_)
  · refine dn_aload_n C dX12_clause_53 rfl 0 rfl rfl ?_
    refine dn_getI C fd_X12_109 ho dX12_clause_54 rfl ?_
    refine dn_if_eq (t := 61) C dX12_clause_57 (by decide) rfl ?_ ?_
    · refine dn_aload_n C dX12_clause_61 rfl 0 rfl rfl ?_
      refine dn_callV_h (As := []) (st := []) C (ok_M_skipWord (cx_g C) o ho s4 τ) mt_X12_skipWord mv_X12_skipWord lk_X12_146 (by decide) ho rfl ⟨Nat.zero_le _, Nat.zero_le _⟩ (Nat.le_of_ble_eq_true rfl) dX12_clause_62 rfl rfl (fun s6 => ?_)
      refine dn_aload_n C dX12_clause_65 rfl 0 rfl rfl ?_
      refine dn_dup C dX12_clause_66 rfl rfl ?_
      refine dn_getI C fd_X12_149 ho dX12_clause_67 rfl ?_
      refine dn_iconst C dX12_clause_70 ic_i_1 rfl ?_
      refine dn_iadd C dX12_clause_71 rfl ?_
      refine dn_putI C fp_X12_149 ho dX12_clause_72 rfl (fun s7 => ?_)
      refine dn_aload_n C dX12_clause_75 rfl 0 rfl rfl ?_
      refine dn_getR C fd_X12_28 ho dX12_clause_76 rfl ?_
      refine dn_iload_n C dX12_clause_79 rfl 1 rfl rfl ?_
      refine dn_aload_n C dX12_clause_80 rfl 0 rfl rfl ?_
      refine dn_getR C fd_X12_20 ho dX12_clause_81 rfl ?_
      refine dn_iload_n C dX12_clause_84 rfl 1 rfl rfl ?_
      refine dn_iald C (kt_12_11 ho) dX12_clause_85 rfl (fun z8 => ?_)
      refine dn_callS_i (As := [.int v1_3, .int z8]) (st := [.ref (wd_b G + sh_rf o 13)]) C (ok_M_placeOf (cx_g C) v1_3 z8 s7 τ) mt_X12_placeOf ms_X12_placeOf lk_X12_161 (by decide) rfl ⟨Nat.zero_le _, Nat.zero_le _⟩ (Nat.le_of_ble_eq_true rfl) dX12_clause_86 rfl rfl (fun z9 => ?_)
      refine dn_aald C (kt_12_13 ho) dX12_clause_89 rfl (fun z10 hz10 => ?_)
      refine dn_astore_n (lv0 := [(0, .ref (wd_b G + o)), (1, .int v1_3)]) C dX12_clause_90 rfl (by decide) rfl rfl ?_
      refine dn_aload_n C dX12_clause_91 rfl 0 rfl rfl ?_
      refine dn_iconst C dX12_clause_92 ic_i_0 rfl ?_
      refine dn_aload_n C dX12_clause_93 rfl 1 rfl rfl ?_
      refine dn_iconst C dX12_clause_94 ic_i_0 rfl ?_
      refine dn_iload_n C dX12_clause_95 rfl 2 rfl rfl ?_
      refine dn_jn (fun z => ∀ (t11 : Int32), dn_D G M 4 0 0 (cl_M G M (ci_h τ)) 112 [(0, .ref (wd_b G + o)), (1, .int v1_3), (2, .ref (wd_b G + z10))] [.int t11, .int (0 : Int32), .ref (wd_b G + o), .int (0 : Int32), .ref (wd_b G + z10)] s7 τ (z t11)) (fun t11 => ?_) (fun j47 hj47 => ?_)
      · refine dn_callV_ih (As := [.int (0 : Int32), .int t11]) (st := [.int (0 : Int32), .ref (wd_b G + z10)]) C (ok_M_number (cx_g C) o ho (0 : Int32) t11 s7 τ) mt_X12_number mv_X12_number lk_X12_165 (by decide) ho rfl ⟨Nat.zero_le _, Nat.zero_le _⟩ (Nat.le_of_ble_eq_true rfl) dX12_clause_112 rfl rfl (fun z12 s13 => ?_)
        refine dn_iast C (kt_row (kt_12_13 ho) hz10) dX12_clause_115 rfl (fun s14 => ?_)
        refine dn_iload_n C dX12_clause_116 rfl 1 rfl rfl ?_
        refine dn_iconst C dX12_clause_117 ic_i_1 rfl ?_
        refine dn_jn (fun z => ∀ (s15 : hp_I), dn_D G M 4 0 0 (cl_M G M (ci_h τ)) 168 [(0, .ref (wd_b G + o)), (1, .int v1_3), (2, .ref (wd_b G + z10))] [] s15 τ (z s15)) (fun s15 => ?_) (fun j35 hj35 => ?_)
        · refine dn_iload_n C dX12_clause_168 rfl 1 rfl rfl ?_
          refine dn_iconst C dX12_clause_169 ic_i_2 rfl ?_
          refine dn_jn (fun z => ∀ (s16 : hp_I), dn_D G M 4 0 0 (cl_M G M (ci_h τ)) 193 [(0, .ref (wd_b G + o)), (1, .int v1_3), (2, .ref (wd_b G + z10))] [] s16 τ (z s16)) (fun s16 => ?_) (fun j28 hj28 => ?_)
          · refine dn_iload_n C dX12_clause_193 rfl 1 rfl rfl ?_
            refine dn_iconst C dX12_clause_194 ic_i_3 rfl ?_
            refine dn_jn (fun z => ∀ (s17 : hp_I), dn_D G M 4 0 0 (cl_M G M (ci_h τ)) 208 [(0, .ref (wd_b G + o)), (1, .int v1_3)] [] s17 τ (z s17)) (fun s17 => ?_) (fun j24 hj24 => ?_)
            · refine dn_aload_n C dX12_clause_208 rfl 0 rfl rfl ?_
              refine dn_bipush C dX12_clause_209 ic_b_59 rfl ?_
              refine dn_callV_h (As := [.int (59 : Int32)]) (st := []) C (ok_M_sign (cx_g C) o ho (59 : Int32) s17 τ) mt_X12_sign mv_X12_sign lk_X12_168 (by decide) ho rfl ⟨Nat.zero_le _, Nat.zero_le _⟩ (Nat.le_of_ble_eq_true rfl) dX12_clause_211 rfl rfl (fun s19 => ?_)
              refine dn_aload_n C dX12_clause_214 rfl 0 rfl rfl ?_
              refine dn_getR C fd_X12_20 ho dX12_clause_215 rfl ?_
              refine dn_iload_n C dX12_clause_218 rfl 1 rfl rfl ?_
              refine dn_dup2 C dX12_clause_219 rfl rfl rfl ?_
              refine dn_iald C (kt_12_11 ho) dX12_clause_220 rfl (fun z20 => ?_)
              refine dn_aload_n C dX12_clause_221 rfl 0 rfl rfl ?_
              refine dn_getI C fd_X12_109 ho dX12_clause_222 rfl ?_
              refine dn_jn (fun z => ∀ (t21 : Int32), dn_D G M 4 0 0 (cl_M G M (ci_h τ)) 233 [] [.int t21, .int z20, .int v1_3, .ref (wd_b G + sh_rf o 11)] s19 τ (z t21)) (fun t21 => ?_) (fun j23 hj23 => ?_)
              · refine dn_iadd C dX12_clause_233 rfl ?_
                refine dn_iast C (kt_12_11 ho) dX12_clause_234 rfl (fun s22 => ?_)
                exact dn_vret C dX12_clause_235 rfl
              · refine dn_if_ne (t := 232) C dX12_clause_225 (by decide) rfl ?_ ?_
                · refine dn_iconst C dX12_clause_228 ic_i_1 rfl ?_
                  refine dn_goto (t := 233) C dX12_clause_229 (by decide) ?_
                  refine dn_pick [] rfl ?_
                  exact hj23 (1 : Int32)
                · refine dn_iconst C dX12_clause_232 ic_i_0 rfl ?_
                  refine dn_pick [] rfl ?_
                  exact hj23 (0 : Int32)
            · refine dn_icmp_ne (t := 208) C dX12_clause_195 (by decide) rfl ?_ ?_
              · refine dn_aload_n C dX12_clause_198 rfl 2 rfl rfl ?_
                refine dn_iconst C dX12_clause_199 ic_i_1 rfl ?_
                refine dn_aload_n C dX12_clause_200 rfl 0 rfl rfl ?_
                refine dn_iconst C dX12_clause_201 ic_i_0 rfl ?_
                refine dn_bipush C dX12_clause_202 ic_b_20 rfl ?_
                refine dn_callV_ih (As := [.int (0 : Int32), .int (20 : Int32)]) (st := [.int (1 : Int32), .ref (wd_b G + z10)]) C (ok_M_number (cx_g C) o ho (0 : Int32) (20 : Int32) s16 τ) mt_X12_number mv_X12_number lk_X12_165 (by decide) ho rfl ⟨Nat.zero_le _, Nat.zero_le _⟩ (Nat.le_of_ble_eq_true rfl) dX12_clause_204 rfl rfl (fun z25 s26 => ?_)
                refine dn_iast C (kt_row (kt_12_13 ho) hz10) dX12_clause_207 rfl (fun s27 => ?_)
                refine dn_pick [0, 1] rfl ?_
                exact hj24 s27
              · refine dn_pick [0, 1] rfl ?_
                exact hj24 s16
          · refine dn_icmp_ne (t := 193) C dX12_clause_170 (by decide) rfl ?_ ?_
            · refine dn_aload_n C dX12_clause_173 rfl 2 rfl rfl ?_
              refine dn_iconst C dX12_clause_174 ic_i_1 rfl ?_
              refine dn_aload_n C dX12_clause_175 rfl 0 rfl rfl ?_
              refine dn_iconst C dX12_clause_176 ic_i_1 rfl ?_
              refine dn_bipush C dX12_clause_177 ic_b_60 rfl ?_
              refine dn_callV_ih (As := [.int (1 : Int32), .int (60 : Int32)]) (st := [.int (1 : Int32), .ref (wd_b G + z10)]) C (ok_M_number (cx_g C) o ho (1 : Int32) (60 : Int32) s15 τ) mt_X12_number mv_X12_number lk_X12_165 (by decide) ho rfl ⟨Nat.zero_le _, Nat.zero_le _⟩ (Nat.le_of_ble_eq_true rfl) dX12_clause_179 rfl rfl (fun z29 s30 => ?_)
              refine dn_iast C (kt_row (kt_12_13 ho) hz10) dX12_clause_182 rfl (fun s31 => ?_)
              refine dn_aload_n C dX12_clause_183 rfl 2 rfl rfl ?_
              refine dn_iconst C dX12_clause_184 ic_i_2 rfl ?_
              refine dn_aload_n C dX12_clause_185 rfl 0 rfl rfl ?_
              refine dn_iconst C dX12_clause_186 ic_i_0 rfl ?_
              refine dn_bipush C dX12_clause_187 ic_b_9 rfl ?_
              refine dn_callV_ih (As := [.int (0 : Int32), .int (9 : Int32)]) (st := [.int (2 : Int32), .ref (wd_b G + z10)]) C (ok_M_number (cx_g C) o ho (0 : Int32) (9 : Int32) s31 τ) mt_X12_number mv_X12_number lk_X12_165 (by decide) ho rfl ⟨Nat.zero_le _, Nat.zero_le _⟩ (Nat.le_of_ble_eq_true rfl) dX12_clause_189 rfl rfl (fun z32 s33 => ?_)
              refine dn_iast C (kt_row (kt_12_13 ho) hz10) dX12_clause_192 rfl (fun s34 => ?_)
              exact hj28 s34
            · exact hj28 s15
        · refine dn_icmp_ne (t := 168) C dX12_clause_118 (by decide) rfl ?_ ?_
          · refine dn_aload_n C dX12_clause_121 rfl 0 rfl rfl ?_
            refine dn_callV_h (As := []) (st := []) C (ok_M_blanks (cx_g C) o ho s14 τ) mt_X12_blanks mv_X12_blanks lk_X12_115 (by decide) ho rfl ⟨Nat.zero_le _, Nat.zero_le _⟩ (Nat.le_of_ble_eq_true rfl) dX12_clause_122 rfl rfl (fun s37 => ?_)
            refine dn_aload_n C dX12_clause_125 rfl 0 rfl rfl ?_
            refine dn_getI C fd_X12_102 ho dX12_clause_126 rfl ?_
            refine dn_istore_n (lv0 := [(0, .ref (wd_b G + o)), (1, .int v1_3), (2, .ref (wd_b G + z10))]) C dX12_clause_129 rfl (by decide) rfl rfl (fun v3_38 => ?_)
            refine dn_aload_n C dX12_clause_130 rfl 3 rfl rfl ?_
            refine dn_iconst C dX12_clause_131 ic_i_1 rfl ?_
            refine dn_aload_n C dX12_clause_132 rfl 1 rfl rfl ?_
            refine dn_iconst C dX12_clause_133 ic_i_0 rfl ?_
            refine dn_aload_n C dX12_clause_134 rfl 1 rfl rfl ?_
            refine dn_getR C fd_X12_20 ho dX12_clause_135 rfl ?_
            refine dn_iconst C dX12_clause_138 ic_i_0 rfl ?_
            refine dn_iald C (kt_12_11 ho) dX12_clause_139 rfl (fun z39 => ?_)
            refine dn_iconst C dX12_clause_140 ic_i_1 rfl ?_
            refine dn_isub C dX12_clause_141 rfl ?_
            refine dn_callV_ih (As := [.int (0 : Int32), .int (z39 - (1 : Int32))]) (st := [.int (1 : Int32), .ref (wd_b G + z10)]) C (ok_M_number (cx_g C) o ho (0 : Int32) (z39 - (1 : Int32)) s37 τ) mt_X12_number mv_X12_number lk_X12_165 (by decide) ho rfl ⟨Nat.zero_le _, Nat.zero_le _⟩ (Nat.le_of_ble_eq_true rfl) dX12_clause_142 rfl rfl (fun z40 s41 => ?_)
            refine dn_iast C (kt_row (kt_12_13 ho) hz10) dX12_clause_145 rfl (fun s42 => ?_)
            refine dn_aload_n C dX12_clause_146 rfl 1 rfl rfl ?_
            refine dn_getI C fd_X12_109 ho dX12_clause_147 rfl ?_
            refine dn_if_ne (t := 168) C dX12_clause_150 (by decide) rfl ?_ ?_
            · refine dn_aload_n C dX12_clause_153 rfl 3 rfl rfl ?_
              refine dn_iconst C dX12_clause_154 ic_i_0 rfl ?_
              refine dn_iald C (kt_row (kt_12_13 ho) hz10) dX12_clause_155 rfl (fun z43 => ?_)
              refine dn_aload_n C dX12_clause_156 rfl 3 rfl rfl ?_
              refine dn_iconst C dX12_clause_157 ic_i_1 rfl ?_
              refine dn_iald C (kt_row (kt_12_13 ho) hz10) dX12_clause_158 rfl (fun z44 => ?_)
              refine dn_icmp_ne (t := 168) C dX12_clause_159 (by decide) rfl ?_ ?_
              · refine dn_aload_n C dX12_clause_162 rfl 1 rfl rfl ?_
                refine dn_iconst C dX12_clause_163 ic_i_2 rfl ?_
                refine dn_iload_n C dX12_clause_164 rfl 0 rfl rfl ?_
                refine dn_callV_h (As := [.int (2 : Int32), .int v3_38]) (st := []) C (ok_M_wrong (cx_g C) o ho (2 : Int32) v3_38 s42 τ) mt_X12_wrong mv_X12_wrong lk_X12_122 (by decide) ho rfl ⟨Nat.zero_le _, Nat.zero_le _⟩ (Nat.le_of_ble_eq_true rfl) dX12_clause_165 rfl rfl (fun s46 => ?_)
                refine dn_pick [1, 2, 3] rfl ?_
                exact hj35 s46
              · refine dn_pick [1, 2, 3] rfl ?_
                exact hj35 s42
            · refine dn_pick [1, 2, 3] rfl ?_
              exact hj35 s42
          · exact hj35 s14
      · refine dn_if_ne (t := 104) C dX12_clause_96 (by decide) rfl ?_ ?_
        · refine dn_bipush C dX12_clause_99 ic_b_60 rfl ?_
          refine dn_goto (t := 112) C dX12_clause_101 (by decide) ?_
          refine dn_pick [1, 2, 0] rfl ?_
          exact hj47 (60 : Int32)
        · refine dn_aload_n C dX12_clause_104 rfl 1 rfl rfl ?_
          refine dn_getR C fd_X12_20 ho dX12_clause_105 rfl ?_
          refine dn_iconst C dX12_clause_108 ic_i_0 rfl ?_
          refine dn_iald C (kt_12_11 ho) dX12_clause_109 rfl (fun z48 => ?_)
          refine dn_iconst C dX12_clause_110 ic_i_1 rfl ?_
          refine dn_isub C dX12_clause_111 rfl ?_
          refine dn_pick [1, 2, 0] rfl ?_
          exact hj47 (z48 - (1 : Int32))
    · exact dn_vret C dX12_clause_60 rfl
  · refine dn_icmp_ne (t := 22) C dX12_clause_7 (by decide) rfl ?_ ?_
    · refine dn_aload_n C dX12_clause_10 rfl 1 rfl rfl ?_
      refine dn_iconst C dX12_clause_11 ic_i_1 rfl ?_
      refine dn_aload_n C dX12_clause_12 rfl 1 rfl rfl ?_
      refine dn_getI C fd_X12_102 ho dX12_clause_13 rfl ?_
      refine dn_callV_h (As := [.int (1 : Int32), .int (s2 o 4)]) (st := []) C (ok_M_wrong (cx_g C) o ho (1 : Int32) (s2 o 4) s2 τ) mt_X12_wrong mv_X12_wrong lk_X12_122 (by decide) ho rfl ⟨Nat.zero_le _, Nat.zero_le _⟩ (Nat.le_of_ble_eq_true rfl) dX12_clause_16 rfl rfl (fun s51 => ?_)
      refine dn_goto (t := 53) C dX12_clause_19 (by decide) ?_
      refine dn_pick [1, 0] rfl ?_
      exact hj49 s51
    · refine dn_aload_n C dX12_clause_22 rfl 1 rfl rfl ?_
      refine dn_getI C fd_X12_149 ho dX12_clause_23 rfl ?_
      refine dn_bipush C dX12_clause_26 ic_b_60 rfl ?_
      refine dn_jn (fun z => dn_D G M 4 0 0 (cl_M G M (ci_h τ)) 44 [(0, .ref (wd_b G + o)), (1, .int v1_3)] [] s2 τ z) ?_ (fun j54 hj54 => ?_)
      · refine dn_aload_n C dX12_clause_44 rfl 0 rfl rfl ?_
        refine dn_iconst C dX12_clause_45 ic_i_3 rfl ?_
        refine dn_aload_n C dX12_clause_46 rfl 0 rfl rfl ?_
        refine dn_getI C fd_X12_102 ho dX12_clause_47 rfl ?_
        refine dn_callV_h (As := [.int (3 : Int32), .int (s2 o 4)]) (st := []) C (ok_M_wrong (cx_g C) o ho (3 : Int32) (s2 o 4) s2 τ) mt_X12_wrong mv_X12_wrong lk_X12_122 (by decide) ho rfl ⟨Nat.zero_le _, Nat.zero_le _⟩ (Nat.le_of_ble_eq_true rfl) dX12_clause_50 rfl rfl (fun s53 => ?_)
        exact hj49 s53
      · refine dn_icmp_eq (t := 44) C dX12_clause_28 (by decide) rfl ?_ ?_
        · refine dn_pick [1, 0] rfl ?_
          exact hj54
        · refine dn_aload_n C dX12_clause_31 rfl 1 rfl rfl ?_
          refine dn_getR C fd_X12_20 ho dX12_clause_32 rfl ?_
          refine dn_iload_n C dX12_clause_35 rfl 0 rfl rfl ?_
          refine dn_iald C (kt_12_11 ho) dX12_clause_36 rfl (fun z55 => ?_)
          refine dn_iload_n C dX12_clause_37 rfl 0 rfl rfl ?_
          refine dn_callS_i (As := [.int v1_3]) (st := [.int z55]) C (ok_M_mostOf (cx_g C) v1_3 s2 τ) mt_X12_mostOf ms_X12_mostOf lk_X12_158 (by decide) rfl ⟨Nat.zero_le _, Nat.zero_le _⟩ (Nat.le_of_ble_eq_true rfl) dX12_clause_38 rfl rfl (fun z56 => ?_)
          refine dn_icmp_ne (t := 53) C dX12_clause_41 (by decide) rfl ?_ ?_
          · refine dn_pick [1, 0] rfl ?_
            exact hj54
          · refine dn_pick [1, 0] rfl ?_
            exact hj49 s2
def fn_M_knownHere  (o : Nat) (σ : hp_I) : Option (Int32 × hp_I) :=
  px_b2 (fn_M_takes o (19 : Int32) (9 : Int32) (26 : Int32) (5 : Int32) (0 : Int32) (0 : Int32) σ) fun z1 s2 =>
  if z1 = 0 then (
    px_b2 (fn_M_takes o (7 : Int32) (18 : Int32) (15 : Int32) (23 : Int32) (0 : Int32) (0 : Int32) s2) fun z3 s4 =>
    if z3 = 0 then (
      px_b2 (fn_M_takes o (8 : Int32) (9 : Int32) (4 : Int32) (5 : Int32) (0 : Int32) (0 : Int32) s4) fun z5 s6 =>
      if z5 = 0 then (
        px_b2 (fn_M_takes o (3 : Int32) (1 : Int32) (20 : Int32) (19 : Int32) (0 : Int32) (0 : Int32) s6) fun z7 s8 =>
        if z7 = 0 then (
          px_b2 (fn_M_takes o (14 : Int32) (9 : Int32) (7 : Int32) (8 : Int32) (20 : Int32) (0 : Int32) s8) fun z9 s10 =>
          if z9 = 0 then (
            px_b2 (fn_M_takes o (13 : Int32) (1 : Int32) (20 : Int32) (0 : Int32) (0 : Int32) (0 : Int32) s10) fun z11 s12 =>
            if z11 = 0 then (
              px_b2 (fn_M_takes o (19 : Int32) (3 : Int32) (8 : Int32) (5 : Int32) (13 : Int32) (5 : Int32) s12) fun z13 s14 =>
              px_jn (fun (t15 : Int32) =>
                some (t15, s14)
              ) fun j16 =>
                if z13 = 0 then (
                  j16 (-1 : Int32)
                ) else (
                  j16 (6 : Int32)
                )
            ) else (
              some ((5 : Int32), s12)
            )
          ) else (
            some ((4 : Int32), s10)
          )
        ) else (
          some ((3 : Int32), s8)
        )
      ) else (
        some ((2 : Int32), s6)
      )
    ) else (
      some ((1 : Int32), s4)
    )
  ) else (
    some ((0 : Int32), s2)
  )
set_option maxHeartbeats 4000000 in
set_option maxRecDepth 100000 in
theorem ok_M_knownHere {G : wd_G} {l : Launch} (hN : gd_ok G)  (o : Nat) (ho : sh_kd o = 12) (σ : hp_I) (τ : hp_L) : cl_C G l 5 yX12_knownHere cX12_knownHere 1 (some .int) [.ref (wd_b G + o)] σ τ (ci_ih τ) (fn_M_knownHere o σ) := by
  refine cl_of (lv0 := [(0, .ref (wd_b G + o))]) (ci_ih τ) (by decide) (Nat.le_of_ble_eq_true rfl) rfl hN (fun M hM C => ?_)
  have C : cx_C G M RX12 cX12_knownHere 1 5 (some .int) := C
  unfold fn_M_knownHere
  refine dn_aload_n C dX12_knownHere_0 rfl 0 rfl rfl ?_
  refine dn_bipush C dX12_knownHere_1 ic_b_19 rfl ?_
  refine dn_bipush C dX12_knownHere_3 ic_b_9 rfl ?_
  refine dn_bipush C dX12_knownHere_5 ic_b_26 rfl ?_
  refine dn_iconst C dX12_knownHere_7 ic_i_5 rfl ?_
  refine dn_iconst C dX12_knownHere_8 ic_i_0 rfl ?_
  refine dn_iconst C dX12_knownHere_9 ic_i_0 rfl ?_
  refine dn_callV_ih (As := [.int (19 : Int32), .int (9 : Int32), .int (26 : Int32), .int (5 : Int32), .int (0 : Int32), .int (0 : Int32)]) (st := []) C (ok_M_takes (cx_g C) o ho (19 : Int32) (9 : Int32) (26 : Int32) (5 : Int32) (0 : Int32) (0 : Int32) σ τ) mt_X12_takes mv_X12_takes lk_X12_219 (by decide) ho rfl ⟨Nat.zero_le _, Nat.zero_le _⟩ (Nat.le_of_ble_eq_true rfl) dX12_knownHere_10 rfl rfl (fun z1 s2 => ?_)
  refine dn_if_eq (t := 18) C dX12_knownHere_13 (by decide) rfl ?_ ?_
  · refine dn_aload_n C dX12_knownHere_18 rfl 0 rfl rfl ?_
    refine dn_bipush C dX12_knownHere_19 ic_b_7 rfl ?_
    refine dn_bipush C dX12_knownHere_21 ic_b_18 rfl ?_
    refine dn_bipush C dX12_knownHere_23 ic_b_15 rfl ?_
    refine dn_bipush C dX12_knownHere_25 ic_b_23 rfl ?_
    refine dn_iconst C dX12_knownHere_27 ic_i_0 rfl ?_
    refine dn_iconst C dX12_knownHere_28 ic_i_0 rfl ?_
    refine dn_callV_ih (As := [.int (7 : Int32), .int (18 : Int32), .int (15 : Int32), .int (23 : Int32), .int (0 : Int32), .int (0 : Int32)]) (st := []) C (ok_M_takes (cx_g C) o ho (7 : Int32) (18 : Int32) (15 : Int32) (23 : Int32) (0 : Int32) (0 : Int32) s2 τ) mt_X12_takes mv_X12_takes lk_X12_219 (by decide) ho rfl ⟨Nat.zero_le _, Nat.zero_le _⟩ (Nat.le_of_ble_eq_true rfl) dX12_knownHere_29 rfl rfl (fun z3 s4 => ?_)
    refine dn_if_eq (t := 37) C dX12_knownHere_32 (by decide) rfl ?_ ?_
    · refine dn_aload_n C dX12_knownHere_37 rfl 0 rfl rfl ?_
      refine dn_bipush C dX12_knownHere_38 ic_b_8 rfl ?_
      refine dn_bipush C dX12_knownHere_40 ic_b_9 rfl ?_
      refine dn_iconst C dX12_knownHere_42 ic_i_4 rfl ?_
      refine dn_iconst C dX12_knownHere_43 ic_i_5 rfl ?_
      refine dn_iconst C dX12_knownHere_44 ic_i_0 rfl ?_
      refine dn_iconst C dX12_knownHere_45 ic_i_0 rfl ?_
      refine dn_callV_ih (As := [.int (8 : Int32), .int (9 : Int32), .int (4 : Int32), .int (5 : Int32), .int (0 : Int32), .int (0 : Int32)]) (st := []) C (ok_M_takes (cx_g C) o ho (8 : Int32) (9 : Int32) (4 : Int32) (5 : Int32) (0 : Int32) (0 : Int32) s4 τ) mt_X12_takes mv_X12_takes lk_X12_219 (by decide) ho rfl ⟨Nat.zero_le _, Nat.zero_le _⟩ (Nat.le_of_ble_eq_true rfl) dX12_knownHere_46 rfl rfl (fun z5 s6 => ?_)
      refine dn_if_eq (t := 54) C dX12_knownHere_49 (by decide) rfl ?_ ?_
      · refine dn_aload_n C dX12_knownHere_54 rfl 0 rfl rfl ?_
        refine dn_iconst C dX12_knownHere_55 ic_i_3 rfl ?_
        refine dn_iconst C dX12_knownHere_56 ic_i_1 rfl ?_
        refine dn_bipush C dX12_knownHere_57 ic_b_20 rfl ?_
        refine dn_bipush C dX12_knownHere_59 ic_b_19 rfl ?_
        refine dn_iconst C dX12_knownHere_61 ic_i_0 rfl ?_
        refine dn_iconst C dX12_knownHere_62 ic_i_0 rfl ?_
        refine dn_callV_ih (As := [.int (3 : Int32), .int (1 : Int32), .int (20 : Int32), .int (19 : Int32), .int (0 : Int32), .int (0 : Int32)]) (st := []) C (ok_M_takes (cx_g C) o ho (3 : Int32) (1 : Int32) (20 : Int32) (19 : Int32) (0 : Int32) (0 : Int32) s6 τ) mt_X12_takes mv_X12_takes lk_X12_219 (by decide) ho rfl ⟨Nat.zero_le _, Nat.zero_le _⟩ (Nat.le_of_ble_eq_true rfl) dX12_knownHere_63 rfl rfl (fun z7 s8 => ?_)
        refine dn_if_eq (t := 71) C dX12_knownHere_66 (by decide) rfl ?_ ?_
        · refine dn_aload_n C dX12_knownHere_71 rfl 0 rfl rfl ?_
          refine dn_bipush C dX12_knownHere_72 ic_b_14 rfl ?_
          refine dn_bipush C dX12_knownHere_74 ic_b_9 rfl ?_
          refine dn_bipush C dX12_knownHere_76 ic_b_7 rfl ?_
          refine dn_bipush C dX12_knownHere_78 ic_b_8 rfl ?_
          refine dn_bipush C dX12_knownHere_80 ic_b_20 rfl ?_
          refine dn_iconst C dX12_knownHere_82 ic_i_0 rfl ?_
          refine dn_callV_ih (As := [.int (14 : Int32), .int (9 : Int32), .int (7 : Int32), .int (8 : Int32), .int (20 : Int32), .int (0 : Int32)]) (st := []) C (ok_M_takes (cx_g C) o ho (14 : Int32) (9 : Int32) (7 : Int32) (8 : Int32) (20 : Int32) (0 : Int32) s8 τ) mt_X12_takes mv_X12_takes lk_X12_219 (by decide) ho rfl ⟨Nat.zero_le _, Nat.zero_le _⟩ (Nat.le_of_ble_eq_true rfl) dX12_knownHere_83 rfl rfl (fun z9 s10 => ?_)
          refine dn_if_eq (t := 91) C dX12_knownHere_86 (by decide) rfl ?_ ?_
          · refine dn_aload_n C dX12_knownHere_91 rfl 0 rfl rfl ?_
            refine dn_bipush C dX12_knownHere_92 ic_b_13 rfl ?_
            refine dn_iconst C dX12_knownHere_94 ic_i_1 rfl ?_
            refine dn_bipush C dX12_knownHere_95 ic_b_20 rfl ?_
            refine dn_iconst C dX12_knownHere_97 ic_i_0 rfl ?_
            refine dn_iconst C dX12_knownHere_98 ic_i_0 rfl ?_
            refine dn_iconst C dX12_knownHere_99 ic_i_0 rfl ?_
            refine dn_callV_ih (As := [.int (13 : Int32), .int (1 : Int32), .int (20 : Int32), .int (0 : Int32), .int (0 : Int32), .int (0 : Int32)]) (st := []) C (ok_M_takes (cx_g C) o ho (13 : Int32) (1 : Int32) (20 : Int32) (0 : Int32) (0 : Int32) (0 : Int32) s10 τ) mt_X12_takes mv_X12_takes lk_X12_219 (by decide) ho rfl ⟨Nat.zero_le _, Nat.zero_le _⟩ (Nat.le_of_ble_eq_true rfl) dX12_knownHere_100 rfl rfl (fun z11 s12 => ?_)
            refine dn_if_eq (t := 108) C dX12_knownHere_103 (by decide) rfl ?_ ?_
            · refine dn_aload_n C dX12_knownHere_108 rfl 0 rfl rfl ?_
              refine dn_bipush C dX12_knownHere_109 ic_b_19 rfl ?_
              refine dn_iconst C dX12_knownHere_111 ic_i_3 rfl ?_
              refine dn_bipush C dX12_knownHere_112 ic_b_8 rfl ?_
              refine dn_iconst C dX12_knownHere_114 ic_i_5 rfl ?_
              refine dn_bipush C dX12_knownHere_115 ic_b_13 rfl ?_
              refine dn_iconst C dX12_knownHere_117 ic_i_5 rfl ?_
              refine dn_callV_ih (As := [.int (19 : Int32), .int (3 : Int32), .int (8 : Int32), .int (5 : Int32), .int (13 : Int32), .int (5 : Int32)]) (st := []) C (ok_M_takes (cx_g C) o ho (19 : Int32) (3 : Int32) (8 : Int32) (5 : Int32) (13 : Int32) (5 : Int32) s12 τ) mt_X12_takes mv_X12_takes lk_X12_219 (by decide) ho rfl ⟨Nat.zero_le _, Nat.zero_le _⟩ (Nat.le_of_ble_eq_true rfl) dX12_knownHere_118 rfl rfl (fun z13 s14 => ?_)
              refine dn_jn (fun z => ∀ (t15 : Int32), dn_D G M 1 0 0 (cl_M G M (ci_ih τ)) 130 [] [.int t15] s14 τ (z t15)) (fun t15 => ?_) (fun j16 hj16 => ?_)
              · exact dn_iret C dX12_knownHere_130 rfl
              · refine dn_if_eq (t := 129) C dX12_knownHere_121 (by decide) rfl ?_ ?_
                · refine dn_iconst C dX12_knownHere_129 ic_i_m1 rfl ?_
                  refine dn_pick [] rfl ?_
                  exact hj16 (-1 : Int32)
                · refine dn_bipush C dX12_knownHere_124 ic_b_6 rfl ?_
                  refine dn_goto (t := 130) C dX12_knownHere_126 (by decide) ?_
                  refine dn_pick [] rfl ?_
                  exact hj16 (6 : Int32)
            · refine dn_iconst C dX12_knownHere_106 ic_i_5 rfl ?_
              exact dn_iret C dX12_knownHere_107 rfl
          · refine dn_iconst C dX12_knownHere_89 ic_i_4 rfl ?_
            exact dn_iret C dX12_knownHere_90 rfl
        · refine dn_iconst C dX12_knownHere_69 ic_i_3 rfl ?_
          exact dn_iret C dX12_knownHere_70 rfl
      · refine dn_iconst C dX12_knownHere_52 ic_i_2 rfl ?_
        exact dn_iret C dX12_knownHere_53 rfl
    · refine dn_iconst C dX12_knownHere_35 ic_i_1 rfl ?_
      exact dn_iret C dX12_knownHere_36 rfl
  · refine dn_iconst C dX12_knownHere_16 ic_i_0 rfl ?_
    exact dn_iret C dX12_knownHere_17 rfl
def fn_M_more  (o : Nat) (p1 : Int32) (σ : hp_I) : Option (Int32 × hp_I) :=
  px_let (hp_s σ o 0 (0 : Int32)) fun s1 =>
  Option.bind (fn_M_isThing o (2 : Int32) p1 s1) fun z2 =>
  px_jn (fun (t3 : Int32) =>
    px_b2 (fn_M_bad o t3 (1 : Int32) (0 : Int32) s1) fun z4 s5 =>
    if z4 = 0 then (
      px_b2 (fn_M_moreOf o (sh_rf o 25) p1 s5) fun z6 s7 =>
      some (z6, s7)
    ) else (
      some ((0 : Int32), s5)
    )
  ) fun j8 =>
    if z2 = 0 then (
      j8 (1 : Int32)
    ) else (
      j8 (0 : Int32)
    )
set_option maxHeartbeats 4000000 in
set_option maxRecDepth 100000 in
theorem ok_M_more {G : wd_G} {l : Launch} (hN : gd_ok G)  (o : Nat) (ho : sh_kd o = 12) (p1 : Int32) (σ : hp_I) (τ : hp_L) : cl_C G l 5 yX12_more cX12_more 2 (some .int) [.ref (wd_b G + o), .int p1] σ τ (ci_ih τ) (fn_M_more o p1 σ) := by
  refine cl_of (lv0 := [(0, .ref (wd_b G + o)), (1, .int p1)]) (ci_ih τ) (by decide) (Nat.le_of_ble_eq_true rfl) rfl hN (fun M hM C => ?_)
  have C : cx_C G M RX12 cX12_more 2 5 (some .int) := C
  unfold fn_M_more
  refine dn_aload_n C dX12_more_0 rfl 0 rfl rfl ?_
  refine dn_iconst C dX12_more_1 ic_i_0 rfl ?_
  refine dn_putI C fp_X12_93 ho dX12_more_2 rfl (fun s1 => ?_)
  refine dn_aload_n C dX12_more_5 rfl 0 rfl rfl ?_
  refine dn_aload_n C dX12_more_6 rfl 0 rfl rfl ?_
  refine dn_iconst C dX12_more_7 ic_i_2 rfl ?_
  refine dn_iload_n C dX12_more_8 rfl 1 rfl rfl ?_
  refine dn_callV_i (As := [.int (2 : Int32), .int p1]) (st := [.ref (wd_b G + o)]) C (ok_M_isThing (cx_g C) o ho (2 : Int32) p1 s1 τ) mt_X12_isThing mv_X12_isThing lk_X12_336 (by decide) ho rfl ⟨Nat.zero_le _, Nat.zero_le _⟩ (Nat.le_of_ble_eq_true rfl) dX12_more_9 rfl rfl (fun z2 => ?_)
  refine dn_jn (fun z => ∀ (t3 : Int32), dn_D G M 2 0 0 (cl_M G M (ci_ih τ)) 20 [(0, .ref (wd_b G + o)), (1, .int p1)] [.int t3, .ref (wd_b G + o)] s1 τ (z t3)) (fun t3 => ?_) (fun j8 hj8 => ?_)
  · refine dn_iconst C dX12_more_20 ic_i_1 rfl ?_
    refine dn_iconst C dX12_more_21 ic_i_0 rfl ?_
    refine dn_callV_ih (As := [.int t3, .int (1 : Int32), .int (0 : Int32)]) (st := []) C (ok_M_bad (cx_g C) o ho t3 (1 : Int32) (0 : Int32) s1 τ) mt_X12_bad mv_X12_bad lk_X12_172 (by decide) ho rfl ⟨Nat.zero_le _, Nat.zero_le _⟩ (Nat.le_of_ble_eq_true rfl) dX12_more_22 rfl rfl (fun z4 s5 => ?_)
    refine dn_if_eq (t := 30) C dX12_more_25 (by decide) rfl ?_ ?_
    · refine dn_aload_n C dX12_more_30 rfl 0 rfl rfl ?_
      refine dn_aload_n C dX12_more_31 rfl 0 rfl rfl ?_
      refine dn_getR C fd_X12_55 ho dX12_more_32 rfl ?_
      refine dn_iload_n C dX12_more_35 rfl 1 rfl rfl ?_
      refine dn_callV_ih (As := [.ref (wd_b G + sh_rf o 25), .int p1]) (st := []) C (ok_M_moreOf (cx_g C) o ho (sh_rf o 25) (kt_12_25 ho) p1 s5 τ) mt_X12_moreOf mv_X12_moreOf lk_X12_292 (by decide) ho rfl ⟨Nat.zero_le _, Nat.zero_le _⟩ (Nat.le_of_ble_eq_true rfl) dX12_more_36 rfl rfl (fun z6 s7 => ?_)
      exact dn_iret C dX12_more_39 rfl
    · refine dn_iconst C dX12_more_28 ic_i_0 rfl ?_
      exact dn_iret C dX12_more_29 rfl
  · refine dn_if_ne (t := 19) C dX12_more_12 (by decide) rfl ?_ ?_
    · refine dn_iconst C dX12_more_15 ic_i_1 rfl ?_
      refine dn_goto (t := 20) C dX12_more_16 (by decide) ?_
      exact hj8 (1 : Int32)
    · refine dn_iconst C dX12_more_19 ic_i_0 rfl ?_
      exact hj8 (0 : Int32)
def fn_M_nightEnds_L2  (a0 : Nat) (a1 : Nat) (k : hp_I → Option (hp_I)) : Nat → Int32 → hp_I → Option (hp_I)
  | 0, _, _ => none
  | fu + 1, x2, s0 =>
    Option.bind (px_ald s0 (sh_rf a0 12) (2 : Int32)) fun z2 =>
    if x2 < z2 then (
      Option.bind (fn_M_lives a1 x2 s0) fun z3 =>
      px_jn (fun (t4 : Int32) (s5 : hp_I) =>
        Option.bind (px_ast s5 a1 ((8 : Int32) + x2) t4) fun s6 =>
        px_let (x2 + 1) fun v2_7 =>
        fn_M_nightEnds_L2 a0 a1 k fu v2_7 s6
      ) fun j8 =>
        if z3 = 0 then (
          Option.bind (px_ald s0 a1 ((8 : Int32) + x2)) fun z13 =>
          j8 z13 s0
        ) else (
          Option.bind (px_ald s0 a1 ((8 : Int32) + x2)) fun z9 =>
          px_b2 (fn_M_moreOf a0 a1 x2 s0) fun z10 s11 =>
          Option.bind (fn_M_less (999 : Int32) (z9 + z10)) fun z12 =>
          j8 z12 s11
        )
    ) else (
      k s0
    )
def fn_M_nightEnds_L62  (a0 : Nat) (a1 : Nat) (k : hp_I → Option (hp_I)) : Nat → Int32 → hp_I → Option (hp_I)
  | 0, _, _ => none
  | fu + 1, x2, s0 =>
    Option.bind (px_ald s0 (sh_rf a0 12) (3 : Int32)) fun z16 =>
    if x2 < z16 then (
      Option.bind (fn_M_takes2 a0 a1 x2 s0) fun s18 =>
      px_let (x2 + 1) fun v2_19 =>
      fn_M_nightEnds_L62 a0 a1 k fu v2_19 s18
    ) else (
      k s0
    )
def fn_M_nightEnds  (o : Nat) (p1 : Nat) (σ : hp_I) : Option (hp_I) :=
  px_let (0 : Int32) fun v2_1 =>
  fn_M_nightEnds_L2 o p1
    (fun (s_14 : hp_I) =>
      px_let (0 : Int32) fun v2_15 =>
      fn_M_nightEnds_L62 o p1
        (fun (s_20 : hp_I) =>
          Option.bind (px_ald s_20 p1 (46 : Int32)) fun z21 =>
          Option.bind (px_ast s_20 p1 (46 : Int32) (z21 + (1 : Int32))) fun s22 =>
          some s22
        )
        FU v2_15 s_14
    )
    FU v2_1 σ
set_option maxHeartbeats 4000000 in
set_option maxRecDepth 100000 in
theorem pf_M_nightEnds_L2 {G : wd_G} {M : wd_M}  (C : cx_C G M RX12 cX12_nightEnds 3 5 none) (a0 : Nat) (ha0 : sh_kd a0 = 12) (a1 : Nat) (ha1 : sh_kd a1 = 13)  (τ : hp_L) (k : hp_I → Option (hp_I)) (hk : ∀ (s : hp_I), dn_D G M 3 0 0 (cl_M G M (ci_h τ)) 60 [(0, .ref (wd_b G + a0)), (1, .ref (wd_b G + a1))] [] s τ (k s)) : ∀ (fu : Nat) (x2 : Int32) (s0 : hp_I), dn_D G M 3 0 0 (cl_M G M (ci_h τ)) 2 [(0, .ref (wd_b G + a0)), (1, .ref (wd_b G + a1)), (2, .int x2)] [] s0 τ (fn_M_nightEnds_L2 a0 a1 k fu x2 s0) := by
  intro fu
  induction fu with
  | zero => exact fun x2 s0 => dn_none
  | succ fu ih =>
    intro x2 s0
    unfold fn_M_nightEnds_L2
    refine dn_iload_n C dX12_nightEnds_2 rfl 2 rfl rfl ?_
    refine dn_aload_n C dX12_nightEnds_3 rfl 0 rfl rfl ?_
    refine dn_getR C fd_X12_23 ha0 dX12_nightEnds_4 rfl ?_
    refine dn_iconst C dX12_nightEnds_7 ic_i_2 rfl ?_
    refine dn_iald C (kt_12_12 ha0) dX12_nightEnds_8 rfl (fun z2 => ?_)
    refine dn_icmp_ge (t := 60) C dX12_nightEnds_9 (by decide) rfl ?_ ?_
    · refine dn_aload_n C dX12_nightEnds_12 rfl 1 rfl rfl ?_
      refine dn_bipush C dX12_nightEnds_13 ic_b_8 rfl ?_
      refine dn_iload_n C dX12_nightEnds_15 rfl 2 rfl rfl ?_
      refine dn_iadd C dX12_nightEnds_16 rfl ?_
      refine dn_aload_n C dX12_nightEnds_17 rfl 1 rfl rfl ?_
      refine dn_iload_n C dX12_nightEnds_18 rfl 2 rfl rfl ?_
      refine dn_callS_i (As := [.ref (wd_b G + a1), .int x2]) (st := [.int ((8 : Int32) + x2), .ref (wd_b G + a1)]) C (ok_M_lives (cx_g C) a1 ha1 x2 s0 τ) mt_X12_lives ms_X12_lives lk_X12_275 (by decide) rfl ⟨Nat.zero_le _, Nat.zero_le _⟩ (Nat.le_of_ble_eq_true rfl) dX12_nightEnds_19 rfl rfl (fun z3 => ?_)
      refine dn_jn (fun z => ∀ (t4 : Int32) (s5 : hp_I), dn_D G M 3 0 0 (cl_M G M (ci_h τ)) 53 [(0, .ref (wd_b G + a0)), (1, .ref (wd_b G + a1)), (2, .int x2)] [.int t4, .int ((8 : Int32) + x2), .ref (wd_b G + a1)] s5 τ (z t4 s5)) (fun t4 s5 => ?_) (fun j8 hj8 => ?_)
      · refine dn_iast C ha1 dX12_nightEnds_53 rfl (fun s6 => ?_)
        refine dn_iinc (lv0 := [(0, .ref (wd_b G + a0)), (1, .ref (wd_b G + a1))]) (v := x2 + 1) C dX12_nightEnds_54 2 rfl rfl (by decide) rfl rfl (fun v2_7 => ?_)
        refine dn_goto (t := 2) C dX12_nightEnds_57 (by decide) ?_
        refine dn_pick [1, 2, 0] rfl ?_
        exact ih v2_7 s6
      · refine dn_if_eq (t := 47) C dX12_nightEnds_22 (by decide) rfl ?_ ?_
        · refine dn_aload_n C dX12_nightEnds_47 rfl 1 rfl rfl ?_
          refine dn_bipush C dX12_nightEnds_48 ic_b_8 rfl ?_
          refine dn_iload_n C dX12_nightEnds_50 rfl 2 rfl rfl ?_
          refine dn_iadd C dX12_nightEnds_51 rfl ?_
          refine dn_iald C ha1 dX12_nightEnds_52 rfl (fun z13 => ?_)
          exact hj8 z13 s0
        · refine dn_sipush C dX12_nightEnds_25 ic_s_999 rfl ?_
          refine dn_aload_n C dX12_nightEnds_28 rfl 1 rfl rfl ?_
          refine dn_bipush C dX12_nightEnds_29 ic_b_8 rfl ?_
          refine dn_iload_n C dX12_nightEnds_31 rfl 2 rfl rfl ?_
          refine dn_iadd C dX12_nightEnds_32 rfl ?_
          refine dn_iald C ha1 dX12_nightEnds_33 rfl (fun z9 => ?_)
          refine dn_aload_n C dX12_nightEnds_34 rfl 0 rfl rfl ?_
          refine dn_aload_n C dX12_nightEnds_35 rfl 1 rfl rfl ?_
          refine dn_iload_n C dX12_nightEnds_36 rfl 2 rfl rfl ?_
          refine dn_callV_ih (As := [.ref (wd_b G + a1), .int x2]) (st := [.int z9, .int (999 : Int32), .int ((8 : Int32) + x2), .ref (wd_b G + a1)]) C (ok_M_moreOf (cx_g C) a0 ha0 a1 ha1 x2 s0 τ) mt_X12_moreOf mv_X12_moreOf lk_X12_292 (by decide) ha0 rfl ⟨Nat.zero_le _, Nat.zero_le _⟩ (Nat.le_of_ble_eq_true rfl) dX12_nightEnds_37 rfl rfl (fun z10 s11 => ?_)
          refine dn_iadd C dX12_nightEnds_40 rfl ?_
          refine dn_callS_i (As := [.int (999 : Int32), .int (z9 + z10)]) (st := [.int ((8 : Int32) + x2), .ref (wd_b G + a1)]) C (ok_M_less (cx_g C) (999 : Int32) (z9 + z10) s11 τ) mt_X12_less ms_X12_less lk_X12_232 (by decide) rfl ⟨Nat.zero_le _, Nat.zero_le _⟩ (Nat.le_of_ble_eq_true rfl) dX12_nightEnds_41 rfl rfl (fun z12 => ?_)
          refine dn_goto (t := 53) C dX12_nightEnds_44 (by decide) ?_
          exact hj8 z12 s11
    · refine dn_pick [0, 1] rfl ?_
      exact hk s0
set_option maxHeartbeats 4000000 in
set_option maxRecDepth 100000 in
theorem pf_M_nightEnds_L62 {G : wd_G} {M : wd_M}  (C : cx_C G M RX12 cX12_nightEnds 3 5 none) (a0 : Nat) (ha0 : sh_kd a0 = 12) (a1 : Nat) (ha1 : sh_kd a1 = 13)  (τ : hp_L) (k : hp_I → Option (hp_I)) (hk : ∀ (s : hp_I), dn_D G M 3 0 0 (cl_M G M (ci_h τ)) 84 [(1, .ref (wd_b G + a1))] [] s τ (k s)) : ∀ (fu : Nat) (x2 : Int32) (s0 : hp_I), dn_D G M 3 0 0 (cl_M G M (ci_h τ)) 62 [(0, .ref (wd_b G + a0)), (1, .ref (wd_b G + a1)), (2, .int x2)] [] s0 τ (fn_M_nightEnds_L62 a0 a1 k fu x2 s0) := by
  intro fu
  induction fu with
  | zero => exact fun x2 s0 => dn_none
  | succ fu ih =>
    intro x2 s0
    unfold fn_M_nightEnds_L62
    refine dn_iload_n C dX12_nightEnds_62 rfl 2 rfl rfl ?_
    refine dn_aload_n C dX12_nightEnds_63 rfl 0 rfl rfl ?_
    refine dn_getR C fd_X12_23 ha0 dX12_nightEnds_64 rfl ?_
    refine dn_iconst C dX12_nightEnds_67 ic_i_3 rfl ?_
    refine dn_iald C (kt_12_12 ha0) dX12_nightEnds_68 rfl (fun z16 => ?_)
    refine dn_icmp_ge (t := 84) C dX12_nightEnds_69 (by decide) rfl ?_ ?_
    · refine dn_aload_n C dX12_nightEnds_72 rfl 0 rfl rfl ?_
      refine dn_aload_n C dX12_nightEnds_73 rfl 1 rfl rfl ?_
      refine dn_iload_n C dX12_nightEnds_74 rfl 2 rfl rfl ?_
      refine dn_callV_h (As := [.ref (wd_b G + a1), .int x2]) (st := []) C (ok_M_takes2 (cx_g C) a0 ha0 a1 ha1 x2 s0 τ) mt_X12_takes2 mv_X12_takes2 lk_X12_295 (by decide) ha0 rfl ⟨Nat.zero_le _, Nat.zero_le _⟩ (Nat.le_of_ble_eq_true rfl) dX12_nightEnds_75 rfl rfl (fun s18 => ?_)
      refine dn_iinc (lv0 := [(0, .ref (wd_b G + a0)), (1, .ref (wd_b G + a1))]) (v := x2 + 1) C dX12_nightEnds_78 2 rfl rfl (by decide) rfl rfl (fun v2_19 => ?_)
      refine dn_goto (t := 62) C dX12_nightEnds_81 (by decide) ?_
      refine dn_pick [1, 2, 0] rfl ?_
      exact ih v2_19 s18
    · refine dn_pick [1] rfl ?_
      exact hk s0
set_option maxHeartbeats 4000000 in
set_option maxRecDepth 100000 in
theorem ok_M_nightEnds {G : wd_G} {l : Launch} (hN : gd_ok G)  (o : Nat) (ho : sh_kd o = 12) (p1 : Nat) (hp1 : sh_kd p1 = 13) (σ : hp_I) (τ : hp_L) : cl_C G l 5 yX12_nightEnds cX12_nightEnds 3 none [.ref (wd_b G + o), .ref (wd_b G + p1)] σ τ (ci_h τ) (fn_M_nightEnds o p1 σ) := by
  refine cl_of (lv0 := [(0, .ref (wd_b G + o)), (1, .ref (wd_b G + p1))]) (ci_h τ) (by decide) (Nat.le_of_ble_eq_true rfl) rfl hN (fun M hM C => ?_)
  have C : cx_C G M RX12 cX12_nightEnds 3 5 none := C
  unfold fn_M_nightEnds
  refine dn_iconst C dX12_nightEnds_0 ic_i_0 rfl ?_
  refine dn_istore_n (lv0 := [(0, .ref (wd_b G + o)), (1, .ref (wd_b G + p1))]) C dX12_nightEnds_1 rfl (by decide) rfl rfl (fun v2_1 => ?_)
  refine dn_pick [1, 2, 0] rfl ?_
  refine pf_M_nightEnds_L2  C  o ho p1 hp1  τ _ (fun s_14 => ?_) FU v2_1 σ
  refine dn_iconst C dX12_nightEnds_60 ic_i_0 rfl ?_
  refine dn_istore_n (lv0 := [(0, .ref (wd_b G + o)), (1, .ref (wd_b G + p1))]) C dX12_nightEnds_61 rfl (by decide) rfl rfl (fun v2_15 => ?_)
  refine dn_pick [1, 2, 0] rfl ?_
  refine pf_M_nightEnds_L62  C  o ho p1 hp1  τ _ (fun s_20 => ?_) FU v2_15 s_14
  refine dn_aload_n C dX12_nightEnds_84 rfl 0 rfl rfl ?_
  refine dn_bipush C dX12_nightEnds_85 ic_b_46 rfl ?_
  refine dn_dup2 C dX12_nightEnds_87 rfl rfl rfl ?_
  refine dn_iald C hp1 dX12_nightEnds_88 rfl (fun z21 => ?_)
  refine dn_iconst C dX12_nightEnds_89 ic_i_1 rfl ?_
  refine dn_iadd C dX12_nightEnds_90 rfl ?_
  refine dn_iast C hp1 dX12_nightEnds_91 rfl (fun s22 => ?_)
  exact dn_vret C dX12_nightEnds_92 rfl
def fn_M_ahead_L53  (a0 : Nat) (a1 : Int32) (a2 : Int32) (k : hp_I → Option (Int32 × hp_I)) : Nat → Int32 → hp_I → Option (Int32 × hp_I)
  | 0, _, _ => none
  | fu + 1, x3, s0 =>
    if x3 < a1 then (
      Option.bind (fn_M_nightEnds a0 (sh_rf a0 26) s0) fun s10 =>
      px_let (x3 + 1) fun v3_11 =>
      fn_M_ahead_L53 a0 a1 a2 k fu v3_11 s10
    ) else (
      k s0
    )
def fn_M_ahead  (o : Nat) (p1 : Int32) (p2 : Int32) (σ : hp_I) : Option (Int32 × hp_I) :=
  px_let (hp_s σ o 0 (0 : Int32)) fun s1 =>
  Option.bind (fn_M_in p1 (0 : Int32) (99 : Int32)) fun z2 =>
  px_jn (fun (t3 : Int32) =>
    px_b2 (fn_M_bad o t3 (1 : Int32) (1 : Int32) s1) fun z4 s5 =>
    if z4 = 0 then (
      Option.bind (fn_M_copies (sh_rf o 25) (sh_rf o 26) s5) fun s7 =>
      px_let (0 : Int32) fun v3_8 =>
      fn_M_ahead_L53 o p1 p2
        (fun (s_12 : hp_I) =>
          px_jn (fun (t13 : Int32) =>
            some (t13, s_12)
          ) fun j14 =>
            if p2 = 0 then (
              Option.bind (px_ald s_12 (sh_rf o 26) (42 : Int32)) fun z15 =>
              j14 z15
            ) else (
              if p2 = (1 : Int32) then (
                Option.bind (fn_M_sizes o (sh_rf o 26) s_12) fun z16 =>
                j14 z16
              ) else (
                Option.bind (px_ald s_12 (sh_rf o 26) (43 : Int32)) fun z17 =>
                Option.bind (fn_M_ones z17) fun z18 =>
                j14 z18
              )
            )
        )
        FU v3_8 s7
    ) else (
      some ((0 : Int32), s5)
    )
  ) fun j19 =>
    px_jn (
      j19 (1 : Int32)
    ) fun j20 =>
      if z2 = 0 then (
        j20
      ) else (
        Option.bind (fn_M_in p2 (0 : Int32) (2 : Int32)) fun z21 =>
        if z21 = 0 then (
          j20
        ) else (
          j19 (0 : Int32)
        )
      )
set_option maxHeartbeats 4000000 in
set_option maxRecDepth 100000 in
theorem pf_M_ahead_L53 {G : wd_G} {M : wd_M}  (C : cx_C G M RX12 cX12_ahead 4 6 (some .int)) (a0 : Nat) (ha0 : sh_kd a0 = 12) (a1 : Int32) (a2 : Int32)  (τ : hp_L) (k : hp_I → Option (Int32 × hp_I)) (hk : ∀ (s : hp_I), dn_D G M 4 0 0 (cl_M G M (ci_ih τ)) 72 [(0, .ref (wd_b G + a0)), (2, .int a2)] [] s τ (k s)) : ∀ (fu : Nat) (x3 : Int32) (s0 : hp_I), dn_D G M 4 0 0 (cl_M G M (ci_ih τ)) 53 [(0, .ref (wd_b G + a0)), (1, .int a1), (2, .int a2), (3, .int x3)] [] s0 τ (fn_M_ahead_L53 a0 a1 a2 k fu x3 s0) := by
  intro fu
  induction fu with
  | zero => exact fun x3 s0 => dn_none
  | succ fu ih =>
    intro x3 s0
    unfold fn_M_ahead_L53
    refine dn_iload_n C dX12_ahead_53 rfl 3 rfl rfl ?_
    refine dn_iload_n C dX12_ahead_54 rfl 1 rfl rfl ?_
    refine dn_icmp_ge (t := 72) C dX12_ahead_55 (by decide) rfl ?_ ?_
    · refine dn_aload_n C dX12_ahead_58 rfl 0 rfl rfl ?_
      refine dn_aload_n C dX12_ahead_59 rfl 0 rfl rfl ?_
      refine dn_getR C fd_X12_58 ha0 dX12_ahead_60 rfl ?_
      refine dn_callV_h (As := [.ref (wd_b G + sh_rf a0 26)]) (st := []) C (ok_M_nightEnds (cx_g C) a0 ha0 (sh_rf a0 26) (kt_12_26 ha0) s0 τ) mt_X12_nightEnds mv_X12_nightEnds lk_X12_311 (by decide) ha0 rfl ⟨Nat.zero_le _, Nat.zero_le _⟩ (Nat.le_of_ble_eq_true rfl) dX12_ahead_63 rfl rfl (fun s10 => ?_)
      refine dn_iinc (lv0 := [(0, .ref (wd_b G + a0)), (1, .int a1), (2, .int a2)]) (v := x3 + 1) C dX12_ahead_66 3 rfl rfl (by decide) rfl rfl (fun v3_11 => ?_)
      refine dn_goto (t := 53) C dX12_ahead_69 (by decide) ?_
      refine dn_pick [1, 2, 3, 0] rfl ?_
      exact ih v3_11 s10
    · refine dn_pick [0, 2] rfl ?_
      exact hk s0
set_option maxHeartbeats 4000000 in
set_option maxRecDepth 100000 in
theorem ok_M_ahead {G : wd_G} {l : Launch} (hN : gd_ok G)  (o : Nat) (ho : sh_kd o = 12) (p1 : Int32) (p2 : Int32) (σ : hp_I) (τ : hp_L) : cl_C G l 6 yX12_ahead cX12_ahead 4 (some .int) [.ref (wd_b G + o), .int p1, .int p2] σ τ (ci_ih τ) (fn_M_ahead o p1 p2 σ) := by
  refine cl_of (lv0 := [(0, .ref (wd_b G + o)), (1, .int p1), (2, .int p2)]) (ci_ih τ) (by decide) (Nat.le_of_ble_eq_true rfl) rfl hN (fun M hM C => ?_)
  have C : cx_C G M RX12 cX12_ahead 4 6 (some .int) := C
  unfold fn_M_ahead
  refine dn_aload_n C dX12_ahead_0 rfl 0 rfl rfl ?_
  refine dn_iconst C dX12_ahead_1 ic_i_0 rfl ?_
  refine dn_putI C fp_X12_93 ho dX12_ahead_2 rfl (fun s1 => ?_)
  refine dn_aload_n C dX12_ahead_5 rfl 0 rfl rfl ?_
  refine dn_iload_n C dX12_ahead_6 rfl 1 rfl rfl ?_
  refine dn_iconst C dX12_ahead_7 ic_i_0 rfl ?_
  refine dn_bipush C dX12_ahead_8 ic_b_99 rfl ?_
  refine dn_callS_i (As := [.int p1, .int (0 : Int32), .int (99 : Int32)]) (st := [.ref (wd_b G + o)]) C (ok_M_in (cx_g C) p1 (0 : Int32) (99 : Int32) s1 τ) mt_X12_in ms_X12_in lk_X12_127 (by decide) rfl ⟨Nat.zero_le _, Nat.zero_le _⟩ (Nat.le_of_ble_eq_true rfl) dX12_ahead_10 rfl rfl (fun z2 => ?_)
  refine dn_jn (fun z => ∀ (t3 : Int32), dn_D G M 4 0 0 (cl_M G M (ci_ih τ)) 30 [(0, .ref (wd_b G + o)), (1, .int p1), (2, .int p2)] [.int t3, .ref (wd_b G + o)] s1 τ (z t3)) (fun t3 => ?_) (fun j19 hj19 => ?_)
  · refine dn_iconst C dX12_ahead_30 ic_i_1 rfl ?_
    refine dn_iconst C dX12_ahead_31 ic_i_1 rfl ?_
    refine dn_callV_ih (As := [.int t3, .int (1 : Int32), .int (1 : Int32)]) (st := []) C (ok_M_bad (cx_g C) o ho t3 (1 : Int32) (1 : Int32) s1 τ) mt_X12_bad mv_X12_bad lk_X12_172 (by decide) ho rfl ⟨Nat.zero_le _, Nat.zero_le _⟩ (Nat.le_of_ble_eq_true rfl) dX12_ahead_32 rfl rfl (fun z4 s5 => ?_)
    refine dn_if_eq (t := 40) C dX12_ahead_35 (by decide) rfl ?_ ?_
    · refine dn_aload_n C dX12_ahead_40 rfl 0 rfl rfl ?_
      refine dn_getR C fd_X12_55 ho dX12_ahead_41 rfl ?_
      refine dn_aload_n C dX12_ahead_44 rfl 0 rfl rfl ?_
      refine dn_getR C fd_X12_58 ho dX12_ahead_45 rfl ?_
      refine dn_callS_h (As := [.ref (wd_b G + sh_rf o 25), .ref (wd_b G + sh_rf o 26)]) (st := []) C (ok_M_copies (cx_g C) (sh_rf o 25) (kt_12_25 ho) (sh_rf o 26) (kt_12_26 ho) s5 τ) mt_X12_copies ms_X12_copies lk_X12_328 (by decide) rfl ⟨Nat.zero_le _, Nat.zero_le _⟩ (Nat.le_of_ble_eq_true rfl) dX12_ahead_48 rfl rfl (fun s7 => ?_)
      refine dn_iconst C dX12_ahead_51 ic_i_0 rfl ?_
      refine dn_istore_n (lv0 := [(0, .ref (wd_b G + o)), (1, .int p1), (2, .int p2)]) C dX12_ahead_52 rfl (by decide) rfl rfl (fun v3_8 => ?_)
      refine dn_pick [1, 2, 3, 0] rfl ?_
      refine pf_M_ahead_L53  C  o ho p1 p2  τ _ (fun s_12 => ?_) FU v3_8 s7
      refine dn_iload_n C dX12_ahead_72 rfl 1 rfl rfl ?_
      refine dn_jn (fun z => ∀ (t13 : Int32), dn_D G M 4 0 0 (cl_M G M (ci_ih τ)) 112 [] [.int t13] s_12 τ (z t13)) (fun t13 => ?_) (fun j14 hj14 => ?_)
      · exact dn_iret C dX12_ahead_112 rfl
      · refine dn_if_ne (t := 86) C dX12_ahead_73 (by decide) rfl ?_ ?_
        · refine dn_aload_n C dX12_ahead_76 rfl 0 rfl rfl ?_
          refine dn_getR C fd_X12_58 ho dX12_ahead_77 rfl ?_
          refine dn_bipush C dX12_ahead_80 ic_b_42 rfl ?_
          refine dn_iald C (kt_12_26 ho) dX12_ahead_82 rfl (fun z15 => ?_)
          refine dn_goto (t := 112) C dX12_ahead_83 (by decide) ?_
          refine dn_pick [] rfl ?_
          exact hj14 z15
        · refine dn_iload_n C dX12_ahead_86 rfl 1 rfl rfl ?_
          refine dn_iconst C dX12_ahead_87 ic_i_1 rfl ?_
          refine dn_icmp_ne (t := 102) C dX12_ahead_88 (by decide) rfl ?_ ?_
          · refine dn_aload_n C dX12_ahead_91 rfl 0 rfl rfl ?_
            refine dn_aload_n C dX12_ahead_92 rfl 0 rfl rfl ?_
            refine dn_getR C fd_X12_58 ho dX12_ahead_93 rfl ?_
            refine dn_callV_i (As := [.ref (wd_b G + sh_rf o 26)]) (st := []) C (ok_M_sizes (cx_g C) o ho (sh_rf o 26) (kt_12_26 ho) s_12 τ) mt_X12_sizes mv_X12_sizes lk_X12_332 (by decide) ho rfl ⟨Nat.zero_le _, Nat.zero_le _⟩ (Nat.le_of_ble_eq_true rfl) dX12_ahead_96 rfl rfl (fun z16 => ?_)
            refine dn_goto (t := 112) C dX12_ahead_99 (by decide) ?_
            refine dn_pick [] rfl ?_
            exact hj14 z16
          · refine dn_aload_n C dX12_ahead_102 rfl 0 rfl rfl ?_
            refine dn_getR C fd_X12_58 ho dX12_ahead_103 rfl ?_
            refine dn_bipush C dX12_ahead_106 ic_b_43 rfl ?_
            refine dn_iald C (kt_12_26 ho) dX12_ahead_108 rfl (fun z17 => ?_)
            refine dn_callS_i (As := [.int z17]) (st := []) C (ok_M_ones (cx_g C) z17 s_12 τ) mt_X12_ones ms_X12_ones lk_X12_268 (by decide) rfl ⟨Nat.zero_le _, Nat.zero_le _⟩ (Nat.le_of_ble_eq_true rfl) dX12_ahead_109 rfl rfl (fun z18 => ?_)
            refine dn_pick [] rfl ?_
            exact hj14 z18
    · refine dn_iconst C dX12_ahead_38 ic_i_0 rfl ?_
      exact dn_iret C dX12_ahead_39 rfl
  · refine dn_jn (fun z => dn_D G M 4 0 0 (cl_M G M (ci_ih τ)) 25 [(0, .ref (wd_b G + o)), (1, .int p1), (2, .int p2)] [.ref (wd_b G + o)] s1 τ z) ?_ (fun j20 hj20 => ?_)
    · refine dn_iconst C dX12_ahead_25 ic_i_1 rfl ?_
      refine dn_goto (t := 30) C dX12_ahead_26 (by decide) ?_
      exact hj19 (1 : Int32)
    · refine dn_if_eq (t := 25) C dX12_ahead_13 (by decide) rfl ?_ ?_
      · exact hj20
      · refine dn_iload_n C dX12_ahead_16 rfl 2 rfl rfl ?_
        refine dn_iconst C dX12_ahead_17 ic_i_0 rfl ?_
        refine dn_iconst C dX12_ahead_18 ic_i_2 rfl ?_
        refine dn_callS_i (As := [.int p2, .int (0 : Int32), .int (2 : Int32)]) (st := [.ref (wd_b G + o)]) C (ok_M_in (cx_g C) p2 (0 : Int32) (2 : Int32) s1 τ) mt_X12_in ms_X12_in lk_X12_127 (by decide) rfl ⟨Nat.zero_le _, Nat.zero_le _⟩ (Nat.le_of_ble_eq_true rfl) dX12_ahead_19 rfl rfl (fun z21 => ?_)
        refine dn_if_ne (t := 29) C dX12_ahead_22 (by decide) rfl ?_ ?_
        · exact hj20
        · refine dn_iconst C dX12_ahead_29 ic_i_0 rfl ?_
          exact hj19 (0 : Int32)
def fn_M_does  (o : Nat) (p1 : Nat) (p2 : Nat) (σ : hp_I) : Option (Int32 × hp_I) :=
  Option.bind (px_ald σ p2 (1 : Int32)) fun z1 =>
  px_let z1 fun v3_2 =>
  Option.bind (px_ald σ p2 (0 : Int32)) fun z3 =>
  px_sw z3 [
    ((0 : Int32), (
      Option.bind (fn_M_lives p1 v3_2 σ) fun z7 =>
      px_jn (fun (t8 : Int32) (s9 : hp_I) =>
        px_z t8 (t8, s9)
      ) fun j10 =>
        px_jn (fun (s11 : hp_I) =>
          j10 (0 : Int32) s11
        ) fun j12 =>
          if z7 = 0 then (
            j12 σ
          ) else (
            Option.bind (px_ald σ p2 (2 : Int32)) fun z13 =>
            px_b2 (fn_M_goesTo o p1 ((0 : Int32) + v3_2) z13 σ) fun z14 s15 =>
            if z14 = 0 then (
              j12 s15
            ) else (
              j10 (1 : Int32) s15
            )
          )
    )),
    ((1 : Int32), (
      Option.bind (px_ald σ p2 (2 : Int32)) fun z16 =>
      px_b2 (fn_M_goesTo o p1 ((32 : Int32) + v3_2) z16 σ) fun z17 s18 =>
      px_z z17 (z17, s18)
    )),
    ((2 : Int32), (
      Option.bind (fn_M_lives p1 v3_2 σ) fun z19 =>
      px_jn (fun (t20 : Int32) (s21 : hp_I) =>
        px_z t20 (t20, s21)
      ) fun j22 =>
        px_jn (fun (s23 : hp_I) =>
          j22 (0 : Int32) s23
        ) fun j24 =>
          if z19 = 0 then (
            j24 σ
          ) else (
            Option.bind (px_ald σ p1 ((8 : Int32) + v3_2)) fun z25 =>
            Option.bind (px_ald σ p2 (2 : Int32)) fun z26 =>
            Option.bind (fn_M_less (999 : Int32) (z25 + z26)) fun z27 =>
            px_b2 (fn_M_becomes p1 ((8 : Int32) + v3_2) z27 σ) fun z28 s29 =>
            if z28 = 0 then (
              j24 s29
            ) else (
              j22 (1 : Int32) s29
            )
          )
    )),
    ((3 : Int32), (
      Option.bind (px_ald σ p2 (2 : Int32)) fun z30 =>
      px_b2 (fn_M_joins o p1 v3_2 z30 σ) fun z31 s32 =>
      px_z z31 (z31, s32)
    )),
    ((4 : Int32), (
      Option.bind (px_ald σ p1 (45 : Int32)) fun z33 =>
      px_b2 (fn_M_becomes p1 (45 : Int32) (z33 ^^^ ((1 : Int32) <<< (v3_2 &&& 31))) σ) fun z34 s35 =>
      px_z z34 (z34, s35)
    ))
  ] (
    Option.bind (px_ald σ p1 (46 : Int32)) fun z4 =>
    if (900 : Int32) ≤ z4 then (
      px_z (0 : Int32) ((0 : Int32), σ)
    ) else (
      Option.bind (fn_M_nightEnds o p1 σ) fun s6 =>
      px_z (1 : Int32) ((1 : Int32), s6)
    )
  )
set_option maxHeartbeats 4000000 in
set_option maxRecDepth 100000 in
theorem ok_M_does {G : wd_G} {l : Launch} (hN : gd_ok G)  (o : Nat) (ho : sh_kd o = 12) (p1 : Nat) (hp1 : sh_kd p1 = 13) (p2 : Nat) (hp2 : sh_kd p2 = 13) (σ : hp_I) (τ : hp_L) : cl_C G l 6 yX12_does cX12_does 4 (some .boolean) [.ref (wd_b G + o), .ref (wd_b G + p1), .ref (wd_b G + p2)] σ τ (ci_ih τ) (fn_M_does o p1 p2 σ) := by
  refine cl_of (lv0 := [(0, .ref (wd_b G + o)), (1, .ref (wd_b G + p1)), (2, .ref (wd_b G + p2))]) (ci_ih τ) (by decide) (Nat.le_of_ble_eq_true rfl) rfl hN (fun M hM C => ?_)
  have C : cx_C G M RX12 cX12_does 4 6 (some .boolean) := C
  unfold fn_M_does
  refine dn_aload_n C dX12_does_0 rfl 2 rfl rfl ?_
  refine dn_iconst C dX12_does_1 ic_i_1 rfl ?_
  refine dn_iald C hp2 dX12_does_2 rfl (fun z1 => ?_)
  refine dn_istore_n (lv0 := [(0, .ref (wd_b G + o)), (1, .ref (wd_b G + p1)), (2, .ref (wd_b G + p2))]) C dX12_does_3 rfl (by decide) rfl rfl (fun v3_2 => ?_)
  refine dn_aload_n C dX12_does_4 rfl 3 rfl rfl ?_
  refine dn_iconst C dX12_does_5 ic_i_0 rfl ?_
  refine dn_iald C hp2 dX12_does_6 rfl (fun z3 => ?_)
  refine dn_table (t0 := 147) _ C dX12_does_7 (by decide) rfl ?_ ⟨⟨33, 40, by decide, rfl, by decide, ?_⟩, ⟨61, 68, by decide, rfl, by decide, ?_⟩, ⟨74, 81, by decide, rfl, by decide, ?_⟩, ⟨115, 122, by decide, rfl, by decide, ?_⟩, ⟨125, 132, by decide, rfl, by decide, ?_⟩, trivial⟩
  · refine dn_aload_n C dX12_does_147 rfl 2 rfl rfl ?_
    refine dn_bipush C dX12_does_148 ic_b_46 rfl ?_
    refine dn_iald C hp1 dX12_does_150 rfl (fun z4 => ?_)
    refine dn_sipush C dX12_does_151 ic_s_900 rfl ?_
    refine dn_icmp_lt (t := 159) C dX12_does_154 (by decide) rfl ?_ ?_
    · refine dn_iconst C dX12_does_157 ic_i_0 rfl ?_
      exact dn_zret C dX12_does_158 rfl
    · refine dn_aload_n C dX12_does_159 rfl 1 rfl rfl ?_
      refine dn_aload_n C dX12_does_160 rfl 2 rfl rfl ?_
      refine dn_callV_h (As := [.ref (wd_b G + p1)]) (st := []) C (ok_M_nightEnds (cx_g C) o ho p1 hp1 σ τ) mt_X12_nightEnds mv_X12_nightEnds lk_X12_311 (by decide) ho rfl ⟨Nat.zero_le _, Nat.zero_le _⟩ (Nat.le_of_ble_eq_true rfl) dX12_does_161 rfl rfl (fun s6 => ?_)
      refine dn_iconst C dX12_does_164 ic_i_1 rfl ?_
      exact dn_zret C dX12_does_165 rfl
  · refine dn_aload_n C dX12_does_40 rfl 2 rfl rfl ?_
    refine dn_iload_n C dX12_does_41 rfl 0 rfl rfl ?_
    refine dn_callS_i (As := [.ref (wd_b G + p1), .int v3_2]) (st := []) C (ok_M_lives (cx_g C) p1 hp1 v3_2 σ τ) mt_X12_lives ms_X12_lives lk_X12_275 (by decide) rfl ⟨Nat.zero_le _, Nat.zero_le _⟩ (Nat.le_of_ble_eq_true rfl) dX12_does_42 rfl rfl (fun z7 => ?_)
    refine dn_jn (fun z => ∀ (t8 : Int32) (s9 : hp_I), dn_D G M 4 0 0 (cl_M G M (ci_ih τ)) 67 [] [.int t8] s9 τ (z t8 s9)) (fun t8 s9 => ?_) (fun j10 hj10 => ?_)
    · exact dn_zret C dX12_does_67 rfl
    · refine dn_jn (fun z => ∀ (s11 : hp_I), dn_D G M 4 0 0 (cl_M G M (ci_ih τ)) 66 [] [] s11 τ (z s11)) (fun s11 => ?_) (fun j12 hj12 => ?_)
      · refine dn_iconst C dX12_does_66 ic_i_0 rfl ?_
        exact hj10 (0 : Int32) s11
      · refine dn_if_eq (t := 66) C dX12_does_45 (by decide) rfl ?_ ?_
        · refine dn_pick [] rfl ?_
          exact hj12 σ
        · refine dn_aload_n C dX12_does_48 rfl 1 rfl rfl ?_
          refine dn_aload_n C dX12_does_49 rfl 2 rfl rfl ?_
          refine dn_iconst C dX12_does_50 ic_i_0 rfl ?_
          refine dn_iload_n C dX12_does_51 rfl 0 rfl rfl ?_
          refine dn_iadd C dX12_does_52 rfl ?_
          refine dn_aload_n C dX12_does_53 rfl 3 rfl rfl ?_
          refine dn_iconst C dX12_does_54 ic_i_2 rfl ?_
          refine dn_iald C hp2 dX12_does_55 rfl (fun z13 => ?_)
          refine dn_callV_ih (As := [.ref (wd_b G + p1), .int ((0 : Int32) + v3_2), .int z13]) (st := []) C (ok_M_goesTo (cx_g C) o ho p1 hp1 ((0 : Int32) + v3_2) z13 σ τ) mt_X12_goesTo mv_X12_goesTo lk_X12_305 (by decide) ho rfl ⟨Nat.zero_le _, Nat.zero_le _⟩ (Nat.le_of_ble_eq_true rfl) dX12_does_56 rfl rfl (fun z14 s15 => ?_)
          refine dn_if_eq (t := 66) C dX12_does_59 (by decide) rfl ?_ ?_
          · refine dn_pick [] rfl ?_
            exact hj12 s15
          · refine dn_iconst C dX12_does_62 ic_i_1 rfl ?_
            refine dn_goto (t := 67) C dX12_does_63 (by decide) ?_
            refine dn_pick [] rfl ?_
            exact hj10 (1 : Int32) s15
  · refine dn_aload_n C dX12_does_68 rfl 1 rfl rfl ?_
    refine dn_aload_n C dX12_does_69 rfl 2 rfl rfl ?_
    refine dn_bipush C dX12_does_70 ic_b_32 rfl ?_
    refine dn_iload_n C dX12_does_72 rfl 0 rfl rfl ?_
    refine dn_iadd C dX12_does_73 rfl ?_
    refine dn_aload_n C dX12_does_74 rfl 3 rfl rfl ?_
    refine dn_iconst C dX12_does_75 ic_i_2 rfl ?_
    refine dn_iald C hp2 dX12_does_76 rfl (fun z16 => ?_)
    refine dn_callV_ih (As := [.ref (wd_b G + p1), .int ((32 : Int32) + v3_2), .int z16]) (st := []) C (ok_M_goesTo (cx_g C) o ho p1 hp1 ((32 : Int32) + v3_2) z16 σ τ) mt_X12_goesTo mv_X12_goesTo lk_X12_305 (by decide) ho rfl ⟨Nat.zero_le _, Nat.zero_le _⟩ (Nat.le_of_ble_eq_true rfl) dX12_does_77 rfl rfl (fun z17 s18 => ?_)
    exact dn_zret C dX12_does_80 rfl
  · refine dn_aload_n C dX12_does_81 rfl 2 rfl rfl ?_
    refine dn_iload_n C dX12_does_82 rfl 0 rfl rfl ?_
    refine dn_callS_i (As := [.ref (wd_b G + p1), .int v3_2]) (st := []) C (ok_M_lives (cx_g C) p1 hp1 v3_2 σ τ) mt_X12_lives ms_X12_lives lk_X12_275 (by decide) rfl ⟨Nat.zero_le _, Nat.zero_le _⟩ (Nat.le_of_ble_eq_true rfl) dX12_does_83 rfl rfl (fun z19 => ?_)
    refine dn_jn (fun z => ∀ (t20 : Int32) (s21 : hp_I), dn_D G M 4 0 0 (cl_M G M (ci_ih τ)) 121 [] [.int t20] s21 τ (z t20 s21)) (fun t20 s21 => ?_) (fun j22 hj22 => ?_)
    · exact dn_zret C dX12_does_121 rfl
    · refine dn_jn (fun z => ∀ (s23 : hp_I), dn_D G M 4 0 0 (cl_M G M (ci_ih τ)) 120 [] [] s23 τ (z s23)) (fun s23 => ?_) (fun j24 hj24 => ?_)
      · refine dn_iconst C dX12_does_120 ic_i_0 rfl ?_
        exact hj22 (0 : Int32) s23
      · refine dn_if_eq (t := 120) C dX12_does_86 (by decide) rfl ?_ ?_
        · refine dn_pick [] rfl ?_
          exact hj24 σ
        · refine dn_aload_n C dX12_does_89 rfl 2 rfl rfl ?_
          refine dn_bipush C dX12_does_90 ic_b_8 rfl ?_
          refine dn_iload_n C dX12_does_92 rfl 0 rfl rfl ?_
          refine dn_iadd C dX12_does_93 rfl ?_
          refine dn_sipush C dX12_does_94 ic_s_999 rfl ?_
          refine dn_aload_n C dX12_does_97 rfl 2 rfl rfl ?_
          refine dn_bipush C dX12_does_98 ic_b_8 rfl ?_
          refine dn_iload_n C dX12_does_100 rfl 0 rfl rfl ?_
          refine dn_iadd C dX12_does_101 rfl ?_
          refine dn_iald C hp1 dX12_does_102 rfl (fun z25 => ?_)
          refine dn_aload_n C dX12_does_103 rfl 3 rfl rfl ?_
          refine dn_iconst C dX12_does_104 ic_i_2 rfl ?_
          refine dn_iald C hp2 dX12_does_105 rfl (fun z26 => ?_)
          refine dn_iadd C dX12_does_106 rfl ?_
          refine dn_callS_i (As := [.int (999 : Int32), .int (z25 + z26)]) (st := [.int ((8 : Int32) + v3_2), .ref (wd_b G + p1)]) C (ok_M_less (cx_g C) (999 : Int32) (z25 + z26) σ τ) mt_X12_less ms_X12_less lk_X12_232 (by decide) rfl ⟨Nat.zero_le _, Nat.zero_le _⟩ (Nat.le_of_ble_eq_true rfl) dX12_does_107 rfl rfl (fun z27 => ?_)
          refine dn_callS_ih (As := [.ref (wd_b G + p1), .int ((8 : Int32) + v3_2), .int z27]) (st := []) C (ok_M_becomes (cx_g C) p1 hp1 ((8 : Int32) + v3_2) z27 σ τ) mt_X12_becomes ms_X12_becomes lk_X12_302 (by decide) rfl ⟨Nat.zero_le _, Nat.zero_le _⟩ (Nat.le_of_ble_eq_true rfl) dX12_does_110 rfl rfl (fun z28 s29 => ?_)
          refine dn_if_eq (t := 120) C dX12_does_113 (by decide) rfl ?_ ?_
          · refine dn_pick [] rfl ?_
            exact hj24 s29
          · refine dn_iconst C dX12_does_116 ic_i_1 rfl ?_
            refine dn_goto (t := 121) C dX12_does_117 (by decide) ?_
            refine dn_pick [] rfl ?_
            exact hj22 (1 : Int32) s29
  · refine dn_aload_n C dX12_does_122 rfl 1 rfl rfl ?_
    refine dn_aload_n C dX12_does_123 rfl 2 rfl rfl ?_
    refine dn_iload_n C dX12_does_124 rfl 0 rfl rfl ?_
    refine dn_aload_n C dX12_does_125 rfl 3 rfl rfl ?_
    refine dn_iconst C dX12_does_126 ic_i_2 rfl ?_
    refine dn_iald C hp2 dX12_does_127 rfl (fun z30 => ?_)
    refine dn_callV_ih (As := [.ref (wd_b G + p1), .int v3_2, .int z30]) (st := []) C (ok_M_joins (cx_g C) o ho p1 hp1 v3_2 z30 σ τ) mt_X12_joins mv_X12_joins lk_X12_308 (by decide) ho rfl ⟨Nat.zero_le _, Nat.zero_le _⟩ (Nat.le_of_ble_eq_true rfl) dX12_does_128 rfl rfl (fun z31 s32 => ?_)
    exact dn_zret C dX12_does_131 rfl
  · refine dn_aload_n C dX12_does_132 rfl 2 rfl rfl ?_
    refine dn_bipush C dX12_does_133 ic_b_45 rfl ?_
    refine dn_aload_n C dX12_does_135 rfl 2 rfl rfl ?_
    refine dn_bipush C dX12_does_136 ic_b_45 rfl ?_
    refine dn_iald C hp1 dX12_does_138 rfl (fun z33 => ?_)
    refine dn_iconst C dX12_does_139 ic_i_1 rfl ?_
    refine dn_iload_n C dX12_does_140 rfl 0 rfl rfl ?_
    refine dn_ishl C dX12_does_141 rfl ?_
    refine dn_ixor C dX12_does_142 rfl ?_
    refine dn_callS_ih (As := [.ref (wd_b G + p1), .int (45 : Int32), .int (z33 ^^^ ((1 : Int32) <<< (v3_2 &&& 31)))]) (st := []) C (ok_M_becomes (cx_g C) p1 hp1 (45 : Int32) (z33 ^^^ ((1 : Int32) <<< (v3_2 &&& 31))) σ τ) mt_X12_becomes ms_X12_becomes lk_X12_302 (by decide) rfl ⟨Nat.zero_le _, Nat.zero_le _⟩ (Nat.le_of_ble_eq_true rfl) dX12_does_143 rfl rfl (fun z34 s35 => ?_)
    exact dn_zret C dX12_does_146 rfl
def fn_M_doomed  (o : Nat) (σ : hp_I) : Option (Int32 × hp_I) :=
  px_let (hp_s σ o 0 (0 : Int32)) fun s1 =>
  Option.bind (fn_M_copies (sh_rf o 25) (sh_rf o 26) s1) fun s3 =>
  Option.bind (fn_M_nightEnds o (sh_rf o 26) s3) fun s5 =>
  Option.bind (px_ald s5 (sh_rf o 25) (42 : Int32)) fun z6 =>
  Option.bind (px_ald s5 (sh_rf o 26) (42 : Int32)) fun z7 =>
  some (z6 &&& (z7 ^^^ (-1 : Int32)), s5)
set_option maxHeartbeats 4000000 in
set_option maxRecDepth 100000 in
theorem ok_M_doomed {G : wd_G} {l : Launch} (hN : gd_ok G)  (o : Nat) (ho : sh_kd o = 12) (σ : hp_I) (τ : hp_L) : cl_C G l 6 yX12_doomed cX12_doomed 1 (some .int) [.ref (wd_b G + o)] σ τ (ci_ih τ) (fn_M_doomed o σ) := by
  refine cl_of (lv0 := [(0, .ref (wd_b G + o))]) (ci_ih τ) (by decide) (Nat.le_of_ble_eq_true rfl) rfl hN (fun M hM C => ?_)
  have C : cx_C G M RX12 cX12_doomed 1 6 (some .int) := C
  unfold fn_M_doomed
  refine dn_aload_n C dX12_doomed_0 rfl 0 rfl rfl ?_
  refine dn_iconst C dX12_doomed_1 ic_i_0 rfl ?_
  refine dn_putI C fp_X12_93 ho dX12_doomed_2 rfl (fun s1 => ?_)
  refine dn_aload_n C dX12_doomed_5 rfl 0 rfl rfl ?_
  refine dn_getR C fd_X12_55 ho dX12_doomed_6 rfl ?_
  refine dn_aload_n C dX12_doomed_9 rfl 0 rfl rfl ?_
  refine dn_getR C fd_X12_58 ho dX12_doomed_10 rfl ?_
  refine dn_callS_h (As := [.ref (wd_b G + sh_rf o 25), .ref (wd_b G + sh_rf o 26)]) (st := []) C (ok_M_copies (cx_g C) (sh_rf o 25) (kt_12_25 ho) (sh_rf o 26) (kt_12_26 ho) s1 τ) mt_X12_copies ms_X12_copies lk_X12_328 (by decide) rfl ⟨Nat.zero_le _, Nat.zero_le _⟩ (Nat.le_of_ble_eq_true rfl) dX12_doomed_13 rfl rfl (fun s3 => ?_)
  refine dn_aload_n C dX12_doomed_16 rfl 0 rfl rfl ?_
  refine dn_aload_n C dX12_doomed_17 rfl 0 rfl rfl ?_
  refine dn_getR C fd_X12_58 ho dX12_doomed_18 rfl ?_
  refine dn_callV_h (As := [.ref (wd_b G + sh_rf o 26)]) (st := []) C (ok_M_nightEnds (cx_g C) o ho (sh_rf o 26) (kt_12_26 ho) s3 τ) mt_X12_nightEnds mv_X12_nightEnds lk_X12_311 (by decide) ho rfl ⟨Nat.zero_le _, Nat.zero_le _⟩ (Nat.le_of_ble_eq_true rfl) dX12_doomed_21 rfl rfl (fun s5 => ?_)
  refine dn_aload_n C dX12_doomed_24 rfl 0 rfl rfl ?_
  refine dn_getR C fd_X12_55 ho dX12_doomed_25 rfl ?_
  refine dn_bipush C dX12_doomed_28 ic_b_42 rfl ?_
  refine dn_iald C (kt_12_25 ho) dX12_doomed_30 rfl (fun z6 => ?_)
  refine dn_aload_n C dX12_doomed_31 rfl 0 rfl rfl ?_
  refine dn_getR C fd_X12_58 ho dX12_doomed_32 rfl ?_
  refine dn_bipush C dX12_doomed_35 ic_b_42 rfl ?_
  refine dn_iald C (kt_12_26 ho) dX12_doomed_37 rfl (fun z7 => ?_)
  refine dn_iconst C dX12_doomed_38 ic_i_m1 rfl ?_
  refine dn_ixor C dX12_doomed_39 rfl ?_
  refine dn_iand C dX12_doomed_40 rfl ?_
  exact dn_iret C dX12_doomed_41 rfl
def fn_M_grown_L67  (a0 : Nat) (a1 : Int32) (a2 : Int32) (k : hp_I → Option (Int32 × hp_I)) : Nat → Int32 → hp_I → Option (Int32 × hp_I)
  | 0, _, _ => none
  | fu + 1, x3, s0 =>
    if x3 < a2 then (
      Option.bind (fn_M_nightEnds a0 (sh_rf a0 26) s0) fun s16 =>
      px_let (x3 + 1) fun v3_17 =>
      fn_M_grown_L67 a0 a1 a2 k fu v3_17 s16
    ) else (
      k s0
    )
def fn_M_grown  (o : Nat) (p1 : Int32) (p2 : Int32) (σ : hp_I) : Option (Int32 × hp_I) :=
  px_let (hp_s σ o 0 (0 : Int32)) fun s1 =>
  Option.bind (fn_M_isThing o (2 : Int32) p1 s1) fun z2 =>
  px_jn (fun (t3 : Int32) =>
    px_b2 (fn_M_bad o t3 (1 : Int32) (0 : Int32) s1) fun z4 s5 =>
    px_jn (fun (s6 : hp_I) =>
      some ((0 : Int32), s6)
    ) fun j7 =>
      if z4 = 0 then (
        Option.bind (fn_M_in p2 (0 : Int32) (99 : Int32)) fun z8 =>
        px_jn (fun (t9 : Int32) =>
          px_b2 (fn_M_bad o t9 (2 : Int32) (1 : Int32) s5) fun z10 s11 =>
          if z10 = 0 then (
            Option.bind (fn_M_copies (sh_rf o 25) (sh_rf o 26) s11) fun s13 =>
            px_let (0 : Int32) fun v3_14 =>
            fn_M_grown_L67 o p1 p2
              (fun (s_18 : hp_I) =>
                Option.bind (fn_M_lives (sh_rf o 26) p1 s_18) fun z19 =>
                px_jn (fun (t20 : Int32) =>
                  some (t20, s_18)
                ) fun j21 =>
                  if z19 = 0 then (
                    j21 (-1 : Int32)
                  ) else (
                    Option.bind (px_ald s_18 (sh_rf o 26) ((8 : Int32) + p1)) fun z22 =>
                    j21 z22
                  )
              )
              FU v3_14 s13
          ) else (
            j7 s11
          )
        ) fun j23 =>
          if z8 = 0 then (
            j23 (1 : Int32)
          ) else (
            j23 (0 : Int32)
          )
      ) else (
        j7 s5
      )
  ) fun j24 =>
    if z2 = 0 then (
      j24 (1 : Int32)
    ) else (
      j24 (0 : Int32)
    )
set_option maxHeartbeats 4000000 in
set_option maxRecDepth 100000 in
theorem pf_M_grown_L67 {G : wd_G} {M : wd_M}  (C : cx_C G M RX12 cX12_grown 4 6 (some .int)) (a0 : Nat) (ha0 : sh_kd a0 = 12) (a1 : Int32) (a2 : Int32)  (τ : hp_L) (k : hp_I → Option (Int32 × hp_I)) (hk : ∀ (s : hp_I), dn_D G M 4 0 0 (cl_M G M (ci_ih τ)) 86 [(0, .ref (wd_b G + a0)), (1, .int a1)] [] s τ (k s)) : ∀ (fu : Nat) (x3 : Int32) (s0 : hp_I), dn_D G M 4 0 0 (cl_M G M (ci_ih τ)) 67 [(0, .ref (wd_b G + a0)), (1, .int a1), (2, .int a2), (3, .int x3)] [] s0 τ (fn_M_grown_L67 a0 a1 a2 k fu x3 s0) := by
  intro fu
  induction fu with
  | zero => exact fun x3 s0 => dn_none
  | succ fu ih =>
    intro x3 s0
    unfold fn_M_grown_L67
    refine dn_iload_n C dX12_grown_67 rfl 3 rfl rfl ?_
    refine dn_iload_n C dX12_grown_68 rfl 2 rfl rfl ?_
    refine dn_icmp_ge (t := 86) C dX12_grown_69 (by decide) rfl ?_ ?_
    · refine dn_aload_n C dX12_grown_72 rfl 0 rfl rfl ?_
      refine dn_aload_n C dX12_grown_73 rfl 0 rfl rfl ?_
      refine dn_getR C fd_X12_58 ha0 dX12_grown_74 rfl ?_
      refine dn_callV_h (As := [.ref (wd_b G + sh_rf a0 26)]) (st := []) C (ok_M_nightEnds (cx_g C) a0 ha0 (sh_rf a0 26) (kt_12_26 ha0) s0 τ) mt_X12_nightEnds mv_X12_nightEnds lk_X12_311 (by decide) ha0 rfl ⟨Nat.zero_le _, Nat.zero_le _⟩ (Nat.le_of_ble_eq_true rfl) dX12_grown_77 rfl rfl (fun s16 => ?_)
      refine dn_iinc (lv0 := [(0, .ref (wd_b G + a0)), (1, .int a1), (2, .int a2)]) (v := x3 + 1) C dX12_grown_80 3 rfl rfl (by decide) rfl rfl (fun v3_17 => ?_)
      refine dn_goto (t := 67) C dX12_grown_83 (by decide) ?_
      refine dn_pick [1, 2, 3, 0] rfl ?_
      exact ih v3_17 s16
    · refine dn_pick [0, 1] rfl ?_
      exact hk s0
set_option maxHeartbeats 4000000 in
set_option maxRecDepth 100000 in
theorem ok_M_grown {G : wd_G} {l : Launch} (hN : gd_ok G)  (o : Nat) (ho : sh_kd o = 12) (p1 : Int32) (p2 : Int32) (σ : hp_I) (τ : hp_L) : cl_C G l 6 yX12_grown cX12_grown 4 (some .int) [.ref (wd_b G + o), .int p1, .int p2] σ τ (ci_ih τ) (fn_M_grown o p1 p2 σ) := by
  refine cl_of (lv0 := [(0, .ref (wd_b G + o)), (1, .int p1), (2, .int p2)]) (ci_ih τ) (by decide) (Nat.le_of_ble_eq_true rfl) rfl hN (fun M hM C => ?_)
  have C : cx_C G M RX12 cX12_grown 4 6 (some .int) := C
  unfold fn_M_grown
  refine dn_aload_n C dX12_grown_0 rfl 0 rfl rfl ?_
  refine dn_iconst C dX12_grown_1 ic_i_0 rfl ?_
  refine dn_putI C fp_X12_93 ho dX12_grown_2 rfl (fun s1 => ?_)
  refine dn_aload_n C dX12_grown_5 rfl 0 rfl rfl ?_
  refine dn_aload_n C dX12_grown_6 rfl 0 rfl rfl ?_
  refine dn_iconst C dX12_grown_7 ic_i_2 rfl ?_
  refine dn_iload_n C dX12_grown_8 rfl 1 rfl rfl ?_
  refine dn_callV_i (As := [.int (2 : Int32), .int p1]) (st := [.ref (wd_b G + o)]) C (ok_M_isThing (cx_g C) o ho (2 : Int32) p1 s1 τ) mt_X12_isThing mv_X12_isThing lk_X12_336 (by decide) ho rfl ⟨Nat.zero_le _, Nat.zero_le _⟩ (Nat.le_of_ble_eq_true rfl) dX12_grown_9 rfl rfl (fun z2 => ?_)
  refine dn_jn (fun z => ∀ (t3 : Int32), dn_D G M 4 0 0 (cl_M G M (ci_ih τ)) 20 [(0, .ref (wd_b G + o)), (1, .int p1), (2, .int p2)] [.int t3, .ref (wd_b G + o)] s1 τ (z t3)) (fun t3 => ?_) (fun j24 hj24 => ?_)
  · refine dn_iconst C dX12_grown_20 ic_i_1 rfl ?_
    refine dn_iconst C dX12_grown_21 ic_i_0 rfl ?_
    refine dn_callV_ih (As := [.int t3, .int (1 : Int32), .int (0 : Int32)]) (st := []) C (ok_M_bad (cx_g C) o ho t3 (1 : Int32) (0 : Int32) s1 τ) mt_X12_bad mv_X12_bad lk_X12_172 (by decide) ho rfl ⟨Nat.zero_le _, Nat.zero_le _⟩ (Nat.le_of_ble_eq_true rfl) dX12_grown_22 rfl rfl (fun z4 s5 => ?_)
    refine dn_jn (fun z => ∀ (s6 : hp_I), dn_D G M 4 0 0 (cl_M G M (ci_ih τ)) 52 [] [] s6 τ (z s6)) (fun s6 => ?_) (fun j7 hj7 => ?_)
    · refine dn_iconst C dX12_grown_52 ic_i_0 rfl ?_
      exact dn_iret C dX12_grown_53 rfl
    · refine dn_if_ne (t := 52) C dX12_grown_25 (by decide) rfl ?_ ?_
      · refine dn_aload_n C dX12_grown_28 rfl 0 rfl rfl ?_
        refine dn_iload_n C dX12_grown_29 rfl 2 rfl rfl ?_
        refine dn_iconst C dX12_grown_30 ic_i_0 rfl ?_
        refine dn_bipush C dX12_grown_31 ic_b_99 rfl ?_
        refine dn_callS_i (As := [.int p2, .int (0 : Int32), .int (99 : Int32)]) (st := [.ref (wd_b G + o)]) C (ok_M_in (cx_g C) p2 (0 : Int32) (99 : Int32) s5 τ) mt_X12_in ms_X12_in lk_X12_127 (by decide) rfl ⟨Nat.zero_le _, Nat.zero_le _⟩ (Nat.le_of_ble_eq_true rfl) dX12_grown_33 rfl rfl (fun z8 => ?_)
        refine dn_jn (fun z => ∀ (t9 : Int32), dn_D G M 4 0 0 (cl_M G M (ci_ih τ)) 44 [(0, .ref (wd_b G + o)), (1, .int p1), (2, .int p2)] [.int t9, .ref (wd_b G + o)] s5 τ (z t9)) (fun t9 => ?_) (fun j23 hj23 => ?_)
        · refine dn_iconst C dX12_grown_44 ic_i_2 rfl ?_
          refine dn_iconst C dX12_grown_45 ic_i_1 rfl ?_
          refine dn_callV_ih (As := [.int t9, .int (2 : Int32), .int (1 : Int32)]) (st := []) C (ok_M_bad (cx_g C) o ho t9 (2 : Int32) (1 : Int32) s5 τ) mt_X12_bad mv_X12_bad lk_X12_172 (by decide) ho rfl ⟨Nat.zero_le _, Nat.zero_le _⟩ (Nat.le_of_ble_eq_true rfl) dX12_grown_46 rfl rfl (fun z10 s11 => ?_)
          refine dn_if_eq (t := 54) C dX12_grown_49 (by decide) rfl ?_ ?_
          · refine dn_aload_n C dX12_grown_54 rfl 0 rfl rfl ?_
            refine dn_getR C fd_X12_55 ho dX12_grown_55 rfl ?_
            refine dn_aload_n C dX12_grown_58 rfl 0 rfl rfl ?_
            refine dn_getR C fd_X12_58 ho dX12_grown_59 rfl ?_
            refine dn_callS_h (As := [.ref (wd_b G + sh_rf o 25), .ref (wd_b G + sh_rf o 26)]) (st := []) C (ok_M_copies (cx_g C) (sh_rf o 25) (kt_12_25 ho) (sh_rf o 26) (kt_12_26 ho) s11 τ) mt_X12_copies ms_X12_copies lk_X12_328 (by decide) rfl ⟨Nat.zero_le _, Nat.zero_le _⟩ (Nat.le_of_ble_eq_true rfl) dX12_grown_62 rfl rfl (fun s13 => ?_)
            refine dn_iconst C dX12_grown_65 ic_i_0 rfl ?_
            refine dn_istore_n (lv0 := [(0, .ref (wd_b G + o)), (1, .int p1), (2, .int p2)]) C dX12_grown_66 rfl (by decide) rfl rfl (fun v3_14 => ?_)
            refine dn_pick [1, 2, 3, 0] rfl ?_
            refine pf_M_grown_L67  C  o ho p1 p2  τ _ (fun s_18 => ?_) FU v3_14 s13
            refine dn_aload_n C dX12_grown_86 rfl 0 rfl rfl ?_
            refine dn_getR C fd_X12_58 ho dX12_grown_87 rfl ?_
            refine dn_iload_n C dX12_grown_90 rfl 1 rfl rfl ?_
            refine dn_callS_i (As := [.ref (wd_b G + sh_rf o 26), .int p1]) (st := []) C (ok_M_lives (cx_g C) (sh_rf o 26) (kt_12_26 ho) p1 s_18 τ) mt_X12_lives ms_X12_lives lk_X12_275 (by decide) rfl ⟨Nat.zero_le _, Nat.zero_le _⟩ (Nat.le_of_ble_eq_true rfl) dX12_grown_91 rfl rfl (fun z19 => ?_)
            refine dn_jn (fun z => ∀ (t20 : Int32), dn_D G M 4 0 0 (cl_M G M (ci_ih τ)) 110 [] [.int t20] s_18 τ (z t20)) (fun t20 => ?_) (fun j21 hj21 => ?_)
            · exact dn_iret C dX12_grown_110 rfl
            · refine dn_if_eq (t := 109) C dX12_grown_94 (by decide) rfl ?_ ?_
              · refine dn_iconst C dX12_grown_109 ic_i_m1 rfl ?_
                refine dn_pick [] rfl ?_
                exact hj21 (-1 : Int32)
              · refine dn_aload_n C dX12_grown_97 rfl 0 rfl rfl ?_
                refine dn_getR C fd_X12_58 ho dX12_grown_98 rfl ?_
                refine dn_bipush C dX12_grown_101 ic_b_8 rfl ?_
                refine dn_iload_n C dX12_grown_103 rfl 1 rfl rfl ?_
                refine dn_iadd C dX12_grown_104 rfl ?_
                refine dn_iald C (kt_12_26 ho) dX12_grown_105 rfl (fun z22 => ?_)
                refine dn_goto (t := 110) C dX12_grown_106 (by decide) ?_
                refine dn_pick [] rfl ?_
                exact hj21 z22
          · refine dn_pick [] rfl ?_
            exact hj7 s11
        · refine dn_if_ne (t := 43) C dX12_grown_36 (by decide) rfl ?_ ?_
          · refine dn_iconst C dX12_grown_39 ic_i_1 rfl ?_
            refine dn_goto (t := 44) C dX12_grown_40 (by decide) ?_
            exact hj23 (1 : Int32)
          · refine dn_iconst C dX12_grown_43 ic_i_0 rfl ?_
            exact hj23 (0 : Int32)
      · refine dn_pick [] rfl ?_
        exact hj7 s5
  · refine dn_if_ne (t := 19) C dX12_grown_12 (by decide) rfl ?_ ?_
    · refine dn_iconst C dX12_grown_15 ic_i_1 rfl ?_
      refine dn_goto (t := 20) C dX12_grown_16 (by decide) ?_
      exact hj24 (1 : Int32)
    · refine dn_iconst C dX12_grown_19 ic_i_0 rfl ?_
      exact hj24 (0 : Int32)
def fn_M_house_L42  (a0 : Nat) (k : hp_I → Option (Int32 × hp_I)) : Nat → hp_I → Option (Int32 × hp_I)
  | 0, _ => none
  | fu + 1, s0 =>
    if (s0 a0 5) = 0 then (
      if (s0 a0 4) < (s0 a0 2) then (
        Option.bind (fn_M_clause a0 s0) fun s11 =>
        Option.bind (fn_M_blanks a0 s11) fun s13 =>
        fn_M_house_L42 a0 k fu s13
      ) else (
        k s0
      )
    ) else (
      k s0
    )
def fn_M_house  (o : Nat) (p1 : Int32) (σ : hp_I) : Option (Int32 × hp_I) :=
  px_let (hp_s σ o 0 (0 : Int32)) fun s1 =>
  Option.bind (fn_M_in p1 (0 : Int32) (s1 o 1)) fun z2 =>
  px_jn (fun (t3 : Int32) =>
    px_b2 (fn_M_bad o t3 (1 : Int32) (1 : Int32) s1) fun z4 s5 =>
    if z4 = 0 then (
      Option.bind (fn_M_starts o p1 s5) fun s7 =>
      Option.bind (fn_M_tellsNothing o s7) fun s9 =>
      fn_M_house_L42 o
        (fun (s_14 : hp_I) =>
          if (s_14 o 5) = 0 then (
            px_let (hp_s s_14 o 3 (-1 : Int32)) fun s17 =>
            Option.bind (fn_M_beginsAnew o s17) fun s19 =>
            Option.bind (px_ald s19 (sh_rf o 12) (2 : Int32)) fun z20 =>
            some (z20, s19)
          ) else (
            px_b2 (fn_M_ends o s_14) fun z15 s16 =>
            some (z15, s16)
          )
        )
        FU s9
    ) else (
      some ((0 : Int32), s5)
    )
  ) fun j21 =>
    if z2 = 0 then (
      j21 (1 : Int32)
    ) else (
      j21 (0 : Int32)
    )
set_option maxHeartbeats 4000000 in
set_option maxRecDepth 100000 in
theorem pf_M_house_L42 {G : wd_G} {M : wd_M}  (C : cx_C G M RX12 cX12_house 2 6 (some .int)) (a0 : Nat) (ha0 : sh_kd a0 = 12)  (τ : hp_L) (k : hp_I → Option (Int32 × hp_I)) (hk : ∀ (s : hp_I), dn_D G M 2 0 0 (cl_M G M (ci_ih τ)) 71 [(0, .ref (wd_b G + a0))] [] s τ (k s)) : ∀ (fu : Nat) (s0 : hp_I), dn_D G M 2 0 0 (cl_M G M (ci_ih τ)) 42 [(0, .ref (wd_b G + a0))] [] s0 τ (fn_M_house_L42 a0 k fu s0) := by
  intro fu
  induction fu with
  | zero => exact fun s0 => dn_none
  | succ fu ih =>
    intro s0
    unfold fn_M_house_L42
    refine dn_aload_n C dX12_house_42 rfl 0 rfl rfl ?_
    refine dn_getI C fd_X12_109 ha0 dX12_house_43 rfl ?_
    refine dn_if_ne (t := 71) C dX12_house_46 (by decide) rfl ?_ ?_
    · refine dn_aload_n C dX12_house_49 rfl 0 rfl rfl ?_
      refine dn_getI C fd_X12_102 ha0 dX12_house_50 rfl ?_
      refine dn_aload_n C dX12_house_53 rfl 0 rfl rfl ?_
      refine dn_getI C fd_X12_99 ha0 dX12_house_54 rfl ?_
      refine dn_icmp_ge (t := 71) C dX12_house_57 (by decide) rfl ?_ ?_
      · refine dn_aload_n C dX12_house_60 rfl 0 rfl rfl ?_
        refine dn_callV_h (As := []) (st := []) C (ok_M_clause (cx_g C) a0 ha0 s0 τ) mt_X12_clause mv_X12_clause lk_X12_179 (by decide) ha0 rfl ⟨Nat.zero_le _, Nat.zero_le _⟩ (Nat.le_of_ble_eq_true rfl) dX12_house_61 rfl rfl (fun s11 => ?_)
        refine dn_aload_n C dX12_house_64 rfl 0 rfl rfl ?_
        refine dn_callV_h (As := []) (st := []) C (ok_M_blanks (cx_g C) a0 ha0 s11 τ) mt_X12_blanks mv_X12_blanks lk_X12_115 (by decide) ha0 rfl ⟨Nat.zero_le _, Nat.zero_le _⟩ (Nat.le_of_ble_eq_true rfl) dX12_house_65 rfl rfl (fun s13 => ?_)
        refine dn_goto (t := 42) C dX12_house_68 (by decide) ?_
        exact ih s13
      · exact hk s0
    · exact hk s0
set_option maxHeartbeats 4000000 in
set_option maxRecDepth 100000 in
theorem ok_M_house {G : wd_G} {l : Launch} (hN : gd_ok G)  (o : Nat) (ho : sh_kd o = 12) (p1 : Int32) (σ : hp_I) (τ : hp_L) : cl_C G l 6 yX12_house cX12_house 2 (some .int) [.ref (wd_b G + o), .int p1] σ τ (ci_ih τ) (fn_M_house o p1 σ) := by
  refine cl_of (lv0 := [(0, .ref (wd_b G + o)), (1, .int p1)]) (ci_ih τ) (by decide) (Nat.le_of_ble_eq_true rfl) rfl hN (fun M hM C => ?_)
  have C : cx_C G M RX12 cX12_house 2 6 (some .int) := C
  unfold fn_M_house
  refine dn_aload_n C dX12_house_0 rfl 0 rfl rfl ?_
  refine dn_iconst C dX12_house_1 ic_i_0 rfl ?_
  refine dn_putI C fp_X12_93 ho dX12_house_2 rfl (fun s1 => ?_)
  refine dn_aload_n C dX12_house_5 rfl 0 rfl rfl ?_
  refine dn_iload_n C dX12_house_6 rfl 1 rfl rfl ?_
  refine dn_iconst C dX12_house_7 ic_i_0 rfl ?_
  refine dn_aload_n C dX12_house_8 rfl 0 rfl rfl ?_
  refine dn_getI C fd_X12_96 ho dX12_house_9 rfl ?_
  refine dn_callS_i (As := [.int p1, .int (0 : Int32), .int (s1 o 1)]) (st := [.ref (wd_b G + o)]) C (ok_M_in (cx_g C) p1 (0 : Int32) (s1 o 1) s1 τ) mt_X12_in ms_X12_in lk_X12_127 (by decide) rfl ⟨Nat.zero_le _, Nat.zero_le _⟩ (Nat.le_of_ble_eq_true rfl) dX12_house_12 rfl rfl (fun z2 => ?_)
  refine dn_jn (fun z => ∀ (t3 : Int32), dn_D G M 2 0 0 (cl_M G M (ci_ih τ)) 23 [(0, .ref (wd_b G + o)), (1, .int p1)] [.int t3, .ref (wd_b G + o)] s1 τ (z t3)) (fun t3 => ?_) (fun j21 hj21 => ?_)
  · refine dn_iconst C dX12_house_23 ic_i_1 rfl ?_
    refine dn_iconst C dX12_house_24 ic_i_1 rfl ?_
    refine dn_callV_ih (As := [.int t3, .int (1 : Int32), .int (1 : Int32)]) (st := []) C (ok_M_bad (cx_g C) o ho t3 (1 : Int32) (1 : Int32) s1 τ) mt_X12_bad mv_X12_bad lk_X12_172 (by decide) ho rfl ⟨Nat.zero_le _, Nat.zero_le _⟩ (Nat.le_of_ble_eq_true rfl) dX12_house_25 rfl rfl (fun z4 s5 => ?_)
    refine dn_if_eq (t := 33) C dX12_house_28 (by decide) rfl ?_ ?_
    · refine dn_aload_n C dX12_house_33 rfl 0 rfl rfl ?_
      refine dn_iload_n C dX12_house_34 rfl 1 rfl rfl ?_
      refine dn_callV_h (As := [.int p1]) (st := []) C (ok_M_starts (cx_g C) o ho p1 s5 τ) mt_X12_starts mv_X12_starts lk_X12_176 (by decide) ho rfl ⟨Nat.zero_le _, Nat.zero_le _⟩ (Nat.le_of_ble_eq_true rfl) dX12_house_35 rfl rfl (fun s7 => ?_)
      refine dn_aload_n C dX12_house_38 rfl 0 rfl rfl ?_
      refine dn_callV_h (As := []) (st := []) C (ok_M_tellsNothing (cx_g C) o ho s7 τ) mt_X12_tellsNothing mv_X12_tellsNothing lk_X12_87 (by decide) ho rfl ⟨Nat.zero_le _, Nat.zero_le _⟩ (Nat.le_of_ble_eq_true rfl) dX12_house_39 rfl rfl (fun s9 => ?_)
      refine dn_pick [0] rfl ?_
      refine pf_M_house_L42  C  o ho  τ _ (fun s_14 => ?_) FU s9
      refine dn_aload_n C dX12_house_71 rfl 0 rfl rfl ?_
      refine dn_getI C fd_X12_109 ho dX12_house_72 rfl ?_
      refine dn_if_eq (t := 83) C dX12_house_75 (by decide) rfl ?_ ?_
      · refine dn_aload_n C dX12_house_83 rfl 0 rfl rfl ?_
        refine dn_iconst C dX12_house_84 ic_i_m1 rfl ?_
        refine dn_putI C fp_X12_9 ho dX12_house_85 rfl (fun s17 => ?_)
        refine dn_aload_n C dX12_house_88 rfl 0 rfl rfl ?_
        refine dn_callV_h (As := []) (st := []) C (ok_M_beginsAnew (cx_g C) o ho s17 τ) mt_X12_beginsAnew mv_X12_beginsAnew lk_X12_90 (by decide) ho rfl ⟨Nat.zero_le _, Nat.zero_le _⟩ (Nat.le_of_ble_eq_true rfl) dX12_house_89 rfl rfl (fun s19 => ?_)
        refine dn_aload_n C dX12_house_92 rfl 0 rfl rfl ?_
        refine dn_getR C fd_X12_23 ho dX12_house_93 rfl ?_
        refine dn_iconst C dX12_house_96 ic_i_2 rfl ?_
        refine dn_iald C (kt_12_12 ho) dX12_house_97 rfl (fun z20 => ?_)
        exact dn_iret C dX12_house_98 rfl
      · refine dn_aload_n C dX12_house_78 rfl 0 rfl rfl ?_
        refine dn_callV_ih (As := []) (st := []) C (ok_M_ends (cx_g C) o ho s_14 τ) mt_X12_ends mv_X12_ends lk_X12_182 (by decide) ho rfl ⟨Nat.zero_le _, Nat.zero_le _⟩ (Nat.le_of_ble_eq_true rfl) dX12_house_79 rfl rfl (fun z15 s16 => ?_)
        exact dn_iret C dX12_house_82 rfl
    · refine dn_iconst C dX12_house_31 ic_i_0 rfl ?_
      exact dn_iret C dX12_house_32 rfl
  · refine dn_if_ne (t := 22) C dX12_house_15 (by decide) rfl ?_ ?_
    · refine dn_iconst C dX12_house_18 ic_i_1 rfl ?_
      refine dn_goto (t := 23) C dX12_house_19 (by decide) ?_
      exact hj21 (1 : Int32)
    · refine dn_iconst C dX12_house_22 ic_i_0 rfl ?_
      exact hj21 (0 : Int32)
def fn_M_isSo_L30  (a0 : Nat) (σ : hp_I) (k : Option (Int32 × hp_I)) : Nat → Int32 → Option (Int32 × hp_I)
  | 0, _ => none
  | fu + 1, x3 =>
    if x3 < (σ a0 30) then (
      Option.bind (px_rld (sh_rf a0 19) x3) fun z7 =>
      Option.bind (px_ald σ z7 (0 : Int32)) fun z8 =>
      Option.bind (px_ald σ (sh_rf a0 26) ((37 : Int32) + z8)) fun z9 =>
      Option.bind (px_rld (sh_rf a0 19) x3) fun z10 =>
      Option.bind (px_ald σ z10 (0 : Int32)) fun z11 =>
      Option.bind (px_ald σ (sh_rf a0 25) ((37 : Int32) + z11)) fun z12 =>
      Option.bind (px_rld (sh_rf a0 19) x3) fun z13 =>
      Option.bind (px_ald σ z13 (1 : Int32)) fun z14 =>
      if (z9 - z12) = z14 then (
        px_let (x3 + 1) fun v3_15 =>
        fn_M_isSo_L30 a0 σ k fu v3_15
      ) else (
        px_z (0 : Int32) ((0 : Int32), σ)
      )
    ) else (
      k
    )
def fn_M_isSo  (o : Nat) (p1 : Int32) (p2 : Int32) (σ : hp_I) : Option (Int32 × hp_I) :=
  Option.bind (fn_M_copies (sh_rf o 25) (sh_rf o 26) σ) fun s2 =>
  Option.bind (px_ast s2 (sh_rf o 26) ((0 : Int32) + p1) p2) fun s3 =>
  Option.bind (fn_M_nightEnds o (sh_rf o 26) s3) fun s5 =>
  px_let (0 : Int32) fun v3_6 =>
  fn_M_isSo_L30 o s5
    (
      px_z (1 : Int32) ((1 : Int32), s5)
    )
    FU v3_6
set_option maxHeartbeats 4000000 in
set_option maxRecDepth 100000 in
theorem pf_M_isSo_L30 {G : wd_G} {M : wd_M}  (C : cx_C G M RX12 cX12_isSo 4 6 (some .boolean)) (a0 : Nat) (ha0 : sh_kd a0 = 12) (σ : hp_I) (τ : hp_L) (k : Option (Int32 × hp_I)) (hk : dn_D G M 4 0 0 (cl_M G M (ci_ih τ)) 90 [] [] σ τ k) : ∀ (fu : Nat) (x3 : Int32), dn_D G M 4 0 0 (cl_M G M (ci_ih τ)) 30 [(0, .ref (wd_b G + a0)), (3, .int x3)] [] σ τ (fn_M_isSo_L30 a0 σ k fu x3) := by
  intro fu
  induction fu with
  | zero => exact fun x3 => dn_none
  | succ fu ih =>
    intro x3
    unfold fn_M_isSo_L30
    refine dn_iload_n C dX12_isSo_30 rfl 1 rfl rfl ?_
    refine dn_aload_n C dX12_isSo_31 rfl 0 rfl rfl ?_
    refine dn_getI C fd_X12_192 ha0 dX12_isSo_32 rfl ?_
    refine dn_icmp_ge (t := 90) C dX12_isSo_35 (by decide) rfl ?_ ?_
    · refine dn_aload_n C dX12_isSo_38 rfl 0 rfl rfl ?_
      refine dn_getR C fd_X12_58 ha0 dX12_isSo_39 rfl ?_
      refine dn_bipush C dX12_isSo_42 ic_b_37 rfl ?_
      refine dn_aload_n C dX12_isSo_44 rfl 0 rfl rfl ?_
      refine dn_getR C fd_X12_40 ha0 dX12_isSo_45 rfl ?_
      refine dn_iload_n C dX12_isSo_48 rfl 1 rfl rfl ?_
      refine dn_aald C (kt_12_19 ha0) dX12_isSo_49 rfl (fun z7 hz7 => ?_)
      refine dn_iconst C dX12_isSo_50 ic_i_0 rfl ?_
      refine dn_iald C (kt_row (kt_12_19 ha0) hz7) dX12_isSo_51 rfl (fun z8 => ?_)
      refine dn_iadd C dX12_isSo_52 rfl ?_
      refine dn_iald C (kt_12_26 ha0) dX12_isSo_53 rfl (fun z9 => ?_)
      refine dn_aload_n C dX12_isSo_54 rfl 0 rfl rfl ?_
      refine dn_getR C fd_X12_55 ha0 dX12_isSo_55 rfl ?_
      refine dn_bipush C dX12_isSo_58 ic_b_37 rfl ?_
      refine dn_aload_n C dX12_isSo_60 rfl 0 rfl rfl ?_
      refine dn_getR C fd_X12_40 ha0 dX12_isSo_61 rfl ?_
      refine dn_iload_n C dX12_isSo_64 rfl 1 rfl rfl ?_
      refine dn_aald C (kt_12_19 ha0) dX12_isSo_65 rfl (fun z10 hz10 => ?_)
      refine dn_iconst C dX12_isSo_66 ic_i_0 rfl ?_
      refine dn_iald C (kt_row (kt_12_19 ha0) hz10) dX12_isSo_67 rfl (fun z11 => ?_)
      refine dn_iadd C dX12_isSo_68 rfl ?_
      refine dn_iald C (kt_12_25 ha0) dX12_isSo_69 rfl (fun z12 => ?_)
      refine dn_isub C dX12_isSo_70 rfl ?_
      refine dn_aload_n C dX12_isSo_71 rfl 0 rfl rfl ?_
      refine dn_getR C fd_X12_40 ha0 dX12_isSo_72 rfl ?_
      refine dn_iload_n C dX12_isSo_75 rfl 1 rfl rfl ?_
      refine dn_aald C (kt_12_19 ha0) dX12_isSo_76 rfl (fun z13 hz13 => ?_)
      refine dn_iconst C dX12_isSo_77 ic_i_1 rfl ?_
      refine dn_iald C (kt_row (kt_12_19 ha0) hz13) dX12_isSo_78 rfl (fun z14 => ?_)
      refine dn_icmp_eq (t := 84) C dX12_isSo_79 (by decide) rfl ?_ ?_
      · refine dn_iinc (lv0 := [(0, .ref (wd_b G + a0))]) (v := x3 + 1) C dX12_isSo_84 1 rfl rfl (by decide) rfl rfl (fun v3_15 => ?_)
        refine dn_goto (t := 30) C dX12_isSo_87 (by decide) ?_
        refine dn_pick [1, 0] rfl ?_
        exact ih v3_15
      · refine dn_iconst C dX12_isSo_82 ic_i_0 rfl ?_
        exact dn_zret C dX12_isSo_83 rfl
    · refine dn_pick [] rfl ?_
      exact hk
set_option maxHeartbeats 4000000 in
set_option maxRecDepth 100000 in
theorem ok_M_isSo {G : wd_G} {l : Launch} (hN : gd_ok G)  (o : Nat) (ho : sh_kd o = 12) (p1 : Int32) (p2 : Int32) (σ : hp_I) (τ : hp_L) : cl_C G l 6 yX12_isSo cX12_isSo 4 (some .boolean) [.ref (wd_b G + o), .int p1, .int p2] σ τ (ci_ih τ) (fn_M_isSo o p1 p2 σ) := by
  refine cl_of (lv0 := [(0, .ref (wd_b G + o)), (1, .int p1), (2, .int p2)]) (ci_ih τ) (by decide) (Nat.le_of_ble_eq_true rfl) rfl hN (fun M hM C => ?_)
  have C : cx_C G M RX12 cX12_isSo 4 6 (some .boolean) := C
  unfold fn_M_isSo
  refine dn_aload_n C dX12_isSo_0 rfl 0 rfl rfl ?_
  refine dn_getR C fd_X12_55 ho dX12_isSo_1 rfl ?_
  refine dn_aload_n C dX12_isSo_4 rfl 0 rfl rfl ?_
  refine dn_getR C fd_X12_58 ho dX12_isSo_5 rfl ?_
  refine dn_callS_h (As := [.ref (wd_b G + sh_rf o 25), .ref (wd_b G + sh_rf o 26)]) (st := []) C (ok_M_copies (cx_g C) (sh_rf o 25) (kt_12_25 ho) (sh_rf o 26) (kt_12_26 ho) σ τ) mt_X12_copies ms_X12_copies lk_X12_328 (by decide) rfl ⟨Nat.zero_le _, Nat.zero_le _⟩ (Nat.le_of_ble_eq_true rfl) dX12_isSo_8 rfl rfl (fun s2 => ?_)
  refine dn_aload_n C dX12_isSo_11 rfl 0 rfl rfl ?_
  refine dn_getR C fd_X12_58 ho dX12_isSo_12 rfl ?_
  refine dn_iconst C dX12_isSo_15 ic_i_0 rfl ?_
  refine dn_iload_n C dX12_isSo_16 rfl 1 rfl rfl ?_
  refine dn_iadd C dX12_isSo_17 rfl ?_
  refine dn_iload_n C dX12_isSo_18 rfl 2 rfl rfl ?_
  refine dn_iast C (kt_12_26 ho) dX12_isSo_19 rfl (fun s3 => ?_)
  refine dn_aload_n C dX12_isSo_20 rfl 0 rfl rfl ?_
  refine dn_aload_n C dX12_isSo_21 rfl 0 rfl rfl ?_
  refine dn_getR C fd_X12_58 ho dX12_isSo_22 rfl ?_
  refine dn_callV_h (As := [.ref (wd_b G + sh_rf o 26)]) (st := []) C (ok_M_nightEnds (cx_g C) o ho (sh_rf o 26) (kt_12_26 ho) s3 τ) mt_X12_nightEnds mv_X12_nightEnds lk_X12_311 (by decide) ho rfl ⟨Nat.zero_le _, Nat.zero_le _⟩ (Nat.le_of_ble_eq_true rfl) dX12_isSo_25 rfl rfl (fun s5 => ?_)
  refine dn_iconst C dX12_isSo_28 ic_i_0 rfl ?_
  refine dn_istore_n (lv0 := [(0, .ref (wd_b G + o)), (1, .int p1), (2, .int p2)]) C dX12_isSo_29 rfl (by decide) rfl rfl (fun v3_6 => ?_)
  refine dn_pick [1, 0] rfl ?_
  refine pf_M_isSo_L30  C  o ho s5 τ _ ?_ FU v3_6
  refine dn_iconst C dX12_isSo_90 ic_i_1 rfl ?_
  exact dn_zret C dX12_isSo_91 rfl
def fn_M_lasts_L43  (a0 : Nat) (a1 : Int32) (k : hp_I → Option (Int32 × hp_I)) : Nat → Int32 → hp_I → Option (Int32 × hp_I)
  | 0, _, _ => none
  | fu + 1, x2, s0 =>
    if x2 ≤ (99 : Int32) then (
      Option.bind (fn_M_lives (sh_rf a0 25) a1 s0) fun z9 =>
      if z9 = 0 then (
        k s0
      ) else (
        Option.bind (fn_M_nightEnds a0 (sh_rf a0 26) s0) fun s11 =>
        Option.bind (fn_M_lives (sh_rf a0 26) a1 s11) fun z12 =>
        if z12 = 0 then (
          some (x2, s11)
        ) else (
          px_let (x2 + 1) fun v2_13 =>
          fn_M_lasts_L43 a0 a1 k fu v2_13 s11
        )
      )
    ) else (
      k s0
    )
def fn_M_lasts  (o : Nat) (p1 : Int32) (σ : hp_I) : Option (Int32 × hp_I) :=
  px_let (hp_s σ o 0 (0 : Int32)) fun s1 =>
  Option.bind (fn_M_isThing o (2 : Int32) p1 s1) fun z2 =>
  px_jn (fun (t3 : Int32) =>
    px_b2 (fn_M_bad o t3 (1 : Int32) (0 : Int32) s1) fun z4 s5 =>
    if z4 = 0 then (
      Option.bind (fn_M_copies (sh_rf o 25) (sh_rf o 26) s5) fun s7 =>
      px_let (1 : Int32) fun v2_8 =>
      fn_M_lasts_L43 o p1
        (fun (s_14 : hp_I) =>
          some ((-1 : Int32), s_14)
        )
        FU v2_8 s7
    ) else (
      some ((0 : Int32), s5)
    )
  ) fun j15 =>
    if z2 = 0 then (
      j15 (1 : Int32)
    ) else (
      j15 (0 : Int32)
    )
set_option maxHeartbeats 4000000 in
set_option maxRecDepth 100000 in
theorem pf_M_lasts_L43 {G : wd_G} {M : wd_M}  (C : cx_C G M RX12 cX12_lasts 3 6 (some .int)) (a0 : Nat) (ha0 : sh_kd a0 = 12) (a1 : Int32)  (τ : hp_L) (k : hp_I → Option (Int32 × hp_I)) (hk : ∀ (s : hp_I), dn_D G M 3 0 0 (cl_M G M (ci_ih τ)) 87 [] [] s τ (k s)) : ∀ (fu : Nat) (x2 : Int32) (s0 : hp_I), dn_D G M 3 0 0 (cl_M G M (ci_ih τ)) 43 [(0, .ref (wd_b G + a0)), (1, .int a1), (2, .int x2)] [] s0 τ (fn_M_lasts_L43 a0 a1 k fu x2 s0) := by
  intro fu
  induction fu with
  | zero => exact fun x2 s0 => dn_none
  | succ fu ih =>
    intro x2 s0
    unfold fn_M_lasts_L43
    refine dn_iload_n C dX12_lasts_43 rfl 2 rfl rfl ?_
    refine dn_bipush C dX12_lasts_44 ic_b_99 rfl ?_
    refine dn_icmp_gt (t := 87) C dX12_lasts_46 (by decide) rfl ?_ ?_
    · refine dn_aload_n C dX12_lasts_49 rfl 0 rfl rfl ?_
      refine dn_getR C fd_X12_55 ha0 dX12_lasts_50 rfl ?_
      refine dn_iload_n C dX12_lasts_53 rfl 1 rfl rfl ?_
      refine dn_callS_i (As := [.ref (wd_b G + sh_rf a0 25), .int a1]) (st := []) C (ok_M_lives (cx_g C) (sh_rf a0 25) (kt_12_25 ha0) a1 s0 τ) mt_X12_lives ms_X12_lives lk_X12_275 (by decide) rfl ⟨Nat.zero_le _, Nat.zero_le _⟩ (Nat.le_of_ble_eq_true rfl) dX12_lasts_54 rfl rfl (fun z9 => ?_)
      refine dn_if_eq (t := 87) C dX12_lasts_57 (by decide) rfl ?_ ?_
      · refine dn_pick [] rfl ?_
        exact hk s0
      · refine dn_aload_n C dX12_lasts_60 rfl 0 rfl rfl ?_
        refine dn_aload_n C dX12_lasts_61 rfl 0 rfl rfl ?_
        refine dn_getR C fd_X12_58 ha0 dX12_lasts_62 rfl ?_
        refine dn_callV_h (As := [.ref (wd_b G + sh_rf a0 26)]) (st := []) C (ok_M_nightEnds (cx_g C) a0 ha0 (sh_rf a0 26) (kt_12_26 ha0) s0 τ) mt_X12_nightEnds mv_X12_nightEnds lk_X12_311 (by decide) ha0 rfl ⟨Nat.zero_le _, Nat.zero_le _⟩ (Nat.le_of_ble_eq_true rfl) dX12_lasts_65 rfl rfl (fun s11 => ?_)
        refine dn_aload_n C dX12_lasts_68 rfl 0 rfl rfl ?_
        refine dn_getR C fd_X12_58 ha0 dX12_lasts_69 rfl ?_
        refine dn_iload_n C dX12_lasts_72 rfl 1 rfl rfl ?_
        refine dn_callS_i (As := [.ref (wd_b G + sh_rf a0 26), .int a1]) (st := []) C (ok_M_lives (cx_g C) (sh_rf a0 26) (kt_12_26 ha0) a1 s11 τ) mt_X12_lives ms_X12_lives lk_X12_275 (by decide) rfl ⟨Nat.zero_le _, Nat.zero_le _⟩ (Nat.le_of_ble_eq_true rfl) dX12_lasts_73 rfl rfl (fun z12 => ?_)
        refine dn_if_ne (t := 81) C dX12_lasts_76 (by decide) rfl ?_ ?_
        · refine dn_iload_n C dX12_lasts_79 rfl 2 rfl rfl ?_
          exact dn_iret C dX12_lasts_80 rfl
        · refine dn_iinc (lv0 := [(0, .ref (wd_b G + a0)), (1, .int a1)]) (v := x2 + 1) C dX12_lasts_81 2 rfl rfl (by decide) rfl rfl (fun v2_13 => ?_)
          refine dn_goto (t := 43) C dX12_lasts_84 (by decide) ?_
          refine dn_pick [1, 2, 0] rfl ?_
          exact ih v2_13 s11
    · refine dn_pick [] rfl ?_
      exact hk s0
set_option maxHeartbeats 4000000 in
set_option maxRecDepth 100000 in
theorem ok_M_lasts {G : wd_G} {l : Launch} (hN : gd_ok G)  (o : Nat) (ho : sh_kd o = 12) (p1 : Int32) (σ : hp_I) (τ : hp_L) : cl_C G l 6 yX12_lasts cX12_lasts 3 (some .int) [.ref (wd_b G + o), .int p1] σ τ (ci_ih τ) (fn_M_lasts o p1 σ) := by
  refine cl_of (lv0 := [(0, .ref (wd_b G + o)), (1, .int p1)]) (ci_ih τ) (by decide) (Nat.le_of_ble_eq_true rfl) rfl hN (fun M hM C => ?_)
  have C : cx_C G M RX12 cX12_lasts 3 6 (some .int) := C
  unfold fn_M_lasts
  refine dn_aload_n C dX12_lasts_0 rfl 0 rfl rfl ?_
  refine dn_iconst C dX12_lasts_1 ic_i_0 rfl ?_
  refine dn_putI C fp_X12_93 ho dX12_lasts_2 rfl (fun s1 => ?_)
  refine dn_aload_n C dX12_lasts_5 rfl 0 rfl rfl ?_
  refine dn_aload_n C dX12_lasts_6 rfl 0 rfl rfl ?_
  refine dn_iconst C dX12_lasts_7 ic_i_2 rfl ?_
  refine dn_iload_n C dX12_lasts_8 rfl 1 rfl rfl ?_
  refine dn_callV_i (As := [.int (2 : Int32), .int p1]) (st := [.ref (wd_b G + o)]) C (ok_M_isThing (cx_g C) o ho (2 : Int32) p1 s1 τ) mt_X12_isThing mv_X12_isThing lk_X12_336 (by decide) ho rfl ⟨Nat.zero_le _, Nat.zero_le _⟩ (Nat.le_of_ble_eq_true rfl) dX12_lasts_9 rfl rfl (fun z2 => ?_)
  refine dn_jn (fun z => ∀ (t3 : Int32), dn_D G M 3 0 0 (cl_M G M (ci_ih τ)) 20 [(0, .ref (wd_b G + o)), (1, .int p1)] [.int t3, .ref (wd_b G + o)] s1 τ (z t3)) (fun t3 => ?_) (fun j15 hj15 => ?_)
  · refine dn_iconst C dX12_lasts_20 ic_i_1 rfl ?_
    refine dn_iconst C dX12_lasts_21 ic_i_0 rfl ?_
    refine dn_callV_ih (As := [.int t3, .int (1 : Int32), .int (0 : Int32)]) (st := []) C (ok_M_bad (cx_g C) o ho t3 (1 : Int32) (0 : Int32) s1 τ) mt_X12_bad mv_X12_bad lk_X12_172 (by decide) ho rfl ⟨Nat.zero_le _, Nat.zero_le _⟩ (Nat.le_of_ble_eq_true rfl) dX12_lasts_22 rfl rfl (fun z4 s5 => ?_)
    refine dn_if_eq (t := 30) C dX12_lasts_25 (by decide) rfl ?_ ?_
    · refine dn_aload_n C dX12_lasts_30 rfl 0 rfl rfl ?_
      refine dn_getR C fd_X12_55 ho dX12_lasts_31 rfl ?_
      refine dn_aload_n C dX12_lasts_34 rfl 0 rfl rfl ?_
      refine dn_getR C fd_X12_58 ho dX12_lasts_35 rfl ?_
      refine dn_callS_h (As := [.ref (wd_b G + sh_rf o 25), .ref (wd_b G + sh_rf o 26)]) (st := []) C (ok_M_copies (cx_g C) (sh_rf o 25) (kt_12_25 ho) (sh_rf o 26) (kt_12_26 ho) s5 τ) mt_X12_copies ms_X12_copies lk_X12_328 (by decide) rfl ⟨Nat.zero_le _, Nat.zero_le _⟩ (Nat.le_of_ble_eq_true rfl) dX12_lasts_38 rfl rfl (fun s7 => ?_)
      refine dn_iconst C dX12_lasts_41 ic_i_1 rfl ?_
      refine dn_istore_n (lv0 := [(0, .ref (wd_b G + o)), (1, .int p1)]) C dX12_lasts_42 rfl (by decide) rfl rfl (fun v2_8 => ?_)
      refine dn_pick [1, 2, 0] rfl ?_
      refine pf_M_lasts_L43  C  o ho p1  τ _ (fun s_14 => ?_) FU v2_8 s7
      refine dn_iconst C dX12_lasts_87 ic_i_m1 rfl ?_
      exact dn_iret C dX12_lasts_88 rfl
    · refine dn_iconst C dX12_lasts_28 ic_i_0 rfl ?_
      exact dn_iret C dX12_lasts_29 rfl
  · refine dn_if_ne (t := 19) C dX12_lasts_12 (by decide) rfl ?_ ?_
    · refine dn_iconst C dX12_lasts_15 ic_i_1 rfl ?_
      refine dn_goto (t := 20) C dX12_lasts_16 (by decide) ?_
      exact hj15 (1 : Int32)
    · refine dn_iconst C dX12_lasts_19 ic_i_0 rfl ?_
      exact hj15 (0 : Int32)
def fn_M_seasonBy_L19  (a0 : Nat) (a2 : Int32) (a3 : Int32) (k : hp_I → Option (hp_I)) : Nat → Int32 → hp_I → Option (hp_I)
  | 0, _, _ => none
  | fu + 1, x4, s0 =>
    if x4 < a2 then (
      Option.bind (px_ald s0 (sh_rf a0 12) (2 : Int32)) fun z5 =>
      px_jn (fun (s6 : hp_I) =>
        Option.bind (px_ald s6 (sh_rf a0 12) (3 : Int32)) fun z7 =>
        px_jn (fun (s8 : hp_I) =>
          Option.bind (fn_M_nightEnds a0 (sh_rf a0 26) s8) fun s10 =>
          px_let (x4 + 1) fun v4_11 =>
          fn_M_seasonBy_L19 a0 a2 a3 k fu v4_11 s10
        ) fun j12 =>
          if 0 < z7 then (
            px_b2 (fn_M_draw a0 (16 : Int32) s6) fun z13 s14 =>
            if z13 < a3 then (
              Option.bind (px_ald s14 (sh_rf a0 12) (3 : Int32)) fun z15 =>
              px_b2 (fn_M_draw a0 z15 s14) fun z16 s17 =>
              px_let z16 fun v5_18 =>
              Option.bind (px_ald s17 (sh_rf a0 12) (0 : Int32)) fun z19 =>
              px_b2 (fn_M_draw a0 z19 s17) fun z20 s21 =>
              px_b2 (fn_M_goesTo a0 (sh_rf a0 26) ((32 : Int32) + v5_18) z20 s21) fun z22 s23 =>
              j12 s23
            ) else (
              j12 s14
            )
          ) else (
            j12 s6
          )
      ) fun j24 =>
        if 0 < z5 then (
          Option.bind (px_ald s0 (sh_rf a0 12) (2 : Int32)) fun z25 =>
          px_b2 (fn_M_draw a0 z25 s0) fun z26 s27 =>
          px_let z26 fun v5_28 =>
          Option.bind (px_ald s27 (sh_rf a0 12) (0 : Int32)) fun z29 =>
          px_b2 (fn_M_draw a0 z29 s27) fun z30 s31 =>
          px_let z30 fun v6_32 =>
          Option.bind (fn_M_lives (sh_rf a0 26) v5_28 s31) fun z33 =>
          if z33 = 0 then (
            j24 s31
          ) else (
            px_b2 (fn_M_goesTo a0 (sh_rf a0 26) ((0 : Int32) + v5_28) v6_32 s31) fun z34 s35 =>
            j24 s35
          )
        ) else (
          j24 s0
        )
    ) else (
      k s0
    )
def fn_M_seasonBy  (o : Nat) (p1 : Int32) (p2 : Int32) (p3 : Int32) (σ : hp_I) : Option (hp_I) :=
  Option.bind (fn_M_copies (sh_rf o 25) (sh_rf o 26) σ) fun s2 =>
  px_let (hp_s s2 o 44 p1) fun s3 =>
  px_let (0 : Int32) fun v4_4 =>
  fn_M_seasonBy_L19 o p2 p3
    (fun (s_36 : hp_I) =>
      some s_36
    )
    FU v4_4 s3
set_option maxHeartbeats 4000000 in
set_option maxRecDepth 100000 in
theorem pf_M_seasonBy_L19 {G : wd_G} {M : wd_M}  (C : cx_C G M RX12 cX12_seasonBy 7 6 none) (a0 : Nat) (ha0 : sh_kd a0 = 12) (a2 : Int32) (a3 : Int32)  (τ : hp_L) (k : hp_I → Option (hp_I)) (hk : ∀ (s : hp_I), dn_D G M 7 0 0 (cl_M G M (ci_h τ)) 154 [] [] s τ (k s)) : ∀ (fu : Nat) (x4 : Int32) (s0 : hp_I), dn_D G M 7 0 0 (cl_M G M (ci_h τ)) 19 [(0, .ref (wd_b G + a0)), (2, .int a2), (3, .int a3), (4, .int x4)] [] s0 τ (fn_M_seasonBy_L19 a0 a2 a3 k fu x4 s0) := by
  intro fu
  induction fu with
  | zero => exact fun x4 s0 => dn_none
  | succ fu ih =>
    intro x4 s0
    unfold fn_M_seasonBy_L19
    refine dn_iload C dX12_seasonBy_19 3 rfl rfl ?_
    refine dn_iload_n C dX12_seasonBy_21 rfl 1 rfl rfl ?_
    refine dn_icmp_ge (t := 154) C dX12_seasonBy_22 (by decide) rfl ?_ ?_
    · refine dn_aload_n C dX12_seasonBy_25 rfl 0 rfl rfl ?_
      refine dn_getR C fd_X12_23 ha0 dX12_seasonBy_26 rfl ?_
      refine dn_iconst C dX12_seasonBy_29 ic_i_2 rfl ?_
      refine dn_iald C (kt_12_12 ha0) dX12_seasonBy_30 rfl (fun z5 => ?_)
      refine dn_jn (fun z => ∀ (s6 : hp_I), dn_D G M 7 0 0 (cl_M G M (ci_h τ)) 85 [(0, .ref (wd_b G + a0)), (2, .int a2), (3, .int a3), (4, .int x4)] [] s6 τ (z s6)) (fun s6 => ?_) (fun j24 hj24 => ?_)
      · refine dn_aload_n C dX12_seasonBy_85 rfl 0 rfl rfl ?_
        refine dn_getR C fd_X12_23 ha0 dX12_seasonBy_86 rfl ?_
        refine dn_iconst C dX12_seasonBy_89 ic_i_3 rfl ?_
        refine dn_iald C (kt_12_12 ha0) dX12_seasonBy_90 rfl (fun z7 => ?_)
        refine dn_jn (fun z => ∀ (s8 : hp_I), dn_D G M 7 0 0 (cl_M G M (ci_h τ)) 140 [(0, .ref (wd_b G + a0)), (2, .int a2), (3, .int a3), (4, .int x4)] [] s8 τ (z s8)) (fun s8 => ?_) (fun j12 hj12 => ?_)
        · refine dn_aload_n C dX12_seasonBy_140 rfl 0 rfl rfl ?_
          refine dn_aload_n C dX12_seasonBy_141 rfl 0 rfl rfl ?_
          refine dn_getR C fd_X12_58 ha0 dX12_seasonBy_142 rfl ?_
          refine dn_callV_h (As := [.ref (wd_b G + sh_rf a0 26)]) (st := []) C (ok_M_nightEnds (cx_g C) a0 ha0 (sh_rf a0 26) (kt_12_26 ha0) s8 τ) mt_X12_nightEnds mv_X12_nightEnds lk_X12_311 (by decide) ha0 rfl ⟨Nat.zero_le _, Nat.zero_le _⟩ (Nat.le_of_ble_eq_true rfl) dX12_seasonBy_145 rfl rfl (fun s10 => ?_)
          refine dn_iinc (lv0 := [(0, .ref (wd_b G + a0)), (2, .int a2), (3, .int a3)]) (v := x4 + 1) C dX12_seasonBy_148 3 rfl rfl (by decide) rfl rfl (fun v4_11 => ?_)
          refine dn_goto (t := 19) C dX12_seasonBy_151 (by decide) ?_
          refine dn_pick [1, 2, 3, 0] rfl ?_
          exact ih v4_11 s10
        · refine dn_if_le (t := 140) C dX12_seasonBy_91 (by decide) rfl ?_ ?_
          · refine dn_aload_n C dX12_seasonBy_94 rfl 0 rfl rfl ?_
            refine dn_bipush C dX12_seasonBy_95 ic_b_16 rfl ?_
            refine dn_callV_ih (As := [.int (16 : Int32)]) (st := []) C (ok_M_draw (cx_g C) a0 ha0 (16 : Int32) s6 τ) mt_X12_draw mv_X12_draw lk_X12_392 (by decide) ha0 rfl ⟨Nat.zero_le _, Nat.zero_le _⟩ (Nat.le_of_ble_eq_true rfl) dX12_seasonBy_97 rfl rfl (fun z13 s14 => ?_)
            refine dn_iload_n C dX12_seasonBy_100 rfl 2 rfl rfl ?_
            refine dn_icmp_ge (t := 140) C dX12_seasonBy_101 (by decide) rfl ?_ ?_
            · refine dn_aload_n C dX12_seasonBy_104 rfl 0 rfl rfl ?_
              refine dn_aload_n C dX12_seasonBy_105 rfl 0 rfl rfl ?_
              refine dn_getR C fd_X12_23 ha0 dX12_seasonBy_106 rfl ?_
              refine dn_iconst C dX12_seasonBy_109 ic_i_3 rfl ?_
              refine dn_iald C (kt_12_12 ha0) dX12_seasonBy_110 rfl (fun z15 => ?_)
              refine dn_callV_ih (As := [.int z15]) (st := []) C (ok_M_draw (cx_g C) a0 ha0 z15 s14 τ) mt_X12_draw mv_X12_draw lk_X12_392 (by decide) ha0 rfl ⟨Nat.zero_le _, Nat.zero_le _⟩ (Nat.le_of_ble_eq_true rfl) dX12_seasonBy_111 rfl rfl (fun z16 s17 => ?_)
              refine dn_istore (lv0 := [(0, .ref (wd_b G + a0)), (2, .int a2), (3, .int a3), (4, .int x4)]) C dX12_seasonBy_114 (by decide) rfl rfl (fun v5_18 => ?_)
              refine dn_aload_n C dX12_seasonBy_116 rfl 1 rfl rfl ?_
              refine dn_aload_n C dX12_seasonBy_117 rfl 1 rfl rfl ?_
              refine dn_getR C fd_X12_58 ha0 dX12_seasonBy_118 rfl ?_
              refine dn_bipush C dX12_seasonBy_121 ic_b_32 rfl ?_
              refine dn_iload C dX12_seasonBy_123 0 rfl rfl ?_
              refine dn_iadd C dX12_seasonBy_125 rfl ?_
              refine dn_aload_n C dX12_seasonBy_126 rfl 1 rfl rfl ?_
              refine dn_aload_n C dX12_seasonBy_127 rfl 1 rfl rfl ?_
              refine dn_getR C fd_X12_23 ha0 dX12_seasonBy_128 rfl ?_
              refine dn_iconst C dX12_seasonBy_131 ic_i_0 rfl ?_
              refine dn_iald C (kt_12_12 ha0) dX12_seasonBy_132 rfl (fun z19 => ?_)
              refine dn_callV_ih (As := [.int z19]) (st := [.int ((32 : Int32) + v5_18), .ref (wd_b G + sh_rf a0 26), .ref (wd_b G + a0)]) C (ok_M_draw (cx_g C) a0 ha0 z19 s17 τ) mt_X12_draw mv_X12_draw lk_X12_392 (by decide) ha0 rfl ⟨Nat.zero_le _, Nat.zero_le _⟩ (Nat.le_of_ble_eq_true rfl) dX12_seasonBy_133 rfl rfl (fun z20 s21 => ?_)
              refine dn_callV_ih (As := [.ref (wd_b G + sh_rf a0 26), .int ((32 : Int32) + v5_18), .int z20]) (st := []) C (ok_M_goesTo (cx_g C) a0 ha0 (sh_rf a0 26) (kt_12_26 ha0) ((32 : Int32) + v5_18) z20 s21 τ) mt_X12_goesTo mv_X12_goesTo lk_X12_305 (by decide) ha0 rfl ⟨Nat.zero_le _, Nat.zero_le _⟩ (Nat.le_of_ble_eq_true rfl) dX12_seasonBy_136 rfl rfl (fun z22 s23 => ?_)
              refine dn_pop C dX12_seasonBy_139 rfl rfl ?_
              refine dn_pick [1, 2, 3, 4] rfl ?_
              exact hj12 s23
            · exact hj12 s14
          · exact hj12 s6
      · refine dn_if_le (t := 85) C dX12_seasonBy_31 (by decide) rfl ?_ ?_
        · refine dn_aload_n C dX12_seasonBy_34 rfl 0 rfl rfl ?_
          refine dn_aload_n C dX12_seasonBy_35 rfl 0 rfl rfl ?_
          refine dn_getR C fd_X12_23 ha0 dX12_seasonBy_36 rfl ?_
          refine dn_iconst C dX12_seasonBy_39 ic_i_2 rfl ?_
          refine dn_iald C (kt_12_12 ha0) dX12_seasonBy_40 rfl (fun z25 => ?_)
          refine dn_callV_ih (As := [.int z25]) (st := []) C (ok_M_draw (cx_g C) a0 ha0 z25 s0 τ) mt_X12_draw mv_X12_draw lk_X12_392 (by decide) ha0 rfl ⟨Nat.zero_le _, Nat.zero_le _⟩ (Nat.le_of_ble_eq_true rfl) dX12_seasonBy_41 rfl rfl (fun z26 s27 => ?_)
          refine dn_istore (lv0 := [(0, .ref (wd_b G + a0)), (2, .int a2), (3, .int a3), (4, .int x4)]) C dX12_seasonBy_44 (by decide) rfl rfl (fun v5_28 => ?_)
          refine dn_aload_n C dX12_seasonBy_46 rfl 1 rfl rfl ?_
          refine dn_aload_n C dX12_seasonBy_47 rfl 1 rfl rfl ?_
          refine dn_getR C fd_X12_23 ha0 dX12_seasonBy_48 rfl ?_
          refine dn_iconst C dX12_seasonBy_51 ic_i_0 rfl ?_
          refine dn_iald C (kt_12_12 ha0) dX12_seasonBy_52 rfl (fun z29 => ?_)
          refine dn_callV_ih (As := [.int z29]) (st := []) C (ok_M_draw (cx_g C) a0 ha0 z29 s27 τ) mt_X12_draw mv_X12_draw lk_X12_392 (by decide) ha0 rfl ⟨Nat.zero_le _, Nat.zero_le _⟩ (Nat.le_of_ble_eq_true rfl) dX12_seasonBy_53 rfl rfl (fun z30 s31 => ?_)
          refine dn_istore (lv0 := [(5, .int v5_28), (0, .ref (wd_b G + a0)), (2, .int a2), (3, .int a3), (4, .int x4)]) C dX12_seasonBy_56 (by decide) rfl rfl (fun v6_32 => ?_)
          refine dn_aload_n C dX12_seasonBy_58 rfl 2 rfl rfl ?_
          refine dn_getR C fd_X12_58 ha0 dX12_seasonBy_59 rfl ?_
          refine dn_iload C dX12_seasonBy_62 1 rfl rfl ?_
          refine dn_callS_i (As := [.ref (wd_b G + sh_rf a0 26), .int v5_28]) (st := []) C (ok_M_lives (cx_g C) (sh_rf a0 26) (kt_12_26 ha0) v5_28 s31 τ) mt_X12_lives ms_X12_lives lk_X12_275 (by decide) rfl ⟨Nat.zero_le _, Nat.zero_le _⟩ (Nat.le_of_ble_eq_true rfl) dX12_seasonBy_64 rfl rfl (fun z33 => ?_)
          refine dn_if_eq (t := 85) C dX12_seasonBy_67 (by decide) rfl ?_ ?_
          · refine dn_pick [2, 3, 4, 5] rfl ?_
            exact hj24 s31
          · refine dn_aload_n C dX12_seasonBy_70 rfl 2 rfl rfl ?_
            refine dn_aload_n C dX12_seasonBy_71 rfl 2 rfl rfl ?_
            refine dn_getR C fd_X12_58 ha0 dX12_seasonBy_72 rfl ?_
            refine dn_iconst C dX12_seasonBy_75 ic_i_0 rfl ?_
            refine dn_iload C dX12_seasonBy_76 1 rfl rfl ?_
            refine dn_iadd C dX12_seasonBy_78 rfl ?_
            refine dn_iload C dX12_seasonBy_79 0 rfl rfl ?_
            refine dn_callV_ih (As := [.ref (wd_b G + sh_rf a0 26), .int ((0 : Int32) + v5_28), .int v6_32]) (st := []) C (ok_M_goesTo (cx_g C) a0 ha0 (sh_rf a0 26) (kt_12_26 ha0) ((0 : Int32) + v5_28) v6_32 s31 τ) mt_X12_goesTo mv_X12_goesTo lk_X12_305 (by decide) ha0 rfl ⟨Nat.zero_le _, Nat.zero_le _⟩ (Nat.le_of_ble_eq_true rfl) dX12_seasonBy_81 rfl rfl (fun z34 s35 => ?_)
            refine dn_pop C dX12_seasonBy_84 rfl rfl ?_
            refine dn_pick [2, 3, 4, 5] rfl ?_
            exact hj24 s35
        · exact hj24 s0
    · refine dn_pick [] rfl ?_
      exact hk s0
set_option maxHeartbeats 4000000 in
set_option maxRecDepth 100000 in
theorem ok_M_seasonBy {G : wd_G} {l : Launch} (hN : gd_ok G)  (o : Nat) (ho : sh_kd o = 12) (p1 : Int32) (p2 : Int32) (p3 : Int32) (σ : hp_I) (τ : hp_L) : cl_C G l 6 yX12_seasonBy cX12_seasonBy 7 none [.ref (wd_b G + o), .int p1, .int p2, .int p3] σ τ (ci_h τ) (fn_M_seasonBy o p1 p2 p3 σ) := by
  refine cl_of (lv0 := [(0, .ref (wd_b G + o)), (1, .int p1), (2, .int p2), (3, .int p3)]) (ci_h τ) (by decide) (Nat.le_of_ble_eq_true rfl) rfl hN (fun M hM C => ?_)
  have C : cx_C G M RX12 cX12_seasonBy 7 6 none := C
  unfold fn_M_seasonBy
  refine dn_aload_n C dX12_seasonBy_0 rfl 0 rfl rfl ?_
  refine dn_getR C fd_X12_55 ho dX12_seasonBy_1 rfl ?_
  refine dn_aload_n C dX12_seasonBy_4 rfl 0 rfl rfl ?_
  refine dn_getR C fd_X12_58 ho dX12_seasonBy_5 rfl ?_
  refine dn_callS_h (As := [.ref (wd_b G + sh_rf o 25), .ref (wd_b G + sh_rf o 26)]) (st := []) C (ok_M_copies (cx_g C) (sh_rf o 25) (kt_12_25 ho) (sh_rf o 26) (kt_12_26 ho) σ τ) mt_X12_copies ms_X12_copies lk_X12_328 (by decide) rfl ⟨Nat.zero_le _, Nat.zero_le _⟩ (Nat.le_of_ble_eq_true rfl) dX12_seasonBy_8 rfl rfl (fun s2 => ?_)
  refine dn_aload_n C dX12_seasonBy_11 rfl 0 rfl rfl ?_
  refine dn_iload_n C dX12_seasonBy_12 rfl 1 rfl rfl ?_
  refine dn_putI C fp_X12_388 ho dX12_seasonBy_13 rfl (fun s3 => ?_)
  refine dn_iconst C dX12_seasonBy_16 ic_i_0 rfl ?_
  refine dn_istore (lv0 := [(0, .ref (wd_b G + o)), (1, .int p1), (2, .int p2), (3, .int p3)]) C dX12_seasonBy_17 (by decide) rfl rfl (fun v4_4 => ?_)
  refine dn_pick [1, 3, 4, 0] rfl ?_
  refine pf_M_seasonBy_L19  C  o ho p2 p3  τ _ (fun s_36 => ?_) FU v4_4 s3
  exact dn_vret C dX12_seasonBy_154 rfl
def fn_M_slipsFrom_L18  (a0 : Nat) (a1 : Int32) (a3 : Int32) (a4 : Int32) (k : hp_I → Option (hp_I)) : Nat → Int32 → hp_I → Option (hp_I)
  | 0, _, _ => none
  | fu + 1, x5, s0 =>
    Option.bind (px_ald s0 (sh_rf a0 12) (0 : Int32)) fun z4 =>
    if x5 < z4 then (
      Option.bind (fn_M_has a4 x5) fun z5 =>
      px_jn (fun (s6 : hp_I) =>
        px_let (x5 + 1) fun v5_7 =>
        fn_M_slipsFrom_L18 a0 a1 a3 a4 k fu v5_7 s6
      ) fun j8 =>
        if z5 = 0 then (
          j8 s0
        ) else (
          Option.bind (fn_M_copies (sh_rf a0 27) (sh_rf a0 26) s0) fun s10 =>
          Option.bind (px_ald s10 (sh_rf a0 26) (42 : Int32)) fun z11 =>
          Option.bind (px_ast s10 (sh_rf a0 26) (42 : Int32) (z11 ||| ((1 : Int32) <<< (a1 &&& 31)))) fun s12 =>
          Option.bind (px_ast s12 (sh_rf a0 26) ((0 : Int32) + a1) x5) fun s13 =>
          Option.bind (px_ast s13 (sh_rf a0 26) ((8 : Int32) + a1) a3) fun s14 =>
          Option.bind (fn_M_nightEnds a0 (sh_rf a0 26) s14) fun s16 =>
          Option.bind (fn_M_lives (sh_rf a0 26) a1 s16) fun z17 =>
          if z17 = 0 then (
            j8 s16
          ) else (
            Option.bind (px_ald s16 (sh_rf a0 26) ((8 : Int32) + a1)) fun z18 =>
            Option.bind (px_ast s16 (sh_rf a0 38) (((1000 : Int32) * x5) + z18) (vp_nar .boolean (1 : Int32))) fun s19 =>
            j8 s19
          )
        )
    ) else (
      k s0
    )
def fn_M_slipsFrom  (o : Nat) (p1 : Int32) (p2 : Int32) (p3 : Int32) (σ : hp_I) : Option (hp_I) :=
  Option.bind (fn_M_beside o (sh_rf o 27) p2 σ) fun z1 =>
  px_let (z1 ||| ((1 : Int32) <<< (p2 &&& 31))) fun v4_2 =>
  px_let (0 : Int32) fun v5_3 =>
  fn_M_slipsFrom_L18 o p1 p3 v4_2
    (fun (s_20 : hp_I) =>
      some s_20
    )
    FU v5_3 σ
set_option maxHeartbeats 4000000 in
set_option maxRecDepth 100000 in
theorem pf_M_slipsFrom_L18 {G : wd_G} {M : wd_M}  (C : cx_C G M RX12 cX12_slipsFrom 6 6 none) (a0 : Nat) (ha0 : sh_kd a0 = 12) (a1 : Int32) (a3 : Int32) (a4 : Int32)  (τ : hp_L) (k : hp_I → Option (hp_I)) (hk : ∀ (s : hp_I), dn_D G M 6 0 0 (cl_M G M (ci_h τ)) 133 [] [] s τ (k s)) : ∀ (fu : Nat) (x5 : Int32) (s0 : hp_I), dn_D G M 6 0 0 (cl_M G M (ci_h τ)) 18 [(0, .ref (wd_b G + a0)), (1, .int a1), (3, .int a3), (4, .int a4), (5, .int x5)] [] s0 τ (fn_M_slipsFrom_L18 a0 a1 a3 a4 k fu x5 s0) := by
  intro fu
  induction fu with
  | zero => exact fun x5 s0 => dn_none
  | succ fu ih =>
    intro x5 s0
    unfold fn_M_slipsFrom_L18
    refine dn_iload C dX12_slipsFrom_18 4 rfl rfl ?_
    refine dn_aload_n C dX12_slipsFrom_20 rfl 0 rfl rfl ?_
    refine dn_getR C fd_X12_23 ha0 dX12_slipsFrom_21 rfl ?_
    refine dn_iconst C dX12_slipsFrom_24 ic_i_0 rfl ?_
    refine dn_iald C (kt_12_12 ha0) dX12_slipsFrom_25 rfl (fun z4 => ?_)
    refine dn_icmp_ge (t := 133) C dX12_slipsFrom_26 (by decide) rfl ?_ ?_
    · refine dn_iload C dX12_slipsFrom_29 3 rfl rfl ?_
      refine dn_iload C dX12_slipsFrom_31 4 rfl rfl ?_
      refine dn_callS_i (As := [.int a4, .int x5]) (st := []) C (ok_M_has (cx_g C) a4 x5 s0 τ) mt_X12_has ms_X12_has lk_X12_251 (by decide) rfl ⟨Nat.zero_le _, Nat.zero_le _⟩ (Nat.le_of_ble_eq_true rfl) dX12_slipsFrom_33 rfl rfl (fun z5 => ?_)
      refine dn_jn (fun z => ∀ (s6 : hp_I), dn_D G M 6 0 0 (cl_M G M (ci_h τ)) 127 [(0, .ref (wd_b G + a0)), (1, .int a1), (3, .int a3), (4, .int a4), (5, .int x5)] [] s6 τ (z s6)) (fun s6 => ?_) (fun j8 hj8 => ?_)
      · refine dn_iinc (lv0 := [(0, .ref (wd_b G + a0)), (1, .int a1), (3, .int a3), (4, .int a4)]) (v := x5 + 1) C dX12_slipsFrom_127 4 rfl rfl (by decide) rfl rfl (fun v5_7 => ?_)
        refine dn_goto (t := 18) C dX12_slipsFrom_130 (by decide) ?_
        refine dn_pick [1, 2, 3, 4, 0] rfl ?_
        exact ih v5_7 s6
      · refine dn_if_ne (t := 42) C dX12_slipsFrom_36 (by decide) rfl ?_ ?_
        · refine dn_goto (t := 127) C dX12_slipsFrom_39 (by decide) ?_
          exact hj8 s0
        · refine dn_aload_n C dX12_slipsFrom_42 rfl 0 rfl rfl ?_
          refine dn_getR C fd_X12_61 ha0 dX12_slipsFrom_43 rfl ?_
          refine dn_aload_n C dX12_slipsFrom_46 rfl 0 rfl rfl ?_
          refine dn_getR C fd_X12_58 ha0 dX12_slipsFrom_47 rfl ?_
          refine dn_callS_h (As := [.ref (wd_b G + sh_rf a0 27), .ref (wd_b G + sh_rf a0 26)]) (st := []) C (ok_M_copies (cx_g C) (sh_rf a0 27) (kt_12_27 ha0) (sh_rf a0 26) (kt_12_26 ha0) s0 τ) mt_X12_copies ms_X12_copies lk_X12_328 (by decide) rfl ⟨Nat.zero_le _, Nat.zero_le _⟩ (Nat.le_of_ble_eq_true rfl) dX12_slipsFrom_50 rfl rfl (fun s10 => ?_)
          refine dn_aload_n C dX12_slipsFrom_53 rfl 0 rfl rfl ?_
          refine dn_getR C fd_X12_58 ha0 dX12_slipsFrom_54 rfl ?_
          refine dn_bipush C dX12_slipsFrom_57 ic_b_42 rfl ?_
          refine dn_dup2 C dX12_slipsFrom_59 rfl rfl rfl ?_
          refine dn_iald C (kt_12_26 ha0) dX12_slipsFrom_60 rfl (fun z11 => ?_)
          refine dn_iconst C dX12_slipsFrom_61 ic_i_1 rfl ?_
          refine dn_iload_n C dX12_slipsFrom_62 rfl 1 rfl rfl ?_
          refine dn_ishl C dX12_slipsFrom_63 rfl ?_
          refine dn_ior C dX12_slipsFrom_64 rfl ?_
          refine dn_iast C (kt_12_26 ha0) dX12_slipsFrom_65 rfl (fun s12 => ?_)
          refine dn_aload_n C dX12_slipsFrom_66 rfl 0 rfl rfl ?_
          refine dn_getR C fd_X12_58 ha0 dX12_slipsFrom_67 rfl ?_
          refine dn_iconst C dX12_slipsFrom_70 ic_i_0 rfl ?_
          refine dn_iload_n C dX12_slipsFrom_71 rfl 1 rfl rfl ?_
          refine dn_iadd C dX12_slipsFrom_72 rfl ?_
          refine dn_iload C dX12_slipsFrom_73 4 rfl rfl ?_
          refine dn_iast C (kt_12_26 ha0) dX12_slipsFrom_75 rfl (fun s13 => ?_)
          refine dn_aload_n C dX12_slipsFrom_76 rfl 0 rfl rfl ?_
          refine dn_getR C fd_X12_58 ha0 dX12_slipsFrom_77 rfl ?_
          refine dn_bipush C dX12_slipsFrom_80 ic_b_8 rfl ?_
          refine dn_iload_n C dX12_slipsFrom_82 rfl 1 rfl rfl ?_
          refine dn_iadd C dX12_slipsFrom_83 rfl ?_
          refine dn_iload_n C dX12_slipsFrom_84 rfl 2 rfl rfl ?_
          refine dn_iast C (kt_12_26 ha0) dX12_slipsFrom_85 rfl (fun s14 => ?_)
          refine dn_aload_n C dX12_slipsFrom_86 rfl 0 rfl rfl ?_
          refine dn_aload_n C dX12_slipsFrom_87 rfl 0 rfl rfl ?_
          refine dn_getR C fd_X12_58 ha0 dX12_slipsFrom_88 rfl ?_
          refine dn_callV_h (As := [.ref (wd_b G + sh_rf a0 26)]) (st := []) C (ok_M_nightEnds (cx_g C) a0 ha0 (sh_rf a0 26) (kt_12_26 ha0) s14 τ) mt_X12_nightEnds mv_X12_nightEnds lk_X12_311 (by decide) ha0 rfl ⟨Nat.zero_le _, Nat.zero_le _⟩ (Nat.le_of_ble_eq_true rfl) dX12_slipsFrom_91 rfl rfl (fun s16 => ?_)
          refine dn_aload_n C dX12_slipsFrom_94 rfl 0 rfl rfl ?_
          refine dn_getR C fd_X12_58 ha0 dX12_slipsFrom_95 rfl ?_
          refine dn_iload_n C dX12_slipsFrom_98 rfl 1 rfl rfl ?_
          refine dn_callS_i (As := [.ref (wd_b G + sh_rf a0 26), .int a1]) (st := []) C (ok_M_lives (cx_g C) (sh_rf a0 26) (kt_12_26 ha0) a1 s16 τ) mt_X12_lives ms_X12_lives lk_X12_275 (by decide) rfl ⟨Nat.zero_le _, Nat.zero_le _⟩ (Nat.le_of_ble_eq_true rfl) dX12_slipsFrom_99 rfl rfl (fun z17 => ?_)
          refine dn_if_eq (t := 127) C dX12_slipsFrom_102 (by decide) rfl ?_ ?_
          · exact hj8 s16
          · refine dn_aload_n C dX12_slipsFrom_105 rfl 0 rfl rfl ?_
            refine dn_getR C fd_X12_74 ha0 dX12_slipsFrom_106 rfl ?_
            refine dn_sipush C dX12_slipsFrom_109 ic_s_1000 rfl ?_
            refine dn_iload C dX12_slipsFrom_112 4 rfl rfl ?_
            refine dn_imul C dX12_slipsFrom_114 rfl ?_
            refine dn_aload_n C dX12_slipsFrom_115 rfl 0 rfl rfl ?_
            refine dn_getR C fd_X12_58 ha0 dX12_slipsFrom_116 rfl ?_
            refine dn_bipush C dX12_slipsFrom_119 ic_b_8 rfl ?_
            refine dn_iload_n C dX12_slipsFrom_121 rfl 1 rfl rfl ?_
            refine dn_iadd C dX12_slipsFrom_122 rfl ?_
            refine dn_iald C (kt_12_26 ha0) dX12_slipsFrom_123 rfl (fun z18 => ?_)
            refine dn_iadd C dX12_slipsFrom_124 rfl ?_
            refine dn_iconst C dX12_slipsFrom_125 ic_i_1 rfl ?_
            refine dn_zast C (kt_12_38 ha0) dX12_slipsFrom_126 rfl (fun s19 => ?_)
            exact hj8 s19
    · refine dn_pick [] rfl ?_
      exact hk s0
set_option maxHeartbeats 4000000 in
set_option maxRecDepth 100000 in
theorem ok_M_slipsFrom {G : wd_G} {l : Launch} (hN : gd_ok G)  (o : Nat) (ho : sh_kd o = 12) (p1 : Int32) (p2 : Int32) (p3 : Int32) (σ : hp_I) (τ : hp_L) : cl_C G l 6 yX12_slipsFrom cX12_slipsFrom 6 none [.ref (wd_b G + o), .int p1, .int p2, .int p3] σ τ (ci_h τ) (fn_M_slipsFrom o p1 p2 p3 σ) := by
  refine cl_of (lv0 := [(0, .ref (wd_b G + o)), (1, .int p1), (2, .int p2), (3, .int p3)]) (ci_h τ) (by decide) (Nat.le_of_ble_eq_true rfl) rfl hN (fun M hM C => ?_)
  have C : cx_C G M RX12 cX12_slipsFrom 6 6 none := C
  unfold fn_M_slipsFrom
  refine dn_aload_n C dX12_slipsFrom_0 rfl 0 rfl rfl ?_
  refine dn_aload_n C dX12_slipsFrom_1 rfl 0 rfl rfl ?_
  refine dn_getR C fd_X12_61 ho dX12_slipsFrom_2 rfl ?_
  refine dn_iload_n C dX12_slipsFrom_5 rfl 2 rfl rfl ?_
  refine dn_callV_i (As := [.ref (wd_b G + sh_rf o 27), .int p2]) (st := []) C (ok_M_beside (cx_g C) o ho (sh_rf o 27) (kt_12_27 ho) p2 σ τ) mt_X12_beside mv_X12_beside lk_X12_299 (by decide) ho rfl ⟨Nat.zero_le _, Nat.zero_le _⟩ (Nat.le_of_ble_eq_true rfl) dX12_slipsFrom_6 rfl rfl (fun z1 => ?_)
  refine dn_iconst C dX12_slipsFrom_9 ic_i_1 rfl ?_
  refine dn_iload_n C dX12_slipsFrom_10 rfl 2 rfl rfl ?_
  refine dn_ishl C dX12_slipsFrom_11 rfl ?_
  refine dn_ior C dX12_slipsFrom_12 rfl ?_
  refine dn_istore (lv0 := [(0, .ref (wd_b G + o)), (1, .int p1), (2, .int p2), (3, .int p3)]) C dX12_slipsFrom_13 (by decide) rfl rfl (fun v4_2 => ?_)
  refine dn_iconst C dX12_slipsFrom_15 ic_i_0 rfl ?_
  refine dn_istore (lv0 := [(4, .int v4_2), (0, .ref (wd_b G + o)), (1, .int p1), (2, .int p2), (3, .int p3)]) C dX12_slipsFrom_16 (by decide) rfl rfl (fun v5_3 => ?_)
  refine dn_pick [2, 3, 5, 1, 0] rfl ?_
  refine pf_M_slipsFrom_L18  C  o ho p1 p3 v4_2  τ _ (fun s_20 => ?_) FU v5_3 σ
  exact dn_vret C dX12_slipsFrom_133 rfl
def fn_M_fits_L51  (a0 : Nat) (a1 : Int32) (a4 : Int32) (k : Int32 → Int32 → hp_I → Option (Int32 × hp_I)) : Nat → Int32 → Int32 → Int32 → hp_I → Option (Int32 × hp_I)
  | 0, _, _, _, _ => none
  | fu + 1, x2, x3, x5, s0 =>
    Option.bind (px_ald s0 (sh_rf a0 12) (0 : Int32)) fun z11 =>
    if x5 < z11 then (
      Option.bind (fn_M_lives (sh_rf a0 25) a4 s0) fun z12 =>
      px_jn (fun (a2_13 : Int32) (a3_14 : Int32) (s15 : hp_I) =>
        px_let (x5 + 1) fun v5_16 =>
        fn_M_fits_L51 a0 a1 a4 k fu a2_13 a3_14 v5_16 s15
      ) fun j17 =>
        if z12 = 0 then (
          j17 x2 x3 s0
        ) else (
          px_b2 (fn_M_isSo a0 a4 x5 s0) fun z18 s19 =>
          if z18 = 0 then (
            j17 x2 x3 s19
          ) else (
            px_jn (fun (t20 : Int32) =>
              px_let t20 fun v3_21 =>
              px_let (x2 + 1) fun v2_22 =>
              j17 v2_22 v3_21 s19
            ) fun j23 =>
              if x2 = 0 then (
                j23 (((10 : Int32) * a4) + x5)
              ) else (
                j23 x3
              )
          )
        )
    ) else (
      k x2 x3 s0
    )
def fn_M_fits_L37  (a0 : Nat) (a1 : Int32) (k : Int32 → Int32 → hp_I → Option (Int32 × hp_I)) : Nat → Int32 → Int32 → Int32 → hp_I → Option (Int32 × hp_I)
  | 0, _, _, _, _ => none
  | fu + 1, x2, x3, x4, s0 =>
    Option.bind (px_ald s0 (sh_rf a0 12) (2 : Int32)) fun z9 =>
    if x4 < z9 then (
      px_let (0 : Int32) fun v5_10 =>
      fn_M_fits_L51 a0 a1 x4
        (fun (y_24 : Int32) (y_25 : Int32) (s_26 : hp_I) =>
          px_let (x4 + 1) fun v4_27 =>
          fn_M_fits_L37 a0 a1 k fu y_24 y_25 v4_27 s_26
        )
        FU x2 x3 v5_10 s0
    ) else (
      k x2 x3 s0
    )
def fn_M_fits  (o : Nat) (p1 : Int32) (σ : hp_I) : Option (Int32 × hp_I) :=
  px_let (hp_s σ o 0 (0 : Int32)) fun s1 =>
  Option.bind (fn_M_in p1 (0 : Int32) (1 : Int32)) fun z2 =>
  px_jn (fun (t3 : Int32) =>
    px_b2 (fn_M_bad o t3 (1 : Int32) (1 : Int32) s1) fun z4 s5 =>
    if z4 = 0 then (
      px_let (0 : Int32) fun v2_6 =>
      px_let (-1 : Int32) fun v3_7 =>
      px_let (0 : Int32) fun v4_8 =>
      fn_M_fits_L37 o p1
        (fun (y_28 : Int32) (y_29 : Int32) (s_30 : hp_I) =>
          px_jn (fun (t31 : Int32) =>
            some (t31, s_30)
          ) fun j32 =>
            if p1 = 0 then (
              j32 y_28
            ) else (
              j32 y_29
            )
        )
        FU v2_6 v3_7 v4_8 s5
    ) else (
      some ((0 : Int32), s5)
    )
  ) fun j33 =>
    if z2 = 0 then (
      j33 (1 : Int32)
    ) else (
      j33 (0 : Int32)
    )
set_option maxHeartbeats 4000000 in
set_option maxRecDepth 100000 in
theorem pf_M_fits_L51 {G : wd_G} {M : wd_M}  (C : cx_C G M RX12 cX12_fits 6 7 (some .int)) (a0 : Nat) (ha0 : sh_kd a0 = 12) (a1 : Int32) (a4 : Int32)  (τ : hp_L) (k : Int32 → Int32 → hp_I → Option (Int32 × hp_I)) (hk : ∀ (y2 : Int32) (y3 : Int32) (s : hp_I), dn_D G M 6 0 0 (cl_M G M (ci_ih τ)) 114 [(0, .ref (wd_b G + a0)), (1, .int a1), (2, .int y2), (3, .int y3), (4, .int a4)] [] s τ (k y2 y3 s)) : ∀ (fu : Nat) (x2 : Int32) (x3 : Int32) (x5 : Int32) (s0 : hp_I), dn_D G M 6 0 0 (cl_M G M (ci_ih τ)) 51 [(0, .ref (wd_b G + a0)), (1, .int a1), (2, .int x2), (3, .int x3), (4, .int a4), (5, .int x5)] [] s0 τ (fn_M_fits_L51 a0 a1 a4 k fu x2 x3 x5 s0) := by
  intro fu
  induction fu with
  | zero => exact fun x2 x3 x5 s0 => dn_none
  | succ fu ih =>
    intro x2 x3 x5 s0
    unfold fn_M_fits_L51
    refine dn_iload C dX12_fits_51 5 rfl rfl ?_
    refine dn_aload_n C dX12_fits_53 rfl 0 rfl rfl ?_
    refine dn_getR C fd_X12_23 ha0 dX12_fits_54 rfl ?_
    refine dn_iconst C dX12_fits_57 ic_i_0 rfl ?_
    refine dn_iald C (kt_12_12 ha0) dX12_fits_58 rfl (fun z11 => ?_)
    refine dn_icmp_ge (t := 114) C dX12_fits_59 (by decide) rfl ?_ ?_
    · refine dn_aload_n C dX12_fits_62 rfl 0 rfl rfl ?_
      refine dn_getR C fd_X12_55 ha0 dX12_fits_63 rfl ?_
      refine dn_iload C dX12_fits_66 4 rfl rfl ?_
      refine dn_callS_i (As := [.ref (wd_b G + sh_rf a0 25), .int a4]) (st := []) C (ok_M_lives (cx_g C) (sh_rf a0 25) (kt_12_25 ha0) a4 s0 τ) mt_X12_lives ms_X12_lives lk_X12_275 (by decide) rfl ⟨Nat.zero_le _, Nat.zero_le _⟩ (Nat.le_of_ble_eq_true rfl) dX12_fits_68 rfl rfl (fun z12 => ?_)
      refine dn_jn (fun z => ∀ (a2_13 : Int32) (a3_14 : Int32) (s15 : hp_I), dn_D G M 6 0 0 (cl_M G M (ci_ih τ)) 108 [(0, .ref (wd_b G + a0)), (1, .int a1), (2, .int a2_13), (3, .int a3_14), (4, .int a4), (5, .int x5)] [] s15 τ (z a2_13 a3_14 s15)) (fun a2_13 a3_14 s15 => ?_) (fun j17 hj17 => ?_)
      · refine dn_iinc (lv0 := [(0, .ref (wd_b G + a0)), (1, .int a1), (2, .int a2_13), (3, .int a3_14), (4, .int a4)]) (v := x5 + 1) C dX12_fits_108 5 rfl rfl (by decide) rfl rfl (fun v5_16 => ?_)
        refine dn_goto (t := 51) C dX12_fits_111 (by decide) ?_
        refine dn_pick [1, 2, 3, 4, 5, 0] rfl ?_
        exact ih a2_13 a3_14 v5_16 s15
      · refine dn_if_eq (t := 108) C dX12_fits_71 (by decide) rfl ?_ ?_
        · exact hj17 x2 x3 s0
        · refine dn_aload_n C dX12_fits_74 rfl 0 rfl rfl ?_
          refine dn_iload C dX12_fits_75 4 rfl rfl ?_
          refine dn_iload C dX12_fits_77 5 rfl rfl ?_
          refine dn_callV_ih (As := [.int a4, .int x5]) (st := []) C (ok_M_isSo (cx_g C) a0 ha0 a4 x5 s0 τ) mt_X12_isSo mv_X12_isSo lk_X12_362 (by decide) ha0 rfl ⟨Nat.zero_le _, Nat.zero_le _⟩ (Nat.le_of_ble_eq_true rfl) dX12_fits_79 rfl rfl (fun z18 s19 => ?_)
          refine dn_if_ne (t := 88) C dX12_fits_82 (by decide) rfl ?_ ?_
          · refine dn_goto (t := 108) C dX12_fits_85 (by decide) ?_
            exact hj17 x2 x3 s19
          · refine dn_iload_n C dX12_fits_88 rfl 2 rfl rfl ?_
            refine dn_jn (fun z => ∀ (t20 : Int32), dn_D G M 6 0 0 (cl_M G M (ci_ih τ)) 104 [(0, .ref (wd_b G + a0)), (1, .int a1), (2, .int x2), (4, .int a4), (5, .int x5)] [.int t20] s19 τ (z t20)) (fun t20 => ?_) (fun j23 hj23 => ?_)
            · refine dn_istore_n (lv0 := [(0, .ref (wd_b G + a0)), (1, .int a1), (2, .int x2), (4, .int a4), (5, .int x5)]) C dX12_fits_104 rfl (by decide) rfl rfl (fun v3_21 => ?_)
              refine dn_iinc (lv0 := [(3, .int v3_21), (0, .ref (wd_b G + a0)), (1, .int a1), (4, .int a4), (5, .int x5)]) (v := x2 + 1) C dX12_fits_105 3 rfl rfl (by decide) rfl rfl (fun v2_22 => ?_)
              refine dn_pick [2, 3, 0, 1, 4, 5] rfl ?_
              exact hj17 v2_22 v3_21 s19
            · refine dn_if_ne (t := 103) C dX12_fits_89 (by decide) rfl ?_ ?_
              · refine dn_bipush C dX12_fits_92 ic_b_10 rfl ?_
                refine dn_iload C dX12_fits_94 4 rfl rfl ?_
                refine dn_imul C dX12_fits_96 rfl ?_
                refine dn_iload C dX12_fits_97 5 rfl rfl ?_
                refine dn_iadd C dX12_fits_99 rfl ?_
                refine dn_goto (t := 104) C dX12_fits_100 (by decide) ?_
                refine dn_pick [0, 1, 2, 4, 5] rfl ?_
                exact hj23 (((10 : Int32) * a4) + x5)
              · refine dn_iload_n C dX12_fits_103 rfl 3 rfl rfl ?_
                refine dn_pick [0, 1, 2, 4, 5] rfl ?_
                exact hj23 x3
    · refine dn_pick [0, 1, 2, 3, 4] rfl ?_
      exact hk x2 x3 s0
set_option maxHeartbeats 4000000 in
set_option maxRecDepth 100000 in
theorem pf_M_fits_L37 {G : wd_G} {M : wd_M}  (C : cx_C G M RX12 cX12_fits 6 7 (some .int)) (a0 : Nat) (ha0 : sh_kd a0 = 12) (a1 : Int32)  (τ : hp_L) (k : Int32 → Int32 → hp_I → Option (Int32 × hp_I)) (hk : ∀ (y2 : Int32) (y3 : Int32) (s : hp_I), dn_D G M 6 0 0 (cl_M G M (ci_ih τ)) 120 [(1, .int a1), (2, .int y2), (3, .int y3)] [] s τ (k y2 y3 s)) : ∀ (fu : Nat) (x2 : Int32) (x3 : Int32) (x4 : Int32) (s0 : hp_I), dn_D G M 6 0 0 (cl_M G M (ci_ih τ)) 37 [(0, .ref (wd_b G + a0)), (1, .int a1), (2, .int x2), (3, .int x3), (4, .int x4)] [] s0 τ (fn_M_fits_L37 a0 a1 k fu x2 x3 x4 s0) := by
  intro fu
  induction fu with
  | zero => exact fun x2 x3 x4 s0 => dn_none
  | succ fu ih =>
    intro x2 x3 x4 s0
    unfold fn_M_fits_L37
    refine dn_iload C dX12_fits_37 4 rfl rfl ?_
    refine dn_aload_n C dX12_fits_39 rfl 0 rfl rfl ?_
    refine dn_getR C fd_X12_23 ha0 dX12_fits_40 rfl ?_
    refine dn_iconst C dX12_fits_43 ic_i_2 rfl ?_
    refine dn_iald C (kt_12_12 ha0) dX12_fits_44 rfl (fun z9 => ?_)
    refine dn_icmp_ge (t := 120) C dX12_fits_45 (by decide) rfl ?_ ?_
    · refine dn_iconst C dX12_fits_48 ic_i_0 rfl ?_
      refine dn_istore (lv0 := [(0, .ref (wd_b G + a0)), (1, .int a1), (2, .int x2), (3, .int x3), (4, .int x4)]) C dX12_fits_49 (by decide) rfl rfl (fun v5_10 => ?_)
      refine dn_pick [1, 2, 3, 4, 5, 0] rfl ?_
      refine pf_M_fits_L51  C  a0 ha0 a1 x4  τ _ (fun y_24 y_25 s_26 => ?_) FU x2 x3 v5_10 s0
      refine dn_iinc (lv0 := [(0, .ref (wd_b G + a0)), (1, .int a1), (2, .int y_24), (3, .int y_25)]) (v := x4 + 1) C dX12_fits_114 4 rfl rfl (by decide) rfl rfl (fun v4_27 => ?_)
      refine dn_goto (t := 37) C dX12_fits_117 (by decide) ?_
      refine dn_pick [1, 2, 3, 4, 0] rfl ?_
      exact ih y_24 y_25 v4_27 s_26
    · refine dn_pick [1, 2, 3] rfl ?_
      exact hk x2 x3 s0
set_option maxHeartbeats 4000000 in
set_option maxRecDepth 100000 in
theorem ok_M_fits {G : wd_G} {l : Launch} (hN : gd_ok G)  (o : Nat) (ho : sh_kd o = 12) (p1 : Int32) (σ : hp_I) (τ : hp_L) : cl_C G l 7 yX12_fits cX12_fits 6 (some .int) [.ref (wd_b G + o), .int p1] σ τ (ci_ih τ) (fn_M_fits o p1 σ) := by
  refine cl_of (lv0 := [(0, .ref (wd_b G + o)), (1, .int p1)]) (ci_ih τ) (by decide) (Nat.le_of_ble_eq_true rfl) rfl hN (fun M hM C => ?_)
  have C : cx_C G M RX12 cX12_fits 6 7 (some .int) := C
  unfold fn_M_fits
  refine dn_aload_n C dX12_fits_0 rfl 0 rfl rfl ?_
  refine dn_iconst C dX12_fits_1 ic_i_0 rfl ?_
  refine dn_putI C fp_X12_93 ho dX12_fits_2 rfl (fun s1 => ?_)
  refine dn_aload_n C dX12_fits_5 rfl 0 rfl rfl ?_
  refine dn_iload_n C dX12_fits_6 rfl 1 rfl rfl ?_
  refine dn_iconst C dX12_fits_7 ic_i_0 rfl ?_
  refine dn_iconst C dX12_fits_8 ic_i_1 rfl ?_
  refine dn_callS_i (As := [.int p1, .int (0 : Int32), .int (1 : Int32)]) (st := [.ref (wd_b G + o)]) C (ok_M_in (cx_g C) p1 (0 : Int32) (1 : Int32) s1 τ) mt_X12_in ms_X12_in lk_X12_127 (by decide) rfl ⟨Nat.zero_le _, Nat.zero_le _⟩ (Nat.le_of_ble_eq_true rfl) dX12_fits_9 rfl rfl (fun z2 => ?_)
  refine dn_jn (fun z => ∀ (t3 : Int32), dn_D G M 6 0 0 (cl_M G M (ci_ih τ)) 20 [(0, .ref (wd_b G + o)), (1, .int p1)] [.int t3, .ref (wd_b G + o)] s1 τ (z t3)) (fun t3 => ?_) (fun j33 hj33 => ?_)
  · refine dn_iconst C dX12_fits_20 ic_i_1 rfl ?_
    refine dn_iconst C dX12_fits_21 ic_i_1 rfl ?_
    refine dn_callV_ih (As := [.int t3, .int (1 : Int32), .int (1 : Int32)]) (st := []) C (ok_M_bad (cx_g C) o ho t3 (1 : Int32) (1 : Int32) s1 τ) mt_X12_bad mv_X12_bad lk_X12_172 (by decide) ho rfl ⟨Nat.zero_le _, Nat.zero_le _⟩ (Nat.le_of_ble_eq_true rfl) dX12_fits_22 rfl rfl (fun z4 s5 => ?_)
    refine dn_if_eq (t := 30) C dX12_fits_25 (by decide) rfl ?_ ?_
    · refine dn_iconst C dX12_fits_30 ic_i_0 rfl ?_
      refine dn_istore_n (lv0 := [(0, .ref (wd_b G + o)), (1, .int p1)]) C dX12_fits_31 rfl (by decide) rfl rfl (fun v2_6 => ?_)
      refine dn_iconst C dX12_fits_32 ic_i_m1 rfl ?_
      refine dn_istore_n (lv0 := [(2, .int v2_6), (0, .ref (wd_b G + o)), (1, .int p1)]) C dX12_fits_33 rfl (by decide) rfl rfl (fun v3_7 => ?_)
      refine dn_iconst C dX12_fits_34 ic_i_0 rfl ?_
      refine dn_istore (lv0 := [(3, .int v3_7), (2, .int v2_6), (0, .ref (wd_b G + o)), (1, .int p1)]) C dX12_fits_35 (by decide) rfl rfl (fun v4_8 => ?_)
      refine dn_pick [3, 4, 2, 1, 0] rfl ?_
      refine pf_M_fits_L37  C  o ho p1  τ _ (fun y_28 y_29 s_30 => ?_) FU v2_6 v3_7 v4_8 s5
      refine dn_iload_n C dX12_fits_120 rfl 0 rfl rfl ?_
      refine dn_jn (fun z => ∀ (t31 : Int32), dn_D G M 6 0 0 (cl_M G M (ci_ih τ)) 129 [] [.int t31] s_30 τ (z t31)) (fun t31 => ?_) (fun j32 hj32 => ?_)
      · exact dn_iret C dX12_fits_129 rfl
      · refine dn_if_ne (t := 128) C dX12_fits_121 (by decide) rfl ?_ ?_
        · refine dn_iload_n C dX12_fits_124 rfl 1 rfl rfl ?_
          refine dn_goto (t := 129) C dX12_fits_125 (by decide) ?_
          refine dn_pick [] rfl ?_
          exact hj32 y_28
        · refine dn_iload_n C dX12_fits_128 rfl 2 rfl rfl ?_
          refine dn_pick [] rfl ?_
          exact hj32 y_29
    · refine dn_iconst C dX12_fits_28 ic_i_0 rfl ?_
      exact dn_iret C dX12_fits_29 rfl
  · refine dn_if_ne (t := 19) C dX12_fits_12 (by decide) rfl ?_ ?_
    · refine dn_iconst C dX12_fits_15 ic_i_1 rfl ?_
      refine dn_goto (t := 20) C dX12_fits_16 (by decide) ?_
      exact hj33 (1 : Int32)
    · refine dn_iconst C dX12_fits_19 ic_i_0 rfl ?_
      exact hj33 (0 : Int32)
def fn_M_season  (o : Nat) (p1 : Int32) (p2 : Int32) (p3 : Int32) (p4 : Int32) (σ : hp_I) : Option (Int32 × hp_I) :=
  px_let (hp_s σ o 0 (0 : Int32)) fun s1 =>
  Option.bind (fn_M_isSeason p2 p3) fun z2 =>
  px_jn (fun (t3 : Int32) =>
    px_b2 (fn_M_bad o t3 (1 : Int32) (1 : Int32) s1) fun z4 s5 =>
    if z4 = 0 then (
      Option.bind (fn_M_seasonBy o p1 p2 p3 s5) fun s7 =>
      px_jn (fun (t8 : Int32) =>
        some (t8, s7)
      ) fun j9 =>
        if p4 = 0 then (
          Option.bind (px_ald s7 (sh_rf o 26) (42 : Int32)) fun z10 =>
          j9 z10
        ) else (
          if p4 = (1 : Int32) then (
            Option.bind (fn_M_sizes o (sh_rf o 26) s7) fun z11 =>
            j9 z11
          ) else (
            if p4 = (2 : Int32) then (
              Option.bind (px_ald s7 (sh_rf o 26) (43 : Int32)) fun z12 =>
              Option.bind (fn_M_ones z12) fun z13 =>
              j9 z13
            ) else (
              Option.bind (fn_M_proud o (sh_rf o 26) s7) fun z14 =>
              j9 z14
            )
          )
        )
    ) else (
      some ((0 : Int32), s5)
    )
  ) fun j15 =>
    px_jn (
      j15 (1 : Int32)
    ) fun j16 =>
      if z2 = 0 then (
        j16
      ) else (
        Option.bind (fn_M_in p4 (0 : Int32) (3 : Int32)) fun z17 =>
        if z17 = 0 then (
          j16
        ) else (
          j15 (0 : Int32)
        )
      )
set_option maxHeartbeats 4000000 in
set_option maxRecDepth 100000 in
theorem ok_M_season {G : wd_G} {l : Launch} (hN : gd_ok G)  (o : Nat) (ho : sh_kd o = 12) (p1 : Int32) (p2 : Int32) (p3 : Int32) (p4 : Int32) (σ : hp_I) (τ : hp_L) : cl_C G l 7 yX12_season cX12_season 5 (some .int) [.ref (wd_b G + o), .int p1, .int p2, .int p3, .int p4] σ τ (ci_ih τ) (fn_M_season o p1 p2 p3 p4 σ) := by
  refine cl_of (lv0 := [(0, .ref (wd_b G + o)), (1, .int p1), (2, .int p2), (3, .int p3), (4, .int p4)]) (ci_ih τ) (by decide) (Nat.le_of_ble_eq_true rfl) rfl hN (fun M hM C => ?_)
  have C : cx_C G M RX12 cX12_season 5 7 (some .int) := C
  unfold fn_M_season
  refine dn_aload_n C dX12_season_0 rfl 0 rfl rfl ?_
  refine dn_iconst C dX12_season_1 ic_i_0 rfl ?_
  refine dn_putI C fp_X12_93 ho dX12_season_2 rfl (fun s1 => ?_)
  refine dn_aload_n C dX12_season_5 rfl 0 rfl rfl ?_
  refine dn_iload_n C dX12_season_6 rfl 2 rfl rfl ?_
  refine dn_iload_n C dX12_season_7 rfl 3 rfl rfl ?_
  refine dn_callS_i (As := [.int p2, .int p3]) (st := [.ref (wd_b G + o)]) C (ok_M_isSeason (cx_g C) p2 p3 s1 τ) mt_X12_isSeason ms_X12_isSeason lk_X12_395 (by decide) rfl ⟨Nat.zero_le _, Nat.zero_le _⟩ (Nat.le_of_ble_eq_true rfl) dX12_season_8 rfl rfl (fun z2 => ?_)
  refine dn_jn (fun z => ∀ (t3 : Int32), dn_D G M 5 0 0 (cl_M G M (ci_ih τ)) 29 [(0, .ref (wd_b G + o)), (1, .int p1), (2, .int p2), (3, .int p3), (4, .int p4)] [.int t3, .ref (wd_b G + o)] s1 τ (z t3)) (fun t3 => ?_) (fun j15 hj15 => ?_)
  · refine dn_iconst C dX12_season_29 ic_i_1 rfl ?_
    refine dn_iconst C dX12_season_30 ic_i_1 rfl ?_
    refine dn_callV_ih (As := [.int t3, .int (1 : Int32), .int (1 : Int32)]) (st := []) C (ok_M_bad (cx_g C) o ho t3 (1 : Int32) (1 : Int32) s1 τ) mt_X12_bad mv_X12_bad lk_X12_172 (by decide) ho rfl ⟨Nat.zero_le _, Nat.zero_le _⟩ (Nat.le_of_ble_eq_true rfl) dX12_season_31 rfl rfl (fun z4 s5 => ?_)
    refine dn_if_eq (t := 39) C dX12_season_34 (by decide) rfl ?_ ?_
    · refine dn_aload_n C dX12_season_39 rfl 0 rfl rfl ?_
      refine dn_iload_n C dX12_season_40 rfl 1 rfl rfl ?_
      refine dn_iload_n C dX12_season_41 rfl 2 rfl rfl ?_
      refine dn_iload_n C dX12_season_42 rfl 3 rfl rfl ?_
      refine dn_callV_h (As := [.int p1, .int p2, .int p3]) (st := []) C (ok_M_seasonBy (cx_g C) o ho p1 p2 p3 s5 τ) mt_X12_seasonBy mv_X12_seasonBy lk_X12_398 (by decide) ho rfl ⟨Nat.zero_le _, Nat.zero_le _⟩ (Nat.le_of_ble_eq_true rfl) dX12_season_43 rfl rfl (fun s7 => ?_)
      refine dn_iload C dX12_season_46 4 rfl rfl ?_
      refine dn_jn (fun z => ∀ (t8 : Int32), dn_D G M 5 0 0 (cl_M G M (ci_ih τ)) 105 [] [.int t8] s7 τ (z t8)) (fun t8 => ?_) (fun j9 hj9 => ?_)
      · exact dn_iret C dX12_season_105 rfl
      · refine dn_if_ne (t := 61) C dX12_season_48 (by decide) rfl ?_ ?_
        · refine dn_aload_n C dX12_season_51 rfl 0 rfl rfl ?_
          refine dn_getR C fd_X12_58 ho dX12_season_52 rfl ?_
          refine dn_bipush C dX12_season_55 ic_b_42 rfl ?_
          refine dn_iald C (kt_12_26 ho) dX12_season_57 rfl (fun z10 => ?_)
          refine dn_goto (t := 105) C dX12_season_58 (by decide) ?_
          refine dn_pick [] rfl ?_
          exact hj9 z10
        · refine dn_iload C dX12_season_61 4 rfl rfl ?_
          refine dn_iconst C dX12_season_63 ic_i_1 rfl ?_
          refine dn_icmp_ne (t := 78) C dX12_season_64 (by decide) rfl ?_ ?_
          · refine dn_aload_n C dX12_season_67 rfl 0 rfl rfl ?_
            refine dn_aload_n C dX12_season_68 rfl 0 rfl rfl ?_
            refine dn_getR C fd_X12_58 ho dX12_season_69 rfl ?_
            refine dn_callV_i (As := [.ref (wd_b G + sh_rf o 26)]) (st := []) C (ok_M_sizes (cx_g C) o ho (sh_rf o 26) (kt_12_26 ho) s7 τ) mt_X12_sizes mv_X12_sizes lk_X12_332 (by decide) ho rfl ⟨Nat.zero_le _, Nat.zero_le _⟩ (Nat.le_of_ble_eq_true rfl) dX12_season_72 rfl rfl (fun z11 => ?_)
            refine dn_goto (t := 105) C dX12_season_75 (by decide) ?_
            refine dn_pick [] rfl ?_
            exact hj9 z11
          · refine dn_iload C dX12_season_78 4 rfl rfl ?_
            refine dn_iconst C dX12_season_80 ic_i_2 rfl ?_
            refine dn_icmp_ne (t := 97) C dX12_season_81 (by decide) rfl ?_ ?_
            · refine dn_aload_n C dX12_season_84 rfl 0 rfl rfl ?_
              refine dn_getR C fd_X12_58 ho dX12_season_85 rfl ?_
              refine dn_bipush C dX12_season_88 ic_b_43 rfl ?_
              refine dn_iald C (kt_12_26 ho) dX12_season_90 rfl (fun z12 => ?_)
              refine dn_callS_i (As := [.int z12]) (st := []) C (ok_M_ones (cx_g C) z12 s7 τ) mt_X12_ones ms_X12_ones lk_X12_268 (by decide) rfl ⟨Nat.zero_le _, Nat.zero_le _⟩ (Nat.le_of_ble_eq_true rfl) dX12_season_91 rfl rfl (fun z13 => ?_)
              refine dn_goto (t := 105) C dX12_season_94 (by decide) ?_
              refine dn_pick [] rfl ?_
              exact hj9 z13
            · refine dn_aload_n C dX12_season_97 rfl 0 rfl rfl ?_
              refine dn_aload_n C dX12_season_98 rfl 0 rfl rfl ?_
              refine dn_getR C fd_X12_58 ho dX12_season_99 rfl ?_
              refine dn_callV_i (As := [.ref (wd_b G + sh_rf o 26)]) (st := []) C (ok_M_proud (cx_g C) o ho (sh_rf o 26) (kt_12_26 ho) s7 τ) mt_X12_proud mv_X12_proud lk_X12_385 (by decide) ho rfl ⟨Nat.zero_le _, Nat.zero_le _⟩ (Nat.le_of_ble_eq_true rfl) dX12_season_102 rfl rfl (fun z14 => ?_)
              refine dn_pick [] rfl ?_
              exact hj9 z14
    · refine dn_iconst C dX12_season_37 ic_i_0 rfl ?_
      exact dn_iret C dX12_season_38 rfl
  · refine dn_jn (fun z => dn_D G M 5 0 0 (cl_M G M (ci_ih τ)) 24 [(0, .ref (wd_b G + o)), (1, .int p1), (2, .int p2), (3, .int p3), (4, .int p4)] [.ref (wd_b G + o)] s1 τ z) ?_ (fun j16 hj16 => ?_)
    · refine dn_iconst C dX12_season_24 ic_i_1 rfl ?_
      refine dn_goto (t := 29) C dX12_season_25 (by decide) ?_
      exact hj15 (1 : Int32)
    · refine dn_if_eq (t := 24) C dX12_season_11 (by decide) rfl ?_ ?_
      · exact hj16
      · refine dn_iload C dX12_season_14 4 rfl rfl ?_
        refine dn_iconst C dX12_season_16 ic_i_0 rfl ?_
        refine dn_iconst C dX12_season_17 ic_i_3 rfl ?_
        refine dn_callS_i (As := [.int p4, .int (0 : Int32), .int (3 : Int32)]) (st := [.ref (wd_b G + o)]) C (ok_M_in (cx_g C) p4 (0 : Int32) (3 : Int32) s1 τ) mt_X12_in ms_X12_in lk_X12_127 (by decide) rfl ⟨Nat.zero_le _, Nat.zero_le _⟩ (Nat.le_of_ble_eq_true rfl) dX12_season_18 rfl rfl (fun z17 => ?_)
        refine dn_if_ne (t := 28) C dX12_season_21 (by decide) rfl ?_ ?_
        · exact hj16
        · refine dn_iconst C dX12_season_28 ic_i_0 rfl ?_
          exact hj15 (0 : Int32)
def fn_M_slips_L63  (a0 : Nat) (a1 : Int32) (a2 : Int32) (k : hp_I → Option (Int32 × hp_I)) : Nat → Int32 → hp_I → Option (Int32 × hp_I)
  | 0, _, _ => none
  | fu + 1, x3, s0 =>
    if x3 < (8000 : Int32) then (
      Option.bind (px_ast s0 (sh_rf a0 37) x3 (vp_nar .boolean (0 : Int32))) fun s11 =>
      px_let (x3 + 1) fun v3_12 =>
      fn_M_slips_L63 a0 a1 a2 k fu v3_12 s11
    ) else (
      k s0
    )
def fn_M_slips_L158  (a0 : Nat) (a1 : Int32) (a2 : Int32) (a3 : Int32) (k : hp_I → Option (Int32 × hp_I)) : Nat → Int32 → hp_I → Option (Int32 × hp_I)
  | 0, _, _ => none
  | fu + 1, x4, s0 =>
    if x4 < (8000 : Int32) then (
      Option.bind (px_ast s0 (sh_rf a0 38) x4 (vp_nar .boolean (0 : Int32))) fun s24 =>
      px_let (x4 + 1) fun v4_25 =>
      fn_M_slips_L158 a0 a1 a2 a3 k fu v4_25 s24
    ) else (
      k s0
    )
def fn_M_slips_L183  (a0 : Nat) (a1 : Int32) (a2 : Int32) (a3 : Int32) (k : hp_I → Option (Int32 × hp_I)) : Nat → Int32 → hp_I → Option (Int32 × hp_I)
  | 0, _, _ => none
  | fu + 1, x4, s0 =>
    if x4 < (8000 : Int32) then (
      Option.bind (px_ald s0 (sh_rf a0 37) x4) fun z28 =>
      px_jn (fun (s29 : hp_I) =>
        px_let (x4 + 1) fun v4_30 =>
        fn_M_slips_L183 a0 a1 a2 a3 k fu v4_30 s29
      ) fun j31 =>
        if z28 = 0 then (
          j31 s0
        ) else (
          Option.bind (px_div x4 (1000 : Int32)) fun z32 =>
          Option.bind (px_rem x4 (1000 : Int32)) fun z33 =>
          Option.bind (fn_M_slipsFrom a0 a1 z32 z33 s0) fun s35 =>
          j31 s35
        )
    ) else (
      k s0
    )
def fn_M_slips_L227  (a0 : Nat) (a1 : Int32) (a2 : Int32) (a3 : Int32) (k : hp_I → Option (Int32 × hp_I)) : Nat → Int32 → hp_I → Option (Int32 × hp_I)
  | 0, _, _ => none
  | fu + 1, x4, s0 =>
    if x4 < (8000 : Int32) then (
      Option.bind (px_ald s0 (sh_rf a0 38) x4) fun z38 =>
      Option.bind (px_ast s0 (sh_rf a0 37) x4 (vp_nar .boolean z38)) fun s39 =>
      px_let (x4 + 1) fun v4_40 =>
      fn_M_slips_L227 a0 a1 a2 a3 k fu v4_40 s39
    ) else (
      k s0
    )
def fn_M_slips_L139  (a0 : Nat) (a1 : Int32) (a2 : Int32) (k : hp_I → Option (Int32 × hp_I)) : Nat → Int32 → hp_I → Option (Int32 × hp_I)
  | 0, _, _ => none
  | fu + 1, x3, s0 =>
    if x3 ≤ (40 : Int32) then (
      Option.bind (fn_M_mayBeIn a0 a2 s0) fun z22 =>
      if z22 = 0 then (
        px_let (0 : Int32) fun v4_23 =>
        fn_M_slips_L158 a0 a1 a2 x3
          (fun (s_26 : hp_I) =>
            px_let (0 : Int32) fun v4_27 =>
            fn_M_slips_L183 a0 a1 a2 x3
              (fun (s_36 : hp_I) =>
                px_let (0 : Int32) fun v4_37 =>
                fn_M_slips_L227 a0 a1 a2 x3
                  (fun (s_41 : hp_I) =>
                    Option.bind (fn_M_nightEnds a0 (sh_rf a0 27) s_41) fun s43 =>
                    px_let (x3 + 1) fun v3_44 =>
                    fn_M_slips_L139 a0 a1 a2 k fu v3_44 s43
                  )
                  FU v4_37 s_36
              )
              FU v4_27 s_26
          )
          FU v4_23 s0
      ) else (
        some (x3, s0)
      )
    ) else (
      k s0
    )
def fn_M_slips  (o : Nat) (p1 : Int32) (p2 : Int32) (σ : hp_I) : Option (Int32 × hp_I) :=
  px_let (hp_s σ o 0 (0 : Int32)) fun s1 =>
  Option.bind (fn_M_isThing o (2 : Int32) p1 s1) fun z2 =>
  px_jn (fun (t3 : Int32) =>
    px_b2 (fn_M_bad o t3 (1 : Int32) (0 : Int32) s1) fun z4 s5 =>
    px_jn (
      px_jn (fun (t6 : Int32) =>
        some (t6, s5)
      ) fun j7 =>
        if (s5 o 0) = 0 then (
          j7 (-1 : Int32)
        ) else (
          j7 (0 : Int32)
        )
    ) fun j8 =>
      if z4 = 0 then (
        Option.bind (fn_M_lives (sh_rf o 25) p1 s5) fun z9 =>
        if z9 = 0 then (
          j8
        ) else (
          px_let (0 : Int32) fun v3_10 =>
          fn_M_slips_L63 o p1 p2
            (fun (s_13 : hp_I) =>
              Option.bind (px_ald s_13 (sh_rf o 25) ((0 : Int32) + p1)) fun z14 =>
              Option.bind (px_ald s_13 (sh_rf o 25) ((8 : Int32) + p1)) fun z15 =>
              Option.bind (px_ast s_13 (sh_rf o 37) (((1000 : Int32) * z14) + z15) (vp_nar .boolean (1 : Int32))) fun s16 =>
              Option.bind (fn_M_copies (sh_rf o 25) (sh_rf o 27) s16) fun s18 =>
              Option.bind (px_ald s18 (sh_rf o 27) (42 : Int32)) fun z19 =>
              Option.bind (px_ast s18 (sh_rf o 27) (42 : Int32) (z19 &&& (((1 : Int32) <<< (p1 &&& 31)) ^^^ (-1 : Int32)))) fun s20 =>
              px_let (0 : Int32) fun v3_21 =>
              fn_M_slips_L139 o p1 p2
                (fun (s_45 : hp_I) =>
                  some ((-1 : Int32), s_45)
                )
                FU v3_21 s20
            )
            FU v3_10 s5
        )
      ) else (
        j8
      )
  ) fun j46 =>
    px_jn (
      j46 (1 : Int32)
    ) fun j47 =>
      if z2 = 0 then (
        j47
      ) else (
        Option.bind (fn_M_isThing o (0 : Int32) p2 s1) fun z48 =>
        if z48 = 0 then (
          j47
        ) else (
          j46 (0 : Int32)
        )
      )
set_option maxHeartbeats 4000000 in
set_option maxRecDepth 100000 in
theorem pf_M_slips_L63 {G : wd_G} {M : wd_M}  (C : cx_C G M RX12 cX12_slips 5 7 (some .int)) (a0 : Nat) (ha0 : sh_kd a0 = 12) (a1 : Int32) (a2 : Int32)  (τ : hp_L) (k : hp_I → Option (Int32 × hp_I)) (hk : ∀ (s : hp_I), dn_D G M 5 0 0 (cl_M G M (ci_ih τ)) 83 [(0, .ref (wd_b G + a0)), (1, .int a1), (2, .int a2)] [] s τ (k s)) : ∀ (fu : Nat) (x3 : Int32) (s0 : hp_I), dn_D G M 5 0 0 (cl_M G M (ci_ih τ)) 63 [(0, .ref (wd_b G + a0)), (1, .int a1), (2, .int a2), (3, .int x3)] [] s0 τ (fn_M_slips_L63 a0 a1 a2 k fu x3 s0) := by
  intro fu
  induction fu with
  | zero => exact fun x3 s0 => dn_none
  | succ fu ih =>
    intro x3 s0
    unfold fn_M_slips_L63
    refine dn_iload_n C dX12_slips_63 rfl 3 rfl rfl ?_
    refine dn_sipush C dX12_slips_64 ic_s_8000 rfl ?_
    refine dn_icmp_ge (t := 83) C dX12_slips_67 (by decide) rfl ?_ ?_
    · refine dn_aload_n C dX12_slips_70 rfl 0 rfl rfl ?_
      refine dn_getR C fd_X12_70 ha0 dX12_slips_71 rfl ?_
      refine dn_iload_n C dX12_slips_74 rfl 3 rfl rfl ?_
      refine dn_iconst C dX12_slips_75 ic_i_0 rfl ?_
      refine dn_zast C (kt_12_37 ha0) dX12_slips_76 rfl (fun s11 => ?_)
      refine dn_iinc (lv0 := [(0, .ref (wd_b G + a0)), (1, .int a1), (2, .int a2)]) (v := x3 + 1) C dX12_slips_77 3 rfl rfl (by decide) rfl rfl (fun v3_12 => ?_)
      refine dn_goto (t := 63) C dX12_slips_80 (by decide) ?_
      refine dn_pick [1, 2, 3, 0] rfl ?_
      exact ih v3_12 s11
    · refine dn_pick [0, 1, 2] rfl ?_
      exact hk s0
set_option maxHeartbeats 4000000 in
set_option maxRecDepth 100000 in
theorem pf_M_slips_L158 {G : wd_G} {M : wd_M}  (C : cx_C G M RX12 cX12_slips 5 7 (some .int)) (a0 : Nat) (ha0 : sh_kd a0 = 12) (a1 : Int32) (a2 : Int32) (a3 : Int32)  (τ : hp_L) (k : hp_I → Option (Int32 × hp_I)) (hk : ∀ (s : hp_I), dn_D G M 5 0 0 (cl_M G M (ci_ih τ)) 180 [(0, .ref (wd_b G + a0)), (1, .int a1), (2, .int a2), (3, .int a3)] [] s τ (k s)) : ∀ (fu : Nat) (x4 : Int32) (s0 : hp_I), dn_D G M 5 0 0 (cl_M G M (ci_ih τ)) 158 [(0, .ref (wd_b G + a0)), (1, .int a1), (2, .int a2), (3, .int a3), (4, .int x4)] [] s0 τ (fn_M_slips_L158 a0 a1 a2 a3 k fu x4 s0) := by
  intro fu
  induction fu with
  | zero => exact fun x4 s0 => dn_none
  | succ fu ih =>
    intro x4 s0
    unfold fn_M_slips_L158
    refine dn_iload C dX12_slips_158 4 rfl rfl ?_
    refine dn_sipush C dX12_slips_160 ic_s_8000 rfl ?_
    refine dn_icmp_ge (t := 180) C dX12_slips_163 (by decide) rfl ?_ ?_
    · refine dn_aload_n C dX12_slips_166 rfl 0 rfl rfl ?_
      refine dn_getR C fd_X12_74 ha0 dX12_slips_167 rfl ?_
      refine dn_iload C dX12_slips_170 4 rfl rfl ?_
      refine dn_iconst C dX12_slips_172 ic_i_0 rfl ?_
      refine dn_zast C (kt_12_38 ha0) dX12_slips_173 rfl (fun s24 => ?_)
      refine dn_iinc (lv0 := [(0, .ref (wd_b G + a0)), (1, .int a1), (2, .int a2), (3, .int a3)]) (v := x4 + 1) C dX12_slips_174 4 rfl rfl (by decide) rfl rfl (fun v4_25 => ?_)
      refine dn_goto (t := 158) C dX12_slips_177 (by decide) ?_
      refine dn_pick [1, 2, 3, 4, 0] rfl ?_
      exact ih v4_25 s24
    · refine dn_pick [0, 1, 2, 3] rfl ?_
      exact hk s0
set_option maxHeartbeats 4000000 in
set_option maxRecDepth 100000 in
theorem pf_M_slips_L183 {G : wd_G} {M : wd_M}  (C : cx_C G M RX12 cX12_slips 5 7 (some .int)) (a0 : Nat) (ha0 : sh_kd a0 = 12) (a1 : Int32) (a2 : Int32) (a3 : Int32)  (τ : hp_L) (k : hp_I → Option (Int32 × hp_I)) (hk : ∀ (s : hp_I), dn_D G M 5 0 0 (cl_M G M (ci_ih τ)) 224 [(0, .ref (wd_b G + a0)), (1, .int a1), (2, .int a2), (3, .int a3)] [] s τ (k s)) : ∀ (fu : Nat) (x4 : Int32) (s0 : hp_I), dn_D G M 5 0 0 (cl_M G M (ci_ih τ)) 183 [(0, .ref (wd_b G + a0)), (1, .int a1), (2, .int a2), (3, .int a3), (4, .int x4)] [] s0 τ (fn_M_slips_L183 a0 a1 a2 a3 k fu x4 s0) := by
  intro fu
  induction fu with
  | zero => exact fun x4 s0 => dn_none
  | succ fu ih =>
    intro x4 s0
    unfold fn_M_slips_L183
    refine dn_iload C dX12_slips_183 4 rfl rfl ?_
    refine dn_sipush C dX12_slips_185 ic_s_8000 rfl ?_
    refine dn_icmp_ge (t := 224) C dX12_slips_188 (by decide) rfl ?_ ?_
    · refine dn_aload_n C dX12_slips_191 rfl 0 rfl rfl ?_
      refine dn_getR C fd_X12_70 ha0 dX12_slips_192 rfl ?_
      refine dn_iload C dX12_slips_195 4 rfl rfl ?_
      refine dn_zald C (kt_12_37 ha0) dX12_slips_197 rfl (fun z28 => ?_)
      refine dn_jn (fun z => ∀ (s29 : hp_I), dn_D G M 5 0 0 (cl_M G M (ci_ih τ)) 218 [(0, .ref (wd_b G + a0)), (1, .int a1), (2, .int a2), (3, .int a3), (4, .int x4)] [] s29 τ (z s29)) (fun s29 => ?_) (fun j31 hj31 => ?_)
      · refine dn_iinc (lv0 := [(0, .ref (wd_b G + a0)), (1, .int a1), (2, .int a2), (3, .int a3)]) (v := x4 + 1) C dX12_slips_218 4 rfl rfl (by decide) rfl rfl (fun v4_30 => ?_)
        refine dn_goto (t := 183) C dX12_slips_221 (by decide) ?_
        refine dn_pick [1, 2, 3, 4, 0] rfl ?_
        exact ih v4_30 s29
      · refine dn_if_eq (t := 218) C dX12_slips_198 (by decide) rfl ?_ ?_
        · exact hj31 s0
        · refine dn_aload_n C dX12_slips_201 rfl 0 rfl rfl ?_
          refine dn_iload_n C dX12_slips_202 rfl 1 rfl rfl ?_
          refine dn_iload C dX12_slips_203 4 rfl rfl ?_
          refine dn_sipush C dX12_slips_205 ic_s_1000 rfl ?_
          refine dn_idiv C dX12_slips_208 rfl (fun z32 => ?_)
          refine dn_iload C dX12_slips_209 4 rfl rfl ?_
          refine dn_sipush C dX12_slips_211 ic_s_1000 rfl ?_
          refine dn_irem C dX12_slips_214 rfl (fun z33 => ?_)
          refine dn_callV_h (As := [.int a1, .int z32, .int z33]) (st := []) C (ok_M_slipsFrom (cx_g C) a0 ha0 a1 z32 z33 s0 τ) mt_X12_slipsFrom mv_X12_slipsFrom lk_X12_345 (by decide) ha0 rfl ⟨Nat.zero_le _, Nat.zero_le _⟩ (Nat.le_of_ble_eq_true rfl) dX12_slips_215 rfl rfl (fun s35 => ?_)
          exact hj31 s35
    · refine dn_pick [0, 1, 2, 3] rfl ?_
      exact hk s0
set_option maxHeartbeats 4000000 in
set_option maxRecDepth 100000 in
theorem pf_M_slips_L227 {G : wd_G} {M : wd_M}  (C : cx_C G M RX12 cX12_slips 5 7 (some .int)) (a0 : Nat) (ha0 : sh_kd a0 = 12) (a1 : Int32) (a2 : Int32) (a3 : Int32)  (τ : hp_L) (k : hp_I → Option (Int32 × hp_I)) (hk : ∀ (s : hp_I), dn_D G M 5 0 0 (cl_M G M (ci_ih τ)) 255 [(0, .ref (wd_b G + a0)), (1, .int a1), (2, .int a2), (3, .int a3)] [] s τ (k s)) : ∀ (fu : Nat) (x4 : Int32) (s0 : hp_I), dn_D G M 5 0 0 (cl_M G M (ci_ih τ)) 227 [(0, .ref (wd_b G + a0)), (1, .int a1), (2, .int a2), (3, .int a3), (4, .int x4)] [] s0 τ (fn_M_slips_L227 a0 a1 a2 a3 k fu x4 s0) := by
  intro fu
  induction fu with
  | zero => exact fun x4 s0 => dn_none
  | succ fu ih =>
    intro x4 s0
    unfold fn_M_slips_L227
    refine dn_iload C dX12_slips_227 4 rfl rfl ?_
    refine dn_sipush C dX12_slips_229 ic_s_8000 rfl ?_
    refine dn_icmp_ge (t := 255) C dX12_slips_232 (by decide) rfl ?_ ?_
    · refine dn_aload_n C dX12_slips_235 rfl 0 rfl rfl ?_
      refine dn_getR C fd_X12_70 ha0 dX12_slips_236 rfl ?_
      refine dn_iload C dX12_slips_239 4 rfl rfl ?_
      refine dn_aload_n C dX12_slips_241 rfl 0 rfl rfl ?_
      refine dn_getR C fd_X12_74 ha0 dX12_slips_242 rfl ?_
      refine dn_iload C dX12_slips_245 4 rfl rfl ?_
      refine dn_zald C (kt_12_38 ha0) dX12_slips_247 rfl (fun z38 => ?_)
      refine dn_zast C (kt_12_37 ha0) dX12_slips_248 rfl (fun s39 => ?_)
      refine dn_iinc (lv0 := [(0, .ref (wd_b G + a0)), (1, .int a1), (2, .int a2), (3, .int a3)]) (v := x4 + 1) C dX12_slips_249 4 rfl rfl (by decide) rfl rfl (fun v4_40 => ?_)
      refine dn_goto (t := 227) C dX12_slips_252 (by decide) ?_
      refine dn_pick [1, 2, 3, 4, 0] rfl ?_
      exact ih v4_40 s39
    · refine dn_pick [0, 1, 2, 3] rfl ?_
      exact hk s0
set_option maxHeartbeats 4000000 in
set_option maxRecDepth 100000 in
theorem pf_M_slips_L139 {G : wd_G} {M : wd_M}  (C : cx_C G M RX12 cX12_slips 5 7 (some .int)) (a0 : Nat) (ha0 : sh_kd a0 = 12) (a1 : Int32) (a2 : Int32)  (τ : hp_L) (k : hp_I → Option (Int32 × hp_I)) (hk : ∀ (s : hp_I), dn_D G M 5 0 0 (cl_M G M (ci_ih τ)) 269 [] [] s τ (k s)) : ∀ (fu : Nat) (x3 : Int32) (s0 : hp_I), dn_D G M 5 0 0 (cl_M G M (ci_ih τ)) 139 [(0, .ref (wd_b G + a0)), (1, .int a1), (2, .int a2), (3, .int x3)] [] s0 τ (fn_M_slips_L139 a0 a1 a2 k fu x3 s0) := by
  intro fu
  induction fu with
  | zero => exact fun x3 s0 => dn_none
  | succ fu ih =>
    intro x3 s0
    unfold fn_M_slips_L139
    refine dn_iload_n C dX12_slips_139 rfl 3 rfl rfl ?_
    refine dn_bipush C dX12_slips_140 ic_b_40 rfl ?_
    refine dn_icmp_gt (t := 269) C dX12_slips_142 (by decide) rfl ?_ ?_
    · refine dn_aload_n C dX12_slips_145 rfl 0 rfl rfl ?_
      refine dn_iload_n C dX12_slips_146 rfl 2 rfl rfl ?_
      refine dn_callV_i (As := [.int a2]) (st := []) C (ok_M_mayBeIn (cx_g C) a0 ha0 a2 s0 τ) mt_X12_mayBeIn mv_X12_mayBeIn lk_X12_342 (by decide) ha0 rfl ⟨Nat.zero_le _, Nat.zero_le _⟩ (Nat.le_of_ble_eq_true rfl) dX12_slips_147 rfl rfl (fun z22 => ?_)
      refine dn_if_eq (t := 155) C dX12_slips_150 (by decide) rfl ?_ ?_
      · refine dn_iconst C dX12_slips_155 ic_i_0 rfl ?_
        refine dn_istore (lv0 := [(0, .ref (wd_b G + a0)), (1, .int a1), (2, .int a2), (3, .int x3)]) C dX12_slips_156 (by decide) rfl rfl (fun v4_23 => ?_)
        refine dn_pick [1, 2, 3, 4, 0] rfl ?_
        refine pf_M_slips_L158  C  a0 ha0 a1 a2 x3  τ _ (fun s_26 => ?_) FU v4_23 s0
        refine dn_iconst C dX12_slips_180 ic_i_0 rfl ?_
        refine dn_istore (lv0 := [(0, .ref (wd_b G + a0)), (1, .int a1), (2, .int a2), (3, .int x3)]) C dX12_slips_181 (by decide) rfl rfl (fun v4_27 => ?_)
        refine dn_pick [1, 2, 3, 4, 0] rfl ?_
        refine pf_M_slips_L183  C  a0 ha0 a1 a2 x3  τ _ (fun s_36 => ?_) FU v4_27 s_26
        refine dn_iconst C dX12_slips_224 ic_i_0 rfl ?_
        refine dn_istore (lv0 := [(0, .ref (wd_b G + a0)), (1, .int a1), (2, .int a2), (3, .int x3)]) C dX12_slips_225 (by decide) rfl rfl (fun v4_37 => ?_)
        refine dn_pick [1, 2, 3, 4, 0] rfl ?_
        refine pf_M_slips_L227  C  a0 ha0 a1 a2 x3  τ _ (fun s_41 => ?_) FU v4_37 s_36
        refine dn_aload_n C dX12_slips_255 rfl 0 rfl rfl ?_
        refine dn_aload_n C dX12_slips_256 rfl 0 rfl rfl ?_
        refine dn_getR C fd_X12_61 ha0 dX12_slips_257 rfl ?_
        refine dn_callV_h (As := [.ref (wd_b G + sh_rf a0 27)]) (st := []) C (ok_M_nightEnds (cx_g C) a0 ha0 (sh_rf a0 27) (kt_12_27 ha0) s_41 τ) mt_X12_nightEnds mv_X12_nightEnds lk_X12_311 (by decide) ha0 rfl ⟨Nat.zero_le _, Nat.zero_le _⟩ (Nat.le_of_ble_eq_true rfl) dX12_slips_260 rfl rfl (fun s43 => ?_)
        refine dn_iinc (lv0 := [(0, .ref (wd_b G + a0)), (1, .int a1), (2, .int a2)]) (v := x3 + 1) C dX12_slips_263 3 rfl rfl (by decide) rfl rfl (fun v3_44 => ?_)
        refine dn_goto (t := 139) C dX12_slips_266 (by decide) ?_
        refine dn_pick [1, 2, 3, 0] rfl ?_
        exact ih v3_44 s43
      · refine dn_iload_n C dX12_slips_153 rfl 3 rfl rfl ?_
        exact dn_iret C dX12_slips_154 rfl
    · refine dn_pick [] rfl ?_
      exact hk s0
set_option maxHeartbeats 4000000 in
set_option maxRecDepth 100000 in
theorem ok_M_slips {G : wd_G} {l : Launch} (hN : gd_ok G)  (o : Nat) (ho : sh_kd o = 12) (p1 : Int32) (p2 : Int32) (σ : hp_I) (τ : hp_L) : cl_C G l 7 yX12_slips cX12_slips 5 (some .int) [.ref (wd_b G + o), .int p1, .int p2] σ τ (ci_ih τ) (fn_M_slips o p1 p2 σ) := by
  refine cl_of (lv0 := [(0, .ref (wd_b G + o)), (1, .int p1), (2, .int p2)]) (ci_ih τ) (by decide) (Nat.le_of_ble_eq_true rfl) rfl hN (fun M hM C => ?_)
  have C : cx_C G M RX12 cX12_slips 5 7 (some .int) := C
  unfold fn_M_slips
  refine dn_aload_n C dX12_slips_0 rfl 0 rfl rfl ?_
  refine dn_iconst C dX12_slips_1 ic_i_0 rfl ?_
  refine dn_putI C fp_X12_93 ho dX12_slips_2 rfl (fun s1 => ?_)
  refine dn_aload_n C dX12_slips_5 rfl 0 rfl rfl ?_
  refine dn_aload_n C dX12_slips_6 rfl 0 rfl rfl ?_
  refine dn_iconst C dX12_slips_7 ic_i_2 rfl ?_
  refine dn_iload_n C dX12_slips_8 rfl 1 rfl rfl ?_
  refine dn_callV_i (As := [.int (2 : Int32), .int p1]) (st := [.ref (wd_b G + o)]) C (ok_M_isThing (cx_g C) o ho (2 : Int32) p1 s1 τ) mt_X12_isThing mv_X12_isThing lk_X12_336 (by decide) ho rfl ⟨Nat.zero_le _, Nat.zero_le _⟩ (Nat.le_of_ble_eq_true rfl) dX12_slips_9 rfl rfl (fun z2 => ?_)
  refine dn_jn (fun z => ∀ (t3 : Int32), dn_D G M 5 0 0 (cl_M G M (ci_ih τ)) 29 [(0, .ref (wd_b G + o)), (1, .int p1), (2, .int p2)] [.int t3, .ref (wd_b G + o)] s1 τ (z t3)) (fun t3 => ?_) (fun j46 hj46 => ?_)
  · refine dn_iconst C dX12_slips_29 ic_i_1 rfl ?_
    refine dn_iconst C dX12_slips_30 ic_i_0 rfl ?_
    refine dn_callV_ih (As := [.int t3, .int (1 : Int32), .int (0 : Int32)]) (st := []) C (ok_M_bad (cx_g C) o ho t3 (1 : Int32) (0 : Int32) s1 τ) mt_X12_bad mv_X12_bad lk_X12_172 (by decide) ho rfl ⟨Nat.zero_le _, Nat.zero_le _⟩ (Nat.le_of_ble_eq_true rfl) dX12_slips_31 rfl rfl (fun z4 s5 => ?_)
    refine dn_jn (fun z => dn_D G M 5 0 0 (cl_M G M (ci_ih τ)) 48 [(0, .ref (wd_b G + o))] [] s5 τ z) ?_ (fun j8 hj8 => ?_)
    · refine dn_aload_n C dX12_slips_48 rfl 0 rfl rfl ?_
      refine dn_getI C fd_X12_93 ho dX12_slips_49 rfl ?_
      refine dn_jn (fun z => ∀ (t6 : Int32), dn_D G M 5 0 0 (cl_M G M (ci_ih τ)) 60 [] [.int t6] s5 τ (z t6)) (fun t6 => ?_) (fun j7 hj7 => ?_)
      · exact dn_iret C dX12_slips_60 rfl
      · refine dn_if_ne (t := 59) C dX12_slips_52 (by decide) rfl ?_ ?_
        · refine dn_iconst C dX12_slips_55 ic_i_m1 rfl ?_
          refine dn_goto (t := 60) C dX12_slips_56 (by decide) ?_
          refine dn_pick [] rfl ?_
          exact hj7 (-1 : Int32)
        · refine dn_iconst C dX12_slips_59 ic_i_0 rfl ?_
          refine dn_pick [] rfl ?_
          exact hj7 (0 : Int32)
    · refine dn_if_ne (t := 48) C dX12_slips_34 (by decide) rfl ?_ ?_
      · refine dn_aload_n C dX12_slips_37 rfl 0 rfl rfl ?_
        refine dn_getR C fd_X12_55 ho dX12_slips_38 rfl ?_
        refine dn_iload_n C dX12_slips_41 rfl 1 rfl rfl ?_
        refine dn_callS_i (As := [.ref (wd_b G + sh_rf o 25), .int p1]) (st := []) C (ok_M_lives (cx_g C) (sh_rf o 25) (kt_12_25 ho) p1 s5 τ) mt_X12_lives ms_X12_lives lk_X12_275 (by decide) rfl ⟨Nat.zero_le _, Nat.zero_le _⟩ (Nat.le_of_ble_eq_true rfl) dX12_slips_42 rfl rfl (fun z9 => ?_)
        refine dn_if_ne (t := 61) C dX12_slips_45 (by decide) rfl ?_ ?_
        · refine dn_pick [0] rfl ?_
          exact hj8
        · refine dn_iconst C dX12_slips_61 ic_i_0 rfl ?_
          refine dn_istore_n (lv0 := [(0, .ref (wd_b G + o)), (1, .int p1), (2, .int p2)]) C dX12_slips_62 rfl (by decide) rfl rfl (fun v3_10 => ?_)
          refine dn_pick [1, 2, 3, 0] rfl ?_
          refine pf_M_slips_L63  C  o ho p1 p2  τ _ (fun s_13 => ?_) FU v3_10 s5
          refine dn_aload_n C dX12_slips_83 rfl 0 rfl rfl ?_
          refine dn_getR C fd_X12_70 ho dX12_slips_84 rfl ?_
          refine dn_sipush C dX12_slips_87 ic_s_1000 rfl ?_
          refine dn_aload_n C dX12_slips_90 rfl 0 rfl rfl ?_
          refine dn_getR C fd_X12_55 ho dX12_slips_91 rfl ?_
          refine dn_iconst C dX12_slips_94 ic_i_0 rfl ?_
          refine dn_iload_n C dX12_slips_95 rfl 1 rfl rfl ?_
          refine dn_iadd C dX12_slips_96 rfl ?_
          refine dn_iald C (kt_12_25 ho) dX12_slips_97 rfl (fun z14 => ?_)
          refine dn_imul C dX12_slips_98 rfl ?_
          refine dn_aload_n C dX12_slips_99 rfl 0 rfl rfl ?_
          refine dn_getR C fd_X12_55 ho dX12_slips_100 rfl ?_
          refine dn_bipush C dX12_slips_103 ic_b_8 rfl ?_
          refine dn_iload_n C dX12_slips_105 rfl 1 rfl rfl ?_
          refine dn_iadd C dX12_slips_106 rfl ?_
          refine dn_iald C (kt_12_25 ho) dX12_slips_107 rfl (fun z15 => ?_)
          refine dn_iadd C dX12_slips_108 rfl ?_
          refine dn_iconst C dX12_slips_109 ic_i_1 rfl ?_
          refine dn_zast C (kt_12_37 ho) dX12_slips_110 rfl (fun s16 => ?_)
          refine dn_aload_n C dX12_slips_111 rfl 0 rfl rfl ?_
          refine dn_getR C fd_X12_55 ho dX12_slips_112 rfl ?_
          refine dn_aload_n C dX12_slips_115 rfl 0 rfl rfl ?_
          refine dn_getR C fd_X12_61 ho dX12_slips_116 rfl ?_
          refine dn_callS_h (As := [.ref (wd_b G + sh_rf o 25), .ref (wd_b G + sh_rf o 27)]) (st := []) C (ok_M_copies (cx_g C) (sh_rf o 25) (kt_12_25 ho) (sh_rf o 27) (kt_12_27 ho) s16 τ) mt_X12_copies ms_X12_copies lk_X12_328 (by decide) rfl ⟨Nat.zero_le _, Nat.zero_le _⟩ (Nat.le_of_ble_eq_true rfl) dX12_slips_119 rfl rfl (fun s18 => ?_)
          refine dn_aload_n C dX12_slips_122 rfl 0 rfl rfl ?_
          refine dn_getR C fd_X12_61 ho dX12_slips_123 rfl ?_
          refine dn_bipush C dX12_slips_126 ic_b_42 rfl ?_
          refine dn_dup2 C dX12_slips_128 rfl rfl rfl ?_
          refine dn_iald C (kt_12_27 ho) dX12_slips_129 rfl (fun z19 => ?_)
          refine dn_iconst C dX12_slips_130 ic_i_1 rfl ?_
          refine dn_iload_n C dX12_slips_131 rfl 1 rfl rfl ?_
          refine dn_ishl C dX12_slips_132 rfl ?_
          refine dn_iconst C dX12_slips_133 ic_i_m1 rfl ?_
          refine dn_ixor C dX12_slips_134 rfl ?_
          refine dn_iand C dX12_slips_135 rfl ?_
          refine dn_iast C (kt_12_27 ho) dX12_slips_136 rfl (fun s20 => ?_)
          refine dn_iconst C dX12_slips_137 ic_i_0 rfl ?_
          refine dn_istore_n (lv0 := [(0, .ref (wd_b G + o)), (1, .int p1), (2, .int p2)]) C dX12_slips_138 rfl (by decide) rfl rfl (fun v3_21 => ?_)
          refine dn_pick [1, 2, 3, 0] rfl ?_
          refine pf_M_slips_L139  C  o ho p1 p2  τ _ (fun s_45 => ?_) FU v3_21 s20
          refine dn_iconst C dX12_slips_269 ic_i_m1 rfl ?_
          exact dn_iret C dX12_slips_270 rfl
      · refine dn_pick [0] rfl ?_
        exact hj8
  · refine dn_jn (fun z => dn_D G M 5 0 0 (cl_M G M (ci_ih τ)) 24 [(0, .ref (wd_b G + o)), (1, .int p1), (2, .int p2)] [.ref (wd_b G + o)] s1 τ z) ?_ (fun j47 hj47 => ?_)
    · refine dn_iconst C dX12_slips_24 ic_i_1 rfl ?_
      refine dn_goto (t := 29) C dX12_slips_25 (by decide) ?_
      exact hj46 (1 : Int32)
    · refine dn_if_eq (t := 24) C dX12_slips_12 (by decide) rfl ?_ ?_
      · exact hj47
      · refine dn_aload_n C dX12_slips_15 rfl 0 rfl rfl ?_
        refine dn_iconst C dX12_slips_16 ic_i_0 rfl ?_
        refine dn_iload_n C dX12_slips_17 rfl 2 rfl rfl ?_
        refine dn_callV_i (As := [.int (0 : Int32), .int p2]) (st := [.ref (wd_b G + o)]) C (ok_M_isThing (cx_g C) o ho (0 : Int32) p2 s1 τ) mt_X12_isThing mv_X12_isThing lk_X12_336 (by decide) ho rfl ⟨Nat.zero_le _, Nat.zero_le _⟩ (Nat.le_of_ble_eq_true rfl) dX12_slips_18 rfl rfl (fun z48 => ?_)
        refine dn_if_ne (t := 28) C dX12_slips_21 (by decide) rfl ?_ ?_
        · exact hj47
        · refine dn_iconst C dX12_slips_28 ic_i_0 rfl ?_
          exact hj46 (0 : Int32)
def fn_M_span_L72  (a0 : Nat) (a1 : Int32) (a2 : Int32) (a3 : Int32) (a4 : Int32) (a5 : Int32) (a6 : Int32) (k : Int32 → Int32 → Int32 → hp_I → Option (Int32 × hp_I)) : Nat → Int32 → Int32 → Int32 → Int32 → hp_I → Option (Int32 × hp_I)
  | 0, _, _, _, _, _ => none
  | fu + 1, x7, x8, x9, x10, s0 =>
    if x10 < a2 then (
      Option.bind (fn_M_seasonBy a0 (a1 + x10) a3 a4 s0) fun s11 =>
      Option.bind (px_ald s11 (sh_rf a0 26) (42 : Int32)) fun z12 =>
      Option.bind (fn_M_ones z12) fun z13 =>
      px_let z13 fun v11_14 =>
      px_jn (fun (t15 : Int32) =>
        px_let t15 fun v7_16 =>
        Option.bind (fn_M_more2 x8 v11_14) fun z17 =>
        px_let z17 fun v8_18 =>
        Option.bind (px_ald s11 (sh_rf a0 26) (42 : Int32)) fun z19 =>
        px_let (x9 + ((z19 >>> (a6 &&& 31)) &&& (1 : Int32))) fun v9_20 =>
        px_let (x10 + 1) fun v10_21 =>
        fn_M_span_L72 a0 a1 a2 a3 a4 a5 a6 k fu v7_16 v8_18 v9_20 v10_21 s11
      ) fun j22 =>
        if x7 = (-1 : Int32) then (
          j22 v11_14
        ) else (
          Option.bind (fn_M_less x7 v11_14) fun z23 =>
          j22 z23
        )
    ) else (
      k x7 x8 x9 s0
    )
def fn_M_span  (o : Nat) (p1 : Int32) (p2 : Int32) (p3 : Int32) (p4 : Int32) (p5 : Int32) (p6 : Int32) (σ : hp_I) : Option (Int32 × hp_I) :=
  px_let (hp_s σ o 0 (0 : Int32)) fun s1 =>
  Option.bind (fn_M_in p2 (1 : Int32) (20 : Int32)) fun z2 =>
  px_jn (fun (t3 : Int32) =>
    px_b2 (fn_M_bad o t3 (1 : Int32) (1 : Int32) s1) fun z4 s5 =>
    if z4 = 0 then (
      px_let (-1 : Int32) fun v7_6 =>
      px_let (0 : Int32) fun v8_7 =>
      px_let (0 : Int32) fun v9_8 =>
      px_let (0 : Int32) fun v10_9 =>
      fn_M_span_L72 o p1 p2 p3 p4 p5 p6
        (fun (y_24 : Int32) (y_25 : Int32) (y_26 : Int32) (s_27 : hp_I) =>
          px_jn (fun (t28 : Int32) =>
            some (t28, s_27)
          ) fun j29 =>
            if p5 = 0 then (
              j29 y_24
            ) else (
              if p5 = (1 : Int32) then (
                j29 y_25
              ) else (
                j29 y_26
              )
            )
        )
        FU v7_6 v8_7 v9_8 v10_9 s5
    ) else (
      some ((0 : Int32), s5)
    )
  ) fun j30 =>
    px_jn (
      j30 (1 : Int32)
    ) fun j31 =>
      if z2 = 0 then (
        j31
      ) else (
        Option.bind (fn_M_isSeason p3 p4) fun z32 =>
        if z32 = 0 then (
          j31
        ) else (
          Option.bind (fn_M_in p5 (0 : Int32) (2 : Int32)) fun z33 =>
          if z33 = 0 then (
            j31
          ) else (
            Option.bind (fn_M_isThing o (2 : Int32) p6 s1) fun z34 =>
            if z34 = 0 then (
              j31
            ) else (
              j30 (0 : Int32)
            )
          )
        )
      )
set_option maxHeartbeats 4000000 in
set_option maxRecDepth 100000 in
theorem pf_M_span_L72 {G : wd_G} {M : wd_M}  (C : cx_C G M RX12 cX12_span 12 7 (some .int)) (a0 : Nat) (ha0 : sh_kd a0 = 12) (a1 : Int32) (a2 : Int32) (a3 : Int32) (a4 : Int32) (a5 : Int32) (a6 : Int32)  (τ : hp_L) (k : Int32 → Int32 → Int32 → hp_I → Option (Int32 × hp_I)) (hk : ∀ (y7 : Int32) (y8 : Int32) (y9 : Int32) (s : hp_I), dn_D G M 12 0 0 (cl_M G M (ci_ih τ)) 153 [(5, .int a5), (7, .int y7), (8, .int y8), (9, .int y9)] [] s τ (k y7 y8 y9 s)) : ∀ (fu : Nat) (x7 : Int32) (x8 : Int32) (x9 : Int32) (x10 : Int32) (s0 : hp_I), dn_D G M 12 0 0 (cl_M G M (ci_ih τ)) 72 [(0, .ref (wd_b G + a0)), (1, .int a1), (2, .int a2), (3, .int a3), (4, .int a4), (5, .int a5), (6, .int a6), (7, .int x7), (8, .int x8), (9, .int x9), (10, .int x10)] [] s0 τ (fn_M_span_L72 a0 a1 a2 a3 a4 a5 a6 k fu x7 x8 x9 x10 s0) := by
  intro fu
  induction fu with
  | zero => exact fun x7 x8 x9 x10 s0 => dn_none
  | succ fu ih =>
    intro x7 x8 x9 x10 s0
    unfold fn_M_span_L72
    refine dn_iload C dX12_span_72 10 rfl rfl ?_
    refine dn_iload_n C dX12_span_74 rfl 2 rfl rfl ?_
    refine dn_icmp_ge (t := 153) C dX12_span_75 (by decide) rfl ?_ ?_
    · refine dn_aload_n C dX12_span_78 rfl 0 rfl rfl ?_
      refine dn_iload_n C dX12_span_79 rfl 1 rfl rfl ?_
      refine dn_iload C dX12_span_80 10 rfl rfl ?_
      refine dn_iadd C dX12_span_82 rfl ?_
      refine dn_iload_n C dX12_span_83 rfl 3 rfl rfl ?_
      refine dn_iload C dX12_span_84 4 rfl rfl ?_
      refine dn_callV_h (As := [.int (a1 + x10), .int a3, .int a4]) (st := []) C (ok_M_seasonBy (cx_g C) a0 ha0 (a1 + x10) a3 a4 s0 τ) mt_X12_seasonBy mv_X12_seasonBy lk_X12_398 (by decide) ha0 rfl ⟨Nat.zero_le _, Nat.zero_le _⟩ (Nat.le_of_ble_eq_true rfl) dX12_span_86 rfl rfl (fun s11 => ?_)
      refine dn_aload_n C dX12_span_89 rfl 0 rfl rfl ?_
      refine dn_getR C fd_X12_58 ha0 dX12_span_90 rfl ?_
      refine dn_bipush C dX12_span_93 ic_b_42 rfl ?_
      refine dn_iald C (kt_12_26 ha0) dX12_span_95 rfl (fun z12 => ?_)
      refine dn_callS_i (As := [.int z12]) (st := []) C (ok_M_ones (cx_g C) z12 s11 τ) mt_X12_ones ms_X12_ones lk_X12_268 (by decide) rfl ⟨Nat.zero_le _, Nat.zero_le _⟩ (Nat.le_of_ble_eq_true rfl) dX12_span_96 rfl rfl (fun z13 => ?_)
      refine dn_istore (lv0 := [(0, .ref (wd_b G + a0)), (1, .int a1), (2, .int a2), (3, .int a3), (4, .int a4), (5, .int a5), (6, .int a6), (7, .int x7), (8, .int x8), (9, .int x9), (10, .int x10)]) C dX12_span_99 (by decide) rfl rfl (fun v11_14 => ?_)
      refine dn_iload C dX12_span_101 8 rfl rfl ?_
      refine dn_iconst C dX12_span_103 ic_i_m1 rfl ?_
      refine dn_jn (fun z => ∀ (t15 : Int32), dn_D G M 12 0 0 (cl_M G M (ci_ih τ)) 119 [(0, .ref (wd_b G + a0)), (1, .int a1), (2, .int a2), (3, .int a3), (4, .int a4), (5, .int a5), (6, .int a6), (8, .int x8), (9, .int x9), (10, .int x10), (11, .int v11_14)] [.int t15] s11 τ (z t15)) (fun t15 => ?_) (fun j22 hj22 => ?_)
      · refine dn_istore (lv0 := [(0, .ref (wd_b G + a0)), (1, .int a1), (2, .int a2), (3, .int a3), (4, .int a4), (5, .int a5), (6, .int a6), (8, .int x8), (9, .int x9), (10, .int x10), (11, .int v11_14)]) C dX12_span_119 (by decide) rfl rfl (fun v7_16 => ?_)
        refine dn_iload C dX12_span_121 8 rfl rfl ?_
        refine dn_iload C dX12_span_123 11 rfl rfl ?_
        refine dn_callS_i (As := [.int x8, .int v11_14]) (st := []) C (ok_M_more2 (cx_g C) x8 v11_14 s11 τ) mt_X12_more2 ms_X12_more2 lk_X12_235 (by decide) rfl ⟨Nat.zero_le _, Nat.zero_le _⟩ (Nat.le_of_ble_eq_true rfl) dX12_span_125 rfl rfl (fun z17 => ?_)
        refine dn_istore (lv0 := [(7, .int v7_16), (0, .ref (wd_b G + a0)), (1, .int a1), (2, .int a2), (3, .int a3), (4, .int a4), (5, .int a5), (6, .int a6), (9, .int x9), (10, .int x10), (11, .int v11_14)]) C dX12_span_128 (by decide) rfl rfl (fun v8_18 => ?_)
        refine dn_iload C dX12_span_130 9 rfl rfl ?_
        refine dn_aload_n C dX12_span_132 rfl 2 rfl rfl ?_
        refine dn_getR C fd_X12_58 ha0 dX12_span_133 rfl ?_
        refine dn_bipush C dX12_span_136 ic_b_42 rfl ?_
        refine dn_iald C (kt_12_26 ha0) dX12_span_138 rfl (fun z19 => ?_)
        refine dn_iload C dX12_span_139 8 rfl rfl ?_
        refine dn_ishr C dX12_span_141 rfl ?_
        refine dn_iconst C dX12_span_142 ic_i_1 rfl ?_
        refine dn_iand C dX12_span_143 rfl ?_
        refine dn_iadd C dX12_span_144 rfl ?_
        refine dn_istore (lv0 := [(8, .int v8_18), (7, .int v7_16), (0, .ref (wd_b G + a0)), (1, .int a1), (2, .int a2), (3, .int a3), (4, .int a4), (5, .int a5), (6, .int a6), (10, .int x10), (11, .int v11_14)]) C dX12_span_145 (by decide) rfl rfl (fun v9_20 => ?_)
        refine dn_iinc (lv0 := [(9, .int v9_20), (8, .int v8_18), (7, .int v7_16), (0, .ref (wd_b G + a0)), (1, .int a1), (2, .int a2), (3, .int a3), (4, .int a4), (5, .int a5), (6, .int a6), (11, .int v11_14)]) (v := x10 + 1) C dX12_span_147 10 rfl rfl (by decide) rfl rfl (fun v10_21 => ?_)
        refine dn_goto (t := 72) C dX12_span_150 (by decide) ?_
        refine dn_pick [4, 5, 6, 7, 8, 9, 10, 3, 2, 1, 0] rfl ?_
        exact ih v7_16 v8_18 v9_20 v10_21 s11
      · refine dn_icmp_ne (t := 112) C dX12_span_104 (by decide) rfl ?_ ?_
        · refine dn_iload C dX12_span_107 0 rfl rfl ?_
          refine dn_goto (t := 119) C dX12_span_109 (by decide) ?_
          refine dn_pick [1, 2, 3, 4, 5, 6, 7, 9, 10, 11, 0] rfl ?_
          exact hj22 v11_14
        · refine dn_iload C dX12_span_112 8 rfl rfl ?_
          refine dn_iload C dX12_span_114 0 rfl rfl ?_
          refine dn_callS_i (As := [.int x7, .int v11_14]) (st := []) C (ok_M_less (cx_g C) x7 v11_14 s11 τ) mt_X12_less ms_X12_less lk_X12_232 (by decide) rfl ⟨Nat.zero_le _, Nat.zero_le _⟩ (Nat.le_of_ble_eq_true rfl) dX12_span_116 rfl rfl (fun z23 => ?_)
          refine dn_pick [1, 2, 3, 4, 5, 6, 7, 9, 10, 11, 0] rfl ?_
          exact hj22 z23
    · refine dn_pick [5, 7, 8, 9] rfl ?_
      exact hk x7 x8 x9 s0
set_option maxHeartbeats 4000000 in
set_option maxRecDepth 100000 in
theorem ok_M_span {G : wd_G} {l : Launch} (hN : gd_ok G)  (o : Nat) (ho : sh_kd o = 12) (p1 : Int32) (p2 : Int32) (p3 : Int32) (p4 : Int32) (p5 : Int32) (p6 : Int32) (σ : hp_I) (τ : hp_L) : cl_C G l 7 yX12_span cX12_span 12 (some .int) [.ref (wd_b G + o), .int p1, .int p2, .int p3, .int p4, .int p5, .int p6] σ τ (ci_ih τ) (fn_M_span o p1 p2 p3 p4 p5 p6 σ) := by
  refine cl_of (lv0 := [(0, .ref (wd_b G + o)), (1, .int p1), (2, .int p2), (3, .int p3), (4, .int p4), (5, .int p5), (6, .int p6)]) (ci_ih τ) (by decide) (Nat.le_of_ble_eq_true rfl) rfl hN (fun M hM C => ?_)
  have C : cx_C G M RX12 cX12_span 12 7 (some .int) := C
  unfold fn_M_span
  refine dn_aload_n C dX12_span_0 rfl 0 rfl rfl ?_
  refine dn_iconst C dX12_span_1 ic_i_0 rfl ?_
  refine dn_putI C fp_X12_93 ho dX12_span_2 rfl (fun s1 => ?_)
  refine dn_aload_n C dX12_span_5 rfl 0 rfl rfl ?_
  refine dn_iload_n C dX12_span_6 rfl 2 rfl rfl ?_
  refine dn_iconst C dX12_span_7 ic_i_1 rfl ?_
  refine dn_bipush C dX12_span_8 ic_b_20 rfl ?_
  refine dn_callS_i (As := [.int p2, .int (1 : Int32), .int (20 : Int32)]) (st := [.ref (wd_b G + o)]) C (ok_M_in (cx_g C) p2 (1 : Int32) (20 : Int32) s1 τ) mt_X12_in ms_X12_in lk_X12_127 (by decide) rfl ⟨Nat.zero_le _, Nat.zero_le _⟩ (Nat.le_of_ble_eq_true rfl) dX12_span_10 rfl rfl (fun z2 => ?_)
  refine dn_jn (fun z => ∀ (t3 : Int32), dn_D G M 12 0 0 (cl_M G M (ci_ih τ)) 50 [(0, .ref (wd_b G + o)), (1, .int p1), (2, .int p2), (3, .int p3), (4, .int p4), (5, .int p5), (6, .int p6)] [.int t3, .ref (wd_b G + o)] s1 τ (z t3)) (fun t3 => ?_) (fun j30 hj30 => ?_)
  · refine dn_iconst C dX12_span_50 ic_i_1 rfl ?_
    refine dn_iconst C dX12_span_51 ic_i_1 rfl ?_
    refine dn_callV_ih (As := [.int t3, .int (1 : Int32), .int (1 : Int32)]) (st := []) C (ok_M_bad (cx_g C) o ho t3 (1 : Int32) (1 : Int32) s1 τ) mt_X12_bad mv_X12_bad lk_X12_172 (by decide) ho rfl ⟨Nat.zero_le _, Nat.zero_le _⟩ (Nat.le_of_ble_eq_true rfl) dX12_span_52 rfl rfl (fun z4 s5 => ?_)
    refine dn_if_eq (t := 60) C dX12_span_55 (by decide) rfl ?_ ?_
    · refine dn_iconst C dX12_span_60 ic_i_m1 rfl ?_
      refine dn_istore (lv0 := [(0, .ref (wd_b G + o)), (1, .int p1), (2, .int p2), (3, .int p3), (4, .int p4), (5, .int p5), (6, .int p6)]) C dX12_span_61 (by decide) rfl rfl (fun v7_6 => ?_)
      refine dn_iconst C dX12_span_63 ic_i_0 rfl ?_
      refine dn_istore (lv0 := [(7, .int v7_6), (0, .ref (wd_b G + o)), (1, .int p1), (2, .int p2), (3, .int p3), (4, .int p4), (5, .int p5), (6, .int p6)]) C dX12_span_64 (by decide) rfl rfl (fun v8_7 => ?_)
      refine dn_iconst C dX12_span_66 ic_i_0 rfl ?_
      refine dn_istore (lv0 := [(8, .int v8_7), (7, .int v7_6), (0, .ref (wd_b G + o)), (1, .int p1), (2, .int p2), (3, .int p3), (4, .int p4), (5, .int p5), (6, .int p6)]) C dX12_span_67 (by decide) rfl rfl (fun v9_8 => ?_)
      refine dn_iconst C dX12_span_69 ic_i_0 rfl ?_
      refine dn_istore (lv0 := [(9, .int v9_8), (8, .int v8_7), (7, .int v7_6), (0, .ref (wd_b G + o)), (1, .int p1), (2, .int p2), (3, .int p3), (4, .int p4), (5, .int p5), (6, .int p6)]) C dX12_span_70 (by decide) rfl rfl (fun v10_9 => ?_)
      refine dn_pick [4, 5, 6, 7, 8, 9, 10, 3, 2, 1, 0] rfl ?_
      refine pf_M_span_L72  C  o ho p1 p2 p3 p4 p5 p6  τ _ (fun y_24 y_25 y_26 s_27 => ?_) FU v7_6 v8_7 v9_8 v10_9 s5
      refine dn_iload C dX12_span_153 0 rfl rfl ?_
      refine dn_jn (fun z => ∀ (t28 : Int32), dn_D G M 12 0 0 (cl_M G M (ci_ih τ)) 176 [] [.int t28] s_27 τ (z t28)) (fun t28 => ?_) (fun j29 hj29 => ?_)
      · exact dn_iret C dX12_span_176 rfl
      · refine dn_if_ne (t := 163) C dX12_span_155 (by decide) rfl ?_ ?_
        · refine dn_iload C dX12_span_158 1 rfl rfl ?_
          refine dn_goto (t := 176) C dX12_span_160 (by decide) ?_
          refine dn_pick [] rfl ?_
          exact hj29 y_24
        · refine dn_iload C dX12_span_163 0 rfl rfl ?_
          refine dn_iconst C dX12_span_165 ic_i_1 rfl ?_
          refine dn_icmp_ne (t := 174) C dX12_span_166 (by decide) rfl ?_ ?_
          · refine dn_iload C dX12_span_169 2 rfl rfl ?_
            refine dn_goto (t := 176) C dX12_span_171 (by decide) ?_
            refine dn_pick [] rfl ?_
            exact hj29 y_25
          · refine dn_iload C dX12_span_174 3 rfl rfl ?_
            refine dn_pick [] rfl ?_
            exact hj29 y_26
    · refine dn_iconst C dX12_span_58 ic_i_0 rfl ?_
      exact dn_iret C dX12_span_59 rfl
  · refine dn_jn (fun z => dn_D G M 12 0 0 (cl_M G M (ci_ih τ)) 45 [(0, .ref (wd_b G + o)), (1, .int p1), (2, .int p2), (3, .int p3), (4, .int p4), (5, .int p5), (6, .int p6)] [.ref (wd_b G + o)] s1 τ z) ?_ (fun j31 hj31 => ?_)
    · refine dn_iconst C dX12_span_45 ic_i_1 rfl ?_
      refine dn_goto (t := 50) C dX12_span_46 (by decide) ?_
      exact hj30 (1 : Int32)
    · refine dn_if_eq (t := 45) C dX12_span_13 (by decide) rfl ?_ ?_
      · exact hj31
      · refine dn_iload_n C dX12_span_16 rfl 3 rfl rfl ?_
        refine dn_iload C dX12_span_17 4 rfl rfl ?_
        refine dn_callS_i (As := [.int p3, .int p4]) (st := [.ref (wd_b G + o)]) C (ok_M_isSeason (cx_g C) p3 p4 s1 τ) mt_X12_isSeason ms_X12_isSeason lk_X12_395 (by decide) rfl ⟨Nat.zero_le _, Nat.zero_le _⟩ (Nat.le_of_ble_eq_true rfl) dX12_span_19 rfl rfl (fun z32 => ?_)
        refine dn_if_eq (t := 45) C dX12_span_22 (by decide) rfl ?_ ?_
        · exact hj31
        · refine dn_iload C dX12_span_25 5 rfl rfl ?_
          refine dn_iconst C dX12_span_27 ic_i_0 rfl ?_
          refine dn_iconst C dX12_span_28 ic_i_2 rfl ?_
          refine dn_callS_i (As := [.int p5, .int (0 : Int32), .int (2 : Int32)]) (st := [.ref (wd_b G + o)]) C (ok_M_in (cx_g C) p5 (0 : Int32) (2 : Int32) s1 τ) mt_X12_in ms_X12_in lk_X12_127 (by decide) rfl ⟨Nat.zero_le _, Nat.zero_le _⟩ (Nat.le_of_ble_eq_true rfl) dX12_span_29 rfl rfl (fun z33 => ?_)
          refine dn_if_eq (t := 45) C dX12_span_32 (by decide) rfl ?_ ?_
          · exact hj31
          · refine dn_aload_n C dX12_span_35 rfl 0 rfl rfl ?_
            refine dn_iconst C dX12_span_36 ic_i_2 rfl ?_
            refine dn_iload C dX12_span_37 6 rfl rfl ?_
            refine dn_callV_i (As := [.int (2 : Int32), .int p6]) (st := [.ref (wd_b G + o)]) C (ok_M_isThing (cx_g C) o ho (2 : Int32) p6 s1 τ) mt_X12_isThing mv_X12_isThing lk_X12_336 (by decide) ho rfl ⟨Nat.zero_le _, Nat.zero_le _⟩ (Nat.le_of_ble_eq_true rfl) dX12_span_39 rfl rfl (fun z34 => ?_)
            refine dn_if_ne (t := 49) C dX12_span_42 (by decide) rfl ?_ ?_
            · exact hj31
            · refine dn_iconst C dX12_span_49 ic_i_0 rfl ?_
              exact hj30 (0 : Int32)
def fn_M_worstAt_L21  (a0 : Nat) (a1 : Int32) (a4 : Int32) (k : Int32 → Int32 → hp_I → Option (Int32 × hp_I)) : Nat → Int32 → Int32 → Int32 → hp_I → Option (Int32 × hp_I)
  | 0, _, _, _, _ => none
  | fu + 1, x2, x3, x5, s0 =>
    Option.bind (px_ald s0 (sh_rf a0 12) (0 : Int32)) fun z6 =>
    if x5 < z6 then (
      Option.bind (fn_M_lives (sh_rf a0 25) a4 s0) fun z7 =>
      px_jn (fun (a2_8 : Int32) (a3_9 : Int32) (s10 : hp_I) =>
        px_let (x5 + 1) fun v5_11 =>
        fn_M_worstAt_L21 a0 a1 a4 k fu a2_8 a3_9 v5_11 s10
      ) fun j12 =>
        if z7 = 0 then (
          j12 x2 x3 s0
        ) else (
          px_b2 (fn_M_isSo a0 a4 x5 s0) fun z13 s14 =>
          if z13 = 0 then (
            j12 x2 x3 s14
          ) else (
            px_let (x3 + 1) fun v3_15 =>
            Option.bind (px_ald s14 (sh_rf a0 26) ((37 : Int32) + a1)) fun z16 =>
            Option.bind (px_ald s14 (sh_rf a0 25) ((37 : Int32) + a1)) fun z17 =>
            px_let (x2 + (z16 - z17)) fun v2_18 =>
            j12 v2_18 v3_15 s14
          )
        )
    ) else (
      k x2 x3 s0
    )
def fn_M_worstAt_L7  (a0 : Nat) (a1 : Int32) (k : Int32 → Int32 → hp_I → Option (Int32 × hp_I)) : Nat → Int32 → Int32 → Int32 → hp_I → Option (Int32 × hp_I)
  | 0, _, _, _, _ => none
  | fu + 1, x2, x3, x4, s0 =>
    Option.bind (px_ald s0 (sh_rf a0 12) (2 : Int32)) fun z4 =>
    if x4 < z4 then (
      px_let (0 : Int32) fun v5_5 =>
      fn_M_worstAt_L21 a0 a1 x4
        (fun (y_19 : Int32) (y_20 : Int32) (s_21 : hp_I) =>
          px_let (x4 + 1) fun v4_22 =>
          fn_M_worstAt_L7 a0 a1 k fu y_19 y_20 v4_22 s_21
        )
        FU x2 x3 v5_5 s0
    ) else (
      k x2 x3 s0
    )
def fn_M_worstAt  (o : Nat) (p1 : Int32) (σ : hp_I) : Option (Int32 × hp_I) :=
  px_let (0 : Int32) fun v2_1 =>
  px_let (0 : Int32) fun v3_2 =>
  px_let (0 : Int32) fun v4_3 =>
  fn_M_worstAt_L7 o p1
    (fun (y_23 : Int32) (y_24 : Int32) (s_25 : hp_I) =>
      Option.bind (fn_M_more2 y_23 (y_24 - y_23)) fun z26 =>
      some (z26, s_25)
    )
    FU v2_1 v3_2 v4_3 σ
set_option maxHeartbeats 4000000 in
set_option maxRecDepth 100000 in
theorem pf_M_worstAt_L21 {G : wd_G} {M : wd_M}  (C : cx_C G M RX12 cX12_worstAt 6 7 (some .int)) (a0 : Nat) (ha0 : sh_kd a0 = 12) (a1 : Int32) (a4 : Int32)  (τ : hp_L) (k : Int32 → Int32 → hp_I → Option (Int32 × hp_I)) (hk : ∀ (y2 : Int32) (y3 : Int32) (s : hp_I), dn_D G M 6 0 0 (cl_M G M (ci_ih τ)) 89 [(0, .ref (wd_b G + a0)), (1, .int a1), (2, .int y2), (3, .int y3), (4, .int a4)] [] s τ (k y2 y3 s)) : ∀ (fu : Nat) (x2 : Int32) (x3 : Int32) (x5 : Int32) (s0 : hp_I), dn_D G M 6 0 0 (cl_M G M (ci_ih τ)) 21 [(0, .ref (wd_b G + a0)), (1, .int a1), (2, .int x2), (3, .int x3), (4, .int a4), (5, .int x5)] [] s0 τ (fn_M_worstAt_L21 a0 a1 a4 k fu x2 x3 x5 s0) := by
  intro fu
  induction fu with
  | zero => exact fun x2 x3 x5 s0 => dn_none
  | succ fu ih =>
    intro x2 x3 x5 s0
    unfold fn_M_worstAt_L21
    refine dn_iload C dX12_worstAt_21 5 rfl rfl ?_
    refine dn_aload_n C dX12_worstAt_23 rfl 0 rfl rfl ?_
    refine dn_getR C fd_X12_23 ha0 dX12_worstAt_24 rfl ?_
    refine dn_iconst C dX12_worstAt_27 ic_i_0 rfl ?_
    refine dn_iald C (kt_12_12 ha0) dX12_worstAt_28 rfl (fun z6 => ?_)
    refine dn_icmp_ge (t := 89) C dX12_worstAt_29 (by decide) rfl ?_ ?_
    · refine dn_aload_n C dX12_worstAt_32 rfl 0 rfl rfl ?_
      refine dn_getR C fd_X12_55 ha0 dX12_worstAt_33 rfl ?_
      refine dn_iload C dX12_worstAt_36 4 rfl rfl ?_
      refine dn_callS_i (As := [.ref (wd_b G + sh_rf a0 25), .int a4]) (st := []) C (ok_M_lives (cx_g C) (sh_rf a0 25) (kt_12_25 ha0) a4 s0 τ) mt_X12_lives ms_X12_lives lk_X12_275 (by decide) rfl ⟨Nat.zero_le _, Nat.zero_le _⟩ (Nat.le_of_ble_eq_true rfl) dX12_worstAt_38 rfl rfl (fun z7 => ?_)
      refine dn_jn (fun z => ∀ (a2_8 : Int32) (a3_9 : Int32) (s10 : hp_I), dn_D G M 6 0 0 (cl_M G M (ci_ih τ)) 83 [(0, .ref (wd_b G + a0)), (1, .int a1), (2, .int a2_8), (3, .int a3_9), (4, .int a4), (5, .int x5)] [] s10 τ (z a2_8 a3_9 s10)) (fun a2_8 a3_9 s10 => ?_) (fun j12 hj12 => ?_)
      · refine dn_iinc (lv0 := [(0, .ref (wd_b G + a0)), (1, .int a1), (2, .int a2_8), (3, .int a3_9), (4, .int a4)]) (v := x5 + 1) C dX12_worstAt_83 5 rfl rfl (by decide) rfl rfl (fun v5_11 => ?_)
        refine dn_goto (t := 21) C dX12_worstAt_86 (by decide) ?_
        refine dn_pick [1, 2, 3, 4, 5, 0] rfl ?_
        exact ih a2_8 a3_9 v5_11 s10
      · refine dn_if_eq (t := 83) C dX12_worstAt_41 (by decide) rfl ?_ ?_
        · exact hj12 x2 x3 s0
        · refine dn_aload_n C dX12_worstAt_44 rfl 0 rfl rfl ?_
          refine dn_iload C dX12_worstAt_45 4 rfl rfl ?_
          refine dn_iload C dX12_worstAt_47 5 rfl rfl ?_
          refine dn_callV_ih (As := [.int a4, .int x5]) (st := []) C (ok_M_isSo (cx_g C) a0 ha0 a4 x5 s0 τ) mt_X12_isSo mv_X12_isSo lk_X12_362 (by decide) ha0 rfl ⟨Nat.zero_le _, Nat.zero_le _⟩ (Nat.le_of_ble_eq_true rfl) dX12_worstAt_49 rfl rfl (fun z13 s14 => ?_)
          refine dn_if_ne (t := 58) C dX12_worstAt_52 (by decide) rfl ?_ ?_
          · refine dn_goto (t := 83) C dX12_worstAt_55 (by decide) ?_
            exact hj12 x2 x3 s14
          · refine dn_iinc (lv0 := [(0, .ref (wd_b G + a0)), (1, .int a1), (2, .int x2), (4, .int a4), (5, .int x5)]) (v := x3 + 1) C dX12_worstAt_58 3 rfl rfl (by decide) rfl rfl (fun v3_15 => ?_)
            refine dn_iload_n C dX12_worstAt_61 rfl 3 rfl rfl ?_
            refine dn_aload_n C dX12_worstAt_62 rfl 1 rfl rfl ?_
            refine dn_getR C fd_X12_58 ha0 dX12_worstAt_63 rfl ?_
            refine dn_bipush C dX12_worstAt_66 ic_b_37 rfl ?_
            refine dn_iload_n C dX12_worstAt_68 rfl 2 rfl rfl ?_
            refine dn_iadd C dX12_worstAt_69 rfl ?_
            refine dn_iald C (kt_12_26 ha0) dX12_worstAt_70 rfl (fun z16 => ?_)
            refine dn_aload_n C dX12_worstAt_71 rfl 1 rfl rfl ?_
            refine dn_getR C fd_X12_55 ha0 dX12_worstAt_72 rfl ?_
            refine dn_bipush C dX12_worstAt_75 ic_b_37 rfl ?_
            refine dn_iload_n C dX12_worstAt_77 rfl 2 rfl rfl ?_
            refine dn_iadd C dX12_worstAt_78 rfl ?_
            refine dn_iald C (kt_12_25 ha0) dX12_worstAt_79 rfl (fun z17 => ?_)
            refine dn_isub C dX12_worstAt_80 rfl ?_
            refine dn_iadd C dX12_worstAt_81 rfl ?_
            refine dn_istore_n (lv0 := [(3, .int v3_15), (0, .ref (wd_b G + a0)), (1, .int a1), (4, .int a4), (5, .int x5)]) C dX12_worstAt_82 rfl (by decide) rfl rfl (fun v2_18 => ?_)
            refine dn_pick [2, 3, 0, 1, 4, 5] rfl ?_
            exact hj12 v2_18 v3_15 s14
    · refine dn_pick [0, 1, 2, 3, 4] rfl ?_
      exact hk x2 x3 s0
set_option maxHeartbeats 4000000 in
set_option maxRecDepth 100000 in
theorem pf_M_worstAt_L7 {G : wd_G} {M : wd_M}  (C : cx_C G M RX12 cX12_worstAt 6 7 (some .int)) (a0 : Nat) (ha0 : sh_kd a0 = 12) (a1 : Int32)  (τ : hp_L) (k : Int32 → Int32 → hp_I → Option (Int32 × hp_I)) (hk : ∀ (y2 : Int32) (y3 : Int32) (s : hp_I), dn_D G M 6 0 0 (cl_M G M (ci_ih τ)) 95 [(2, .int y2), (3, .int y3)] [] s τ (k y2 y3 s)) : ∀ (fu : Nat) (x2 : Int32) (x3 : Int32) (x4 : Int32) (s0 : hp_I), dn_D G M 6 0 0 (cl_M G M (ci_ih τ)) 7 [(0, .ref (wd_b G + a0)), (1, .int a1), (2, .int x2), (3, .int x3), (4, .int x4)] [] s0 τ (fn_M_worstAt_L7 a0 a1 k fu x2 x3 x4 s0) := by
  intro fu
  induction fu with
  | zero => exact fun x2 x3 x4 s0 => dn_none
  | succ fu ih =>
    intro x2 x3 x4 s0
    unfold fn_M_worstAt_L7
    refine dn_iload C dX12_worstAt_7 4 rfl rfl ?_
    refine dn_aload_n C dX12_worstAt_9 rfl 0 rfl rfl ?_
    refine dn_getR C fd_X12_23 ha0 dX12_worstAt_10 rfl ?_
    refine dn_iconst C dX12_worstAt_13 ic_i_2 rfl ?_
    refine dn_iald C (kt_12_12 ha0) dX12_worstAt_14 rfl (fun z4 => ?_)
    refine dn_icmp_ge (t := 95) C dX12_worstAt_15 (by decide) rfl ?_ ?_
    · refine dn_iconst C dX12_worstAt_18 ic_i_0 rfl ?_
      refine dn_istore (lv0 := [(0, .ref (wd_b G + a0)), (1, .int a1), (2, .int x2), (3, .int x3), (4, .int x4)]) C dX12_worstAt_19 (by decide) rfl rfl (fun v5_5 => ?_)
      refine dn_pick [1, 2, 3, 4, 5, 0] rfl ?_
      refine pf_M_worstAt_L21  C  a0 ha0 a1 x4  τ _ (fun y_19 y_20 s_21 => ?_) FU x2 x3 v5_5 s0
      refine dn_iinc (lv0 := [(0, .ref (wd_b G + a0)), (1, .int a1), (2, .int y_19), (3, .int y_20)]) (v := x4 + 1) C dX12_worstAt_89 4 rfl rfl (by decide) rfl rfl (fun v4_22 => ?_)
      refine dn_goto (t := 7) C dX12_worstAt_92 (by decide) ?_
      refine dn_pick [1, 2, 3, 4, 0] rfl ?_
      exact ih y_19 y_20 v4_22 s_21
    · refine dn_pick [2, 3] rfl ?_
      exact hk x2 x3 s0
set_option maxHeartbeats 4000000 in
set_option maxRecDepth 100000 in
theorem ok_M_worstAt {G : wd_G} {l : Launch} (hN : gd_ok G)  (o : Nat) (ho : sh_kd o = 12) (p1 : Int32) (σ : hp_I) (τ : hp_L) : cl_C G l 7 yX12_worstAt cX12_worstAt 6 (some .int) [.ref (wd_b G + o), .int p1] σ τ (ci_ih τ) (fn_M_worstAt o p1 σ) := by
  refine cl_of (lv0 := [(0, .ref (wd_b G + o)), (1, .int p1)]) (ci_ih τ) (by decide) (Nat.le_of_ble_eq_true rfl) rfl hN (fun M hM C => ?_)
  have C : cx_C G M RX12 cX12_worstAt 6 7 (some .int) := C
  unfold fn_M_worstAt
  refine dn_iconst C dX12_worstAt_0 ic_i_0 rfl ?_
  refine dn_istore_n (lv0 := [(0, .ref (wd_b G + o)), (1, .int p1)]) C dX12_worstAt_1 rfl (by decide) rfl rfl (fun v2_1 => ?_)
  refine dn_iconst C dX12_worstAt_2 ic_i_0 rfl ?_
  refine dn_istore_n (lv0 := [(2, .int v2_1), (0, .ref (wd_b G + o)), (1, .int p1)]) C dX12_worstAt_3 rfl (by decide) rfl rfl (fun v3_2 => ?_)
  refine dn_iconst C dX12_worstAt_4 ic_i_0 rfl ?_
  refine dn_istore (lv0 := [(3, .int v3_2), (2, .int v2_1), (0, .ref (wd_b G + o)), (1, .int p1)]) C dX12_worstAt_5 (by decide) rfl rfl (fun v4_3 => ?_)
  refine dn_pick [3, 4, 2, 1, 0] rfl ?_
  refine pf_M_worstAt_L7  C  o ho p1  τ _ (fun y_23 y_24 s_25 => ?_) FU v2_1 v3_2 v4_3 σ
  refine dn_iload_n C dX12_worstAt_95 rfl 0 rfl rfl ?_
  refine dn_iload_n C dX12_worstAt_96 rfl 1 rfl rfl ?_
  refine dn_iload_n C dX12_worstAt_97 rfl 0 rfl rfl ?_
  refine dn_isub C dX12_worstAt_98 rfl ?_
  refine dn_callS_i (As := [.int y_23, .int (y_24 - y_23)]) (st := []) C (ok_M_more2 (cx_g C) y_23 (y_24 - y_23) s_25 τ) mt_X12_more2 ms_X12_more2 lk_X12_235 (by decide) rfl ⟨Nat.zero_le _, Nat.zero_le _⟩ (Nat.le_of_ble_eq_true rfl) dX12_worstAt_99 rfl rfl (fun z26 => ?_)
  exact dn_iret C dX12_worstAt_102 rfl
def fn_M_look_L37  (a0 : Nat) (a1 : Int32) (k : Int32 → Int32 → hp_I → Option (Int32 × hp_I)) : Nat → Int32 → Int32 → Int32 → hp_I → Option (Int32 × hp_I)
  | 0, _, _, _, _ => none
  | fu + 1, x2, x3, x4, s0 =>
    Option.bind (px_ald s0 (sh_rf a0 12) (3 : Int32)) fun z9 =>
    if x4 < z9 then (
      Option.bind (fn_M_isTold a0 x4 s0) fun z10 =>
      px_jn (fun (a2_11 : Int32) (a3_12 : Int32) (s13 : hp_I) =>
        px_let (x4 + 1) fun v4_14 =>
        fn_M_look_L37 a0 a1 k fu a2_11 a3_12 v4_14 s13
      ) fun j15 =>
        if z10 = 0 then (
          px_b2 (fn_M_worstAt a0 x4 s0) fun z16 s17 =>
          px_let z16 fun v5_18 =>
          px_jn (
            px_let x4 fun v2_19 =>
            px_let v5_18 fun v3_20 =>
            j15 v2_19 v3_20 s17
          ) fun j21 =>
            if x2 = (-1 : Int32) then (
              j21
            ) else (
              if x3 ≤ v5_18 then (
                j15 x2 x3 s17
              ) else (
                j21
              )
            )
        ) else (
          j15 x2 x3 s0
        )
    ) else (
      k x2 x3 s0
    )
def fn_M_look  (o : Nat) (p1 : Int32) (σ : hp_I) : Option (Int32 × hp_I) :=
  px_let (hp_s σ o 0 (0 : Int32)) fun s1 =>
  Option.bind (fn_M_in p1 (0 : Int32) (1 : Int32)) fun z2 =>
  px_jn (fun (t3 : Int32) =>
    px_b2 (fn_M_bad o t3 (1 : Int32) (1 : Int32) s1) fun z4 s5 =>
    if z4 = 0 then (
      px_let (-1 : Int32) fun v2_6 =>
      px_let (-1 : Int32) fun v3_7 =>
      px_let (0 : Int32) fun v4_8 =>
      fn_M_look_L37 o p1
        (fun (y_22 : Int32) (y_23 : Int32) (s_24 : hp_I) =>
          px_jn (fun (t25 : Int32) =>
            some (t25, s_24)
          ) fun j26 =>
            if p1 = 0 then (
              j26 y_22
            ) else (
              j26 y_23
            )
        )
        FU v2_6 v3_7 v4_8 s5
    ) else (
      some ((0 : Int32), s5)
    )
  ) fun j27 =>
    if z2 = 0 then (
      j27 (1 : Int32)
    ) else (
      j27 (0 : Int32)
    )
set_option maxHeartbeats 4000000 in
set_option maxRecDepth 100000 in
theorem pf_M_look_L37 {G : wd_G} {M : wd_M}  (C : cx_C G M RX12 cX12_look 6 8 (some .int)) (a0 : Nat) (ha0 : sh_kd a0 = 12) (a1 : Int32)  (τ : hp_L) (k : Int32 → Int32 → hp_I → Option (Int32 × hp_I)) (hk : ∀ (y2 : Int32) (y3 : Int32) (s : hp_I), dn_D G M 6 0 0 (cl_M G M (ci_ih τ)) 94 [(1, .int a1), (2, .int y2), (3, .int y3)] [] s τ (k y2 y3 s)) : ∀ (fu : Nat) (x2 : Int32) (x3 : Int32) (x4 : Int32) (s0 : hp_I), dn_D G M 6 0 0 (cl_M G M (ci_ih τ)) 37 [(0, .ref (wd_b G + a0)), (1, .int a1), (2, .int x2), (3, .int x3), (4, .int x4)] [] s0 τ (fn_M_look_L37 a0 a1 k fu x2 x3 x4 s0) := by
  intro fu
  induction fu with
  | zero => exact fun x2 x3 x4 s0 => dn_none
  | succ fu ih =>
    intro x2 x3 x4 s0
    unfold fn_M_look_L37
    refine dn_iload C dX12_look_37 4 rfl rfl ?_
    refine dn_aload_n C dX12_look_39 rfl 0 rfl rfl ?_
    refine dn_getR C fd_X12_23 ha0 dX12_look_40 rfl ?_
    refine dn_iconst C dX12_look_43 ic_i_3 rfl ?_
    refine dn_iald C (kt_12_12 ha0) dX12_look_44 rfl (fun z9 => ?_)
    refine dn_icmp_ge (t := 94) C dX12_look_45 (by decide) rfl ?_ ?_
    · refine dn_aload_n C dX12_look_48 rfl 0 rfl rfl ?_
      refine dn_iload C dX12_look_49 4 rfl rfl ?_
      refine dn_callV_i (As := [.int x4]) (st := []) C (ok_M_isTold (cx_g C) a0 ha0 x4 s0 τ) mt_X12_isTold mv_X12_isTold lk_X12_365 (by decide) ha0 rfl ⟨Nat.zero_le _, Nat.zero_le _⟩ (Nat.le_of_ble_eq_true rfl) dX12_look_51 rfl rfl (fun z10 => ?_)
      refine dn_jn (fun z => ∀ (a2_11 : Int32) (a3_12 : Int32) (s13 : hp_I), dn_D G M 6 0 0 (cl_M G M (ci_ih τ)) 88 [(0, .ref (wd_b G + a0)), (1, .int a1), (2, .int a2_11), (3, .int a3_12), (4, .int x4)] [] s13 τ (z a2_11 a3_12 s13)) (fun a2_11 a3_12 s13 => ?_) (fun j15 hj15 => ?_)
      · refine dn_iinc (lv0 := [(0, .ref (wd_b G + a0)), (1, .int a1), (2, .int a2_11), (3, .int a3_12)]) (v := x4 + 1) C dX12_look_88 4 rfl rfl (by decide) rfl rfl (fun v4_14 => ?_)
        refine dn_goto (t := 37) C dX12_look_91 (by decide) ?_
        refine dn_pick [1, 2, 3, 4, 0] rfl ?_
        exact ih a2_11 a3_12 v4_14 s13
      · refine dn_if_eq (t := 60) C dX12_look_54 (by decide) rfl ?_ ?_
        · refine dn_aload_n C dX12_look_60 rfl 0 rfl rfl ?_
          refine dn_iload C dX12_look_61 4 rfl rfl ?_
          refine dn_callV_ih (As := [.int x4]) (st := []) C (ok_M_worstAt (cx_g C) a0 ha0 x4 s0 τ) mt_X12_worstAt mv_X12_worstAt lk_X12_368 (by decide) ha0 rfl ⟨Nat.zero_le _, Nat.zero_le _⟩ (Nat.le_of_ble_eq_true rfl) dX12_look_63 rfl rfl (fun z16 s17 => ?_)
          refine dn_istore (lv0 := [(0, .ref (wd_b G + a0)), (1, .int a1), (2, .int x2), (3, .int x3), (4, .int x4)]) C dX12_look_66 (by decide) rfl rfl (fun v5_18 => ?_)
          refine dn_iload_n C dX12_look_68 rfl 3 rfl rfl ?_
          refine dn_iconst C dX12_look_69 ic_i_m1 rfl ?_
          refine dn_jn (fun z => dn_D G M 6 0 0 (cl_M G M (ci_ih τ)) 82 [(0, .ref (wd_b G + a0)), (1, .int a1), (4, .int x4), (5, .int v5_18)] [] s17 τ z) ?_ (fun j21 hj21 => ?_)
          · refine dn_iload C dX12_look_82 2 rfl rfl ?_
            refine dn_istore_n (lv0 := [(0, .ref (wd_b G + a0)), (1, .int a1), (4, .int x4), (5, .int v5_18)]) C dX12_look_84 rfl (by decide) rfl rfl (fun v2_19 => ?_)
            refine dn_iload C dX12_look_85 4 rfl rfl ?_
            refine dn_istore_n (lv0 := [(2, .int v2_19), (0, .ref (wd_b G + a0)), (1, .int a1), (4, .int x4), (5, .int v5_18)]) C dX12_look_87 rfl (by decide) rfl rfl (fun v3_20 => ?_)
            refine dn_pick [2, 3, 1, 0, 4] rfl ?_
            exact hj15 v2_19 v3_20 s17
          · refine dn_icmp_eq (t := 82) C dX12_look_70 (by decide) rfl ?_ ?_
            · refine dn_pick [1, 2, 5, 0] rfl ?_
              exact hj21
            · refine dn_iload C dX12_look_73 0 rfl rfl ?_
              refine dn_iload_n C dX12_look_75 rfl 4 rfl rfl ?_
              refine dn_icmp_lt (t := 82) C dX12_look_76 (by decide) rfl ?_ ?_
              · refine dn_goto (t := 88) C dX12_look_79 (by decide) ?_
                refine dn_pick [1, 2, 3, 4, 5] rfl ?_
                exact hj15 x2 x3 s17
              · refine dn_pick [1, 2, 5, 0] rfl ?_
                exact hj21
        · refine dn_goto (t := 88) C dX12_look_57 (by decide) ?_
          exact hj15 x2 x3 s0
    · refine dn_pick [1, 2, 3] rfl ?_
      exact hk x2 x3 s0
set_option maxHeartbeats 4000000 in
set_option maxRecDepth 100000 in
theorem ok_M_look {G : wd_G} {l : Launch} (hN : gd_ok G)  (o : Nat) (ho : sh_kd o = 12) (p1 : Int32) (σ : hp_I) (τ : hp_L) : cl_C G l 8 yX12_look cX12_look 6 (some .int) [.ref (wd_b G + o), .int p1] σ τ (ci_ih τ) (fn_M_look o p1 σ) := by
  refine cl_of (lv0 := [(0, .ref (wd_b G + o)), (1, .int p1)]) (ci_ih τ) (by decide) (Nat.le_of_ble_eq_true rfl) rfl hN (fun M hM C => ?_)
  have C : cx_C G M RX12 cX12_look 6 8 (some .int) := C
  unfold fn_M_look
  refine dn_aload_n C dX12_look_0 rfl 0 rfl rfl ?_
  refine dn_iconst C dX12_look_1 ic_i_0 rfl ?_
  refine dn_putI C fp_X12_93 ho dX12_look_2 rfl (fun s1 => ?_)
  refine dn_aload_n C dX12_look_5 rfl 0 rfl rfl ?_
  refine dn_iload_n C dX12_look_6 rfl 1 rfl rfl ?_
  refine dn_iconst C dX12_look_7 ic_i_0 rfl ?_
  refine dn_iconst C dX12_look_8 ic_i_1 rfl ?_
  refine dn_callS_i (As := [.int p1, .int (0 : Int32), .int (1 : Int32)]) (st := [.ref (wd_b G + o)]) C (ok_M_in (cx_g C) p1 (0 : Int32) (1 : Int32) s1 τ) mt_X12_in ms_X12_in lk_X12_127 (by decide) rfl ⟨Nat.zero_le _, Nat.zero_le _⟩ (Nat.le_of_ble_eq_true rfl) dX12_look_9 rfl rfl (fun z2 => ?_)
  refine dn_jn (fun z => ∀ (t3 : Int32), dn_D G M 6 0 0 (cl_M G M (ci_ih τ)) 20 [(0, .ref (wd_b G + o)), (1, .int p1)] [.int t3, .ref (wd_b G + o)] s1 τ (z t3)) (fun t3 => ?_) (fun j27 hj27 => ?_)
  · refine dn_iconst C dX12_look_20 ic_i_1 rfl ?_
    refine dn_iconst C dX12_look_21 ic_i_1 rfl ?_
    refine dn_callV_ih (As := [.int t3, .int (1 : Int32), .int (1 : Int32)]) (st := []) C (ok_M_bad (cx_g C) o ho t3 (1 : Int32) (1 : Int32) s1 τ) mt_X12_bad mv_X12_bad lk_X12_172 (by decide) ho rfl ⟨Nat.zero_le _, Nat.zero_le _⟩ (Nat.le_of_ble_eq_true rfl) dX12_look_22 rfl rfl (fun z4 s5 => ?_)
    refine dn_if_eq (t := 30) C dX12_look_25 (by decide) rfl ?_ ?_
    · refine dn_iconst C dX12_look_30 ic_i_m1 rfl ?_
      refine dn_istore_n (lv0 := [(0, .ref (wd_b G + o)), (1, .int p1)]) C dX12_look_31 rfl (by decide) rfl rfl (fun v2_6 => ?_)
      refine dn_iconst C dX12_look_32 ic_i_m1 rfl ?_
      refine dn_istore_n (lv0 := [(2, .int v2_6), (0, .ref (wd_b G + o)), (1, .int p1)]) C dX12_look_33 rfl (by decide) rfl rfl (fun v3_7 => ?_)
      refine dn_iconst C dX12_look_34 ic_i_0 rfl ?_
      refine dn_istore (lv0 := [(3, .int v3_7), (2, .int v2_6), (0, .ref (wd_b G + o)), (1, .int p1)]) C dX12_look_35 (by decide) rfl rfl (fun v4_8 => ?_)
      refine dn_pick [3, 4, 2, 1, 0] rfl ?_
      refine pf_M_look_L37  C  o ho p1  τ _ (fun y_22 y_23 s_24 => ?_) FU v2_6 v3_7 v4_8 s5
      refine dn_iload_n C dX12_look_94 rfl 0 rfl rfl ?_
      refine dn_jn (fun z => ∀ (t25 : Int32), dn_D G M 6 0 0 (cl_M G M (ci_ih τ)) 103 [] [.int t25] s_24 τ (z t25)) (fun t25 => ?_) (fun j26 hj26 => ?_)
      · exact dn_iret C dX12_look_103 rfl
      · refine dn_if_ne (t := 102) C dX12_look_95 (by decide) rfl ?_ ?_
        · refine dn_iload_n C dX12_look_98 rfl 1 rfl rfl ?_
          refine dn_goto (t := 103) C dX12_look_99 (by decide) ?_
          refine dn_pick [] rfl ?_
          exact hj26 y_22
        · refine dn_iload_n C dX12_look_102 rfl 2 rfl rfl ?_
          refine dn_pick [] rfl ?_
          exact hj26 y_23
    · refine dn_iconst C dX12_look_28 ic_i_0 rfl ?_
      exact dn_iret C dX12_look_29 rfl
  · refine dn_if_ne (t := 19) C dX12_look_12 (by decide) rfl ?_ ?_
    · refine dn_iconst C dX12_look_15 ic_i_1 rfl ?_
      refine dn_goto (t := 20) C dX12_look_16 (by decide) ?_
      exact hj27 (1 : Int32)
    · refine dn_iconst C dX12_look_19 ic_i_0 rfl ?_
      exact hj27 (0 : Int32)
def bd_M_hunts_L48 (r_M_hunts : Nat → Int32 → Int32 → Int32 → Int32 → hp_I → Option (hp_I)) (a0 : Nat) (k : hp_I → Option (hp_I)) : Nat → Int32 → hp_I → Option (hp_I)
  | 0, _, _ => none
  | fu + 1, x5, s0 =>
    if x5 < (5 : Int32) then (
      Option.bind (px_ald s0 (sh_rf a0 39) x5) fun z6 =>
      Option.bind (px_ast s0 (sh_rf a0 40) x5 z6) fun s7 =>
      px_let (x5 + 1) fun v5_8 =>
      bd_M_hunts_L48 r_M_hunts a0 k fu v5_8 s7
    ) else (
      k s0
    )
def bd_M_hunts_L78 (r_M_hunts : Nat → Int32 → Int32 → Int32 → Int32 → hp_I → Option (hp_I)) (a0 : Nat) (a1 : Int32) (a2 : Int32) (a3 : Int32) (a4 : Int32) (k : hp_I → Option (hp_I)) : Nat → Int32 → hp_I → Option (hp_I)
  | 0, _, _ => none
  | fu + 1, x5, s0 =>
    Option.bind (px_ald s0 (sh_rf a0 12) (2 : Int32)) fun z12 =>
    if x5 < z12 then (
      Option.bind (fn_M_lives (sh_rf a0 25) x5 s0) fun z13 =>
      px_jn (fun (t14 : Int32) =>
        px_let t14 fun v6_15 =>
        px_jn (fun (s16 : hp_I) =>
          px_let (x5 + 1) fun v5_17 =>
          bd_M_hunts_L78 r_M_hunts a0 a1 a2 a3 a4 k fu v5_17 s16
        ) fun j18 =>
          if v6_15 = (-1 : Int32) then (
            j18 s0
          ) else (
            Option.bind (px_ast s0 (sh_rf a0 39) a1 x5) fun s19 =>
            Option.bind (r_M_hunts a0 (a1 + (1 : Int32)) (a2 + (1 : Int32)) (a3 + v6_15) (a4 ||| ((1 : Int32) <<< (x5 &&& 31))) s19) fun s21 =>
            j18 s21
          )
      ) fun j22 =>
        px_jn (
          j22 (-1 : Int32)
        ) fun j23 =>
          if z13 = 0 then (
            j23
          ) else (
            Option.bind (fn_M_has a4 x5) fun z24 =>
            if z24 = 0 then (
              Option.bind (px_ald s0 (sh_rf a0 25) ((8 : Int32) + x5)) fun z25 =>
              Option.bind (fn_M_nose a0 a1 s0) fun z26 =>
              Option.bind (px_ald s0 (sh_rf a0 25) ((0 : Int32) + x5)) fun z27 =>
              Option.bind (fn_M_hide a0 z27 s0) fun z28 =>
              if z28 < (z25 + z26) then (
                Option.bind (px_ald s0 (sh_rf a0 25) ((32 : Int32) + a1)) fun z29 =>
                Option.bind (px_ald s0 (sh_rf a0 25) ((0 : Int32) + x5)) fun z30 =>
                Option.bind (fn_M_farOf a0 z29 z30 s0) fun z31 =>
                j22 z31
              ) else (
                j23
              )
            ) else (
              j23
            )
          )
    ) else (
      k s0
    )
def bd_M_hunts (r_M_hunts : Nat → Int32 → Int32 → Int32 → Int32 → hp_I → Option (hp_I)) (o : Nat) (p1 : Int32) (p2 : Int32) (p3 : Int32) (p4 : Int32) (σ : hp_I) : Option (hp_I) :=
  Option.bind (px_ald σ (sh_rf o 12) (3 : Int32)) fun z1 =>
  if p1 = z1 then (
    px_jn (
      some σ
    ) fun j2 =>
      if (σ o 41) ≤ p2 then (
        px_jn (
          px_let (hp_s σ o 41 p2) fun s3 =>
          px_let (hp_s s3 o 42 p3) fun s4 =>
          px_let (0 : Int32) fun v5_5 =>
          bd_M_hunts_L48 r_M_hunts o
            (fun (s_9 : hp_I) =>
              some s_9
            )
            FU v5_5 s4
        ) fun j10 =>
          if p2 = (σ o 41) then (
            if (σ o 42) ≤ p3 then (
              j2
            ) else (
              j10
            )
          ) else (
            j10
          )
      ) else (
        j2
      )
  ) else (
    px_let (0 : Int32) fun v5_11 =>
    bd_M_hunts_L78 r_M_hunts o p1 p2 p3 p4
      (fun (s_32 : hp_I) =>
        Option.bind (px_ast s_32 (sh_rf o 39) p1 (-1 : Int32)) fun s33 =>
        Option.bind (r_M_hunts o (p1 + (1 : Int32)) p2 p3 p4 s33) fun s35 =>
        some s35
      )
      FU v5_11 σ
  )
set_option maxHeartbeats 4000000 in
set_option maxRecDepth 100000 in
theorem pf_M_hunts_L48 {G : wd_G} {M : wd_M} (n0 : Nat) (hn0 : 4 ≤ n0) (r_M_hunts : Nat → Int32 → Int32 → Int32 → Int32 → hp_I → Option (hp_I)) (hr_M_hunts : ∀ (l : Launch) (o : Nat) (ho : sh_kd o = 12) (p1 : Int32) (p2 : Int32) (p3 : Int32) (p4 : Int32) (σ : hp_I) (τ : hp_L), cl_C G l n0 yX12_hunts cX12_hunts 7 none [.ref (wd_b G + o), .int p1, .int p2, .int p3, .int p4] σ τ (ci_h τ) (r_M_hunts o p1 p2 p3 p4 σ)) (C : cx_C G M RX12 cX12_hunts 7 (n0 + 1) none) (a0 : Nat) (ha0 : sh_kd a0 = 12)  (τ : hp_L) (k : hp_I → Option (hp_I)) (hk : ∀ (s : hp_I), dn_D G M 7 0 0 (cl_M G M (ci_h τ)) 74 [] [] s τ (k s)) : ∀ (fu : Nat) (x5 : Int32) (s0 : hp_I), dn_D G M 7 0 0 (cl_M G M (ci_h τ)) 48 [(0, .ref (wd_b G + a0)), (5, .int x5)] [] s0 τ (bd_M_hunts_L48 r_M_hunts a0 k fu x5 s0) := by
  intro fu
  induction fu with
  | zero => exact fun x5 s0 => dn_none
  | succ fu ih =>
    intro x5 s0
    unfold bd_M_hunts_L48
    refine dn_iload C dX12_hunts_48 1 rfl rfl ?_
    refine dn_iconst C dX12_hunts_50 ic_i_5 rfl ?_
    refine dn_icmp_ge (t := 74) C dX12_hunts_51 (by decide) rfl ?_ ?_
    · refine dn_aload_n C dX12_hunts_54 rfl 0 rfl rfl ?_
      refine dn_getR C fd_X12_80 ha0 dX12_hunts_55 rfl ?_
      refine dn_iload C dX12_hunts_58 1 rfl rfl ?_
      refine dn_aload_n C dX12_hunts_60 rfl 0 rfl rfl ?_
      refine dn_getR C fd_X12_77 ha0 dX12_hunts_61 rfl ?_
      refine dn_iload C dX12_hunts_64 1 rfl rfl ?_
      refine dn_iald C (kt_12_39 ha0) dX12_hunts_66 rfl (fun z6 => ?_)
      refine dn_iast C (kt_12_40 ha0) dX12_hunts_67 rfl (fun s7 => ?_)
      refine dn_iinc (lv0 := [(0, .ref (wd_b G + a0))]) (v := x5 + 1) C dX12_hunts_68 1 rfl rfl (by decide) rfl rfl (fun v5_8 => ?_)
      refine dn_goto (t := 48) C dX12_hunts_71 (by decide) ?_
      refine dn_pick [1, 0] rfl ?_
      exact ih v5_8 s7
    · refine dn_pick [] rfl ?_
      exact hk s0
set_option maxHeartbeats 4000000 in
set_option maxRecDepth 100000 in
theorem pf_M_hunts_L78 {G : wd_G} {M : wd_M} (n0 : Nat) (hn0 : 4 ≤ n0) (r_M_hunts : Nat → Int32 → Int32 → Int32 → Int32 → hp_I → Option (hp_I)) (hr_M_hunts : ∀ (l : Launch) (o : Nat) (ho : sh_kd o = 12) (p1 : Int32) (p2 : Int32) (p3 : Int32) (p4 : Int32) (σ : hp_I) (τ : hp_L), cl_C G l n0 yX12_hunts cX12_hunts 7 none [.ref (wd_b G + o), .int p1, .int p2, .int p3, .int p4] σ τ (ci_h τ) (r_M_hunts o p1 p2 p3 p4 σ)) (C : cx_C G M RX12 cX12_hunts 7 (n0 + 1) none) (a0 : Nat) (ha0 : sh_kd a0 = 12) (a1 : Int32) (a2 : Int32) (a3 : Int32) (a4 : Int32)  (τ : hp_L) (k : hp_I → Option (hp_I)) (hk : ∀ (s : hp_I), dn_D G M 7 0 0 (cl_M G M (ci_h τ)) 215 [(0, .ref (wd_b G + a0)), (1, .int a1), (2, .int a2), (3, .int a3), (4, .int a4)] [] s τ (k s)) : ∀ (fu : Nat) (x5 : Int32) (s0 : hp_I), dn_D G M 7 0 0 (cl_M G M (ci_h τ)) 78 [(0, .ref (wd_b G + a0)), (1, .int a1), (2, .int a2), (3, .int a3), (4, .int a4), (5, .int x5)] [] s0 τ (bd_M_hunts_L78 r_M_hunts a0 a1 a2 a3 a4 k fu x5 s0) := by
  intro fu
  induction fu with
  | zero => exact fun x5 s0 => dn_none
  | succ fu ih =>
    intro x5 s0
    unfold bd_M_hunts_L78
    refine dn_iload C dX12_hunts_78 5 rfl rfl ?_
    refine dn_aload_n C dX12_hunts_80 rfl 0 rfl rfl ?_
    refine dn_getR C fd_X12_23 ha0 dX12_hunts_81 rfl ?_
    refine dn_iconst C dX12_hunts_84 ic_i_2 rfl ?_
    refine dn_iald C (kt_12_12 ha0) dX12_hunts_85 rfl (fun z12 => ?_)
    refine dn_icmp_ge (t := 215) C dX12_hunts_86 (by decide) rfl ?_ ?_
    · refine dn_aload_n C dX12_hunts_89 rfl 0 rfl rfl ?_
      refine dn_getR C fd_X12_55 ha0 dX12_hunts_90 rfl ?_
      refine dn_iload C dX12_hunts_93 5 rfl rfl ?_
      refine dn_callS_i (As := [.ref (wd_b G + sh_rf a0 25), .int x5]) (st := []) C (ok_M_lives (cx_g C) (sh_rf a0 25) (kt_12_25 ha0) x5 s0 τ) mt_X12_lives ms_X12_lives lk_X12_275 (by omega) rfl ⟨Nat.zero_le _, Nat.zero_le _⟩ (Nat.le_of_ble_eq_true rfl) dX12_hunts_95 rfl rfl (fun z13 => ?_)
      refine dn_jn (fun z => ∀ (t14 : Int32), dn_D G M 7 0 0 (cl_M G M (ci_h τ)) 169 [(0, .ref (wd_b G + a0)), (1, .int a1), (2, .int a2), (3, .int a3), (4, .int a4), (5, .int x5)] [.int t14] s0 τ (z t14)) (fun t14 => ?_) (fun j22 hj22 => ?_)
      · refine dn_istore (lv0 := [(0, .ref (wd_b G + a0)), (1, .int a1), (2, .int a2), (3, .int a3), (4, .int a4), (5, .int x5)]) C dX12_hunts_169 (by decide) rfl rfl (fun v6_15 => ?_)
        refine dn_iload C dX12_hunts_171 0 rfl rfl ?_
        refine dn_iconst C dX12_hunts_173 ic_i_m1 rfl ?_
        refine dn_jn (fun z => ∀ (s16 : hp_I), dn_D G M 7 0 0 (cl_M G M (ci_h τ)) 209 [(0, .ref (wd_b G + a0)), (1, .int a1), (2, .int a2), (3, .int a3), (4, .int a4), (5, .int x5)] [] s16 τ (z s16)) (fun s16 => ?_) (fun j18 hj18 => ?_)
        · refine dn_iinc (lv0 := [(0, .ref (wd_b G + a0)), (1, .int a1), (2, .int a2), (3, .int a3), (4, .int a4)]) (v := x5 + 1) C dX12_hunts_209 5 rfl rfl (by decide) rfl rfl (fun v5_17 => ?_)
          refine dn_goto (t := 78) C dX12_hunts_212 (by decide) ?_
          refine dn_pick [1, 2, 3, 4, 5, 0] rfl ?_
          exact ih v5_17 s16
        · refine dn_icmp_ne (t := 180) C dX12_hunts_174 (by decide) rfl ?_ ?_
          · refine dn_goto (t := 209) C dX12_hunts_177 (by decide) ?_
            refine dn_pick [1, 2, 3, 4, 5, 6] rfl ?_
            exact hj18 s0
          · refine dn_aload_n C dX12_hunts_180 rfl 1 rfl rfl ?_
            refine dn_getR C fd_X12_77 ha0 dX12_hunts_181 rfl ?_
            refine dn_iload_n C dX12_hunts_184 rfl 2 rfl rfl ?_
            refine dn_iload C dX12_hunts_185 6 rfl rfl ?_
            refine dn_iast C (kt_12_39 ha0) dX12_hunts_187 rfl (fun s19 => ?_)
            refine dn_aload_n C dX12_hunts_188 rfl 1 rfl rfl ?_
            refine dn_iload_n C dX12_hunts_189 rfl 2 rfl rfl ?_
            refine dn_iconst C dX12_hunts_190 ic_i_1 rfl ?_
            refine dn_iadd C dX12_hunts_191 rfl ?_
            refine dn_iload_n C dX12_hunts_192 rfl 3 rfl rfl ?_
            refine dn_iconst C dX12_hunts_193 ic_i_1 rfl ?_
            refine dn_iadd C dX12_hunts_194 rfl ?_
            refine dn_iload_n C dX12_hunts_195 rfl 4 rfl rfl ?_
            refine dn_iload C dX12_hunts_196 0 rfl rfl ?_
            refine dn_iadd C dX12_hunts_198 rfl ?_
            refine dn_iload C dX12_hunts_199 5 rfl rfl ?_
            refine dn_iconst C dX12_hunts_201 ic_i_1 rfl ?_
            refine dn_iload C dX12_hunts_202 6 rfl rfl ?_
            refine dn_ishl C dX12_hunts_204 rfl ?_
            refine dn_ior C dX12_hunts_205 rfl ?_
            refine dn_callV_h (As := [.int (a1 + (1 : Int32)), .int (a2 + (1 : Int32)), .int (a3 + v6_15), .int (a4 ||| ((1 : Int32) <<< (x5 &&& 31)))]) (st := []) C (hr_M_hunts (mx_L M) a0 ha0 (a1 + (1 : Int32)) (a2 + (1 : Int32)) (a3 + v6_15) (a4 ||| ((1 : Int32) <<< (x5 &&& 31))) s19 τ) mt_X12_hunts mv_X12_hunts lk_X12_355 (by omega) ha0 rfl ⟨Nat.zero_le _, Nat.zero_le _⟩ (Nat.le_of_ble_eq_true rfl) dX12_hunts_206 rfl rfl (fun s21 => ?_)
            refine dn_pick [1, 2, 3, 4, 5, 6] rfl ?_
            exact hj18 s21
      · refine dn_jn (fun z => dn_D G M 7 0 0 (cl_M G M (ci_h τ)) 168 [(0, .ref (wd_b G + a0)), (1, .int a1), (2, .int a2), (3, .int a3), (4, .int a4), (5, .int x5)] [] s0 τ z) ?_ (fun j23 hj23 => ?_)
        · refine dn_iconst C dX12_hunts_168 ic_i_m1 rfl ?_
          exact hj22 (-1 : Int32)
        · refine dn_if_eq (t := 168) C dX12_hunts_98 (by decide) rfl ?_ ?_
          · exact hj23
          · refine dn_iload C dX12_hunts_101 4 rfl rfl ?_
            refine dn_iload C dX12_hunts_103 5 rfl rfl ?_
            refine dn_callS_i (As := [.int a4, .int x5]) (st := []) C (ok_M_has (cx_g C) a4 x5 s0 τ) mt_X12_has ms_X12_has lk_X12_251 (by omega) rfl ⟨Nat.zero_le _, Nat.zero_le _⟩ (Nat.le_of_ble_eq_true rfl) dX12_hunts_105 rfl rfl (fun z24 => ?_)
            refine dn_if_ne (t := 168) C dX12_hunts_108 (by decide) rfl ?_ ?_
            · refine dn_aload_n C dX12_hunts_111 rfl 0 rfl rfl ?_
              refine dn_getR C fd_X12_55 ha0 dX12_hunts_112 rfl ?_
              refine dn_bipush C dX12_hunts_115 ic_b_8 rfl ?_
              refine dn_iload C dX12_hunts_117 5 rfl rfl ?_
              refine dn_iadd C dX12_hunts_119 rfl ?_
              refine dn_iald C (kt_12_25 ha0) dX12_hunts_120 rfl (fun z25 => ?_)
              refine dn_aload_n C dX12_hunts_121 rfl 0 rfl rfl ?_
              refine dn_iload_n C dX12_hunts_122 rfl 1 rfl rfl ?_
              refine dn_callV_i (As := [.int a1]) (st := [.int z25]) C (ok_M_nose (cx_g C) a0 ha0 a1 s0 τ) mt_X12_nose mv_X12_nose lk_X12_279 (by omega) ha0 rfl ⟨Nat.zero_le _, Nat.zero_le _⟩ (Nat.le_of_ble_eq_true rfl) dX12_hunts_123 rfl rfl (fun z26 => ?_)
              refine dn_iadd C dX12_hunts_126 rfl ?_
              refine dn_aload_n C dX12_hunts_127 rfl 0 rfl rfl ?_
              refine dn_aload_n C dX12_hunts_128 rfl 0 rfl rfl ?_
              refine dn_getR C fd_X12_55 ha0 dX12_hunts_129 rfl ?_
              refine dn_iconst C dX12_hunts_132 ic_i_0 rfl ?_
              refine dn_iload C dX12_hunts_133 5 rfl rfl ?_
              refine dn_iadd C dX12_hunts_135 rfl ?_
              refine dn_iald C (kt_12_25 ha0) dX12_hunts_136 rfl (fun z27 => ?_)
              refine dn_callV_i (As := [.int z27]) (st := [.int (z25 + z26)]) C (ok_M_hide (cx_g C) a0 ha0 z27 s0 τ) mt_X12_hide mv_X12_hide lk_X12_261 (by omega) ha0 rfl ⟨Nat.zero_le _, Nat.zero_le _⟩ (Nat.le_of_ble_eq_true rfl) dX12_hunts_137 rfl rfl (fun z28 => ?_)
              refine dn_icmp_le (t := 168) C dX12_hunts_140 (by decide) rfl ?_ ?_
              · refine dn_aload_n C dX12_hunts_143 rfl 0 rfl rfl ?_
                refine dn_aload_n C dX12_hunts_144 rfl 0 rfl rfl ?_
                refine dn_getR C fd_X12_55 ha0 dX12_hunts_145 rfl ?_
                refine dn_bipush C dX12_hunts_148 ic_b_32 rfl ?_
                refine dn_iload_n C dX12_hunts_150 rfl 1 rfl rfl ?_
                refine dn_iadd C dX12_hunts_151 rfl ?_
                refine dn_iald C (kt_12_25 ha0) dX12_hunts_152 rfl (fun z29 => ?_)
                refine dn_aload_n C dX12_hunts_153 rfl 0 rfl rfl ?_
                refine dn_getR C fd_X12_55 ha0 dX12_hunts_154 rfl ?_
                refine dn_iconst C dX12_hunts_157 ic_i_0 rfl ?_
                refine dn_iload C dX12_hunts_158 5 rfl rfl ?_
                refine dn_iadd C dX12_hunts_160 rfl ?_
                refine dn_iald C (kt_12_25 ha0) dX12_hunts_161 rfl (fun z30 => ?_)
                refine dn_callV_i (As := [.int z29, .int z30]) (st := []) C (ok_M_farOf (cx_g C) a0 ha0 z29 z30 s0 τ) mt_X12_farOf mv_X12_farOf lk_X12_339 (by omega) ha0 rfl ⟨Nat.zero_le _, Nat.zero_le _⟩ (Nat.le_of_ble_eq_true rfl) dX12_hunts_162 rfl rfl (fun z31 => ?_)
                refine dn_goto (t := 169) C dX12_hunts_165 (by decide) ?_
                exact hj22 z31
              · exact hj23
            · exact hj23
    · refine dn_pick [0, 1, 2, 3, 4] rfl ?_
      exact hk s0
set_option maxHeartbeats 4000000 in
set_option maxRecDepth 100000 in
theorem ob_M_hunts {G : wd_G} {l : Launch} (hN : gd_ok G) (n0 : Nat) (hn0 : 4 ≤ n0) (r_M_hunts : Nat → Int32 → Int32 → Int32 → Int32 → hp_I → Option (hp_I)) (hr_M_hunts : ∀ (l : Launch) (o : Nat) (ho : sh_kd o = 12) (p1 : Int32) (p2 : Int32) (p3 : Int32) (p4 : Int32) (σ : hp_I) (τ : hp_L), cl_C G l n0 yX12_hunts cX12_hunts 7 none [.ref (wd_b G + o), .int p1, .int p2, .int p3, .int p4] σ τ (ci_h τ) (r_M_hunts o p1 p2 p3 p4 σ)) (o : Nat) (ho : sh_kd o = 12) (p1 : Int32) (p2 : Int32) (p3 : Int32) (p4 : Int32) (σ : hp_I) (τ : hp_L) : cl_C G l (n0 + 1) yX12_hunts cX12_hunts 7 none [.ref (wd_b G + o), .int p1, .int p2, .int p3, .int p4] σ τ (ci_h τ) (bd_M_hunts r_M_hunts o p1 p2 p3 p4 σ) := by
  refine cl_of (lv0 := [(0, .ref (wd_b G + o)), (1, .int p1), (2, .int p2), (3, .int p3), (4, .int p4)]) (ci_h τ) (by decide) (Nat.le_of_ble_eq_true rfl) rfl hN (fun M hM C => ?_)
  have C : cx_C G M RX12 cX12_hunts 7 (n0 + 1) none := C
  unfold bd_M_hunts
  refine dn_iload_n C dX12_hunts_0 rfl 1 rfl rfl ?_
  refine dn_aload_n C dX12_hunts_1 rfl 0 rfl rfl ?_
  refine dn_getR C fd_X12_23 ho dX12_hunts_2 rfl ?_
  refine dn_iconst C dX12_hunts_5 ic_i_3 rfl ?_
  refine dn_iald C (kt_12_12 ho) dX12_hunts_6 rfl (fun z1 => ?_)
  refine dn_icmp_ne (t := 75) C dX12_hunts_7 (by decide) rfl ?_ ?_
  · refine dn_iload_n C dX12_hunts_10 rfl 2 rfl rfl ?_
    refine dn_aload_n C dX12_hunts_11 rfl 0 rfl rfl ?_
    refine dn_getI C fd_X12_349 ho dX12_hunts_12 rfl ?_
    refine dn_jn (fun z => dn_D G M 7 0 0 (cl_M G M (ci_h τ)) 34 [] [] σ τ z) ?_ (fun j2 hj2 => ?_)
    · exact dn_vret C dX12_hunts_34 rfl
    · refine dn_icmp_lt (t := 34) C dX12_hunts_15 (by decide) rfl ?_ ?_
      · refine dn_iload_n C dX12_hunts_18 rfl 2 rfl rfl ?_
        refine dn_aload_n C dX12_hunts_19 rfl 0 rfl rfl ?_
        refine dn_getI C fd_X12_349 ho dX12_hunts_20 rfl ?_
        refine dn_jn (fun z => dn_D G M 7 0 0 (cl_M G M (ci_h τ)) 35 [(0, .ref (wd_b G + o)), (2, .int p2), (3, .int p3)] [] σ τ z) ?_ (fun j10 hj10 => ?_)
        · refine dn_aload_n C dX12_hunts_35 rfl 0 rfl rfl ?_
          refine dn_iload_n C dX12_hunts_36 rfl 1 rfl rfl ?_
          refine dn_putI C fp_X12_349 ho dX12_hunts_37 rfl (fun s3 => ?_)
          refine dn_aload_n C dX12_hunts_40 rfl 0 rfl rfl ?_
          refine dn_iload_n C dX12_hunts_41 rfl 2 rfl rfl ?_
          refine dn_putI C fp_X12_352 ho dX12_hunts_42 rfl (fun s4 => ?_)
          refine dn_iconst C dX12_hunts_45 ic_i_0 rfl ?_
          refine dn_istore (lv0 := [(0, .ref (wd_b G + o)), (2, .int p2), (3, .int p3)]) C dX12_hunts_46 (by decide) rfl rfl (fun v5_5 => ?_)
          refine dn_pick [1, 0] rfl ?_
          refine pf_M_hunts_L48 n0 hn0 r_M_hunts hr_M_hunts C  o ho  τ _ (fun s_9 => ?_) FU v5_5 s4
          exact dn_vret C dX12_hunts_74 rfl
        · refine dn_icmp_ne (t := 35) C dX12_hunts_23 (by decide) rfl ?_ ?_
          · refine dn_iload_n C dX12_hunts_26 rfl 3 rfl rfl ?_
            refine dn_aload_n C dX12_hunts_27 rfl 0 rfl rfl ?_
            refine dn_getI C fd_X12_352 ho dX12_hunts_28 rfl ?_
            refine dn_icmp_lt (t := 35) C dX12_hunts_31 (by decide) rfl ?_ ?_
            · refine dn_pick [] rfl ?_
              exact hj2
            · refine dn_pick [0, 2, 3] rfl ?_
              exact hj10
          · refine dn_pick [0, 2, 3] rfl ?_
            exact hj10
      · refine dn_pick [] rfl ?_
        exact hj2
  · refine dn_iconst C dX12_hunts_75 ic_i_0 rfl ?_
    refine dn_istore (lv0 := [(0, .ref (wd_b G + o)), (1, .int p1), (2, .int p2), (3, .int p3), (4, .int p4)]) C dX12_hunts_76 (by decide) rfl rfl (fun v5_11 => ?_)
    refine dn_pick [1, 2, 3, 4, 5, 0] rfl ?_
    refine pf_M_hunts_L78 n0 hn0 r_M_hunts hr_M_hunts C  o ho p1 p2 p3 p4  τ _ (fun s_32 => ?_) FU v5_11 σ
    refine dn_aload_n C dX12_hunts_215 rfl 0 rfl rfl ?_
    refine dn_getR C fd_X12_77 ho dX12_hunts_216 rfl ?_
    refine dn_iload_n C dX12_hunts_219 rfl 1 rfl rfl ?_
    refine dn_iconst C dX12_hunts_220 ic_i_m1 rfl ?_
    refine dn_iast C (kt_12_39 ho) dX12_hunts_221 rfl (fun s33 => ?_)
    refine dn_aload_n C dX12_hunts_222 rfl 0 rfl rfl ?_
    refine dn_iload_n C dX12_hunts_223 rfl 1 rfl rfl ?_
    refine dn_iconst C dX12_hunts_224 ic_i_1 rfl ?_
    refine dn_iadd C dX12_hunts_225 rfl ?_
    refine dn_iload_n C dX12_hunts_226 rfl 2 rfl rfl ?_
    refine dn_iload_n C dX12_hunts_227 rfl 3 rfl rfl ?_
    refine dn_iload C dX12_hunts_228 4 rfl rfl ?_
    refine dn_callV_h (As := [.int (p1 + (1 : Int32)), .int p2, .int p3, .int p4]) (st := []) C (hr_M_hunts (mx_L M) o ho (p1 + (1 : Int32)) p2 p3 p4 s33 τ) mt_X12_hunts mv_X12_hunts lk_X12_355 (by omega) ho rfl ⟨Nat.zero_le _, Nat.zero_le _⟩ (Nat.le_of_ble_eq_true rfl) dX12_hunts_230 rfl rfl (fun s35 => ?_)
    exact dn_vret C dX12_hunts_233 rfl
def gr_M_hunts : Nat → (Nat → Int32 → Int32 → Int32 → Int32 → hp_I → Option (hp_I))
  | 0 => (fun _ _ _ _ _ _ => none)
  | d + 1 => bd_M_hunts (gr_M_hunts d)
def fn_M_hunts (o : Nat) (p1 : Int32) (p2 : Int32) (p3 : Int32) (p4 : Int32) (σ : hp_I) : Option (hp_I) := (gr_M_hunts 64) o p1 p2 p3 p4 σ
theorem og_M_hunts {G : wd_G} (hN : gd_ok G) : ∀ d : Nat, (∀ (l : Launch) (o : Nat) (ho : sh_kd o = 12) (p1 : Int32) (p2 : Int32) (p3 : Int32) (p4 : Int32) (σ : hp_I) (τ : hp_L), cl_C G l (4 + d) yX12_hunts cX12_hunts 7 none [.ref (wd_b G + o), .int p1, .int p2, .int p3, .int p4] σ τ (ci_h τ) ((gr_M_hunts d) o p1 p2 p3 p4 σ)) := by
  intro d
  induction d with
  | zero => exact fun l o ho p1 p2 p3 p4 σ τ r hr => nomatch (show none = some r from hr)
  | succ d ih =>
    have h0 := ih
    exact fun l o ho p1 p2 p3 p4 σ τ => ob_M_hunts hN (4 + d) (by omega) _ h0 o ho p1 p2 p3 p4 σ τ
theorem ok_M_hunts {G : wd_G} {l : Launch} (hN : gd_ok G) (o : Nat) (ho : sh_kd o = 12) (p1 : Int32) (p2 : Int32) (p3 : Int32) (p4 : Int32) (σ : hp_I) (τ : hp_L) : cl_C G l 68 yX12_hunts cX12_hunts 7 none [.ref (wd_b G + o), .int p1, .int p2, .int p3, .int p4] σ τ (ci_h τ) (fn_M_hunts o p1 p2 p3 p4 σ) := (og_M_hunts hN 64) l o ho p1 p2 p3 p4 σ τ
def fn_M_laysHunt  (o : Nat) (σ : hp_I) : Option (hp_I) :=
  px_let (hp_s σ o 41 (-1 : Int32)) fun s1 =>
  px_let (hp_s s1 o 42 (0 : Int32)) fun s2 =>
  Option.bind (fn_M_hunts o (0 : Int32) (0 : Int32) (0 : Int32) (0 : Int32) s2) fun s4 =>
  some s4
set_option maxHeartbeats 4000000 in
set_option maxRecDepth 100000 in
theorem ok_M_laysHunt {G : wd_G} {l : Launch} (hN : gd_ok G)  (o : Nat) (ho : sh_kd o = 12) (σ : hp_I) (τ : hp_L) : cl_C G l 69 yX12_laysHunt cX12_laysHunt 1 none [.ref (wd_b G + o)] σ τ (ci_h τ) (fn_M_laysHunt o σ) := by
  refine cl_of (lv0 := [(0, .ref (wd_b G + o))]) (ci_h τ) (by decide) (Nat.le_of_ble_eq_true rfl) rfl hN (fun M hM C => ?_)
  have C : cx_C G M RX12 cX12_laysHunt 1 69 none := C
  unfold fn_M_laysHunt
  refine dn_aload_n C dX12_laysHunt_0 rfl 0 rfl rfl ?_
  refine dn_iconst C dX12_laysHunt_1 ic_i_m1 rfl ?_
  refine dn_putI C fp_X12_349 ho dX12_laysHunt_2 rfl (fun s1 => ?_)
  refine dn_aload_n C dX12_laysHunt_5 rfl 0 rfl rfl ?_
  refine dn_iconst C dX12_laysHunt_6 ic_i_0 rfl ?_
  refine dn_putI C fp_X12_352 ho dX12_laysHunt_7 rfl (fun s2 => ?_)
  refine dn_aload_n C dX12_laysHunt_10 rfl 0 rfl rfl ?_
  refine dn_iconst C dX12_laysHunt_11 ic_i_0 rfl ?_
  refine dn_iconst C dX12_laysHunt_12 ic_i_0 rfl ?_
  refine dn_iconst C dX12_laysHunt_13 ic_i_0 rfl ?_
  refine dn_iconst C dX12_laysHunt_14 ic_i_0 rfl ?_
  refine dn_callV_h (As := [.int (0 : Int32), .int (0 : Int32), .int (0 : Int32), .int (0 : Int32)]) (st := []) C (ok_M_hunts (cx_g C) o ho (0 : Int32) (0 : Int32) (0 : Int32) (0 : Int32) s2 τ) mt_X12_hunts mv_X12_hunts lk_X12_355 (by decide) ho rfl ⟨Nat.zero_le _, Nat.zero_le _⟩ (Nat.le_of_ble_eq_true rfl) dX12_laysHunt_15 rfl rfl (fun s4 => ?_)
  exact dn_vret C dX12_laysHunt_18 rfl
def bd_M_readsStep_L224 (r_M_readsStep : Nat → hp_I → Option (hp_I)) (a0 : Nat) (a2 : Nat) (k : hp_I → Option (hp_I)) : Nat → hp_I → Option (hp_I)
  | 0, _ => none
  | fu + 1, s0 =>
    if (s0 a0 5) = 0 then (
      Option.bind (fn_M_byteAt a0 (s0 a0 4) s0) fun z29 =>
      if z29 = (93 : Int32) then (
        k s0
      ) else (
        Option.bind (r_M_readsStep a0 s0) fun s31 =>
        Option.bind (fn_M_blanks a0 s31) fun s33 =>
        bd_M_readsStep_L224 r_M_readsStep a0 a2 k fu s33
      )
    ) else (
      k s0
    )
def bd_M_readsStep (r_M_readsStep : Nat → hp_I → Option (hp_I)) (o : Nat) (σ : hp_I) : Option (hp_I) :=
  px_b2 (fn_M_stepHere o σ) fun z1 s2 =>
  px_let z1 fun v1_3 =>
  px_jn (fun (s4 : hp_I) =>
    px_jn (fun (s5 : hp_I) =>
      if (s5 o 5) = 0 then (
        Option.bind (fn_M_skipWord o s5) fun s7 =>
        Option.bind (px_rld (sh_rf o 23) (s7 o 24)) fun z8 =>
        px_let (hp_s s7 o 24 ((s7 o 24) + (1 : Int32))) fun s9 =>
        Option.bind (px_ast s9 z8 (0 : Int32) v1_3) fun s10 =>
        px_jn (fun (s11 : hp_I) =>
          px_jn (fun (s12 : hp_I) =>
            px_jn (fun (s13 : hp_I) =>
              px_jn (fun (s14 : hp_I) =>
                px_jn (fun (s15 : hp_I) =>
                  px_jn (fun (s16 : hp_I) =>
                    px_jn (fun (s17 : hp_I) =>
                      Option.bind (px_ast s17 z8 (3 : Int32) (s17 o 24)) fun s18 =>
                      Option.bind (fn_M_sign o (59 : Int32) s18) fun s20 =>
                      some s20
                    ) fun j21 =>
                      if v1_3 = (6 : Int32) then (
                        px_b2 (fn_M_number o (0 : Int32) (60 : Int32) s16) fun z22 s23 =>
                        Option.bind (px_ast s23 z8 (1 : Int32) z22) fun s24 =>
                        Option.bind (fn_M_sign o (91 : Int32) s24) fun s26 =>
                        Option.bind (fn_M_blanks o s26) fun s28 =>
                        bd_M_readsStep_L224 r_M_readsStep o z8
                          (fun (s_34 : hp_I) =>
                            Option.bind (fn_M_sign o (93 : Int32) s_34) fun s36 =>
                            px_let (hp_s s36 o 8 ((s36 o 8) - (1 : Int32))) fun s37 =>
                            j21 s37
                          )
                          FU s28
                      ) else (
                        j21 s16
                      )
                  ) fun j38 =>
                    if v1_3 = (3 : Int32) then (
                      Option.bind (px_ald s15 (sh_rf o 12) (2 : Int32)) fun z39 =>
                      px_b2 (fn_M_number o (0 : Int32) (z39 - (1 : Int32)) s15) fun z40 s41 =>
                      Option.bind (px_ast s41 z8 (2 : Int32) z40) fun s42 =>
                      j38 s42
                    ) else (
                      j38 s15
                    )
                ) fun j43 =>
                  if v1_3 = (2 : Int32) then (
                    px_b2 (fn_M_number o (1 : Int32) (60 : Int32) s14) fun z44 s45 =>
                    Option.bind (px_ast s45 z8 (2 : Int32) z44) fun s46 =>
                    j43 s46
                  ) else (
                    j43 s14
                  )
              ) fun j47 =>
                if v1_3 < (2 : Int32) then (
                  Option.bind (px_ald s13 (sh_rf o 12) (0 : Int32)) fun z48 =>
                  px_b2 (fn_M_number o (0 : Int32) (z48 - (1 : Int32)) s13) fun z49 s50 =>
                  Option.bind (px_ast s50 z8 (2 : Int32) z49) fun s51 =>
                  j47 s51
                ) else (
                  j47 s13
                )
            ) fun j52 =>
              if v1_3 = (4 : Int32) then (
                Option.bind (px_ald s12 (sh_rf o 12) (1 : Int32)) fun z53 =>
                px_b2 (fn_M_number o (0 : Int32) (z53 - (1 : Int32)) s12) fun z54 s55 =>
                Option.bind (px_ast s55 z8 (1 : Int32) z54) fun s56 =>
                j52 s56
              ) else (
                j52 s12
              )
          ) fun j57 =>
            if v1_3 = (1 : Int32) then (
              Option.bind (px_ald s11 (sh_rf o 12) (3 : Int32)) fun z58 =>
              px_b2 (fn_M_number o (0 : Int32) (z58 - (1 : Int32)) s11) fun z59 s60 =>
              Option.bind (px_ast s60 z8 (1 : Int32) z59) fun s61 =>
              j57 s61
            ) else (
              j57 s11
            )
        ) fun j62 =>
          px_jn (
            Option.bind (px_ald s10 (sh_rf o 12) (2 : Int32)) fun z63 =>
            px_b2 (fn_M_number o (0 : Int32) (z63 - (1 : Int32)) s10) fun z64 s65 =>
            Option.bind (px_ast s65 z8 (1 : Int32) z64) fun s66 =>
            j62 s66
          ) fun j67 =>
            if v1_3 = 0 then (
              j67
            ) else (
              if v1_3 = (2 : Int32) then (
                j67
              ) else (
                if v1_3 = (3 : Int32) then (
                  j67
                ) else (
                  j62 s10
                )
              )
            )
      ) else (
        some s5
      )
    ) fun j68 =>
      if v1_3 = (6 : Int32) then (
        px_b2 (fn_M_opensOne o s4) fun z69 s70 =>
        if z69 = 0 then (
          some s70
        ) else (
          j68 s70
        )
      ) else (
        j68 s4
      )
  ) fun j71 =>
    if v1_3 = (-1 : Int32) then (
      Option.bind (fn_M_wrong o (1 : Int32) (s2 o 4) s2) fun s73 =>
      j71 s73
    ) else (
      j71 s2
    )
set_option maxHeartbeats 4000000 in
set_option maxRecDepth 100000 in
theorem pf_M_readsStep_L224 {G : wd_G} {M : wd_M} (n0 : Nat) (hn0 : 5 ≤ n0) (r_M_readsStep : Nat → hp_I → Option (hp_I)) (hr_M_readsStep : ∀ (l : Launch) (o : Nat) (ho : sh_kd o = 12) (σ : hp_I) (τ : hp_L), cl_C G l n0 yX12_readsStep cX12_readsStep 3 none [.ref (wd_b G + o)] σ τ (ci_h τ) (r_M_readsStep o σ)) (C : cx_C G M RX12 cX12_readsStep 3 (n0 + 1) none) (a0 : Nat) (ha0 : sh_kd a0 = 12) (a2 : Nat) (ha2 : sh_kd a2 = 13)  (τ : hp_L) (k : hp_I → Option (hp_I)) (hk : ∀ (s : hp_I), dn_D G M 3 0 0 (cl_M G M (ci_h τ)) 255 [(0, .ref (wd_b G + a0)), (2, .ref (wd_b G + a2))] [] s τ (k s)) : ∀ (fu : Nat) (s0 : hp_I), dn_D G M 3 0 0 (cl_M G M (ci_h τ)) 224 [(0, .ref (wd_b G + a0)), (2, .ref (wd_b G + a2))] [] s0 τ (bd_M_readsStep_L224 r_M_readsStep a0 a2 k fu s0) := by
  intro fu
  induction fu with
  | zero => exact fun s0 => dn_none
  | succ fu ih =>
    intro s0
    unfold bd_M_readsStep_L224
    refine dn_aload_n C dX12_readsStep_224 rfl 0 rfl rfl ?_
    refine dn_getI C fd_X12_109 ha0 dX12_readsStep_225 rfl ?_
    refine dn_if_ne (t := 255) C dX12_readsStep_228 (by decide) rfl ?_ ?_
    · refine dn_aload_n C dX12_readsStep_231 rfl 0 rfl rfl ?_
      refine dn_aload_n C dX12_readsStep_232 rfl 0 rfl rfl ?_
      refine dn_getI C fd_X12_102 ha0 dX12_readsStep_233 rfl ?_
      refine dn_callV_i (As := [.int (s0 a0 4)]) (st := []) C (ok_M_byteAt (cx_g C) a0 ha0 (s0 a0 4) s0 τ) mt_X12_byteAt mv_X12_byteAt lk_X12_105 (by omega) ha0 rfl ⟨Nat.zero_le _, Nat.zero_le _⟩ (Nat.le_of_ble_eq_true rfl) dX12_readsStep_236 rfl rfl (fun z29 => ?_)
      refine dn_bipush C dX12_readsStep_239 ic_b_93 rfl ?_
      refine dn_icmp_eq (t := 255) C dX12_readsStep_241 (by decide) rfl ?_ ?_
      · exact hk s0
      · refine dn_aload_n C dX12_readsStep_244 rfl 0 rfl rfl ?_
        refine dn_callV_h (As := []) (st := []) C (hr_M_readsStep (mx_L M) a0 ha0 s0 τ) mt_X12_readsStep mv_X12_readsStep lk_X12_248 (by omega) ha0 rfl ⟨Nat.zero_le _, Nat.zero_le _⟩ (Nat.le_of_ble_eq_true rfl) dX12_readsStep_245 rfl rfl (fun s31 => ?_)
        refine dn_aload_n C dX12_readsStep_248 rfl 0 rfl rfl ?_
        refine dn_callV_h (As := []) (st := []) C (ok_M_blanks (cx_g C) a0 ha0 s31 τ) mt_X12_blanks mv_X12_blanks lk_X12_115 (by omega) ha0 rfl ⟨Nat.zero_le _, Nat.zero_le _⟩ (Nat.le_of_ble_eq_true rfl) dX12_readsStep_249 rfl rfl (fun s33 => ?_)
        refine dn_goto (t := 224) C dX12_readsStep_252 (by decide) ?_
        exact ih s33
    · exact hk s0
set_option maxHeartbeats 4000000 in
set_option maxRecDepth 100000 in
theorem ob_M_readsStep {G : wd_G} {l : Launch} (hN : gd_ok G) (n0 : Nat) (hn0 : 5 ≤ n0) (r_M_readsStep : Nat → hp_I → Option (hp_I)) (hr_M_readsStep : ∀ (l : Launch) (o : Nat) (ho : sh_kd o = 12) (σ : hp_I) (τ : hp_L), cl_C G l n0 yX12_readsStep cX12_readsStep 3 none [.ref (wd_b G + o)] σ τ (ci_h τ) (r_M_readsStep o σ)) (o : Nat) (ho : sh_kd o = 12) (σ : hp_I) (τ : hp_L) : cl_C G l (n0 + 1) yX12_readsStep cX12_readsStep 3 none [.ref (wd_b G + o)] σ τ (ci_h τ) (bd_M_readsStep r_M_readsStep o σ) := by
  refine cl_of (lv0 := [(0, .ref (wd_b G + o))]) (ci_h τ) (by decide) (Nat.le_of_ble_eq_true rfl) rfl hN (fun M hM C => ?_)
  have C : cx_C G M RX12 cX12_readsStep 3 (n0 + 1) none := C
  unfold bd_M_readsStep
  refine dn_aload_n C dX12_readsStep_0 rfl 0 rfl rfl ?_
  refine dn_callV_ih (As := []) (st := []) C (ok_M_stepHere (cx_g C) o ho σ τ) mt_X12_stepHere mv_X12_stepHere lk_X12_242 (by omega) ho rfl ⟨Nat.zero_le _, Nat.zero_le _⟩ (Nat.le_of_ble_eq_true rfl) dX12_readsStep_1 rfl rfl (fun z1 s2 => ?_)
  refine dn_istore_n (lv0 := [(0, .ref (wd_b G + o))]) C dX12_readsStep_4 rfl (by decide) rfl rfl (fun v1_3 => ?_)
  refine dn_iload_n C dX12_readsStep_5 rfl 0 rfl rfl ?_
  refine dn_iconst C dX12_readsStep_6 ic_i_m1 rfl ?_
  refine dn_jn (fun z => ∀ (s4 : hp_I), dn_D G M 3 0 0 (cl_M G M (ci_h τ)) 19 [(0, .ref (wd_b G + o)), (1, .int v1_3)] [] s4 τ (z s4)) (fun s4 => ?_) (fun j71 hj71 => ?_)
  · refine dn_iload_n C dX12_readsStep_19 rfl 1 rfl rfl ?_
    refine dn_bipush C dX12_readsStep_20 ic_b_6 rfl ?_
    refine dn_jn (fun z => ∀ (s5 : hp_I), dn_D G M 3 0 0 (cl_M G M (ci_h τ)) 33 [(0, .ref (wd_b G + o)), (1, .int v1_3)] [] s5 τ (z s5)) (fun s5 => ?_) (fun j68 hj68 => ?_)
    · refine dn_aload_n C dX12_readsStep_33 rfl 0 rfl rfl ?_
      refine dn_getI C fd_X12_109 ho dX12_readsStep_34 rfl ?_
      refine dn_if_eq (t := 41) C dX12_readsStep_37 (by decide) rfl ?_ ?_
      · refine dn_aload_n C dX12_readsStep_41 rfl 0 rfl rfl ?_
        refine dn_callV_h (As := []) (st := []) C (ok_M_skipWord (cx_g C) o ho s5 τ) mt_X12_skipWord mv_X12_skipWord lk_X12_146 (by omega) ho rfl ⟨Nat.zero_le _, Nat.zero_le _⟩ (Nat.le_of_ble_eq_true rfl) dX12_readsStep_42 rfl rfl (fun s7 => ?_)
        refine dn_aload_n C dX12_readsStep_45 rfl 0 rfl rfl ?_
        refine dn_getR C fd_X12_52 ho dX12_readsStep_46 rfl ?_
        refine dn_aload_n C dX12_readsStep_49 rfl 0 rfl rfl ?_
        refine dn_getI C fd_X12_245 ho dX12_readsStep_50 rfl ?_
        refine dn_aald C (kt_12_23 ho) dX12_readsStep_53 rfl (fun z8 hz8 => ?_)
        refine dn_astore_n (lv0 := [(0, .ref (wd_b G + o)), (1, .int v1_3)]) C dX12_readsStep_54 rfl (by decide) rfl rfl ?_
        refine dn_aload_n C dX12_readsStep_55 rfl 1 rfl rfl ?_
        refine dn_dup C dX12_readsStep_56 rfl rfl ?_
        refine dn_getI C fd_X12_245 ho dX12_readsStep_57 rfl ?_
        refine dn_iconst C dX12_readsStep_60 ic_i_1 rfl ?_
        refine dn_iadd C dX12_readsStep_61 rfl ?_
        refine dn_putI C fp_X12_245 ho dX12_readsStep_62 rfl (fun s9 => ?_)
        refine dn_aload_n C dX12_readsStep_65 rfl 0 rfl rfl ?_
        refine dn_iconst C dX12_readsStep_66 ic_i_0 rfl ?_
        refine dn_iload_n C dX12_readsStep_67 rfl 2 rfl rfl ?_
        refine dn_iast C (kt_row (kt_12_23 ho) hz8) dX12_readsStep_68 rfl (fun s10 => ?_)
        refine dn_iload_n C dX12_readsStep_69 rfl 2 rfl rfl ?_
        refine dn_jn (fun z => ∀ (s11 : hp_I), dn_D G M 3 0 0 (cl_M G M (ci_h τ)) 99 [(0, .ref (wd_b G + o)), (1, .int v1_3), (2, .ref (wd_b G + z8))] [] s11 τ (z s11)) (fun s11 => ?_) (fun j62 hj62 => ?_)
        · refine dn_iload_n C dX12_readsStep_99 rfl 1 rfl rfl ?_
          refine dn_iconst C dX12_readsStep_100 ic_i_1 rfl ?_
          refine dn_jn (fun z => ∀ (s12 : hp_I), dn_D G M 3 0 0 (cl_M G M (ci_h τ)) 120 [(0, .ref (wd_b G + o)), (1, .int v1_3), (2, .ref (wd_b G + z8))] [] s12 τ (z s12)) (fun s12 => ?_) (fun j57 hj57 => ?_)
          · refine dn_iload_n C dX12_readsStep_120 rfl 1 rfl rfl ?_
            refine dn_iconst C dX12_readsStep_121 ic_i_4 rfl ?_
            refine dn_jn (fun z => ∀ (s13 : hp_I), dn_D G M 3 0 0 (cl_M G M (ci_h τ)) 141 [(0, .ref (wd_b G + o)), (1, .int v1_3), (2, .ref (wd_b G + z8))] [] s13 τ (z s13)) (fun s13 => ?_) (fun j52 hj52 => ?_)
            · refine dn_iload_n C dX12_readsStep_141 rfl 1 rfl rfl ?_
              refine dn_iconst C dX12_readsStep_142 ic_i_2 rfl ?_
              refine dn_jn (fun z => ∀ (s14 : hp_I), dn_D G M 3 0 0 (cl_M G M (ci_h τ)) 162 [(0, .ref (wd_b G + o)), (1, .int v1_3), (2, .ref (wd_b G + z8))] [] s14 τ (z s14)) (fun s14 => ?_) (fun j47 hj47 => ?_)
              · refine dn_iload_n C dX12_readsStep_162 rfl 1 rfl rfl ?_
                refine dn_iconst C dX12_readsStep_163 ic_i_2 rfl ?_
                refine dn_jn (fun z => ∀ (s15 : hp_I), dn_D G M 3 0 0 (cl_M G M (ci_h τ)) 177 [(0, .ref (wd_b G + o)), (1, .int v1_3), (2, .ref (wd_b G + z8))] [] s15 τ (z s15)) (fun s15 => ?_) (fun j43 hj43 => ?_)
                · refine dn_iload_n C dX12_readsStep_177 rfl 1 rfl rfl ?_
                  refine dn_iconst C dX12_readsStep_178 ic_i_3 rfl ?_
                  refine dn_jn (fun z => ∀ (s16 : hp_I), dn_D G M 3 0 0 (cl_M G M (ci_h τ)) 198 [(0, .ref (wd_b G + o)), (1, .int v1_3), (2, .ref (wd_b G + z8))] [] s16 τ (z s16)) (fun s16 => ?_) (fun j38 hj38 => ?_)
                  · refine dn_iload_n C dX12_readsStep_198 rfl 1 rfl rfl ?_
                    refine dn_bipush C dX12_readsStep_199 ic_b_6 rfl ?_
                    refine dn_jn (fun z => ∀ (s17 : hp_I), dn_D G M 3 0 0 (cl_M G M (ci_h τ)) 271 [(0, .ref (wd_b G + o)), (2, .ref (wd_b G + z8))] [] s17 τ (z s17)) (fun s17 => ?_) (fun j21 hj21 => ?_)
                    · refine dn_aload_n C dX12_readsStep_271 rfl 1 rfl rfl ?_
                      refine dn_iconst C dX12_readsStep_272 ic_i_3 rfl ?_
                      refine dn_aload_n C dX12_readsStep_273 rfl 0 rfl rfl ?_
                      refine dn_getI C fd_X12_245 ho dX12_readsStep_274 rfl ?_
                      refine dn_iast C (kt_row (kt_12_23 ho) hz8) dX12_readsStep_277 rfl (fun s18 => ?_)
                      refine dn_aload_n C dX12_readsStep_278 rfl 0 rfl rfl ?_
                      refine dn_bipush C dX12_readsStep_279 ic_b_59 rfl ?_
                      refine dn_callV_h (As := [.int (59 : Int32)]) (st := []) C (ok_M_sign (cx_g C) o ho (59 : Int32) s18 τ) mt_X12_sign mv_X12_sign lk_X12_168 (by omega) ho rfl ⟨Nat.zero_le _, Nat.zero_le _⟩ (Nat.le_of_ble_eq_true rfl) dX12_readsStep_281 rfl rfl (fun s20 => ?_)
                      exact dn_vret C dX12_readsStep_284 rfl
                    · refine dn_icmp_ne (t := 271) C dX12_readsStep_201 (by decide) rfl ?_ ?_
                      · refine dn_aload_n C dX12_readsStep_204 rfl 2 rfl rfl ?_
                        refine dn_iconst C dX12_readsStep_205 ic_i_1 rfl ?_
                        refine dn_aload_n C dX12_readsStep_206 rfl 0 rfl rfl ?_
                        refine dn_iconst C dX12_readsStep_207 ic_i_0 rfl ?_
                        refine dn_bipush C dX12_readsStep_208 ic_b_60 rfl ?_
                        refine dn_callV_ih (As := [.int (0 : Int32), .int (60 : Int32)]) (st := [.int (1 : Int32), .ref (wd_b G + z8)]) C (ok_M_number (cx_g C) o ho (0 : Int32) (60 : Int32) s16 τ) mt_X12_number mv_X12_number lk_X12_165 (by omega) ho rfl ⟨Nat.zero_le _, Nat.zero_le _⟩ (Nat.le_of_ble_eq_true rfl) dX12_readsStep_210 rfl rfl (fun z22 s23 => ?_)
                        refine dn_iast C (kt_row (kt_12_23 ho) hz8) dX12_readsStep_213 rfl (fun s24 => ?_)
                        refine dn_aload_n C dX12_readsStep_214 rfl 0 rfl rfl ?_
                        refine dn_bipush C dX12_readsStep_215 ic_b_91 rfl ?_
                        refine dn_callV_h (As := [.int (91 : Int32)]) (st := []) C (ok_M_sign (cx_g C) o ho (91 : Int32) s24 τ) mt_X12_sign mv_X12_sign lk_X12_168 (by omega) ho rfl ⟨Nat.zero_le _, Nat.zero_le _⟩ (Nat.le_of_ble_eq_true rfl) dX12_readsStep_217 rfl rfl (fun s26 => ?_)
                        refine dn_aload_n C dX12_readsStep_220 rfl 0 rfl rfl ?_
                        refine dn_callV_h (As := []) (st := []) C (ok_M_blanks (cx_g C) o ho s26 τ) mt_X12_blanks mv_X12_blanks lk_X12_115 (by omega) ho rfl ⟨Nat.zero_le _, Nat.zero_le _⟩ (Nat.le_of_ble_eq_true rfl) dX12_readsStep_221 rfl rfl (fun s28 => ?_)
                        refine dn_pick [0, 2] rfl ?_
                        refine pf_M_readsStep_L224 n0 hn0 r_M_readsStep hr_M_readsStep C  o ho z8 (kt_row (kt_12_23 ho) hz8)  τ _ (fun s_34 => ?_) FU s28
                        refine dn_aload_n C dX12_readsStep_255 rfl 0 rfl rfl ?_
                        refine dn_bipush C dX12_readsStep_256 ic_b_93 rfl ?_
                        refine dn_callV_h (As := [.int (93 : Int32)]) (st := []) C (ok_M_sign (cx_g C) o ho (93 : Int32) s_34 τ) mt_X12_sign mv_X12_sign lk_X12_168 (by omega) ho rfl ⟨Nat.zero_le _, Nat.zero_le _⟩ (Nat.le_of_ble_eq_true rfl) dX12_readsStep_258 rfl rfl (fun s36 => ?_)
                        refine dn_aload_n C dX12_readsStep_261 rfl 0 rfl rfl ?_
                        refine dn_dup C dX12_readsStep_262 rfl rfl ?_
                        refine dn_getI C fd_X12_152 ho dX12_readsStep_263 rfl ?_
                        refine dn_iconst C dX12_readsStep_266 ic_i_1 rfl ?_
                        refine dn_isub C dX12_readsStep_267 rfl ?_
                        refine dn_putI C fp_X12_152 ho dX12_readsStep_268 rfl (fun s37 => ?_)
                        exact hj21 s37
                      · refine dn_pick [0, 2] rfl ?_
                        exact hj21 s16
                  · refine dn_icmp_ne (t := 198) C dX12_readsStep_179 (by decide) rfl ?_ ?_
                    · refine dn_aload_n C dX12_readsStep_182 rfl 2 rfl rfl ?_
                      refine dn_iconst C dX12_readsStep_183 ic_i_2 rfl ?_
                      refine dn_aload_n C dX12_readsStep_184 rfl 0 rfl rfl ?_
                      refine dn_iconst C dX12_readsStep_185 ic_i_0 rfl ?_
                      refine dn_aload_n C dX12_readsStep_186 rfl 0 rfl rfl ?_
                      refine dn_getR C fd_X12_23 ho dX12_readsStep_187 rfl ?_
                      refine dn_iconst C dX12_readsStep_190 ic_i_2 rfl ?_
                      refine dn_iald C (kt_12_12 ho) dX12_readsStep_191 rfl (fun z39 => ?_)
                      refine dn_iconst C dX12_readsStep_192 ic_i_1 rfl ?_
                      refine dn_isub C dX12_readsStep_193 rfl ?_
                      refine dn_callV_ih (As := [.int (0 : Int32), .int (z39 - (1 : Int32))]) (st := [.int (2 : Int32), .ref (wd_b G + z8)]) C (ok_M_number (cx_g C) o ho (0 : Int32) (z39 - (1 : Int32)) s15 τ) mt_X12_number mv_X12_number lk_X12_165 (by omega) ho rfl ⟨Nat.zero_le _, Nat.zero_le _⟩ (Nat.le_of_ble_eq_true rfl) dX12_readsStep_194 rfl rfl (fun z40 s41 => ?_)
                      refine dn_iast C (kt_row (kt_12_23 ho) hz8) dX12_readsStep_197 rfl (fun s42 => ?_)
                      exact hj38 s42
                    · exact hj38 s15
                · refine dn_icmp_ne (t := 177) C dX12_readsStep_164 (by decide) rfl ?_ ?_
                  · refine dn_aload_n C dX12_readsStep_167 rfl 2 rfl rfl ?_
                    refine dn_iconst C dX12_readsStep_168 ic_i_2 rfl ?_
                    refine dn_aload_n C dX12_readsStep_169 rfl 0 rfl rfl ?_
                    refine dn_iconst C dX12_readsStep_170 ic_i_1 rfl ?_
                    refine dn_bipush C dX12_readsStep_171 ic_b_60 rfl ?_
                    refine dn_callV_ih (As := [.int (1 : Int32), .int (60 : Int32)]) (st := [.int (2 : Int32), .ref (wd_b G + z8)]) C (ok_M_number (cx_g C) o ho (1 : Int32) (60 : Int32) s14 τ) mt_X12_number mv_X12_number lk_X12_165 (by omega) ho rfl ⟨Nat.zero_le _, Nat.zero_le _⟩ (Nat.le_of_ble_eq_true rfl) dX12_readsStep_173 rfl rfl (fun z44 s45 => ?_)
                    refine dn_iast C (kt_row (kt_12_23 ho) hz8) dX12_readsStep_176 rfl (fun s46 => ?_)
                    exact hj43 s46
                  · exact hj43 s14
              · refine dn_icmp_ge (t := 162) C dX12_readsStep_143 (by decide) rfl ?_ ?_
                · refine dn_aload_n C dX12_readsStep_146 rfl 2 rfl rfl ?_
                  refine dn_iconst C dX12_readsStep_147 ic_i_2 rfl ?_
                  refine dn_aload_n C dX12_readsStep_148 rfl 0 rfl rfl ?_
                  refine dn_iconst C dX12_readsStep_149 ic_i_0 rfl ?_
                  refine dn_aload_n C dX12_readsStep_150 rfl 0 rfl rfl ?_
                  refine dn_getR C fd_X12_23 ho dX12_readsStep_151 rfl ?_
                  refine dn_iconst C dX12_readsStep_154 ic_i_0 rfl ?_
                  refine dn_iald C (kt_12_12 ho) dX12_readsStep_155 rfl (fun z48 => ?_)
                  refine dn_iconst C dX12_readsStep_156 ic_i_1 rfl ?_
                  refine dn_isub C dX12_readsStep_157 rfl ?_
                  refine dn_callV_ih (As := [.int (0 : Int32), .int (z48 - (1 : Int32))]) (st := [.int (2 : Int32), .ref (wd_b G + z8)]) C (ok_M_number (cx_g C) o ho (0 : Int32) (z48 - (1 : Int32)) s13 τ) mt_X12_number mv_X12_number lk_X12_165 (by omega) ho rfl ⟨Nat.zero_le _, Nat.zero_le _⟩ (Nat.le_of_ble_eq_true rfl) dX12_readsStep_158 rfl rfl (fun z49 s50 => ?_)
                  refine dn_iast C (kt_row (kt_12_23 ho) hz8) dX12_readsStep_161 rfl (fun s51 => ?_)
                  exact hj47 s51
                · exact hj47 s13
            · refine dn_icmp_ne (t := 141) C dX12_readsStep_122 (by decide) rfl ?_ ?_
              · refine dn_aload_n C dX12_readsStep_125 rfl 2 rfl rfl ?_
                refine dn_iconst C dX12_readsStep_126 ic_i_1 rfl ?_
                refine dn_aload_n C dX12_readsStep_127 rfl 0 rfl rfl ?_
                refine dn_iconst C dX12_readsStep_128 ic_i_0 rfl ?_
                refine dn_aload_n C dX12_readsStep_129 rfl 0 rfl rfl ?_
                refine dn_getR C fd_X12_23 ho dX12_readsStep_130 rfl ?_
                refine dn_iconst C dX12_readsStep_133 ic_i_1 rfl ?_
                refine dn_iald C (kt_12_12 ho) dX12_readsStep_134 rfl (fun z53 => ?_)
                refine dn_iconst C dX12_readsStep_135 ic_i_1 rfl ?_
                refine dn_isub C dX12_readsStep_136 rfl ?_
                refine dn_callV_ih (As := [.int (0 : Int32), .int (z53 - (1 : Int32))]) (st := [.int (1 : Int32), .ref (wd_b G + z8)]) C (ok_M_number (cx_g C) o ho (0 : Int32) (z53 - (1 : Int32)) s12 τ) mt_X12_number mv_X12_number lk_X12_165 (by omega) ho rfl ⟨Nat.zero_le _, Nat.zero_le _⟩ (Nat.le_of_ble_eq_true rfl) dX12_readsStep_137 rfl rfl (fun z54 s55 => ?_)
                refine dn_iast C (kt_row (kt_12_23 ho) hz8) dX12_readsStep_140 rfl (fun s56 => ?_)
                exact hj52 s56
              · exact hj52 s12
          · refine dn_icmp_ne (t := 120) C dX12_readsStep_101 (by decide) rfl ?_ ?_
            · refine dn_aload_n C dX12_readsStep_104 rfl 2 rfl rfl ?_
              refine dn_iconst C dX12_readsStep_105 ic_i_1 rfl ?_
              refine dn_aload_n C dX12_readsStep_106 rfl 0 rfl rfl ?_
              refine dn_iconst C dX12_readsStep_107 ic_i_0 rfl ?_
              refine dn_aload_n C dX12_readsStep_108 rfl 0 rfl rfl ?_
              refine dn_getR C fd_X12_23 ho dX12_readsStep_109 rfl ?_
              refine dn_iconst C dX12_readsStep_112 ic_i_3 rfl ?_
              refine dn_iald C (kt_12_12 ho) dX12_readsStep_113 rfl (fun z58 => ?_)
              refine dn_iconst C dX12_readsStep_114 ic_i_1 rfl ?_
              refine dn_isub C dX12_readsStep_115 rfl ?_
              refine dn_callV_ih (As := [.int (0 : Int32), .int (z58 - (1 : Int32))]) (st := [.int (1 : Int32), .ref (wd_b G + z8)]) C (ok_M_number (cx_g C) o ho (0 : Int32) (z58 - (1 : Int32)) s11 τ) mt_X12_number mv_X12_number lk_X12_165 (by omega) ho rfl ⟨Nat.zero_le _, Nat.zero_le _⟩ (Nat.le_of_ble_eq_true rfl) dX12_readsStep_116 rfl rfl (fun z59 s60 => ?_)
              refine dn_iast C (kt_row (kt_12_23 ho) hz8) dX12_readsStep_119 rfl (fun s61 => ?_)
              exact hj57 s61
            · exact hj57 s11
        · refine dn_jn (fun z => dn_D G M 3 0 0 (cl_M G M (ci_h τ)) 83 [(0, .ref (wd_b G + o)), (1, .int v1_3), (2, .ref (wd_b G + z8))] [] s10 τ z) ?_ (fun j67 hj67 => ?_)
          · refine dn_aload_n C dX12_readsStep_83 rfl 2 rfl rfl ?_
            refine dn_iconst C dX12_readsStep_84 ic_i_1 rfl ?_
            refine dn_aload_n C dX12_readsStep_85 rfl 0 rfl rfl ?_
            refine dn_iconst C dX12_readsStep_86 ic_i_0 rfl ?_
            refine dn_aload_n C dX12_readsStep_87 rfl 0 rfl rfl ?_
            refine dn_getR C fd_X12_23 ho dX12_readsStep_88 rfl ?_
            refine dn_iconst C dX12_readsStep_91 ic_i_2 rfl ?_
            refine dn_iald C (kt_12_12 ho) dX12_readsStep_92 rfl (fun z63 => ?_)
            refine dn_iconst C dX12_readsStep_93 ic_i_1 rfl ?_
            refine dn_isub C dX12_readsStep_94 rfl ?_
            refine dn_callV_ih (As := [.int (0 : Int32), .int (z63 - (1 : Int32))]) (st := [.int (1 : Int32), .ref (wd_b G + z8)]) C (ok_M_number (cx_g C) o ho (0 : Int32) (z63 - (1 : Int32)) s10 τ) mt_X12_number mv_X12_number lk_X12_165 (by omega) ho rfl ⟨Nat.zero_le _, Nat.zero_le _⟩ (Nat.le_of_ble_eq_true rfl) dX12_readsStep_95 rfl rfl (fun z64 s65 => ?_)
            refine dn_iast C (kt_row (kt_12_23 ho) hz8) dX12_readsStep_98 rfl (fun s66 => ?_)
            exact hj62 s66
          · refine dn_if_eq (t := 83) C dX12_readsStep_70 (by decide) rfl ?_ ?_
            · refine dn_pick [1, 2, 0] rfl ?_
              exact hj67
            · refine dn_iload_n C dX12_readsStep_73 rfl 2 rfl rfl ?_
              refine dn_iconst C dX12_readsStep_74 ic_i_2 rfl ?_
              refine dn_icmp_eq (t := 83) C dX12_readsStep_75 (by decide) rfl ?_ ?_
              · refine dn_pick [1, 2, 0] rfl ?_
                exact hj67
              · refine dn_iload_n C dX12_readsStep_78 rfl 2 rfl rfl ?_
                refine dn_iconst C dX12_readsStep_79 ic_i_3 rfl ?_
                refine dn_icmp_ne (t := 99) C dX12_readsStep_80 (by decide) rfl ?_ ?_
                · refine dn_pick [1, 2, 0] rfl ?_
                  exact hj67
                · refine dn_pick [1, 2, 0] rfl ?_
                  exact hj62 s10
      · exact dn_vret C dX12_readsStep_40 rfl
    · refine dn_icmp_ne (t := 33) C dX12_readsStep_22 (by decide) rfl ?_ ?_
      · refine dn_aload_n C dX12_readsStep_25 rfl 0 rfl rfl ?_
        refine dn_callV_ih (As := []) (st := []) C (ok_M_opensOne (cx_g C) o ho s4 τ) mt_X12_opensOne mv_X12_opensOne lk_X12_222 (by omega) ho rfl ⟨Nat.zero_le _, Nat.zero_le _⟩ (Nat.le_of_ble_eq_true rfl) dX12_readsStep_26 rfl rfl (fun z69 s70 => ?_)
        refine dn_if_ne (t := 33) C dX12_readsStep_29 (by decide) rfl ?_ ?_
        · exact dn_vret C dX12_readsStep_32 rfl
        · exact hj68 s70
      · exact hj68 s4
  · refine dn_icmp_ne (t := 19) C dX12_readsStep_7 (by decide) rfl ?_ ?_
    · refine dn_aload_n C dX12_readsStep_10 rfl 1 rfl rfl ?_
      refine dn_iconst C dX12_readsStep_11 ic_i_1 rfl ?_
      refine dn_aload_n C dX12_readsStep_12 rfl 1 rfl rfl ?_
      refine dn_getI C fd_X12_102 ho dX12_readsStep_13 rfl ?_
      refine dn_callV_h (As := [.int (1 : Int32), .int (s2 o 4)]) (st := []) C (ok_M_wrong (cx_g C) o ho (1 : Int32) (s2 o 4) s2 τ) mt_X12_wrong mv_X12_wrong lk_X12_122 (by omega) ho rfl ⟨Nat.zero_le _, Nat.zero_le _⟩ (Nat.le_of_ble_eq_true rfl) dX12_readsStep_16 rfl rfl (fun s73 => ?_)
      refine dn_pick [1, 0] rfl ?_
      exact hj71 s73
    · refine dn_pick [1, 0] rfl ?_
      exact hj71 s2
def gr_M_readsStep : Nat → (Nat → hp_I → Option (hp_I))
  | 0 => (fun _ _ => none)
  | d + 1 => bd_M_readsStep (gr_M_readsStep d)
def fn_M_readsStep (o : Nat) (σ : hp_I) : Option (hp_I) := (gr_M_readsStep 64) o σ
theorem og_M_readsStep {G : wd_G} (hN : gd_ok G) : ∀ d : Nat, (∀ (l : Launch) (o : Nat) (ho : sh_kd o = 12) (σ : hp_I) (τ : hp_L), cl_C G l (5 + d) yX12_readsStep cX12_readsStep 3 none [.ref (wd_b G + o)] σ τ (ci_h τ) ((gr_M_readsStep d) o σ)) := by
  intro d
  induction d with
  | zero => exact fun l o ho σ τ r hr => nomatch (show none = some r from hr)
  | succ d ih =>
    have h0 := ih
    exact fun l o ho σ τ => ob_M_readsStep hN (5 + d) (by omega) _ h0 o ho σ τ
theorem ok_M_readsStep {G : wd_G} {l : Launch} (hN : gd_ok G) (o : Nat) (ho : sh_kd o = 12) (σ : hp_I) (τ : hp_L) : cl_C G l 69 yX12_readsStep cX12_readsStep 3 none [.ref (wd_b G + o)] σ τ (ci_h τ) (fn_M_readsStep o σ) := (og_M_readsStep hN 64) l o ho σ τ
def fn_M_hunt  (o : Nat) (p1 : Int32) (σ : hp_I) : Option (Int32 × hp_I) :=
  px_let (hp_s σ o 0 (0 : Int32)) fun s1 =>
  Option.bind (fn_M_in p1 (0 : Int32) (1 : Int32)) fun z2 =>
  px_jn (fun (t3 : Int32) =>
    px_b2 (fn_M_bad o t3 (1 : Int32) (1 : Int32) s1) fun z4 s5 =>
    if z4 = 0 then (
      Option.bind (fn_M_laysHunt o s5) fun s7 =>
      px_jn (fun (t8 : Int32) =>
        some (t8, s7)
      ) fun j9 =>
        if p1 = 0 then (
          j9 (s7 o 41)
        ) else (
          j9 (s7 o 42)
        )
    ) else (
      some ((0 : Int32), s5)
    )
  ) fun j10 =>
    if z2 = 0 then (
      j10 (1 : Int32)
    ) else (
      j10 (0 : Int32)
    )
set_option maxHeartbeats 4000000 in
set_option maxRecDepth 100000 in
theorem ok_M_hunt {G : wd_G} {l : Launch} (hN : gd_ok G)  (o : Nat) (ho : sh_kd o = 12) (p1 : Int32) (σ : hp_I) (τ : hp_L) : cl_C G l 70 yX12_hunt cX12_hunt 2 (some .int) [.ref (wd_b G + o), .int p1] σ τ (ci_ih τ) (fn_M_hunt o p1 σ) := by
  refine cl_of (lv0 := [(0, .ref (wd_b G + o)), (1, .int p1)]) (ci_ih τ) (by decide) (Nat.le_of_ble_eq_true rfl) rfl hN (fun M hM C => ?_)
  have C : cx_C G M RX12 cX12_hunt 2 70 (some .int) := C
  unfold fn_M_hunt
  refine dn_aload_n C dX12_hunt_0 rfl 0 rfl rfl ?_
  refine dn_iconst C dX12_hunt_1 ic_i_0 rfl ?_
  refine dn_putI C fp_X12_93 ho dX12_hunt_2 rfl (fun s1 => ?_)
  refine dn_aload_n C dX12_hunt_5 rfl 0 rfl rfl ?_
  refine dn_iload_n C dX12_hunt_6 rfl 1 rfl rfl ?_
  refine dn_iconst C dX12_hunt_7 ic_i_0 rfl ?_
  refine dn_iconst C dX12_hunt_8 ic_i_1 rfl ?_
  refine dn_callS_i (As := [.int p1, .int (0 : Int32), .int (1 : Int32)]) (st := [.ref (wd_b G + o)]) C (ok_M_in (cx_g C) p1 (0 : Int32) (1 : Int32) s1 τ) mt_X12_in ms_X12_in lk_X12_127 (by decide) rfl ⟨Nat.zero_le _, Nat.zero_le _⟩ (Nat.le_of_ble_eq_true rfl) dX12_hunt_9 rfl rfl (fun z2 => ?_)
  refine dn_jn (fun z => ∀ (t3 : Int32), dn_D G M 2 0 0 (cl_M G M (ci_ih τ)) 20 [(0, .ref (wd_b G + o)), (1, .int p1)] [.int t3, .ref (wd_b G + o)] s1 τ (z t3)) (fun t3 => ?_) (fun j10 hj10 => ?_)
  · refine dn_iconst C dX12_hunt_20 ic_i_1 rfl ?_
    refine dn_iconst C dX12_hunt_21 ic_i_1 rfl ?_
    refine dn_callV_ih (As := [.int t3, .int (1 : Int32), .int (1 : Int32)]) (st := []) C (ok_M_bad (cx_g C) o ho t3 (1 : Int32) (1 : Int32) s1 τ) mt_X12_bad mv_X12_bad lk_X12_172 (by decide) ho rfl ⟨Nat.zero_le _, Nat.zero_le _⟩ (Nat.le_of_ble_eq_true rfl) dX12_hunt_22 rfl rfl (fun z4 s5 => ?_)
    refine dn_if_eq (t := 30) C dX12_hunt_25 (by decide) rfl ?_ ?_
    · refine dn_aload_n C dX12_hunt_30 rfl 0 rfl rfl ?_
      refine dn_callV_h (As := []) (st := []) C (ok_M_laysHunt (cx_g C) o ho s5 τ) mt_X12_laysHunt mv_X12_laysHunt lk_X12_359 (by decide) ho rfl ⟨Nat.zero_le _, Nat.zero_le _⟩ (Nat.le_of_ble_eq_true rfl) dX12_hunt_31 rfl rfl (fun s7 => ?_)
      refine dn_iload_n C dX12_hunt_34 rfl 1 rfl rfl ?_
      refine dn_jn (fun z => ∀ (t8 : Int32), dn_D G M 2 0 0 (cl_M G M (ci_ih τ)) 49 [] [.int t8] s7 τ (z t8)) (fun t8 => ?_) (fun j9 hj9 => ?_)
      · exact dn_iret C dX12_hunt_49 rfl
      · refine dn_if_ne (t := 45) C dX12_hunt_35 (by decide) rfl ?_ ?_
        · refine dn_aload_n C dX12_hunt_38 rfl 0 rfl rfl ?_
          refine dn_getI C fd_X12_349 ho dX12_hunt_39 rfl ?_
          refine dn_goto (t := 49) C dX12_hunt_42 (by decide) ?_
          refine dn_pick [] rfl ?_
          exact hj9 (s7 o 41)
        · refine dn_aload_n C dX12_hunt_45 rfl 0 rfl rfl ?_
          refine dn_getI C fd_X12_352 ho dX12_hunt_46 rfl ?_
          refine dn_pick [] rfl ?_
          exact hj9 (s7 o 42)
    · refine dn_iconst C dX12_hunt_28 ic_i_0 rfl ?_
      exact dn_iret C dX12_hunt_29 rfl
  · refine dn_if_ne (t := 19) C dX12_hunt_12 (by decide) rfl ?_ ?_
    · refine dn_iconst C dX12_hunt_15 ic_i_1 rfl ?_
      refine dn_goto (t := 20) C dX12_hunt_16 (by decide) ?_
      exact hj10 (1 : Int32)
    · refine dn_iconst C dX12_hunt_19 ic_i_0 rfl ?_
      exact hj10 (0 : Int32)
def bd_M_sum_L4 (r_M_product : Nat → hp_I → Option (hp_I)) (a0 : Nat) (k : hp_I → Option (hp_I)) : Nat → hp_I → Option (hp_I)
  | 0, _ => none
  | fu + 1, s0 =>
    if (s0 a0 5) = 0 then (
      px_b2 (fn_M_takesSign a0 (43 : Int32) s0) fun z3 s4 =>
      px_jn (fun (t5 : Int32) (s6 : hp_I) =>
        px_let t5 fun v1_7 =>
        if v1_7 = (-1 : Int32) then (
          some s6
        ) else (
          Option.bind (r_M_product a0 s6) fun s9 =>
          Option.bind (fn_M_notes a0 v1_7 (0 : Int32) s9) fun s11 =>
          bd_M_sum_L4 r_M_product a0 k fu s11
        )
      ) fun j12 =>
        if z3 = 0 then (
          px_b2 (fn_M_takesSign a0 (45 : Int32) s4) fun z13 s14 =>
          if z13 = 0 then (
            j12 (-1 : Int32) s14
          ) else (
            j12 (3 : Int32) s14
          )
        ) else (
          j12 (2 : Int32) s4
        )
    ) else (
      k s0
    )
def bd_M_sum (r_M_product : Nat → hp_I → Option (hp_I)) (o : Nat) (σ : hp_I) : Option (hp_I) :=
  Option.bind (r_M_product o σ) fun s2 =>
  bd_M_sum_L4 r_M_product o
    (fun (s_15 : hp_I) =>
      some s_15
    )
    FU s2
set_option maxHeartbeats 4000000 in
set_option maxRecDepth 100000 in
theorem pf_M_sum_L4 {G : wd_G} {M : wd_M} (n0 : Nat) (hn0 : 6 ≤ n0) (r_M_product : Nat → hp_I → Option (hp_I)) (hr_M_product : ∀ (l : Launch) (o : Nat) (ho : sh_kd o = 12) (σ : hp_I) (τ : hp_L), cl_C G l n0 yX12_product cX12_product 2 none [.ref (wd_b G + o)] σ τ (ci_h τ) (r_M_product o σ)) (C : cx_C G M RX12 cX12_sum 2 (n0 + 1) none) (a0 : Nat) (ha0 : sh_kd a0 = 12)  (τ : hp_L) (k : hp_I → Option (hp_I)) (hk : ∀ (s : hp_I), dn_D G M 2 0 0 (cl_M G M (ci_h τ)) 58 [] [] s τ (k s)) : ∀ (fu : Nat) (s0 : hp_I), dn_D G M 2 0 0 (cl_M G M (ci_h τ)) 4 [(0, .ref (wd_b G + a0))] [] s0 τ (bd_M_sum_L4 r_M_product a0 k fu s0) := by
  intro fu
  induction fu with
  | zero => exact fun s0 => dn_none
  | succ fu ih =>
    intro s0
    unfold bd_M_sum_L4
    refine dn_aload_n C dX12_sum_4 rfl 0 rfl rfl ?_
    refine dn_getI C fd_X12_109 ha0 dX12_sum_5 rfl ?_
    refine dn_if_ne (t := 58) C dX12_sum_8 (by decide) rfl ?_ ?_
    · refine dn_aload_n C dX12_sum_11 rfl 0 rfl rfl ?_
      refine dn_bipush C dX12_sum_12 ic_b_43 rfl ?_
      refine dn_callV_ih (As := [.int (43 : Int32)]) (st := []) C (ok_M_takesSign (cx_g C) a0 ha0 (43 : Int32) s0 τ) mt_X12_takesSign mv_X12_takesSign lk_X12_210 (by omega) ha0 rfl ⟨Nat.zero_le _, Nat.zero_le _⟩ (Nat.le_of_ble_eq_true rfl) dX12_sum_14 rfl rfl (fun z3 s4 => ?_)
      refine dn_jn (fun z => ∀ (t5 : Int32) (s6 : hp_I), dn_D G M 2 0 0 (cl_M G M (ci_h τ)) 38 [(0, .ref (wd_b G + a0))] [.int t5] s6 τ (z t5 s6)) (fun t5 s6 => ?_) (fun j12 hj12 => ?_)
      · refine dn_istore_n (lv0 := [(0, .ref (wd_b G + a0))]) C dX12_sum_38 rfl (by decide) rfl rfl (fun v1_7 => ?_)
        refine dn_iload_n C dX12_sum_39 rfl 0 rfl rfl ?_
        refine dn_iconst C dX12_sum_40 ic_i_m1 rfl ?_
        refine dn_icmp_ne (t := 45) C dX12_sum_41 (by decide) rfl ?_ ?_
        · exact dn_vret C dX12_sum_44 rfl
        · refine dn_aload_n C dX12_sum_45 rfl 1 rfl rfl ?_
          refine dn_callV_h (As := []) (st := []) C (hr_M_product (mx_L M) a0 ha0 s6 τ) mt_X12_product mv_X12_product lk_X12_207 (by omega) ha0 rfl ⟨Nat.zero_le _, Nat.zero_le _⟩ (Nat.le_of_ble_eq_true rfl) dX12_sum_46 rfl rfl (fun s9 => ?_)
          refine dn_aload_n C dX12_sum_49 rfl 1 rfl rfl ?_
          refine dn_iload_n C dX12_sum_50 rfl 0 rfl rfl ?_
          refine dn_iconst C dX12_sum_51 ic_i_0 rfl ?_
          refine dn_callV_h (As := [.int v1_7, .int (0 : Int32)]) (st := []) C (ok_M_notes (cx_g C) a0 ha0 v1_7 (0 : Int32) s9 τ) mt_X12_notes mv_X12_notes lk_X12_213 (by omega) ha0 rfl ⟨Nat.zero_le _, Nat.zero_le _⟩ (Nat.le_of_ble_eq_true rfl) dX12_sum_52 rfl rfl (fun s11 => ?_)
          refine dn_goto (t := 4) C dX12_sum_55 (by decide) ?_
          refine dn_pick [1] rfl ?_
          exact ih s11
      · refine dn_if_eq (t := 24) C dX12_sum_17 (by decide) rfl ?_ ?_
        · refine dn_aload_n C dX12_sum_24 rfl 0 rfl rfl ?_
          refine dn_bipush C dX12_sum_25 ic_b_45 rfl ?_
          refine dn_callV_ih (As := [.int (45 : Int32)]) (st := []) C (ok_M_takesSign (cx_g C) a0 ha0 (45 : Int32) s4 τ) mt_X12_takesSign mv_X12_takesSign lk_X12_210 (by omega) ha0 rfl ⟨Nat.zero_le _, Nat.zero_le _⟩ (Nat.le_of_ble_eq_true rfl) dX12_sum_27 rfl rfl (fun z13 s14 => ?_)
          refine dn_if_eq (t := 37) C dX12_sum_30 (by decide) rfl ?_ ?_
          · refine dn_iconst C dX12_sum_37 ic_i_m1 rfl ?_
            exact hj12 (-1 : Int32) s14
          · refine dn_iconst C dX12_sum_33 ic_i_3 rfl ?_
            refine dn_goto (t := 38) C dX12_sum_34 (by decide) ?_
            exact hj12 (3 : Int32) s14
        · refine dn_iconst C dX12_sum_20 ic_i_2 rfl ?_
          refine dn_goto (t := 38) C dX12_sum_21 (by decide) ?_
          exact hj12 (2 : Int32) s4
    · refine dn_pick [] rfl ?_
      exact hk s0
set_option maxHeartbeats 4000000 in
set_option maxRecDepth 100000 in
theorem ob_M_sum {G : wd_G} {l : Launch} (hN : gd_ok G) (n0 : Nat) (hn0 : 6 ≤ n0) (r_M_product : Nat → hp_I → Option (hp_I)) (hr_M_product : ∀ (l : Launch) (o : Nat) (ho : sh_kd o = 12) (σ : hp_I) (τ : hp_L), cl_C G l n0 yX12_product cX12_product 2 none [.ref (wd_b G + o)] σ τ (ci_h τ) (r_M_product o σ)) (o : Nat) (ho : sh_kd o = 12) (σ : hp_I) (τ : hp_L) : cl_C G l (n0 + 1) yX12_sum cX12_sum 2 none [.ref (wd_b G + o)] σ τ (ci_h τ) (bd_M_sum r_M_product o σ) := by
  refine cl_of (lv0 := [(0, .ref (wd_b G + o))]) (ci_h τ) (by decide) (Nat.le_of_ble_eq_true rfl) rfl hN (fun M hM C => ?_)
  have C : cx_C G M RX12 cX12_sum 2 (n0 + 1) none := C
  unfold bd_M_sum
  refine dn_aload_n C dX12_sum_0 rfl 0 rfl rfl ?_
  refine dn_callV_h (As := []) (st := []) C (hr_M_product (mx_L M) o ho σ τ) mt_X12_product mv_X12_product lk_X12_207 (by omega) ho rfl ⟨Nat.zero_le _, Nat.zero_le _⟩ (Nat.le_of_ble_eq_true rfl) dX12_sum_1 rfl rfl (fun s2 => ?_)
  refine pf_M_sum_L4 n0 hn0 r_M_product hr_M_product C  o ho  τ _ (fun s_15 => ?_) FU s2
  exact dn_vret C dX12_sum_58 rfl
def bd_M_product_L4 (r_M_one : Nat → hp_I → Option (hp_I)) (a0 : Nat) (k : hp_I → Option (hp_I)) : Nat → hp_I → Option (hp_I)
  | 0, _ => none
  | fu + 1, s0 =>
    if (s0 a0 5) = 0 then (
      px_b2 (fn_M_takesSign a0 (42 : Int32) s0) fun z3 s4 =>
      px_jn (fun (t5 : Int32) (s6 : hp_I) =>
        px_let t5 fun v1_7 =>
        if v1_7 = (-1 : Int32) then (
          some s6
        ) else (
          Option.bind (r_M_one a0 s6) fun s9 =>
          Option.bind (fn_M_notes a0 v1_7 (0 : Int32) s9) fun s11 =>
          bd_M_product_L4 r_M_one a0 k fu s11
        )
      ) fun j12 =>
        if z3 = 0 then (
          px_b2 (fn_M_takesSign a0 (47 : Int32) s4) fun z13 s14 =>
          if z13 = 0 then (
            px_b2 (fn_M_takesSign a0 (37 : Int32) s14) fun z15 s16 =>
            if z15 = 0 then (
              j12 (-1 : Int32) s16
            ) else (
              j12 (6 : Int32) s16
            )
          ) else (
            j12 (5 : Int32) s14
          )
        ) else (
          j12 (4 : Int32) s4
        )
    ) else (
      k s0
    )
def bd_M_product (r_M_one : Nat → hp_I → Option (hp_I)) (o : Nat) (σ : hp_I) : Option (hp_I) :=
  Option.bind (r_M_one o σ) fun s2 =>
  bd_M_product_L4 r_M_one o
    (fun (s_17 : hp_I) =>
      some s_17
    )
    FU s2
set_option maxHeartbeats 4000000 in
set_option maxRecDepth 100000 in
theorem pf_M_product_L4 {G : wd_G} {M : wd_M} (n0 : Nat) (hn0 : 6 ≤ n0) (r_M_one : Nat → hp_I → Option (hp_I)) (hr_M_one : ∀ (l : Launch) (o : Nat) (ho : sh_kd o = 12) (σ : hp_I) (τ : hp_L), cl_C G l n0 yX12_one cX12_one 3 none [.ref (wd_b G + o)] σ τ (ci_h τ) (r_M_one o σ)) (C : cx_C G M RX12 cX12_product 2 (n0 + 1) none) (a0 : Nat) (ha0 : sh_kd a0 = 12)  (τ : hp_L) (k : hp_I → Option (hp_I)) (hk : ∀ (s : hp_I), dn_D G M 2 0 0 (cl_M G M (ci_h τ)) 72 [] [] s τ (k s)) : ∀ (fu : Nat) (s0 : hp_I), dn_D G M 2 0 0 (cl_M G M (ci_h τ)) 4 [(0, .ref (wd_b G + a0))] [] s0 τ (bd_M_product_L4 r_M_one a0 k fu s0) := by
  intro fu
  induction fu with
  | zero => exact fun s0 => dn_none
  | succ fu ih =>
    intro s0
    unfold bd_M_product_L4
    refine dn_aload_n C dX12_product_4 rfl 0 rfl rfl ?_
    refine dn_getI C fd_X12_109 ha0 dX12_product_5 rfl ?_
    refine dn_if_ne (t := 72) C dX12_product_8 (by decide) rfl ?_ ?_
    · refine dn_aload_n C dX12_product_11 rfl 0 rfl rfl ?_
      refine dn_bipush C dX12_product_12 ic_b_42 rfl ?_
      refine dn_callV_ih (As := [.int (42 : Int32)]) (st := []) C (ok_M_takesSign (cx_g C) a0 ha0 (42 : Int32) s0 τ) mt_X12_takesSign mv_X12_takesSign lk_X12_210 (by omega) ha0 rfl ⟨Nat.zero_le _, Nat.zero_le _⟩ (Nat.le_of_ble_eq_true rfl) dX12_product_14 rfl rfl (fun z3 s4 => ?_)
      refine dn_jn (fun z => ∀ (t5 : Int32) (s6 : hp_I), dn_D G M 2 0 0 (cl_M G M (ci_h τ)) 52 [(0, .ref (wd_b G + a0))] [.int t5] s6 τ (z t5 s6)) (fun t5 s6 => ?_) (fun j12 hj12 => ?_)
      · refine dn_istore_n (lv0 := [(0, .ref (wd_b G + a0))]) C dX12_product_52 rfl (by decide) rfl rfl (fun v1_7 => ?_)
        refine dn_iload_n C dX12_product_53 rfl 0 rfl rfl ?_
        refine dn_iconst C dX12_product_54 ic_i_m1 rfl ?_
        refine dn_icmp_ne (t := 59) C dX12_product_55 (by decide) rfl ?_ ?_
        · exact dn_vret C dX12_product_58 rfl
        · refine dn_aload_n C dX12_product_59 rfl 1 rfl rfl ?_
          refine dn_callV_h (As := []) (st := []) C (hr_M_one (mx_L M) a0 ha0 s6 τ) mt_X12_one mv_X12_one lk_X12_216 (by omega) ha0 rfl ⟨Nat.zero_le _, Nat.zero_le _⟩ (Nat.le_of_ble_eq_true rfl) dX12_product_60 rfl rfl (fun s9 => ?_)
          refine dn_aload_n C dX12_product_63 rfl 1 rfl rfl ?_
          refine dn_iload_n C dX12_product_64 rfl 0 rfl rfl ?_
          refine dn_iconst C dX12_product_65 ic_i_0 rfl ?_
          refine dn_callV_h (As := [.int v1_7, .int (0 : Int32)]) (st := []) C (ok_M_notes (cx_g C) a0 ha0 v1_7 (0 : Int32) s9 τ) mt_X12_notes mv_X12_notes lk_X12_213 (by omega) ha0 rfl ⟨Nat.zero_le _, Nat.zero_le _⟩ (Nat.le_of_ble_eq_true rfl) dX12_product_66 rfl rfl (fun s11 => ?_)
          refine dn_goto (t := 4) C dX12_product_69 (by decide) ?_
          refine dn_pick [1] rfl ?_
          exact ih s11
      · refine dn_if_eq (t := 24) C dX12_product_17 (by decide) rfl ?_ ?_
        · refine dn_aload_n C dX12_product_24 rfl 0 rfl rfl ?_
          refine dn_bipush C dX12_product_25 ic_b_47 rfl ?_
          refine dn_callV_ih (As := [.int (47 : Int32)]) (st := []) C (ok_M_takesSign (cx_g C) a0 ha0 (47 : Int32) s4 τ) mt_X12_takesSign mv_X12_takesSign lk_X12_210 (by omega) ha0 rfl ⟨Nat.zero_le _, Nat.zero_le _⟩ (Nat.le_of_ble_eq_true rfl) dX12_product_27 rfl rfl (fun z13 s14 => ?_)
          refine dn_if_eq (t := 37) C dX12_product_30 (by decide) rfl ?_ ?_
          · refine dn_aload_n C dX12_product_37 rfl 0 rfl rfl ?_
            refine dn_bipush C dX12_product_38 ic_b_37 rfl ?_
            refine dn_callV_ih (As := [.int (37 : Int32)]) (st := []) C (ok_M_takesSign (cx_g C) a0 ha0 (37 : Int32) s14 τ) mt_X12_takesSign mv_X12_takesSign lk_X12_210 (by omega) ha0 rfl ⟨Nat.zero_le _, Nat.zero_le _⟩ (Nat.le_of_ble_eq_true rfl) dX12_product_40 rfl rfl (fun z15 s16 => ?_)
            refine dn_if_eq (t := 51) C dX12_product_43 (by decide) rfl ?_ ?_
            · refine dn_iconst C dX12_product_51 ic_i_m1 rfl ?_
              exact hj12 (-1 : Int32) s16
            · refine dn_bipush C dX12_product_46 ic_b_6 rfl ?_
              refine dn_goto (t := 52) C dX12_product_48 (by decide) ?_
              exact hj12 (6 : Int32) s16
          · refine dn_iconst C dX12_product_33 ic_i_5 rfl ?_
            refine dn_goto (t := 52) C dX12_product_34 (by decide) ?_
            exact hj12 (5 : Int32) s14
        · refine dn_iconst C dX12_product_20 ic_i_4 rfl ?_
          refine dn_goto (t := 52) C dX12_product_21 (by decide) ?_
          exact hj12 (4 : Int32) s4
    · refine dn_pick [] rfl ?_
      exact hk s0
set_option maxHeartbeats 4000000 in
set_option maxRecDepth 100000 in
theorem ob_M_product {G : wd_G} {l : Launch} (hN : gd_ok G) (n0 : Nat) (hn0 : 6 ≤ n0) (r_M_one : Nat → hp_I → Option (hp_I)) (hr_M_one : ∀ (l : Launch) (o : Nat) (ho : sh_kd o = 12) (σ : hp_I) (τ : hp_L), cl_C G l n0 yX12_one cX12_one 3 none [.ref (wd_b G + o)] σ τ (ci_h τ) (r_M_one o σ)) (o : Nat) (ho : sh_kd o = 12) (σ : hp_I) (τ : hp_L) : cl_C G l (n0 + 1) yX12_product cX12_product 2 none [.ref (wd_b G + o)] σ τ (ci_h τ) (bd_M_product r_M_one o σ) := by
  refine cl_of (lv0 := [(0, .ref (wd_b G + o))]) (ci_h τ) (by decide) (Nat.le_of_ble_eq_true rfl) rfl hN (fun M hM C => ?_)
  have C : cx_C G M RX12 cX12_product 2 (n0 + 1) none := C
  unfold bd_M_product
  refine dn_aload_n C dX12_product_0 rfl 0 rfl rfl ?_
  refine dn_callV_h (As := []) (st := []) C (hr_M_one (mx_L M) o ho σ τ) mt_X12_one mv_X12_one lk_X12_216 (by omega) ho rfl ⟨Nat.zero_le _, Nat.zero_le _⟩ (Nat.le_of_ble_eq_true rfl) dX12_product_1 rfl rfl (fun s2 => ?_)
  refine pf_M_product_L4 n0 hn0 r_M_one hr_M_one C  o ho  τ _ (fun s_17 => ?_) FU s2
  exact dn_vret C dX12_product_72 rfl
def bd_M_one (r_M_sum : Nat → hp_I → Option (hp_I)) (o : Nat) (σ : hp_I) : Option (hp_I) :=
  if (σ o 5) = 0 then (
    Option.bind (fn_M_blanks o σ) fun s2 =>
    px_b2 (fn_M_isWord o (12 : Int32) (5 : Int32) (1 : Int32) (19 : Int32) (20 : Int32) (0 : Int32) s2) fun z3 s4 =>
    px_jn (fun (t5 : Int32) (s6 : hp_I) =>
      px_let t5 fun v1_7 =>
      if v1_7 = (-1 : Int32) then (
        Option.bind (fn_M_byteAt o (s6 o 4) s6) fun z25 =>
        if z25 = (40 : Int32) then (
          px_b2 (fn_M_opensOne o s6) fun z26 s27 =>
          if z26 = 0 then (
            some s27
          ) else (
            px_let (hp_s s27 o 4 ((s27 o 4) + (1 : Int32))) fun s28 =>
            Option.bind (r_M_sum o s28) fun s30 =>
            Option.bind (fn_M_sign o (41 : Int32) s30) fun s32 =>
            px_let (hp_s s32 o 8 ((s32 o 8) - (1 : Int32))) fun s33 =>
            some s33
          )
        ) else (
          px_b2 (fn_M_knownHere o s6) fun z34 s35 =>
          px_let z34 fun v2_36 =>
          px_jn (fun (s37 : hp_I) =>
            some s37
          ) fun j38 =>
            if v2_36 = (-1 : Int32) then (
              px_b2 (fn_M_number o (0 : Int32) (999 : Int32) s35) fun z41 s42 =>
              Option.bind (fn_M_notes o (0 : Int32) z41 s42) fun s44 =>
              j38 s44
            ) else (
              Option.bind (fn_M_notes o (1 : Int32) v2_36 s35) fun s40 =>
              j38 s40
            )
        )
      ) else (
        px_b2 (fn_M_opensOne o s6) fun z8 s9 =>
        if z8 = 0 then (
          some s9
        ) else (
          Option.bind (fn_M_skipWord o s9) fun s11 =>
          Option.bind (fn_M_sign o (91 : Int32) s11) fun s13 =>
          Option.bind (r_M_sum o s13) fun s15 =>
          Option.bind (fn_M_sign o (44 : Int32) s15) fun s17 =>
          Option.bind (r_M_sum o s17) fun s19 =>
          Option.bind (fn_M_sign o (93 : Int32) s19) fun s21 =>
          Option.bind (fn_M_notes o v1_7 (0 : Int32) s21) fun s23 =>
          px_let (hp_s s23 o 8 ((s23 o 8) - (1 : Int32))) fun s24 =>
          some s24
        )
      )
    ) fun j45 =>
      if z3 = 0 then (
        px_b2 (fn_M_isWord o (13 : Int32) (15 : Int32) (19 : Int32) (20 : Int32) (0 : Int32) (0 : Int32) s4) fun z46 s47 =>
        if z46 = 0 then (
          j45 (-1 : Int32) s47
        ) else (
          j45 (8 : Int32) s47
        )
      ) else (
        j45 (7 : Int32) s4
      )
  ) else (
    some σ
  )
set_option maxHeartbeats 4000000 in
set_option maxRecDepth 100000 in
theorem ob_M_one {G : wd_G} {l : Launch} (hN : gd_ok G) (n0 : Nat) (hn0 : 6 ≤ n0) (r_M_sum : Nat → hp_I → Option (hp_I)) (hr_M_sum : ∀ (l : Launch) (o : Nat) (ho : sh_kd o = 12) (σ : hp_I) (τ : hp_L), cl_C G l n0 yX12_sum cX12_sum 2 none [.ref (wd_b G + o)] σ τ (ci_h τ) (r_M_sum o σ)) (o : Nat) (ho : sh_kd o = 12) (σ : hp_I) (τ : hp_L) : cl_C G l (n0 + 1) yX12_one cX12_one 3 none [.ref (wd_b G + o)] σ τ (ci_h τ) (bd_M_one r_M_sum o σ) := by
  refine cl_of (lv0 := [(0, .ref (wd_b G + o))]) (ci_h τ) (by decide) (Nat.le_of_ble_eq_true rfl) rfl hN (fun M hM C => ?_)
  have C : cx_C G M RX12 cX12_one 3 (n0 + 1) none := C
  unfold bd_M_one
  refine dn_aload_n C dX12_one_0 rfl 0 rfl rfl ?_
  refine dn_getI C fd_X12_109 ho dX12_one_1 rfl ?_
  refine dn_if_eq (t := 8) C dX12_one_4 (by decide) rfl ?_ ?_
  · refine dn_aload_n C dX12_one_8 rfl 0 rfl rfl ?_
    refine dn_callV_h (As := []) (st := []) C (ok_M_blanks (cx_g C) o ho σ τ) mt_X12_blanks mv_X12_blanks lk_X12_115 (by omega) ho rfl ⟨Nat.zero_le _, Nat.zero_le _⟩ (Nat.le_of_ble_eq_true rfl) dX12_one_9 rfl rfl (fun s2 => ?_)
    refine dn_aload_n C dX12_one_12 rfl 0 rfl rfl ?_
    refine dn_bipush C dX12_one_13 ic_b_12 rfl ?_
    refine dn_iconst C dX12_one_15 ic_i_5 rfl ?_
    refine dn_iconst C dX12_one_16 ic_i_1 rfl ?_
    refine dn_bipush C dX12_one_17 ic_b_19 rfl ?_
    refine dn_bipush C dX12_one_19 ic_b_20 rfl ?_
    refine dn_iconst C dX12_one_21 ic_i_0 rfl ?_
    refine dn_callV_ih (As := [.int (12 : Int32), .int (5 : Int32), .int (1 : Int32), .int (19 : Int32), .int (20 : Int32), .int (0 : Int32)]) (st := []) C (ok_M_isWord (cx_g C) o ho (12 : Int32) (5 : Int32) (1 : Int32) (19 : Int32) (20 : Int32) (0 : Int32) s2 τ) mt_X12_isWord mv_X12_isWord lk_X12_142 (by omega) ho rfl ⟨Nat.zero_le _, Nat.zero_le _⟩ (Nat.le_of_ble_eq_true rfl) dX12_one_22 rfl rfl (fun z3 s4 => ?_)
    refine dn_jn (fun z => ∀ (t5 : Int32) (s6 : hp_I), dn_D G M 3 0 0 (cl_M G M (ci_h τ)) 56 [(0, .ref (wd_b G + o))] [.int t5] s6 τ (z t5 s6)) (fun t5 s6 => ?_) (fun j45 hj45 => ?_)
    · refine dn_istore_n (lv0 := [(0, .ref (wd_b G + o))]) C dX12_one_56 rfl (by decide) rfl rfl (fun v1_7 => ?_)
      refine dn_iload_n C dX12_one_57 rfl 0 rfl rfl ?_
      refine dn_iconst C dX12_one_58 ic_i_m1 rfl ?_
      refine dn_icmp_eq (t := 117) C dX12_one_59 (by decide) rfl ?_ ?_
      · refine dn_aload_n C dX12_one_117 rfl 1 rfl rfl ?_
        refine dn_aload_n C dX12_one_118 rfl 1 rfl rfl ?_
        refine dn_getI C fd_X12_102 ho dX12_one_119 rfl ?_
        refine dn_callV_i (As := [.int (s6 o 4)]) (st := []) C (ok_M_byteAt (cx_g C) o ho (s6 o 4) s6 τ) mt_X12_byteAt mv_X12_byteAt lk_X12_105 (by omega) ho rfl ⟨Nat.zero_le _, Nat.zero_le _⟩ (Nat.le_of_ble_eq_true rfl) dX12_one_122 rfl rfl (fun z25 => ?_)
        refine dn_bipush C dX12_one_125 ic_b_40 rfl ?_
        refine dn_icmp_ne (t := 169) C dX12_one_127 (by decide) rfl ?_ ?_
        · refine dn_aload_n C dX12_one_130 rfl 1 rfl rfl ?_
          refine dn_callV_ih (As := []) (st := []) C (ok_M_opensOne (cx_g C) o ho s6 τ) mt_X12_opensOne mv_X12_opensOne lk_X12_222 (by omega) ho rfl ⟨Nat.zero_le _, Nat.zero_le _⟩ (Nat.le_of_ble_eq_true rfl) dX12_one_131 rfl rfl (fun z26 s27 => ?_)
          refine dn_if_ne (t := 138) C dX12_one_134 (by decide) rfl ?_ ?_
          · exact dn_vret C dX12_one_137 rfl
          · refine dn_aload_n C dX12_one_138 rfl 1 rfl rfl ?_
            refine dn_dup C dX12_one_139 rfl rfl ?_
            refine dn_getI C fd_X12_102 ho dX12_one_140 rfl ?_
            refine dn_iconst C dX12_one_143 ic_i_1 rfl ?_
            refine dn_iadd C dX12_one_144 rfl ?_
            refine dn_putI C fp_X12_102 ho dX12_one_145 rfl (fun s28 => ?_)
            refine dn_aload_n C dX12_one_148 rfl 1 rfl rfl ?_
            refine dn_callV_h (As := []) (st := []) C (hr_M_sum (mx_L M) o ho s28 τ) mt_X12_sum mv_X12_sum lk_X12_226 (by omega) ho rfl ⟨Nat.zero_le _, Nat.zero_le _⟩ (Nat.le_of_ble_eq_true rfl) dX12_one_149 rfl rfl (fun s30 => ?_)
            refine dn_aload_n C dX12_one_152 rfl 1 rfl rfl ?_
            refine dn_bipush C dX12_one_153 ic_b_41 rfl ?_
            refine dn_callV_h (As := [.int (41 : Int32)]) (st := []) C (ok_M_sign (cx_g C) o ho (41 : Int32) s30 τ) mt_X12_sign mv_X12_sign lk_X12_168 (by omega) ho rfl ⟨Nat.zero_le _, Nat.zero_le _⟩ (Nat.le_of_ble_eq_true rfl) dX12_one_155 rfl rfl (fun s32 => ?_)
            refine dn_aload_n C dX12_one_158 rfl 1 rfl rfl ?_
            refine dn_dup C dX12_one_159 rfl rfl ?_
            refine dn_getI C fd_X12_152 ho dX12_one_160 rfl ?_
            refine dn_iconst C dX12_one_163 ic_i_1 rfl ?_
            refine dn_isub C dX12_one_164 rfl ?_
            refine dn_putI C fp_X12_152 ho dX12_one_165 rfl (fun s33 => ?_)
            exact dn_vret C dX12_one_168 rfl
        · refine dn_aload_n C dX12_one_169 rfl 1 rfl rfl ?_
          refine dn_callV_ih (As := []) (st := []) C (ok_M_knownHere (cx_g C) o ho s6 τ) mt_X12_knownHere mv_X12_knownHere lk_X12_229 (by omega) ho rfl ⟨Nat.zero_le _, Nat.zero_le _⟩ (Nat.le_of_ble_eq_true rfl) dX12_one_170 rfl rfl (fun z34 s35 => ?_)
          refine dn_istore_n (lv0 := [(1, .int v1_7), (0, .ref (wd_b G + o))]) C dX12_one_173 rfl (by decide) rfl rfl (fun v2_36 => ?_)
          refine dn_iload_n C dX12_one_174 rfl 0 rfl rfl ?_
          refine dn_iconst C dX12_one_175 ic_i_m1 rfl ?_
          refine dn_jn (fun z => ∀ (s37 : hp_I), dn_D G M 3 0 0 (cl_M G M (ci_h τ)) 201 [] [] s37 τ (z s37)) (fun s37 => ?_) (fun j38 hj38 => ?_)
          · exact dn_vret C dX12_one_201 rfl
          · refine dn_icmp_eq (t := 188) C dX12_one_176 (by decide) rfl ?_ ?_
            · refine dn_aload_n C dX12_one_188 rfl 2 rfl rfl ?_
              refine dn_iconst C dX12_one_189 ic_i_0 rfl ?_
              refine dn_aload_n C dX12_one_190 rfl 2 rfl rfl ?_
              refine dn_iconst C dX12_one_191 ic_i_0 rfl ?_
              refine dn_sipush C dX12_one_192 ic_s_999 rfl ?_
              refine dn_callV_ih (As := [.int (0 : Int32), .int (999 : Int32)]) (st := [.int (0 : Int32), .ref (wd_b G + o)]) C (ok_M_number (cx_g C) o ho (0 : Int32) (999 : Int32) s35 τ) mt_X12_number mv_X12_number lk_X12_165 (by omega) ho rfl ⟨Nat.zero_le _, Nat.zero_le _⟩ (Nat.le_of_ble_eq_true rfl) dX12_one_195 rfl rfl (fun z41 s42 => ?_)
              refine dn_callV_h (As := [.int (0 : Int32), .int z41]) (st := []) C (ok_M_notes (cx_g C) o ho (0 : Int32) z41 s42 τ) mt_X12_notes mv_X12_notes lk_X12_213 (by omega) ho rfl ⟨Nat.zero_le _, Nat.zero_le _⟩ (Nat.le_of_ble_eq_true rfl) dX12_one_198 rfl rfl (fun s44 => ?_)
              refine dn_pick [] rfl ?_
              exact hj38 s44
            · refine dn_aload_n C dX12_one_179 rfl 2 rfl rfl ?_
              refine dn_iconst C dX12_one_180 ic_i_1 rfl ?_
              refine dn_iload_n C dX12_one_181 rfl 0 rfl rfl ?_
              refine dn_callV_h (As := [.int (1 : Int32), .int v2_36]) (st := []) C (ok_M_notes (cx_g C) o ho (1 : Int32) v2_36 s35 τ) mt_X12_notes mv_X12_notes lk_X12_213 (by omega) ho rfl ⟨Nat.zero_le _, Nat.zero_le _⟩ (Nat.le_of_ble_eq_true rfl) dX12_one_182 rfl rfl (fun s40 => ?_)
              refine dn_goto (t := 201) C dX12_one_185 (by decide) ?_
              refine dn_pick [] rfl ?_
              exact hj38 s40
      · refine dn_aload_n C dX12_one_62 rfl 1 rfl rfl ?_
        refine dn_callV_ih (As := []) (st := []) C (ok_M_opensOne (cx_g C) o ho s6 τ) mt_X12_opensOne mv_X12_opensOne lk_X12_222 (by omega) ho rfl ⟨Nat.zero_le _, Nat.zero_le _⟩ (Nat.le_of_ble_eq_true rfl) dX12_one_63 rfl rfl (fun z8 s9 => ?_)
        refine dn_if_ne (t := 70) C dX12_one_66 (by decide) rfl ?_ ?_
        · exact dn_vret C dX12_one_69 rfl
        · refine dn_aload_n C dX12_one_70 rfl 1 rfl rfl ?_
          refine dn_callV_h (As := []) (st := []) C (ok_M_skipWord (cx_g C) o ho s9 τ) mt_X12_skipWord mv_X12_skipWord lk_X12_146 (by omega) ho rfl ⟨Nat.zero_le _, Nat.zero_le _⟩ (Nat.le_of_ble_eq_true rfl) dX12_one_71 rfl rfl (fun s11 => ?_)
          refine dn_aload_n C dX12_one_74 rfl 1 rfl rfl ?_
          refine dn_bipush C dX12_one_75 ic_b_91 rfl ?_
          refine dn_callV_h (As := [.int (91 : Int32)]) (st := []) C (ok_M_sign (cx_g C) o ho (91 : Int32) s11 τ) mt_X12_sign mv_X12_sign lk_X12_168 (by omega) ho rfl ⟨Nat.zero_le _, Nat.zero_le _⟩ (Nat.le_of_ble_eq_true rfl) dX12_one_77 rfl rfl (fun s13 => ?_)
          refine dn_aload_n C dX12_one_80 rfl 1 rfl rfl ?_
          refine dn_callV_h (As := []) (st := []) C (hr_M_sum (mx_L M) o ho s13 τ) mt_X12_sum mv_X12_sum lk_X12_226 (by omega) ho rfl ⟨Nat.zero_le _, Nat.zero_le _⟩ (Nat.le_of_ble_eq_true rfl) dX12_one_81 rfl rfl (fun s15 => ?_)
          refine dn_aload_n C dX12_one_84 rfl 1 rfl rfl ?_
          refine dn_bipush C dX12_one_85 ic_b_44 rfl ?_
          refine dn_callV_h (As := [.int (44 : Int32)]) (st := []) C (ok_M_sign (cx_g C) o ho (44 : Int32) s15 τ) mt_X12_sign mv_X12_sign lk_X12_168 (by omega) ho rfl ⟨Nat.zero_le _, Nat.zero_le _⟩ (Nat.le_of_ble_eq_true rfl) dX12_one_87 rfl rfl (fun s17 => ?_)
          refine dn_aload_n C dX12_one_90 rfl 1 rfl rfl ?_
          refine dn_callV_h (As := []) (st := []) C (hr_M_sum (mx_L M) o ho s17 τ) mt_X12_sum mv_X12_sum lk_X12_226 (by omega) ho rfl ⟨Nat.zero_le _, Nat.zero_le _⟩ (Nat.le_of_ble_eq_true rfl) dX12_one_91 rfl rfl (fun s19 => ?_)
          refine dn_aload_n C dX12_one_94 rfl 1 rfl rfl ?_
          refine dn_bipush C dX12_one_95 ic_b_93 rfl ?_
          refine dn_callV_h (As := [.int (93 : Int32)]) (st := []) C (ok_M_sign (cx_g C) o ho (93 : Int32) s19 τ) mt_X12_sign mv_X12_sign lk_X12_168 (by omega) ho rfl ⟨Nat.zero_le _, Nat.zero_le _⟩ (Nat.le_of_ble_eq_true rfl) dX12_one_97 rfl rfl (fun s21 => ?_)
          refine dn_aload_n C dX12_one_100 rfl 1 rfl rfl ?_
          refine dn_iload_n C dX12_one_101 rfl 0 rfl rfl ?_
          refine dn_iconst C dX12_one_102 ic_i_0 rfl ?_
          refine dn_callV_h (As := [.int v1_7, .int (0 : Int32)]) (st := []) C (ok_M_notes (cx_g C) o ho v1_7 (0 : Int32) s21 τ) mt_X12_notes mv_X12_notes lk_X12_213 (by omega) ho rfl ⟨Nat.zero_le _, Nat.zero_le _⟩ (Nat.le_of_ble_eq_true rfl) dX12_one_103 rfl rfl (fun s23 => ?_)
          refine dn_aload_n C dX12_one_106 rfl 1 rfl rfl ?_
          refine dn_dup C dX12_one_107 rfl rfl ?_
          refine dn_getI C fd_X12_152 ho dX12_one_108 rfl ?_
          refine dn_iconst C dX12_one_111 ic_i_1 rfl ?_
          refine dn_isub C dX12_one_112 rfl ?_
          refine dn_putI C fp_X12_152 ho dX12_one_113 rfl (fun s24 => ?_)
          exact dn_vret C dX12_one_116 rfl
    · refine dn_if_eq (t := 33) C dX12_one_25 (by decide) rfl ?_ ?_
      · refine dn_aload_n C dX12_one_33 rfl 0 rfl rfl ?_
        refine dn_bipush C dX12_one_34 ic_b_13 rfl ?_
        refine dn_bipush C dX12_one_36 ic_b_15 rfl ?_
        refine dn_bipush C dX12_one_38 ic_b_19 rfl ?_
        refine dn_bipush C dX12_one_40 ic_b_20 rfl ?_
        refine dn_iconst C dX12_one_42 ic_i_0 rfl ?_
        refine dn_iconst C dX12_one_43 ic_i_0 rfl ?_
        refine dn_callV_ih (As := [.int (13 : Int32), .int (15 : Int32), .int (19 : Int32), .int (20 : Int32), .int (0 : Int32), .int (0 : Int32)]) (st := []) C (ok_M_isWord (cx_g C) o ho (13 : Int32) (15 : Int32) (19 : Int32) (20 : Int32) (0 : Int32) (0 : Int32) s4 τ) mt_X12_isWord mv_X12_isWord lk_X12_142 (by omega) ho rfl ⟨Nat.zero_le _, Nat.zero_le _⟩ (Nat.le_of_ble_eq_true rfl) dX12_one_44 rfl rfl (fun z46 s47 => ?_)
        refine dn_if_eq (t := 55) C dX12_one_47 (by decide) rfl ?_ ?_
        · refine dn_iconst C dX12_one_55 ic_i_m1 rfl ?_
          exact hj45 (-1 : Int32) s47
        · refine dn_bipush C dX12_one_50 ic_b_8 rfl ?_
          refine dn_goto (t := 56) C dX12_one_52 (by decide) ?_
          exact hj45 (8 : Int32) s47
      · refine dn_bipush C dX12_one_28 ic_b_7 rfl ?_
        refine dn_goto (t := 56) C dX12_one_30 (by decide) ?_
        exact hj45 (7 : Int32) s4
  · exact dn_vret C dX12_one_7 rfl
def gr_M_sum : Nat → (Nat → hp_I → Option (hp_I)) × (Nat → hp_I → Option (hp_I)) × (Nat → hp_I → Option (hp_I))
  | 0 => ((fun _ _ => none), (fun _ _ => none), (fun _ _ => none))
  | d + 1 => (bd_M_sum (gr_M_sum d).2.1, bd_M_product (gr_M_sum d).2.2, bd_M_one (gr_M_sum d).1)
def fn_M_sum (o : Nat) (σ : hp_I) : Option (hp_I) := (gr_M_sum 64).1 o σ
def fn_M_product (o : Nat) (σ : hp_I) : Option (hp_I) := (gr_M_sum 64).2.1 o σ
def fn_M_one (o : Nat) (σ : hp_I) : Option (hp_I) := (gr_M_sum 64).2.2 o σ
theorem og_M_sum {G : wd_G} (hN : gd_ok G) : ∀ d : Nat, (∀ (l : Launch) (o : Nat) (ho : sh_kd o = 12) (σ : hp_I) (τ : hp_L), cl_C G l (6 + d) yX12_sum cX12_sum 2 none [.ref (wd_b G + o)] σ τ (ci_h τ) ((gr_M_sum d).1 o σ)) ∧ (∀ (l : Launch) (o : Nat) (ho : sh_kd o = 12) (σ : hp_I) (τ : hp_L), cl_C G l (6 + d) yX12_product cX12_product 2 none [.ref (wd_b G + o)] σ τ (ci_h τ) ((gr_M_sum d).2.1 o σ)) ∧ (∀ (l : Launch) (o : Nat) (ho : sh_kd o = 12) (σ : hp_I) (τ : hp_L), cl_C G l (6 + d) yX12_one cX12_one 3 none [.ref (wd_b G + o)] σ τ (ci_h τ) ((gr_M_sum d).2.2 o σ)) := by
  intro d
  induction d with
  | zero => exact ⟨(fun l o ho σ τ r hr => (nomatch (show none = some r from hr))), (fun l o ho σ τ r hr => (nomatch (show none = some r from hr))), (fun l o ho σ τ r hr => (nomatch (show none = some r from hr)))⟩
  | succ d ih =>
    obtain ⟨h0, h1, h2⟩ := ih
    exact ⟨fun l o ho σ τ => ob_M_sum hN (6 + d) (by omega) _ h1 o ho σ τ, fun l o ho σ τ => ob_M_product hN (6 + d) (by omega) _ h2 o ho σ τ, fun l o ho σ τ => ob_M_one hN (6 + d) (by omega) _ h0 o ho σ τ⟩
theorem ok_M_sum {G : wd_G} {l : Launch} (hN : gd_ok G) (o : Nat) (ho : sh_kd o = 12) (σ : hp_I) (τ : hp_L) : cl_C G l 70 yX12_sum cX12_sum 2 none [.ref (wd_b G + o)] σ τ (ci_h τ) (fn_M_sum o σ) := (og_M_sum hN 64).1 l o ho σ τ
theorem ok_M_product {G : wd_G} {l : Launch} (hN : gd_ok G) (o : Nat) (ho : sh_kd o = 12) (σ : hp_I) (τ : hp_L) : cl_C G l 70 yX12_product cX12_product 2 none [.ref (wd_b G + o)] σ τ (ci_h τ) (fn_M_product o σ) := (og_M_sum hN 64).2.1 l o ho σ τ
theorem ok_M_one {G : wd_G} {l : Launch} (hN : gd_ok G) (o : Nat) (ho : sh_kd o = 12) (σ : hp_I) (τ : hp_L) : cl_C G l 70 yX12_one cX12_one 3 none [.ref (wd_b G + o)] σ τ (ci_h τ) (fn_M_one o σ) := (og_M_sum hN 64).2.2 l o ho σ τ
def fn_M_prey  (o : Nat) (p1 : Int32) (σ : hp_I) : Option (Int32 × hp_I) :=
  px_let (hp_s σ o 0 (0 : Int32)) fun s1 =>
  Option.bind (fn_M_isThing o (3 : Int32) p1 s1) fun z2 =>
  px_jn (fun (t3 : Int32) =>
    px_b2 (fn_M_bad o t3 (1 : Int32) (0 : Int32) s1) fun z4 s5 =>
    if z4 = 0 then (
      Option.bind (fn_M_laysHunt o s5) fun s7 =>
      Option.bind (px_ald s7 (sh_rf o 40) p1) fun z8 =>
      some (z8, s7)
    ) else (
      some ((0 : Int32), s5)
    )
  ) fun j9 =>
    if z2 = 0 then (
      j9 (1 : Int32)
    ) else (
      j9 (0 : Int32)
    )
set_option maxHeartbeats 4000000 in
set_option maxRecDepth 100000 in
theorem ok_M_prey {G : wd_G} {l : Launch} (hN : gd_ok G)  (o : Nat) (ho : sh_kd o = 12) (p1 : Int32) (σ : hp_I) (τ : hp_L) : cl_C G l 70 yX12_prey cX12_prey 2 (some .int) [.ref (wd_b G + o), .int p1] σ τ (ci_ih τ) (fn_M_prey o p1 σ) := by
  refine cl_of (lv0 := [(0, .ref (wd_b G + o)), (1, .int p1)]) (ci_ih τ) (by decide) (Nat.le_of_ble_eq_true rfl) rfl hN (fun M hM C => ?_)
  have C : cx_C G M RX12 cX12_prey 2 70 (some .int) := C
  unfold fn_M_prey
  refine dn_aload_n C dX12_prey_0 rfl 0 rfl rfl ?_
  refine dn_iconst C dX12_prey_1 ic_i_0 rfl ?_
  refine dn_putI C fp_X12_93 ho dX12_prey_2 rfl (fun s1 => ?_)
  refine dn_aload_n C dX12_prey_5 rfl 0 rfl rfl ?_
  refine dn_aload_n C dX12_prey_6 rfl 0 rfl rfl ?_
  refine dn_iconst C dX12_prey_7 ic_i_3 rfl ?_
  refine dn_iload_n C dX12_prey_8 rfl 1 rfl rfl ?_
  refine dn_callV_i (As := [.int (3 : Int32), .int p1]) (st := [.ref (wd_b G + o)]) C (ok_M_isThing (cx_g C) o ho (3 : Int32) p1 s1 τ) mt_X12_isThing mv_X12_isThing lk_X12_336 (by decide) ho rfl ⟨Nat.zero_le _, Nat.zero_le _⟩ (Nat.le_of_ble_eq_true rfl) dX12_prey_9 rfl rfl (fun z2 => ?_)
  refine dn_jn (fun z => ∀ (t3 : Int32), dn_D G M 2 0 0 (cl_M G M (ci_ih τ)) 20 [(0, .ref (wd_b G + o)), (1, .int p1)] [.int t3, .ref (wd_b G + o)] s1 τ (z t3)) (fun t3 => ?_) (fun j9 hj9 => ?_)
  · refine dn_iconst C dX12_prey_20 ic_i_1 rfl ?_
    refine dn_iconst C dX12_prey_21 ic_i_0 rfl ?_
    refine dn_callV_ih (As := [.int t3, .int (1 : Int32), .int (0 : Int32)]) (st := []) C (ok_M_bad (cx_g C) o ho t3 (1 : Int32) (0 : Int32) s1 τ) mt_X12_bad mv_X12_bad lk_X12_172 (by decide) ho rfl ⟨Nat.zero_le _, Nat.zero_le _⟩ (Nat.le_of_ble_eq_true rfl) dX12_prey_22 rfl rfl (fun z4 s5 => ?_)
    refine dn_if_eq (t := 30) C dX12_prey_25 (by decide) rfl ?_ ?_
    · refine dn_aload_n C dX12_prey_30 rfl 0 rfl rfl ?_
      refine dn_callV_h (As := []) (st := []) C (ok_M_laysHunt (cx_g C) o ho s5 τ) mt_X12_laysHunt mv_X12_laysHunt lk_X12_359 (by decide) ho rfl ⟨Nat.zero_le _, Nat.zero_le _⟩ (Nat.le_of_ble_eq_true rfl) dX12_prey_31 rfl rfl (fun s7 => ?_)
      refine dn_aload_n C dX12_prey_34 rfl 0 rfl rfl ?_
      refine dn_getR C fd_X12_80 ho dX12_prey_35 rfl ?_
      refine dn_iload_n C dX12_prey_38 rfl 1 rfl rfl ?_
      refine dn_iald C (kt_12_40 ho) dX12_prey_39 rfl (fun z8 => ?_)
      exact dn_iret C dX12_prey_40 rfl
    · refine dn_iconst C dX12_prey_28 ic_i_0 rfl ?_
      exact dn_iret C dX12_prey_29 rfl
  · refine dn_if_ne (t := 19) C dX12_prey_12 (by decide) rfl ?_ ?_
    · refine dn_iconst C dX12_prey_15 ic_i_1 rfl ?_
      refine dn_goto (t := 20) C dX12_prey_16 (by decide) ?_
      exact hj9 (1 : Int32)
    · refine dn_iconst C dX12_prey_19 ic_i_0 rfl ?_
      exact hj9 (0 : Int32)
def bd_M_goes_L43 (r_M_goes : Nat → Int32 → Int32 → hp_I → Option (hp_I)) (a0 : Nat) (a2 : Int32) (a3 : Int32) (k : hp_I → Option (hp_I)) : Nat → Int32 → hp_I → Option (hp_I)
  | 0, _, _ => none
  | fu + 1, x4, s0 =>
    Option.bind (px_rld (sh_rf a0 23) a3) fun z11 =>
    Option.bind (px_ald s0 z11 (1 : Int32)) fun z12 =>
    if x4 < z12 then (
      if (s0 a0 35) < (200 : Int32) then (
        Option.bind (px_rld (sh_rf a0 23) a3) fun z13 =>
        Option.bind (px_ald s0 z13 (3 : Int32)) fun z14 =>
        Option.bind (r_M_goes a0 (a3 + (1 : Int32)) z14 s0) fun s16 =>
        px_let (x4 + 1) fun v4_17 =>
        bd_M_goes_L43 r_M_goes a0 a2 a3 k fu v4_17 s16
      ) else (
        k s0
      )
    ) else (
      k s0
    )
def bd_M_goes_L2 (r_M_goes : Nat → Int32 → Int32 → hp_I → Option (hp_I)) (a0 : Nat) (a2 : Int32) (k : hp_I → Option (hp_I)) : Nat → Int32 → hp_I → Option (hp_I)
  | 0, _, _ => none
  | fu + 1, x3, s0 =>
    if x3 < a2 then (
      if (s0 a0 35) < (200 : Int32) then (
        px_let (hp_s s0 a0 35 ((s0 a0 35) + (1 : Int32))) fun s2 =>
        Option.bind (px_rld (sh_rf a0 23) x3) fun z3 =>
        Option.bind (px_ald s2 z3 (0 : Int32)) fun z4 =>
        px_jn (fun (s5 : hp_I) =>
          Option.bind (px_rld (sh_rf a0 23) x3) fun z6 =>
          Option.bind (px_ald s5 z6 (3 : Int32)) fun z7 =>
          px_let z7 fun v3_8 =>
          bd_M_goes_L2 r_M_goes a0 a2 k fu v3_8 s5
        ) fun j9 =>
          if z4 = (6 : Int32) then (
            px_let (0 : Int32) fun v4_10 =>
            bd_M_goes_L43 r_M_goes a0 a2 x3
              (fun (s_18 : hp_I) =>
                j9 s_18
              )
              FU v4_10 s2
          ) else (
            Option.bind (px_rld (sh_rf a0 23) x3) fun z19 =>
            px_b2 (fn_M_does a0 (sh_rf a0 25) z19 s2) fun z20 s21 =>
            px_let z20 fun v4_22 =>
            px_jn (fun (t23 : Int32) =>
              px_let (hp_s s21 a0 36 ((s21 a0 36) + t23)) fun s24 =>
              px_jn (fun (t25 : Int32) =>
                px_let (hp_s s24 a0 32 ((s24 a0 32) + t25)) fun s26 =>
                j9 s26
              ) fun j27 =>
                if v4_22 = 0 then (
                  j27 (1 : Int32)
                ) else (
                  j27 (0 : Int32)
                )
            ) fun j28 =>
              if v4_22 = 0 then (
                j28 (0 : Int32)
              ) else (
                j28 (1 : Int32)
              )
          )
      ) else (
        k s0
      )
    ) else (
      k s0
    )
def bd_M_goes (r_M_goes : Nat → Int32 → Int32 → hp_I → Option (hp_I)) (o : Nat) (p1 : Int32) (p2 : Int32) (σ : hp_I) : Option (hp_I) :=
  px_let p1 fun v3_1 =>
  bd_M_goes_L2 r_M_goes o p2
    (fun (s_29 : hp_I) =>
      some s_29
    )
    FU v3_1 σ
set_option maxHeartbeats 4000000 in
set_option maxRecDepth 100000 in
theorem pf_M_goes_L43 {G : wd_G} {M : wd_M} (n0 : Nat) (hn0 : 7 ≤ n0) (r_M_goes : Nat → Int32 → Int32 → hp_I → Option (hp_I)) (hr_M_goes : ∀ (l : Launch) (o : Nat) (ho : sh_kd o = 12) (p1 : Int32) (p2 : Int32) (σ : hp_I) (τ : hp_L), cl_C G l n0 yX12_goes cX12_goes 5 none [.ref (wd_b G + o), .int p1, .int p2] σ τ (ci_h τ) (r_M_goes o p1 p2 σ)) (C : cx_C G M RX12 cX12_goes 5 (n0 + 1) none) (a0 : Nat) (ha0 : sh_kd a0 = 12) (a2 : Int32) (a3 : Int32)  (τ : hp_L) (k : hp_I → Option (hp_I)) (hk : ∀ (s : hp_I), dn_D G M 5 0 0 (cl_M G M (ci_h τ)) 87 [(0, .ref (wd_b G + a0)), (2, .int a2), (3, .int a3)] [] s τ (k s)) : ∀ (fu : Nat) (x4 : Int32) (s0 : hp_I), dn_D G M 5 0 0 (cl_M G M (ci_h τ)) 43 [(0, .ref (wd_b G + a0)), (2, .int a2), (3, .int a3), (4, .int x4)] [] s0 τ (bd_M_goes_L43 r_M_goes a0 a2 a3 k fu x4 s0) := by
  intro fu
  induction fu with
  | zero => exact fun x4 s0 => dn_none
  | succ fu ih =>
    intro x4 s0
    unfold bd_M_goes_L43
    refine dn_iload C dX12_goes_43 3 rfl rfl ?_
    refine dn_aload_n C dX12_goes_45 rfl 0 rfl rfl ?_
    refine dn_getR C fd_X12_52 ha0 dX12_goes_46 rfl ?_
    refine dn_iload_n C dX12_goes_49 rfl 2 rfl rfl ?_
    refine dn_aald C (kt_12_23 ha0) dX12_goes_50 rfl (fun z11 hz11 => ?_)
    refine dn_iconst C dX12_goes_51 ic_i_1 rfl ?_
    refine dn_iald C (kt_row (kt_12_23 ha0) hz11) dX12_goes_52 rfl (fun z12 => ?_)
    refine dn_icmp_ge (t := 87) C dX12_goes_53 (by decide) rfl ?_ ?_
    · refine dn_aload_n C dX12_goes_56 rfl 0 rfl rfl ?_
      refine dn_getI C fd_X12_315 ha0 dX12_goes_57 rfl ?_
      refine dn_sipush C dX12_goes_60 ic_s_200 rfl ?_
      refine dn_icmp_ge (t := 87) C dX12_goes_63 (by decide) rfl ?_ ?_
      · refine dn_aload_n C dX12_goes_66 rfl 0 rfl rfl ?_
        refine dn_iload_n C dX12_goes_67 rfl 2 rfl rfl ?_
        refine dn_iconst C dX12_goes_68 ic_i_1 rfl ?_
        refine dn_iadd C dX12_goes_69 rfl ?_
        refine dn_aload_n C dX12_goes_70 rfl 0 rfl rfl ?_
        refine dn_getR C fd_X12_52 ha0 dX12_goes_71 rfl ?_
        refine dn_iload_n C dX12_goes_74 rfl 2 rfl rfl ?_
        refine dn_aald C (kt_12_23 ha0) dX12_goes_75 rfl (fun z13 hz13 => ?_)
        refine dn_iconst C dX12_goes_76 ic_i_3 rfl ?_
        refine dn_iald C (kt_row (kt_12_23 ha0) hz13) dX12_goes_77 rfl (fun z14 => ?_)
        refine dn_callV_h (As := [.int (a3 + (1 : Int32)), .int z14]) (st := []) C (hr_M_goes (mx_L M) a0 ha0 (a3 + (1 : Int32)) z14 s0 τ) mt_X12_goes mv_X12_goes lk_X12_318 (by omega) ha0 rfl ⟨Nat.zero_le _, Nat.zero_le _⟩ (Nat.le_of_ble_eq_true rfl) dX12_goes_78 rfl rfl (fun s16 => ?_)
        refine dn_iinc (lv0 := [(0, .ref (wd_b G + a0)), (2, .int a2), (3, .int a3)]) (v := x4 + 1) C dX12_goes_81 3 rfl rfl (by decide) rfl rfl (fun v4_17 => ?_)
        refine dn_goto (t := 43) C dX12_goes_84 (by decide) ?_
        refine dn_pick [1, 2, 3, 0] rfl ?_
        exact ih v4_17 s16
      · refine dn_pick [0, 1, 2] rfl ?_
        exact hk s0
    · refine dn_pick [0, 1, 2] rfl ?_
      exact hk s0
set_option maxHeartbeats 4000000 in
set_option maxRecDepth 100000 in
theorem pf_M_goes_L2 {G : wd_G} {M : wd_M} (n0 : Nat) (hn0 : 7 ≤ n0) (r_M_goes : Nat → Int32 → Int32 → hp_I → Option (hp_I)) (hr_M_goes : ∀ (l : Launch) (o : Nat) (ho : sh_kd o = 12) (p1 : Int32) (p2 : Int32) (σ : hp_I) (τ : hp_L), cl_C G l n0 yX12_goes cX12_goes 5 none [.ref (wd_b G + o), .int p1, .int p2] σ τ (ci_h τ) (r_M_goes o p1 p2 σ)) (C : cx_C G M RX12 cX12_goes 5 (n0 + 1) none) (a0 : Nat) (ha0 : sh_kd a0 = 12) (a2 : Int32)  (τ : hp_L) (k : hp_I → Option (hp_I)) (hk : ∀ (s : hp_I), dn_D G M 5 0 0 (cl_M G M (ci_h τ)) 156 [] [] s τ (k s)) : ∀ (fu : Nat) (x3 : Int32) (s0 : hp_I), dn_D G M 5 0 0 (cl_M G M (ci_h τ)) 2 [(0, .ref (wd_b G + a0)), (2, .int a2), (3, .int x3)] [] s0 τ (bd_M_goes_L2 r_M_goes a0 a2 k fu x3 s0) := by
  intro fu
  induction fu with
  | zero => exact fun x3 s0 => dn_none
  | succ fu ih =>
    intro x3 s0
    unfold bd_M_goes_L2
    refine dn_iload_n C dX12_goes_2 rfl 2 rfl rfl ?_
    refine dn_iload_n C dX12_goes_3 rfl 1 rfl rfl ?_
    refine dn_icmp_ge (t := 156) C dX12_goes_4 (by decide) rfl ?_ ?_
    · refine dn_aload_n C dX12_goes_7 rfl 0 rfl rfl ?_
      refine dn_getI C fd_X12_315 ha0 dX12_goes_8 rfl ?_
      refine dn_sipush C dX12_goes_11 ic_s_200 rfl ?_
      refine dn_icmp_ge (t := 156) C dX12_goes_14 (by decide) rfl ?_ ?_
      · refine dn_aload_n C dX12_goes_17 rfl 0 rfl rfl ?_
        refine dn_dup C dX12_goes_18 rfl rfl ?_
        refine dn_getI C fd_X12_315 ha0 dX12_goes_19 rfl ?_
        refine dn_iconst C dX12_goes_22 ic_i_1 rfl ?_
        refine dn_iadd C dX12_goes_23 rfl ?_
        refine dn_putI C fp_X12_315 ha0 dX12_goes_24 rfl (fun s2 => ?_)
        refine dn_aload_n C dX12_goes_27 rfl 0 rfl rfl ?_
        refine dn_getR C fd_X12_52 ha0 dX12_goes_28 rfl ?_
        refine dn_iload_n C dX12_goes_31 rfl 2 rfl rfl ?_
        refine dn_aald C (kt_12_23 ha0) dX12_goes_32 rfl (fun z3 hz3 => ?_)
        refine dn_iconst C dX12_goes_33 ic_i_0 rfl ?_
        refine dn_iald C (kt_row (kt_12_23 ha0) hz3) dX12_goes_34 rfl (fun z4 => ?_)
        refine dn_bipush C dX12_goes_35 ic_b_6 rfl ?_
        refine dn_jn (fun z => ∀ (s5 : hp_I), dn_D G M 5 0 0 (cl_M G M (ci_h τ)) 144 [(0, .ref (wd_b G + a0)), (2, .int a2), (3, .int x3)] [] s5 τ (z s5)) (fun s5 => ?_) (fun j9 hj9 => ?_)
        · refine dn_aload_n C dX12_goes_144 rfl 0 rfl rfl ?_
          refine dn_getR C fd_X12_52 ha0 dX12_goes_145 rfl ?_
          refine dn_iload_n C dX12_goes_148 rfl 2 rfl rfl ?_
          refine dn_aald C (kt_12_23 ha0) dX12_goes_149 rfl (fun z6 hz6 => ?_)
          refine dn_iconst C dX12_goes_150 ic_i_3 rfl ?_
          refine dn_iald C (kt_row (kt_12_23 ha0) hz6) dX12_goes_151 rfl (fun z7 => ?_)
          refine dn_istore_n (lv0 := [(0, .ref (wd_b G + a0)), (2, .int a2)]) C dX12_goes_152 rfl (by decide) rfl rfl (fun v3_8 => ?_)
          refine dn_goto (t := 2) C dX12_goes_153 (by decide) ?_
          refine dn_pick [1, 2, 0] rfl ?_
          exact ih v3_8 s5
        · refine dn_icmp_ne (t := 90) C dX12_goes_37 (by decide) rfl ?_ ?_
          · refine dn_iconst C dX12_goes_40 ic_i_0 rfl ?_
            refine dn_istore (lv0 := [(0, .ref (wd_b G + a0)), (2, .int a2), (3, .int x3)]) C dX12_goes_41 (by decide) rfl rfl (fun v4_10 => ?_)
            refine dn_pick [1, 2, 3, 0] rfl ?_
            refine pf_M_goes_L43 n0 hn0 r_M_goes hr_M_goes C  a0 ha0 a2 x3  τ _ (fun s_18 => ?_) FU v4_10 s2
            refine dn_goto (t := 144) C dX12_goes_87 (by decide) ?_
            exact hj9 s_18
          · refine dn_aload_n C dX12_goes_90 rfl 0 rfl rfl ?_
            refine dn_aload_n C dX12_goes_91 rfl 0 rfl rfl ?_
            refine dn_getR C fd_X12_55 ha0 dX12_goes_92 rfl ?_
            refine dn_aload_n C dX12_goes_95 rfl 0 rfl rfl ?_
            refine dn_getR C fd_X12_52 ha0 dX12_goes_96 rfl ?_
            refine dn_iload_n C dX12_goes_99 rfl 2 rfl rfl ?_
            refine dn_aald C (kt_12_23 ha0) dX12_goes_100 rfl (fun z19 hz19 => ?_)
            refine dn_callV_ih (As := [.ref (wd_b G + sh_rf a0 25), .ref (wd_b G + z19)]) (st := []) C (ok_M_does (cx_g C) a0 ha0 (sh_rf a0 25) (kt_12_25 ha0) z19 (kt_row (kt_12_23 ha0) hz19) s2 τ) mt_X12_does mv_X12_does lk_X12_321 (by omega) ha0 rfl ⟨Nat.zero_le _, Nat.zero_le _⟩ (Nat.le_of_ble_eq_true rfl) dX12_goes_101 rfl rfl (fun z20 s21 => ?_)
            refine dn_istore (lv0 := [(0, .ref (wd_b G + a0)), (2, .int a2), (3, .int x3)]) C dX12_goes_104 (by decide) rfl rfl (fun v4_22 => ?_)
            refine dn_aload_n C dX12_goes_106 rfl 1 rfl rfl ?_
            refine dn_dup C dX12_goes_107 rfl rfl ?_
            refine dn_getI C fd_X12_325 ha0 dX12_goes_108 rfl ?_
            refine dn_iload C dX12_goes_111 0 rfl rfl ?_
            refine dn_jn (fun z => ∀ (t23 : Int32), dn_D G M 5 0 0 (cl_M G M (ci_h τ)) 121 [(0, .ref (wd_b G + a0)), (2, .int a2), (3, .int x3), (4, .int v4_22)] [.int t23, .int (s21 a0 36), .ref (wd_b G + a0)] s21 τ (z t23)) (fun t23 => ?_) (fun j28 hj28 => ?_)
            · refine dn_iadd C dX12_goes_121 rfl ?_
              refine dn_putI C fp_X12_325 ha0 dX12_goes_122 rfl (fun s24 => ?_)
              refine dn_aload_n C dX12_goes_125 rfl 0 rfl rfl ?_
              refine dn_dup C dX12_goes_126 rfl rfl ?_
              refine dn_getI C fd_X12_198 ha0 dX12_goes_127 rfl ?_
              refine dn_iload C dX12_goes_130 3 rfl rfl ?_
              refine dn_jn (fun z => ∀ (t25 : Int32), dn_D G M 5 0 0 (cl_M G M (ci_h τ)) 140 [(0, .ref (wd_b G + a0)), (2, .int a2), (3, .int x3)] [.int t25, .int (s24 a0 32), .ref (wd_b G + a0)] s24 τ (z t25)) (fun t25 => ?_) (fun j27 hj27 => ?_)
              · refine dn_iadd C dX12_goes_140 rfl ?_
                refine dn_putI C fp_X12_198 ha0 dX12_goes_141 rfl (fun s26 => ?_)
                exact hj9 s26
              · refine dn_if_eq (t := 139) C dX12_goes_132 (by decide) rfl ?_ ?_
                · refine dn_iconst C dX12_goes_139 ic_i_1 rfl ?_
                  refine dn_pick [0, 1, 2] rfl ?_
                  exact hj27 (1 : Int32)
                · refine dn_iconst C dX12_goes_135 ic_i_0 rfl ?_
                  refine dn_goto (t := 140) C dX12_goes_136 (by decide) ?_
                  refine dn_pick [0, 1, 2] rfl ?_
                  exact hj27 (0 : Int32)
            · refine dn_if_eq (t := 120) C dX12_goes_113 (by decide) rfl ?_ ?_
              · refine dn_iconst C dX12_goes_120 ic_i_0 rfl ?_
                refine dn_pick [1, 2, 3, 0] rfl ?_
                exact hj28 (0 : Int32)
              · refine dn_iconst C dX12_goes_116 ic_i_1 rfl ?_
                refine dn_goto (t := 121) C dX12_goes_117 (by decide) ?_
                refine dn_pick [1, 2, 3, 0] rfl ?_
                exact hj28 (1 : Int32)
      · refine dn_pick [] rfl ?_
        exact hk s0
    · refine dn_pick [] rfl ?_
      exact hk s0
set_option maxHeartbeats 4000000 in
set_option maxRecDepth 100000 in
theorem ob_M_goes {G : wd_G} {l : Launch} (hN : gd_ok G) (n0 : Nat) (hn0 : 7 ≤ n0) (r_M_goes : Nat → Int32 → Int32 → hp_I → Option (hp_I)) (hr_M_goes : ∀ (l : Launch) (o : Nat) (ho : sh_kd o = 12) (p1 : Int32) (p2 : Int32) (σ : hp_I) (τ : hp_L), cl_C G l n0 yX12_goes cX12_goes 5 none [.ref (wd_b G + o), .int p1, .int p2] σ τ (ci_h τ) (r_M_goes o p1 p2 σ)) (o : Nat) (ho : sh_kd o = 12) (p1 : Int32) (p2 : Int32) (σ : hp_I) (τ : hp_L) : cl_C G l (n0 + 1) yX12_goes cX12_goes 5 none [.ref (wd_b G + o), .int p1, .int p2] σ τ (ci_h τ) (bd_M_goes r_M_goes o p1 p2 σ) := by
  refine cl_of (lv0 := [(0, .ref (wd_b G + o)), (1, .int p1), (2, .int p2)]) (ci_h τ) (by decide) (Nat.le_of_ble_eq_true rfl) rfl hN (fun M hM C => ?_)
  have C : cx_C G M RX12 cX12_goes 5 (n0 + 1) none := C
  unfold bd_M_goes
  refine dn_iload_n C dX12_goes_0 rfl 1 rfl rfl ?_
  refine dn_istore_n (lv0 := [(0, .ref (wd_b G + o)), (1, .int p1), (2, .int p2)]) C dX12_goes_1 rfl (by decide) rfl rfl (fun v3_1 => ?_)
  refine dn_pick [1, 3, 0] rfl ?_
  refine pf_M_goes_L2 n0 hn0 r_M_goes hr_M_goes C  o ho p2  τ _ (fun s_29 => ?_) FU v3_1 σ
  exact dn_vret C dX12_goes_156 rfl
def gr_M_goes : Nat → (Nat → Int32 → Int32 → hp_I → Option (hp_I))
  | 0 => (fun _ _ _ _ => none)
  | d + 1 => bd_M_goes (gr_M_goes d)
def fn_M_goes (o : Nat) (p1 : Int32) (p2 : Int32) (σ : hp_I) : Option (hp_I) := (gr_M_goes 64) o p1 p2 σ
theorem og_M_goes {G : wd_G} (hN : gd_ok G) : ∀ d : Nat, (∀ (l : Launch) (o : Nat) (ho : sh_kd o = 12) (p1 : Int32) (p2 : Int32) (σ : hp_I) (τ : hp_L), cl_C G l (7 + d) yX12_goes cX12_goes 5 none [.ref (wd_b G + o), .int p1, .int p2] σ τ (ci_h τ) ((gr_M_goes d) o p1 p2 σ)) := by
  intro d
  induction d with
  | zero => exact fun l o ho p1 p2 σ τ r hr => nomatch (show none = some r from hr)
  | succ d ih =>
    have h0 := ih
    exact fun l o ho p1 p2 σ τ => ob_M_goes hN (7 + d) (by omega) _ h0 o ho p1 p2 σ τ
theorem ok_M_goes {G : wd_G} {l : Launch} (hN : gd_ok G) (o : Nat) (ho : sh_kd o = 12) (p1 : Int32) (p2 : Int32) (σ : hp_I) (τ : hp_L) : cl_C G l 71 yX12_goes cX12_goes 5 none [.ref (wd_b G + o), .int p1, .int p2] σ τ (ci_h τ) (fn_M_goes o p1 p2 σ) := (og_M_goes hN 64) l o ho p1 p2 σ τ
def fn_M_law  (o : Nat) (p1 : Int32) (σ : hp_I) : Option (Int32 × hp_I) :=
  px_let (hp_s σ o 0 (0 : Int32)) fun s1 =>
  Option.bind (fn_M_in p1 (0 : Int32) (s1 o 1)) fun z2 =>
  px_jn (fun (t3 : Int32) =>
    px_b2 (fn_M_bad o t3 (1 : Int32) (1 : Int32) s1) fun z4 s5 =>
    if z4 = 0 then (
      Option.bind (fn_M_starts o p1 s5) fun s7 =>
      px_let (hp_s s7 o 16 (0 : Int32)) fun s8 =>
      Option.bind (fn_M_sum o s8) fun s10 =>
      Option.bind (fn_M_blanks o s10) fun s12 =>
      px_jn (fun (s13 : hp_I) =>
        if (s13 o 5) = 0 then (
          px_let (hp_s s13 o 3 (-1 : Int32)) fun s16 =>
          px_let (hp_s s16 o 15 (s16 o 16)) fun s17 =>
          Option.bind (fn_M_lays (sh_rf o 18) (sh_rf o 17) (s17 o 15) s17) fun s19 =>
          some ((1 : Int32), s19)
        ) else (
          px_b2 (fn_M_ends o s13) fun z14 s15 =>
          some (z14, s15)
        )
      ) fun j20 =>
        if (s12 o 5) = 0 then (
          if (s12 o 4) < (s12 o 2) then (
            Option.bind (fn_M_wrong o (1 : Int32) (s12 o 4) s12) fun s22 =>
            j20 s22
          ) else (
            j20 s12
          )
        ) else (
          j20 s12
        )
    ) else (
      some ((0 : Int32), s5)
    )
  ) fun j23 =>
    px_jn (
      j23 (1 : Int32)
    ) fun j24 =>
      if z2 = 0 then (
        j24
      ) else (
        if (150 : Int32) < p1 then (
          j24
        ) else (
          j23 (0 : Int32)
        )
      )
set_option maxHeartbeats 4000000 in
set_option maxRecDepth 100000 in
theorem ok_M_law {G : wd_G} {l : Launch} (hN : gd_ok G)  (o : Nat) (ho : sh_kd o = 12) (p1 : Int32) (σ : hp_I) (τ : hp_L) : cl_C G l 71 yX12_law cX12_law 2 (some .int) [.ref (wd_b G + o), .int p1] σ τ (ci_ih τ) (fn_M_law o p1 σ) := by
  refine cl_of (lv0 := [(0, .ref (wd_b G + o)), (1, .int p1)]) (ci_ih τ) (by decide) (Nat.le_of_ble_eq_true rfl) rfl hN (fun M hM C => ?_)
  have C : cx_C G M RX12 cX12_law 2 71 (some .int) := C
  unfold fn_M_law
  refine dn_aload_n C dX12_law_0 rfl 0 rfl rfl ?_
  refine dn_iconst C dX12_law_1 ic_i_0 rfl ?_
  refine dn_putI C fp_X12_93 ho dX12_law_2 rfl (fun s1 => ?_)
  refine dn_aload_n C dX12_law_5 rfl 0 rfl rfl ?_
  refine dn_iload_n C dX12_law_6 rfl 1 rfl rfl ?_
  refine dn_iconst C dX12_law_7 ic_i_0 rfl ?_
  refine dn_aload_n C dX12_law_8 rfl 0 rfl rfl ?_
  refine dn_getI C fd_X12_96 ho dX12_law_9 rfl ?_
  refine dn_callS_i (As := [.int p1, .int (0 : Int32), .int (s1 o 1)]) (st := [.ref (wd_b G + o)]) C (ok_M_in (cx_g C) p1 (0 : Int32) (s1 o 1) s1 τ) mt_X12_in ms_X12_in lk_X12_127 (by decide) rfl ⟨Nat.zero_le _, Nat.zero_le _⟩ (Nat.le_of_ble_eq_true rfl) dX12_law_12 rfl rfl (fun z2 => ?_)
  refine dn_jn (fun z => ∀ (t3 : Int32), dn_D G M 2 0 0 (cl_M G M (ci_ih τ)) 30 [(0, .ref (wd_b G + o)), (1, .int p1)] [.int t3, .ref (wd_b G + o)] s1 τ (z t3)) (fun t3 => ?_) (fun j23 hj23 => ?_)
  · refine dn_iconst C dX12_law_30 ic_i_1 rfl ?_
    refine dn_iconst C dX12_law_31 ic_i_1 rfl ?_
    refine dn_callV_ih (As := [.int t3, .int (1 : Int32), .int (1 : Int32)]) (st := []) C (ok_M_bad (cx_g C) o ho t3 (1 : Int32) (1 : Int32) s1 τ) mt_X12_bad mv_X12_bad lk_X12_172 (by decide) ho rfl ⟨Nat.zero_le _, Nat.zero_le _⟩ (Nat.le_of_ble_eq_true rfl) dX12_law_32 rfl rfl (fun z4 s5 => ?_)
    refine dn_if_eq (t := 40) C dX12_law_35 (by decide) rfl ?_ ?_
    · refine dn_aload_n C dX12_law_40 rfl 0 rfl rfl ?_
      refine dn_iload_n C dX12_law_41 rfl 1 rfl rfl ?_
      refine dn_callV_h (As := [.int p1]) (st := []) C (ok_M_starts (cx_g C) o ho p1 s5 τ) mt_X12_starts mv_X12_starts lk_X12_176 (by decide) ho rfl ⟨Nat.zero_le _, Nat.zero_le _⟩ (Nat.le_of_ble_eq_true rfl) dX12_law_42 rfl rfl (fun s7 => ?_)
      refine dn_aload_n C dX12_law_45 rfl 0 rfl rfl ?_
      refine dn_iconst C dX12_law_46 ic_i_0 rfl ?_
      refine dn_putI C fp_X12_204 ho dX12_law_47 rfl (fun s8 => ?_)
      refine dn_aload_n C dX12_law_50 rfl 0 rfl rfl ?_
      refine dn_callV_h (As := []) (st := []) C (ok_M_sum (cx_g C) o ho s8 τ) mt_X12_sum mv_X12_sum lk_X12_226 (by decide) ho rfl ⟨Nat.zero_le _, Nat.zero_le _⟩ (Nat.le_of_ble_eq_true rfl) dX12_law_51 rfl rfl (fun s10 => ?_)
      refine dn_aload_n C dX12_law_54 rfl 0 rfl rfl ?_
      refine dn_callV_h (As := []) (st := []) C (ok_M_blanks (cx_g C) o ho s10 τ) mt_X12_blanks mv_X12_blanks lk_X12_115 (by decide) ho rfl ⟨Nat.zero_le _, Nat.zero_le _⟩ (Nat.le_of_ble_eq_true rfl) dX12_law_55 rfl rfl (fun s12 => ?_)
      refine dn_aload_n C dX12_law_58 rfl 0 rfl rfl ?_
      refine dn_getI C fd_X12_109 ho dX12_law_59 rfl ?_
      refine dn_jn (fun z => ∀ (s13 : hp_I), dn_D G M 2 0 0 (cl_M G M (ci_ih τ)) 85 [(0, .ref (wd_b G + o))] [] s13 τ (z s13)) (fun s13 => ?_) (fun j20 hj20 => ?_)
      · refine dn_aload_n C dX12_law_85 rfl 0 rfl rfl ?_
        refine dn_getI C fd_X12_109 ho dX12_law_86 rfl ?_
        refine dn_if_eq (t := 97) C dX12_law_89 (by decide) rfl ?_ ?_
        · refine dn_aload_n C dX12_law_97 rfl 0 rfl rfl ?_
          refine dn_iconst C dX12_law_98 ic_i_m1 rfl ?_
          refine dn_putI C fp_X12_9 ho dX12_law_99 rfl (fun s16 => ?_)
          refine dn_aload_n C dX12_law_102 rfl 0 rfl rfl ?_
          refine dn_aload_n C dX12_law_103 rfl 0 rfl rfl ?_
          refine dn_getI C fd_X12_204 ho dX12_law_104 rfl ?_
          refine dn_putI C fp_X12_189 ho dX12_law_107 rfl (fun s17 => ?_)
          refine dn_aload_n C dX12_law_110 rfl 0 rfl rfl ?_
          refine dn_getR C fd_X12_37 ho dX12_law_111 rfl ?_
          refine dn_aload_n C dX12_law_114 rfl 0 rfl rfl ?_
          refine dn_getR C fd_X12_34 ho dX12_law_115 rfl ?_
          refine dn_aload_n C dX12_law_118 rfl 0 rfl rfl ?_
          refine dn_getI C fd_X12_189 ho dX12_law_119 rfl ?_
          refine dn_callS_h (As := [.ref (wd_b G + sh_rf o 18), .ref (wd_b G + sh_rf o 17), .int (s17 o 15)]) (st := []) C (ok_M_lays (cx_g C) (sh_rf o 18) (kt_12_18 ho) (sh_rf o 17) (kt_12_17 ho) (s17 o 15) s17 τ) mt_X12_lays ms_X12_lays lk_X12_185 (by decide) rfl ⟨Nat.zero_le _, Nat.zero_le _⟩ (Nat.le_of_ble_eq_true rfl) dX12_law_122 rfl rfl (fun s19 => ?_)
          refine dn_iconst C dX12_law_125 ic_i_1 rfl ?_
          exact dn_iret C dX12_law_126 rfl
        · refine dn_aload_n C dX12_law_92 rfl 0 rfl rfl ?_
          refine dn_callV_ih (As := []) (st := []) C (ok_M_ends (cx_g C) o ho s13 τ) mt_X12_ends mv_X12_ends lk_X12_182 (by decide) ho rfl ⟨Nat.zero_le _, Nat.zero_le _⟩ (Nat.le_of_ble_eq_true rfl) dX12_law_93 rfl rfl (fun z14 s15 => ?_)
          exact dn_iret C dX12_law_96 rfl
      · refine dn_if_ne (t := 85) C dX12_law_62 (by decide) rfl ?_ ?_
        · refine dn_aload_n C dX12_law_65 rfl 0 rfl rfl ?_
          refine dn_getI C fd_X12_102 ho dX12_law_66 rfl ?_
          refine dn_aload_n C dX12_law_69 rfl 0 rfl rfl ?_
          refine dn_getI C fd_X12_99 ho dX12_law_70 rfl ?_
          refine dn_icmp_ge (t := 85) C dX12_law_73 (by decide) rfl ?_ ?_
          · refine dn_aload_n C dX12_law_76 rfl 0 rfl rfl ?_
            refine dn_iconst C dX12_law_77 ic_i_1 rfl ?_
            refine dn_aload_n C dX12_law_78 rfl 0 rfl rfl ?_
            refine dn_getI C fd_X12_102 ho dX12_law_79 rfl ?_
            refine dn_callV_h (As := [.int (1 : Int32), .int (s12 o 4)]) (st := []) C (ok_M_wrong (cx_g C) o ho (1 : Int32) (s12 o 4) s12 τ) mt_X12_wrong mv_X12_wrong lk_X12_122 (by decide) ho rfl ⟨Nat.zero_le _, Nat.zero_le _⟩ (Nat.le_of_ble_eq_true rfl) dX12_law_82 rfl rfl (fun s22 => ?_)
            refine dn_pick [0] rfl ?_
            exact hj20 s22
          · refine dn_pick [0] rfl ?_
            exact hj20 s12
        · refine dn_pick [0] rfl ?_
          exact hj20 s12
    · refine dn_iconst C dX12_law_38 ic_i_0 rfl ?_
      exact dn_iret C dX12_law_39 rfl
  · refine dn_jn (fun z => dn_D G M 2 0 0 (cl_M G M (ci_ih τ)) 25 [(0, .ref (wd_b G + o)), (1, .int p1)] [.ref (wd_b G + o)] s1 τ z) ?_ (fun j24 hj24 => ?_)
    · refine dn_iconst C dX12_law_25 ic_i_1 rfl ?_
      refine dn_goto (t := 30) C dX12_law_26 (by decide) ?_
      exact hj23 (1 : Int32)
    · refine dn_if_eq (t := 25) C dX12_law_15 (by decide) rfl ?_ ?_
      · exact hj24
      · refine dn_iload_n C dX12_law_18 rfl 1 rfl rfl ?_
        refine dn_sipush C dX12_law_19 ic_s_150 rfl ?_
        refine dn_icmp_le (t := 29) C dX12_law_22 (by decide) rfl ?_ ?_
        · exact hj24
        · refine dn_iconst C dX12_law_29 ic_i_0 rfl ?_
          exact hj23 (0 : Int32)
def fn_M_work_L72  (a0 : Nat) (k : hp_I → Option (Int32 × hp_I)) : Nat → hp_I → Option (Int32 × hp_I)
  | 0, _ => none
  | fu + 1, s0 =>
    if (s0 a0 5) = 0 then (
      if (s0 a0 4) < (s0 a0 2) then (
        Option.bind (fn_M_readsStep a0 s0) fun s12 =>
        Option.bind (fn_M_blanks a0 s12) fun s14 =>
        fn_M_work_L72 a0 k fu s14
      ) else (
        k s0
      )
    ) else (
      k s0
    )
def fn_M_work  (o : Nat) (p1 : Int32) (σ : hp_I) : Option (Int32 × hp_I) :=
  px_let (hp_s σ o 0 (0 : Int32)) fun s1 =>
  Option.bind (fn_M_in p1 (0 : Int32) (s1 o 1)) fun z2 =>
  px_jn (fun (t3 : Int32) =>
    px_b2 (fn_M_bad o t3 (1 : Int32) (1 : Int32) s1) fun z4 s5 =>
    if z4 = 0 then (
      if (s5 o 31) = (16 : Int32) then (
        px_let (hp_s s5 o 1 (0 : Int32)) fun s6 =>
        px_let (hp_s s6 o 3 (-1 : Int32)) fun s7 =>
        some ((-20 : Int32), s7)
      ) else (
        Option.bind (fn_M_starts o p1 s5) fun s9 =>
        px_let (hp_s s9 o 24 (0 : Int32)) fun s10 =>
        fn_M_work_L72 o
          (fun (s_15 : hp_I) =>
            if (s_15 o 5) = 0 then (
              px_let (hp_s s_15 o 3 (-1 : Int32)) fun s18 =>
              Option.bind (px_rld (sh_rf o 28) (s18 o 31)) fun z19 =>
              Option.bind (fn_M_copies (sh_rf o 25) z19 s18) fun s21 =>
              px_let (hp_s s21 o 31 ((s21 o 31) + (1 : Int32))) fun s22 =>
              px_let (hp_s s22 o 35 (0 : Int32)) fun s23 =>
              px_let (hp_s s23 o 36 (0 : Int32)) fun s24 =>
              px_let (hp_s s24 o 32 (0 : Int32)) fun s25 =>
              Option.bind (fn_M_goes o (0 : Int32) (s25 o 24) s25) fun s27 =>
              some (s27 o 36, s27)
            ) else (
              px_b2 (fn_M_ends o s_15) fun z16 s17 =>
              some (z16, s17)
            )
          )
          FU s10
      )
    ) else (
      some ((0 : Int32), s5)
    )
  ) fun j28 =>
    px_jn (
      j28 (1 : Int32)
    ) fun j29 =>
      if z2 = 0 then (
        j29
      ) else (
        if (150 : Int32) < p1 then (
          j29
        ) else (
          j28 (0 : Int32)
        )
      )
set_option maxHeartbeats 4000000 in
set_option maxRecDepth 100000 in
theorem pf_M_work_L72 {G : wd_G} {M : wd_M}  (C : cx_C G M RX12 cX12_work 2 72 (some .int)) (a0 : Nat) (ha0 : sh_kd a0 = 12)  (τ : hp_L) (k : hp_I → Option (Int32 × hp_I)) (hk : ∀ (s : hp_I), dn_D G M 2 0 0 (cl_M G M (ci_ih τ)) 101 [(0, .ref (wd_b G + a0))] [] s τ (k s)) : ∀ (fu : Nat) (s0 : hp_I), dn_D G M 2 0 0 (cl_M G M (ci_ih τ)) 72 [(0, .ref (wd_b G + a0))] [] s0 τ (fn_M_work_L72 a0 k fu s0) := by
  intro fu
  induction fu with
  | zero => exact fun s0 => dn_none
  | succ fu ih =>
    intro s0
    unfold fn_M_work_L72
    refine dn_aload_n C dX12_work_72 rfl 0 rfl rfl ?_
    refine dn_getI C fd_X12_109 ha0 dX12_work_73 rfl ?_
    refine dn_if_ne (t := 101) C dX12_work_76 (by decide) rfl ?_ ?_
    · refine dn_aload_n C dX12_work_79 rfl 0 rfl rfl ?_
      refine dn_getI C fd_X12_102 ha0 dX12_work_80 rfl ?_
      refine dn_aload_n C dX12_work_83 rfl 0 rfl rfl ?_
      refine dn_getI C fd_X12_99 ha0 dX12_work_84 rfl ?_
      refine dn_icmp_ge (t := 101) C dX12_work_87 (by decide) rfl ?_ ?_
      · refine dn_aload_n C dX12_work_90 rfl 0 rfl rfl ?_
        refine dn_callV_h (As := []) (st := []) C (ok_M_readsStep (cx_g C) a0 ha0 s0 τ) mt_X12_readsStep mv_X12_readsStep lk_X12_248 (by decide) ha0 rfl ⟨Nat.zero_le _, Nat.zero_le _⟩ (Nat.le_of_ble_eq_true rfl) dX12_work_91 rfl rfl (fun s12 => ?_)
        refine dn_aload_n C dX12_work_94 rfl 0 rfl rfl ?_
        refine dn_callV_h (As := []) (st := []) C (ok_M_blanks (cx_g C) a0 ha0 s12 τ) mt_X12_blanks mv_X12_blanks lk_X12_115 (by decide) ha0 rfl ⟨Nat.zero_le _, Nat.zero_le _⟩ (Nat.le_of_ble_eq_true rfl) dX12_work_95 rfl rfl (fun s14 => ?_)
        refine dn_goto (t := 72) C dX12_work_98 (by decide) ?_
        exact ih s14
      · exact hk s0
    · exact hk s0
set_option maxHeartbeats 4000000 in
set_option maxRecDepth 100000 in
theorem ok_M_work {G : wd_G} {l : Launch} (hN : gd_ok G)  (o : Nat) (ho : sh_kd o = 12) (p1 : Int32) (σ : hp_I) (τ : hp_L) : cl_C G l 72 yX12_work cX12_work 2 (some .int) [.ref (wd_b G + o), .int p1] σ τ (ci_ih τ) (fn_M_work o p1 σ) := by
  refine cl_of (lv0 := [(0, .ref (wd_b G + o)), (1, .int p1)]) (ci_ih τ) (by decide) (Nat.le_of_ble_eq_true rfl) rfl hN (fun M hM C => ?_)
  have C : cx_C G M RX12 cX12_work 2 72 (some .int) := C
  unfold fn_M_work
  refine dn_aload_n C dX12_work_0 rfl 0 rfl rfl ?_
  refine dn_iconst C dX12_work_1 ic_i_0 rfl ?_
  refine dn_putI C fp_X12_93 ho dX12_work_2 rfl (fun s1 => ?_)
  refine dn_aload_n C dX12_work_5 rfl 0 rfl rfl ?_
  refine dn_iload_n C dX12_work_6 rfl 1 rfl rfl ?_
  refine dn_iconst C dX12_work_7 ic_i_0 rfl ?_
  refine dn_aload_n C dX12_work_8 rfl 0 rfl rfl ?_
  refine dn_getI C fd_X12_96 ho dX12_work_9 rfl ?_
  refine dn_callS_i (As := [.int p1, .int (0 : Int32), .int (s1 o 1)]) (st := [.ref (wd_b G + o)]) C (ok_M_in (cx_g C) p1 (0 : Int32) (s1 o 1) s1 τ) mt_X12_in ms_X12_in lk_X12_127 (by decide) rfl ⟨Nat.zero_le _, Nat.zero_le _⟩ (Nat.le_of_ble_eq_true rfl) dX12_work_12 rfl rfl (fun z2 => ?_)
  refine dn_jn (fun z => ∀ (t3 : Int32), dn_D G M 2 0 0 (cl_M G M (ci_ih τ)) 30 [(0, .ref (wd_b G + o)), (1, .int p1)] [.int t3, .ref (wd_b G + o)] s1 τ (z t3)) (fun t3 => ?_) (fun j28 hj28 => ?_)
  · refine dn_iconst C dX12_work_30 ic_i_1 rfl ?_
    refine dn_iconst C dX12_work_31 ic_i_1 rfl ?_
    refine dn_callV_ih (As := [.int t3, .int (1 : Int32), .int (1 : Int32)]) (st := []) C (ok_M_bad (cx_g C) o ho t3 (1 : Int32) (1 : Int32) s1 τ) mt_X12_bad mv_X12_bad lk_X12_172 (by decide) ho rfl ⟨Nat.zero_le _, Nat.zero_le _⟩ (Nat.le_of_ble_eq_true rfl) dX12_work_32 rfl rfl (fun z4 s5 => ?_)
    refine dn_if_eq (t := 40) C dX12_work_35 (by decide) rfl ?_ ?_
    · refine dn_aload_n C dX12_work_40 rfl 0 rfl rfl ?_
      refine dn_getI C fd_X12_195 ho dX12_work_41 rfl ?_
      refine dn_bipush C dX12_work_44 ic_b_16 rfl ?_
      refine dn_icmp_ne (t := 62) C dX12_work_46 (by decide) rfl ?_ ?_
      · refine dn_aload_n C dX12_work_49 rfl 0 rfl rfl ?_
        refine dn_iconst C dX12_work_50 ic_i_0 rfl ?_
        refine dn_putI C fp_X12_96 ho dX12_work_51 rfl (fun s6 => ?_)
        refine dn_aload_n C dX12_work_54 rfl 0 rfl rfl ?_
        refine dn_iconst C dX12_work_55 ic_i_m1 rfl ?_
        refine dn_putI C fp_X12_9 ho dX12_work_56 rfl (fun s7 => ?_)
        refine dn_bipush C dX12_work_59 ic_b_m20 rfl ?_
        exact dn_iret C dX12_work_61 rfl
      · refine dn_aload_n C dX12_work_62 rfl 0 rfl rfl ?_
        refine dn_iload_n C dX12_work_63 rfl 1 rfl rfl ?_
        refine dn_callV_h (As := [.int p1]) (st := []) C (ok_M_starts (cx_g C) o ho p1 s5 τ) mt_X12_starts mv_X12_starts lk_X12_176 (by decide) ho rfl ⟨Nat.zero_le _, Nat.zero_le _⟩ (Nat.le_of_ble_eq_true rfl) dX12_work_64 rfl rfl (fun s9 => ?_)
        refine dn_aload_n C dX12_work_67 rfl 0 rfl rfl ?_
        refine dn_iconst C dX12_work_68 ic_i_0 rfl ?_
        refine dn_putI C fp_X12_245 ho dX12_work_69 rfl (fun s10 => ?_)
        refine dn_pick [0] rfl ?_
        refine pf_M_work_L72  C  o ho  τ _ (fun s_15 => ?_) FU s10
        refine dn_aload_n C dX12_work_101 rfl 0 rfl rfl ?_
        refine dn_getI C fd_X12_109 ho dX12_work_102 rfl ?_
        refine dn_if_eq (t := 113) C dX12_work_105 (by decide) rfl ?_ ?_
        · refine dn_aload_n C dX12_work_113 rfl 0 rfl rfl ?_
          refine dn_iconst C dX12_work_114 ic_i_m1 rfl ?_
          refine dn_putI C fp_X12_9 ho dX12_work_115 rfl (fun s18 => ?_)
          refine dn_aload_n C dX12_work_118 rfl 0 rfl rfl ?_
          refine dn_getR C fd_X12_55 ho dX12_work_119 rfl ?_
          refine dn_aload_n C dX12_work_122 rfl 0 rfl rfl ?_
          refine dn_getR C fd_X12_64 ho dX12_work_123 rfl ?_
          refine dn_aload_n C dX12_work_126 rfl 0 rfl rfl ?_
          refine dn_getI C fd_X12_195 ho dX12_work_127 rfl ?_
          refine dn_aald C (kt_12_28 ho) dX12_work_130 rfl (fun z19 hz19 => ?_)
          refine dn_callS_h (As := [.ref (wd_b G + sh_rf o 25), .ref (wd_b G + z19)]) (st := []) C (ok_M_copies (cx_g C) (sh_rf o 25) (kt_12_25 ho) z19 (kt_row (kt_12_28 ho) hz19) s18 τ) mt_X12_copies ms_X12_copies lk_X12_328 (by decide) rfl ⟨Nat.zero_le _, Nat.zero_le _⟩ (Nat.le_of_ble_eq_true rfl) dX12_work_131 rfl rfl (fun s21 => ?_)
          refine dn_aload_n C dX12_work_134 rfl 0 rfl rfl ?_
          refine dn_dup C dX12_work_135 rfl rfl ?_
          refine dn_getI C fd_X12_195 ho dX12_work_136 rfl ?_
          refine dn_iconst C dX12_work_139 ic_i_1 rfl ?_
          refine dn_iadd C dX12_work_140 rfl ?_
          refine dn_putI C fp_X12_195 ho dX12_work_141 rfl (fun s22 => ?_)
          refine dn_aload_n C dX12_work_144 rfl 0 rfl rfl ?_
          refine dn_iconst C dX12_work_145 ic_i_0 rfl ?_
          refine dn_putI C fp_X12_315 ho dX12_work_146 rfl (fun s23 => ?_)
          refine dn_aload_n C dX12_work_149 rfl 0 rfl rfl ?_
          refine dn_iconst C dX12_work_150 ic_i_0 rfl ?_
          refine dn_putI C fp_X12_325 ho dX12_work_151 rfl (fun s24 => ?_)
          refine dn_aload_n C dX12_work_154 rfl 0 rfl rfl ?_
          refine dn_iconst C dX12_work_155 ic_i_0 rfl ?_
          refine dn_putI C fp_X12_198 ho dX12_work_156 rfl (fun s25 => ?_)
          refine dn_aload_n C dX12_work_159 rfl 0 rfl rfl ?_
          refine dn_iconst C dX12_work_160 ic_i_0 rfl ?_
          refine dn_aload_n C dX12_work_161 rfl 0 rfl rfl ?_
          refine dn_getI C fd_X12_245 ho dX12_work_162 rfl ?_
          refine dn_callV_h (As := [.int (0 : Int32), .int (s25 o 24)]) (st := []) C (ok_M_goes (cx_g C) o ho (0 : Int32) (s25 o 24) s25 τ) mt_X12_goes mv_X12_goes lk_X12_318 (by decide) ho rfl ⟨Nat.zero_le _, Nat.zero_le _⟩ (Nat.le_of_ble_eq_true rfl) dX12_work_165 rfl rfl (fun s27 => ?_)
          refine dn_aload_n C dX12_work_168 rfl 0 rfl rfl ?_
          refine dn_getI C fd_X12_325 ho dX12_work_169 rfl ?_
          exact dn_iret C dX12_work_172 rfl
        · refine dn_aload_n C dX12_work_108 rfl 0 rfl rfl ?_
          refine dn_callV_ih (As := []) (st := []) C (ok_M_ends (cx_g C) o ho s_15 τ) mt_X12_ends mv_X12_ends lk_X12_182 (by decide) ho rfl ⟨Nat.zero_le _, Nat.zero_le _⟩ (Nat.le_of_ble_eq_true rfl) dX12_work_109 rfl rfl (fun z16 s17 => ?_)
          exact dn_iret C dX12_work_112 rfl
    · refine dn_iconst C dX12_work_38 ic_i_0 rfl ?_
      exact dn_iret C dX12_work_39 rfl
  · refine dn_jn (fun z => dn_D G M 2 0 0 (cl_M G M (ci_ih τ)) 25 [(0, .ref (wd_b G + o)), (1, .int p1)] [.ref (wd_b G + o)] s1 τ z) ?_ (fun j29 hj29 => ?_)
    · refine dn_iconst C dX12_work_25 ic_i_1 rfl ?_
      refine dn_goto (t := 30) C dX12_work_26 (by decide) ?_
      exact hj28 (1 : Int32)
    · refine dn_if_eq (t := 25) C dX12_work_15 (by decide) rfl ?_ ?_
      · exact hj29
      · refine dn_iload_n C dX12_work_18 rfl 1 rfl rfl ?_
        refine dn_sipush C dX12_work_19 ic_s_150 rfl ?_
        refine dn_icmp_le (t := 29) C dX12_work_22 (by decide) rfl ?_ ?_
        · exact hj29
        · refine dn_iconst C dX12_work_29 ic_i_0 rfl ?_
          exact hj28 (0 : Int32)
