def fn_J6_bitCount_0f7a4  (p1 : Int32) : Option (Int32) :=
  px_let (p1 - ((px_ushr p1 (1 : Int32)) &&& (1431655765 : Int32))) fun v0_1 =>
  px_let ((v0_1 &&& (858993459 : Int32)) + ((px_ushr v0_1 (2 : Int32)) &&& (858993459 : Int32))) fun v0_2 =>
  px_let ((v0_2 + (px_ushr v0_2 (4 : Int32))) &&& (252645135 : Int32)) fun v0_3 =>
  px_let (v0_3 + (px_ushr v0_3 (8 : Int32))) fun v0_4 =>
  px_let (v0_4 + (px_ushr v0_4 (16 : Int32))) fun v0_5 =>
  some (v0_5 &&& (63 : Int32))
set_option maxHeartbeats 4000000 in
set_option maxRecDepth 100000 in
theorem ok_J6_bitCount_0f7a4 {G : wd_G} {l : Launch} (hN : gd_ok G)  (p1 : Int32) (σ : hp_I) (τ : hp_L) : cl_C G l 0 yJ6_bitCount_0f7a4 cJ6_bitCount_0f7a4 1 (some .int) [.int p1] σ τ (ci_i σ τ) (fn_J6_bitCount_0f7a4 p1) := by
  refine cl_of (lv0 := [(0, .int p1)]) (ci_i σ τ) (by decide) (Nat.le_of_ble_eq_true rfl) rfl hN (fun M hM C => ?_)
  have C : cx_C G M RJ6 cJ6_bitCount_0f7a4 1 0 (some .int) := C
  unfold fn_J6_bitCount_0f7a4
  refine dn_iload_n C dJ6_bitCount_0f7a4_0 rfl 0 rfl rfl ?_
  refine dn_iload_n C dJ6_bitCount_0f7a4_1 rfl 0 rfl rfl ?_
  refine dn_iconst C dJ6_bitCount_0f7a4_2 ic_i_1 rfl ?_
  refine dn_iushr (v := px_ushr p1 (1 : Int32)) C dJ6_bitCount_0f7a4_3 rfl rfl ?_
  refine dn_ldcw C lc_J6_265 dJ6_bitCount_0f7a4_4 rfl ?_
  refine dn_iand C dJ6_bitCount_0f7a4_7 rfl ?_
  refine dn_isub C dJ6_bitCount_0f7a4_8 rfl ?_
  refine dn_istore_n (lv0 := []) C dJ6_bitCount_0f7a4_9 rfl (by decide) rfl rfl (fun v0_1 => ?_)
  refine dn_iload_n C dJ6_bitCount_0f7a4_10 rfl 0 rfl rfl ?_
  refine dn_ldcw C lc_J6_266 dJ6_bitCount_0f7a4_11 rfl ?_
  refine dn_iand C dJ6_bitCount_0f7a4_14 rfl ?_
  refine dn_iload_n C dJ6_bitCount_0f7a4_15 rfl 0 rfl rfl ?_
  refine dn_iconst C dJ6_bitCount_0f7a4_16 ic_i_2 rfl ?_
  refine dn_iushr (v := px_ushr v0_1 (2 : Int32)) C dJ6_bitCount_0f7a4_17 rfl rfl ?_
  refine dn_ldcw C lc_J6_266 dJ6_bitCount_0f7a4_18 rfl ?_
  refine dn_iand C dJ6_bitCount_0f7a4_21 rfl ?_
  refine dn_iadd C dJ6_bitCount_0f7a4_22 rfl ?_
  refine dn_istore_n (lv0 := []) C dJ6_bitCount_0f7a4_23 rfl (by decide) rfl rfl (fun v0_2 => ?_)
  refine dn_iload_n C dJ6_bitCount_0f7a4_24 rfl 0 rfl rfl ?_
  refine dn_iload_n C dJ6_bitCount_0f7a4_25 rfl 0 rfl rfl ?_
  refine dn_iconst C dJ6_bitCount_0f7a4_26 ic_i_4 rfl ?_
  refine dn_iushr (v := px_ushr v0_2 (4 : Int32)) C dJ6_bitCount_0f7a4_27 rfl rfl ?_
  refine dn_iadd C dJ6_bitCount_0f7a4_28 rfl ?_
  refine dn_ldcw C lc_J6_267 dJ6_bitCount_0f7a4_29 rfl ?_
  refine dn_iand C dJ6_bitCount_0f7a4_32 rfl ?_
  refine dn_istore_n (lv0 := []) C dJ6_bitCount_0f7a4_33 rfl (by decide) rfl rfl (fun v0_3 => ?_)
  refine dn_iload_n C dJ6_bitCount_0f7a4_34 rfl 0 rfl rfl ?_
  refine dn_iload_n C dJ6_bitCount_0f7a4_35 rfl 0 rfl rfl ?_
  refine dn_bipush C dJ6_bitCount_0f7a4_36 ic_b_8 rfl ?_
  refine dn_iushr (v := px_ushr v0_3 (8 : Int32)) C dJ6_bitCount_0f7a4_38 rfl rfl ?_
  refine dn_iadd C dJ6_bitCount_0f7a4_39 rfl ?_
  refine dn_istore_n (lv0 := []) C dJ6_bitCount_0f7a4_40 rfl (by decide) rfl rfl (fun v0_4 => ?_)
  refine dn_iload_n C dJ6_bitCount_0f7a4_41 rfl 0 rfl rfl ?_
  refine dn_iload_n C dJ6_bitCount_0f7a4_42 rfl 0 rfl rfl ?_
  refine dn_bipush C dJ6_bitCount_0f7a4_43 ic_b_16 rfl ?_
  refine dn_iushr (v := px_ushr v0_4 (16 : Int32)) C dJ6_bitCount_0f7a4_45 rfl rfl ?_
  refine dn_iadd C dJ6_bitCount_0f7a4_46 rfl ?_
  refine dn_istore_n (lv0 := []) C dJ6_bitCount_0f7a4_47 rfl (by decide) rfl rfl (fun v0_5 => ?_)
  refine dn_iload_n C dJ6_bitCount_0f7a4_48 rfl 0 rfl rfl ?_
  refine dn_bipush C dJ6_bitCount_0f7a4_49 ic_b_63 rfl ?_
  refine dn_iand C dJ6_bitCount_0f7a4_51 rfl ?_
  exact dn_iret C dJ6_bitCount_0f7a4_52 rfl
def fn_Law_joined  (p1 : Int32) (p2 : Int32) (p3 : Int32) : Option (Int32) :=
  px_sw p1 [
    ((1010 : Int32), (
      some (p2 + p3)
    )),
    ((1011 : Int32), (
      some (p2 - p3)
    )),
    ((1012 : Int32), (
      some (p2 * p3)
    )),
    ((1013 : Int32), (
      px_jn (fun (t3 : Int32) =>
        some t3
      ) fun j4 =>
        if p3 = 0 then (
          j4 (0 : Int32)
        ) else (
          Option.bind (px_div p2 p3) fun z5 =>
          j4 z5
        )
    )),
    ((1014 : Int32), (
      px_jn (fun (t6 : Int32) =>
        some t6
      ) fun j7 =>
        if p3 = 0 then (
          j7 (0 : Int32)
        ) else (
          Option.bind (px_rem p2 p3) fun z8 =>
          j7 z8
        )
    )),
    ((1015 : Int32), (
      px_jn (fun (t9 : Int32) =>
        some t9
      ) fun j10 =>
        if p2 < p3 then (
          j10 p2
        ) else (
          j10 p3
        )
    ))
  ] (
    px_jn (fun (t1 : Int32) =>
      some t1
    ) fun j2 =>
      if p3 < p2 then (
        j2 p2
      ) else (
        j2 p3
      )
  )
set_option maxHeartbeats 4000000 in
set_option maxRecDepth 100000 in
theorem ok_Law_joined {G : wd_G} {l : Launch} (hN : gd_ok G)  (p1 : Int32) (p2 : Int32) (p3 : Int32) (σ : hp_I) (τ : hp_L) : cl_C G l 0 yX4_joined cX4_joined 3 (some .int) [.int p1, .int p2, .int p3] σ τ (ci_i σ τ) (fn_Law_joined p1 p2 p3) := by
  refine cl_of (lv0 := [(0, .int p1), (1, .int p2), (2, .int p3)]) (ci_i σ τ) (by decide) (Nat.le_of_ble_eq_true rfl) rfl hN (fun M hM C => ?_)
  have C : cx_C G M RX4 cX4_joined 3 0 (some .int) := C
  unfold fn_Law_joined
  refine dn_iload_n C dX4_joined_0 rfl 0 rfl rfl ?_
  refine dn_table (t0 := 87) _ C dX4_joined_1 (by decide) rfl ?_ ⟨⟨39, 40, by decide, rfl, by decide, ?_⟩, ⟨43, 44, by decide, rfl, by decide, ?_⟩, ⟨47, 48, by decide, rfl, by decide, ?_⟩, ⟨51, 52, by decide, rfl, by decide, ?_⟩, ⟨63, 64, by decide, rfl, by decide, ?_⟩, ⟨75, 76, by decide, rfl, by decide, ?_⟩, trivial⟩
  · refine dn_iload_n C dX4_joined_87 rfl 1 rfl rfl ?_
    refine dn_iload_n C dX4_joined_88 rfl 2 rfl rfl ?_
    refine dn_jn (fun z => ∀ (t1 : Int32), dn_D G M 3 0 0 (cl_M G M (ci_i σ τ)) 97 [] [.int t1] σ τ (z t1)) (fun t1 => ?_) (fun j2 hj2 => ?_)
    · exact dn_iret C dX4_joined_97 rfl
    · refine dn_icmp_le (t := 96) C dX4_joined_89 (by decide) rfl ?_ ?_
      · refine dn_iload_n C dX4_joined_92 rfl 1 rfl rfl ?_
        refine dn_goto (t := 97) C dX4_joined_93 (by decide) ?_
        refine dn_pick [] rfl ?_
        exact hj2 p2
      · refine dn_iload_n C dX4_joined_96 rfl 2 rfl rfl ?_
        refine dn_pick [] rfl ?_
        exact hj2 p3
  · refine dn_iload_n C dX4_joined_40 rfl 1 rfl rfl ?_
    refine dn_iload_n C dX4_joined_41 rfl 2 rfl rfl ?_
    refine dn_iadd C dX4_joined_42 rfl ?_
    exact dn_iret C dX4_joined_43 rfl
  · refine dn_iload_n C dX4_joined_44 rfl 1 rfl rfl ?_
    refine dn_iload_n C dX4_joined_45 rfl 2 rfl rfl ?_
    refine dn_isub C dX4_joined_46 rfl ?_
    exact dn_iret C dX4_joined_47 rfl
  · refine dn_iload_n C dX4_joined_48 rfl 1 rfl rfl ?_
    refine dn_iload_n C dX4_joined_49 rfl 2 rfl rfl ?_
    refine dn_imul C dX4_joined_50 rfl ?_
    exact dn_iret C dX4_joined_51 rfl
  · refine dn_iload_n C dX4_joined_52 rfl 2 rfl rfl ?_
    refine dn_jn (fun z => ∀ (t3 : Int32), dn_D G M 3 0 0 (cl_M G M (ci_i σ τ)) 63 [] [.int t3] σ τ (z t3)) (fun t3 => ?_) (fun j4 hj4 => ?_)
    · exact dn_iret C dX4_joined_63 rfl
    · refine dn_if_ne (t := 60) C dX4_joined_53 (by decide) rfl ?_ ?_
      · refine dn_iconst C dX4_joined_56 ic_i_0 rfl ?_
        refine dn_goto (t := 63) C dX4_joined_57 (by decide) ?_
        refine dn_pick [] rfl ?_
        exact hj4 (0 : Int32)
      · refine dn_iload_n C dX4_joined_60 rfl 1 rfl rfl ?_
        refine dn_iload_n C dX4_joined_61 rfl 2 rfl rfl ?_
        refine dn_idiv C dX4_joined_62 rfl (fun z5 => ?_)
        refine dn_pick [] rfl ?_
        exact hj4 z5
  · refine dn_iload_n C dX4_joined_64 rfl 2 rfl rfl ?_
    refine dn_jn (fun z => ∀ (t6 : Int32), dn_D G M 3 0 0 (cl_M G M (ci_i σ τ)) 75 [] [.int t6] σ τ (z t6)) (fun t6 => ?_) (fun j7 hj7 => ?_)
    · exact dn_iret C dX4_joined_75 rfl
    · refine dn_if_ne (t := 72) C dX4_joined_65 (by decide) rfl ?_ ?_
      · refine dn_iconst C dX4_joined_68 ic_i_0 rfl ?_
        refine dn_goto (t := 75) C dX4_joined_69 (by decide) ?_
        refine dn_pick [] rfl ?_
        exact hj7 (0 : Int32)
      · refine dn_iload_n C dX4_joined_72 rfl 1 rfl rfl ?_
        refine dn_iload_n C dX4_joined_73 rfl 2 rfl rfl ?_
        refine dn_irem C dX4_joined_74 rfl (fun z8 => ?_)
        refine dn_pick [] rfl ?_
        exact hj7 z8
  · refine dn_iload_n C dX4_joined_76 rfl 1 rfl rfl ?_
    refine dn_iload_n C dX4_joined_77 rfl 2 rfl rfl ?_
    refine dn_jn (fun z => ∀ (t9 : Int32), dn_D G M 3 0 0 (cl_M G M (ci_i σ τ)) 86 [] [.int t9] σ τ (z t9)) (fun t9 => ?_) (fun j10 hj10 => ?_)
    · exact dn_iret C dX4_joined_86 rfl
    · refine dn_icmp_ge (t := 85) C dX4_joined_78 (by decide) rfl ?_ ?_
      · refine dn_iload_n C dX4_joined_81 rfl 1 rfl rfl ?_
        refine dn_goto (t := 86) C dX4_joined_82 (by decide) ?_
        refine dn_pick [] rfl ?_
        exact hj10 p2
      · refine dn_iload_n C dX4_joined_85 rfl 2 rfl rfl ?_
        refine dn_pick [] rfl ?_
        exact hj10 p3
def fn_Law_variable  (o : Nat) (p1 : Int32) (σ : hp_I) : Option (Int32) :=
  px_jn (fun (t1 : Int32) =>
    some t1
  ) fun j2 =>
    px_jn (
      j2 (0 : Int32)
    ) fun j3 =>
      if 0 ≤ p1 then (
        if p1 < (7 : Int32) then (
          Option.bind (px_ald σ (sh_rf o 4) p1) fun z4 =>
          j2 z4
        ) else (
          j3
        )
      ) else (
        j3
      )
set_option maxHeartbeats 4000000 in
set_option maxRecDepth 100000 in
theorem ok_Law_variable {G : wd_G} {l : Launch} (hN : gd_ok G)  (o : Nat) (ho : sh_kd o = 4) (p1 : Int32) (σ : hp_I) (τ : hp_L) : cl_C G l 0 yX4_variable cX4_variable 2 (some .int) [.ref (wd_b G + o), .int p1] σ τ (ci_i σ τ) (fn_Law_variable o p1 σ) := by
  refine cl_of (lv0 := [(0, .ref (wd_b G + o)), (1, .int p1)]) (ci_i σ τ) (by decide) (Nat.le_of_ble_eq_true rfl) rfl hN (fun M hM C => ?_)
  have C : cx_C G M RX4 cX4_variable 2 0 (some .int) := C
  unfold fn_Law_variable
  refine dn_iload_n C dX4_variable_0 rfl 1 rfl rfl ?_
  refine dn_jn (fun z => ∀ (t1 : Int32), dn_D G M 2 0 0 (cl_M G M (ci_i σ τ)) 20 [] [.int t1] σ τ (z t1)) (fun t1 => ?_) (fun j2 hj2 => ?_)
  · exact dn_iret C dX4_variable_20 rfl
  · refine dn_jn (fun z => dn_D G M 2 0 0 (cl_M G M (ci_i σ τ)) 19 [] [] σ τ z) ?_ (fun j3 hj3 => ?_)
    · refine dn_iconst C dX4_variable_19 ic_i_0 rfl ?_
      exact hj2 (0 : Int32)
    · refine dn_if_lt (t := 19) C dX4_variable_1 (by decide) rfl ?_ ?_
      · refine dn_iload_n C dX4_variable_4 rfl 1 rfl rfl ?_
        refine dn_bipush C dX4_variable_5 ic_b_7 rfl ?_
        refine dn_icmp_ge (t := 19) C dX4_variable_7 (by decide) rfl ?_ ?_
        · refine dn_aload_n C dX4_variable_10 rfl 0 rfl rfl ?_
          refine dn_getR C fd_X4_18 ho dX4_variable_11 rfl ?_
          refine dn_iload_n C dX4_variable_14 rfl 1 rfl rfl ?_
          refine dn_iald C (kt_4_4 ho) dX4_variable_15 rfl (fun z4 => ?_)
          refine dn_goto (t := 20) C dX4_variable_16 (by decide) ?_
          refine dn_pick [] rfl ?_
          exact hj2 z4
        · refine dn_pick [] rfl ?_
          exact hj3
      · refine dn_pick [] rfl ?_
        exact hj3
def fn_Law_value_L4  (a0 : Nat) (k : hp_I → Option (Int32 × hp_I)) : Nat → Int32 → Int32 → hp_I → Option (Int32 × hp_I)
  | 0, _, _, _ => none
  | fu + 1, x1, x2, s0 =>
    if x2 < (s0 a0 1) then (
      Option.bind (px_ald s0 (sh_rf a0 0) x2) fun z3 =>
      px_let z3 fun v3_4 =>
      px_jn (fun (a1_5 : Int32) (s6 : hp_I) =>
        px_let (x2 + 1) fun v2_7 =>
        fn_Law_value_L4 a0 k fu a1_5 v2_7 s6
      ) fun j8 =>
        if (1010 : Int32) ≤ v3_4 then (
          if (2 : Int32) ≤ x1 then (
            px_let (x1 + (-1)) fun v1_9 =>
            Option.bind (px_ald s0 (sh_rf a0 5) (v1_9 - (1 : Int32))) fun z10 =>
            Option.bind (px_ald s0 (sh_rf a0 5) v1_9) fun z11 =>
            Option.bind (fn_Law_joined v3_4 z10 z11) fun z12 =>
            Option.bind (px_ast s0 (sh_rf a0 5) (v1_9 - (1 : Int32)) z12) fun s13 =>
            j8 v1_9 s13
          ) else (
            j8 x1 s0
          )
        ) else (
          if x1 < (32 : Int32) then (
            px_jn (fun (t14 : Int32) =>
              Option.bind (px_ast s0 (sh_rf a0 5) x1 t14) fun s15 =>
              px_let (x1 + 1) fun v1_16 =>
              j8 v1_16 s15
            ) fun j17 =>
              if v3_4 < (1000 : Int32) then (
                j17 v3_4
              ) else (
                Option.bind (fn_Law_variable a0 (v3_4 - (1000 : Int32)) s0) fun z18 =>
                j17 z18
              )
          ) else (
            j8 x1 s0
          )
        )
    ) else (
      k s0
    )
def fn_Law_value  (o : Nat) (σ : hp_I) : Option (Int32 × hp_I) :=
  px_let (0 : Int32) fun v1_1 =>
  px_let (0 : Int32) fun v2_2 =>
  fn_Law_value_L4 o
    (fun (s_19 : hp_I) =>
      Option.bind (px_ald s_19 (sh_rf o 5) (0 : Int32)) fun z20 =>
      some (z20, s_19)
    )
    FU v1_1 v2_2 σ
set_option maxHeartbeats 4000000 in
set_option maxRecDepth 100000 in
theorem pf_Law_value_L4 {G : wd_G} {M : wd_M}  (C : cx_C G M RX4 cX4_value 4 1 (some .int)) (a0 : Nat) (ha0 : sh_kd a0 = 4)  (τ : hp_L) (k : hp_I → Option (Int32 × hp_I)) (hk : ∀ (s : hp_I), dn_D G M 4 0 0 (cl_M G M (ci_ih τ)) 107 [(0, .ref (wd_b G + a0))] [] s τ (k s)) : ∀ (fu : Nat) (x1 : Int32) (x2 : Int32) (s0 : hp_I), dn_D G M 4 0 0 (cl_M G M (ci_ih τ)) 4 [(0, .ref (wd_b G + a0)), (1, .int x1), (2, .int x2)] [] s0 τ (fn_Law_value_L4 a0 k fu x1 x2 s0) := by
  intro fu
  induction fu with
  | zero => exact fun x1 x2 s0 => dn_none
  | succ fu ih =>
    intro x1 x2 s0
    unfold fn_Law_value_L4
    refine dn_iload_n C dX4_value_4 rfl 2 rfl rfl ?_
    refine dn_aload_n C dX4_value_5 rfl 0 rfl rfl ?_
    refine dn_getI C fd_X4_24 ha0 dX4_value_6 rfl ?_
    refine dn_icmp_ge (t := 107) C dX4_value_9 (by decide) rfl ?_ ?_
    · refine dn_aload_n C dX4_value_12 rfl 0 rfl rfl ?_
      refine dn_getR C fd_X4_9 ha0 dX4_value_13 rfl ?_
      refine dn_iload_n C dX4_value_16 rfl 2 rfl rfl ?_
      refine dn_iald C (kt_4_0 ha0) dX4_value_17 rfl (fun z3 => ?_)
      refine dn_istore_n (lv0 := [(0, .ref (wd_b G + a0)), (1, .int x1), (2, .int x2)]) C dX4_value_18 rfl (by decide) rfl rfl (fun v3_4 => ?_)
      refine dn_iload_n C dX4_value_19 rfl 0 rfl rfl ?_
      refine dn_sipush C dX4_value_20 ic_s_1010 rfl ?_
      refine dn_jn (fun z => ∀ (a1_5 : Int32) (s6 : hp_I), dn_D G M 4 0 0 (cl_M G M (ci_ih τ)) 101 [(0, .ref (wd_b G + a0)), (1, .int a1_5), (2, .int x2)] [] s6 τ (z a1_5 s6)) (fun a1_5 s6 => ?_) (fun j8 hj8 => ?_)
      · refine dn_iinc (lv0 := [(0, .ref (wd_b G + a0)), (1, .int a1_5)]) (v := x2 + 1) C dX4_value_101 2 rfl rfl (by decide) rfl rfl (fun v2_7 => ?_)
        refine dn_goto (t := 4) C dX4_value_104 (by decide) ?_
        refine dn_pick [1, 2, 0] rfl ?_
        exact ih a1_5 v2_7 s6
      · refine dn_icmp_lt (t := 63) C dX4_value_23 (by decide) rfl ?_ ?_
        · refine dn_iload_n C dX4_value_26 rfl 2 rfl rfl ?_
          refine dn_iconst C dX4_value_27 ic_i_2 rfl ?_
          refine dn_icmp_lt (t := 101) C dX4_value_28 (by decide) rfl ?_ ?_
          · refine dn_iinc (lv0 := [(3, .int v3_4), (0, .ref (wd_b G + a0)), (2, .int x2)]) (v := x1 + (-1)) C dX4_value_31 2 rfl rfl (by decide) rfl rfl (fun v1_9 => ?_)
            refine dn_aload_n C dX4_value_34 rfl 2 rfl rfl ?_
            refine dn_getR C fd_X4_21 ha0 dX4_value_35 rfl ?_
            refine dn_iload_n C dX4_value_38 rfl 0 rfl rfl ?_
            refine dn_iconst C dX4_value_39 ic_i_1 rfl ?_
            refine dn_isub C dX4_value_40 rfl ?_
            refine dn_iload_n C dX4_value_41 rfl 1 rfl rfl ?_
            refine dn_aload_n C dX4_value_42 rfl 2 rfl rfl ?_
            refine dn_getR C fd_X4_21 ha0 dX4_value_43 rfl ?_
            refine dn_iload_n C dX4_value_46 rfl 0 rfl rfl ?_
            refine dn_iconst C dX4_value_47 ic_i_1 rfl ?_
            refine dn_isub C dX4_value_48 rfl ?_
            refine dn_iald C (kt_4_5 ha0) dX4_value_49 rfl (fun z10 => ?_)
            refine dn_aload_n C dX4_value_50 rfl 2 rfl rfl ?_
            refine dn_getR C fd_X4_21 ha0 dX4_value_51 rfl ?_
            refine dn_iload_n C dX4_value_54 rfl 0 rfl rfl ?_
            refine dn_iald C (kt_4_5 ha0) dX4_value_55 rfl (fun z11 => ?_)
            refine dn_callS_i (As := [.int v3_4, .int z10, .int z11]) (st := [.int (v1_9 - (1 : Int32)), .ref (wd_b G + sh_rf a0 5)]) C (ok_Law_joined (cx_g C) v3_4 z10 z11 s0 τ) mt_X4_joined ms_X4_joined lk_X4_128 (by decide) rfl ⟨Nat.zero_le _, Nat.zero_le _⟩ (Nat.le_of_ble_eq_true rfl) dX4_value_56 rfl rfl (fun z12 => ?_)
            refine dn_iast C (kt_4_5 ha0) dX4_value_59 rfl (fun s13 => ?_)
            refine dn_goto (t := 101) C dX4_value_60 (by decide) ?_
            refine dn_pick [2, 0, 3] rfl ?_
            exact hj8 v1_9 s13
          · refine dn_pick [1, 2, 3] rfl ?_
            exact hj8 x1 s0
        · refine dn_iload_n C dX4_value_63 rfl 2 rfl rfl ?_
          refine dn_aload_n C dX4_value_64 rfl 1 rfl rfl ?_
          refine dn_getR C fd_X4_21 ha0 dX4_value_65 rfl ?_
          refine dn_alen (v := 32) C (kt_4_5 ha0) (by rw [kl_4_5 ha0]; decide) dX4_value_68 rfl ?_
          refine dn_icmp_ge (t := 101) C dX4_value_69 (by decide) rfl ?_ ?_
          · refine dn_aload_n C dX4_value_72 rfl 1 rfl rfl ?_
            refine dn_getR C fd_X4_21 ha0 dX4_value_73 rfl ?_
            refine dn_iload_n C dX4_value_76 rfl 2 rfl rfl ?_
            refine dn_iload_n C dX4_value_77 rfl 0 rfl rfl ?_
            refine dn_sipush C dX4_value_78 ic_s_1000 rfl ?_
            refine dn_jn (fun z => ∀ (t14 : Int32), dn_D G M 4 0 0 (cl_M G M (ci_ih τ)) 97 [(0, .ref (wd_b G + a0)), (1, .int x1), (2, .int x2)] [.int t14, .int x1, .ref (wd_b G + sh_rf a0 5)] s0 τ (z t14)) (fun t14 => ?_) (fun j17 hj17 => ?_)
            · refine dn_iast C (kt_4_5 ha0) dX4_value_97 rfl (fun s15 => ?_)
              refine dn_iinc (lv0 := [(0, .ref (wd_b G + a0)), (2, .int x2)]) (v := x1 + 1) C dX4_value_98 1 rfl rfl (by decide) rfl rfl (fun v1_16 => ?_)
              refine dn_pick [1, 0, 2] rfl ?_
              exact hj8 v1_16 s15
            · refine dn_icmp_ge (t := 88) C dX4_value_81 (by decide) rfl ?_ ?_
              · refine dn_iload_n C dX4_value_84 rfl 0 rfl rfl ?_
                refine dn_goto (t := 97) C dX4_value_85 (by decide) ?_
                refine dn_pick [1, 2, 3] rfl ?_
                exact hj17 v3_4
              · refine dn_aload_n C dX4_value_88 rfl 1 rfl rfl ?_
                refine dn_iload_n C dX4_value_89 rfl 0 rfl rfl ?_
                refine dn_sipush C dX4_value_90 ic_s_1000 rfl ?_
                refine dn_isub C dX4_value_93 rfl ?_
                refine dn_callV_i (As := [.int (v3_4 - (1000 : Int32))]) (st := [.int x1, .ref (wd_b G + sh_rf a0 5)]) C (ok_Law_variable (cx_g C) a0 ha0 (v3_4 - (1000 : Int32)) s0 τ) mt_X4_variable mv_X4_variable lk_X4_132 (by decide) ha0 rfl ⟨Nat.zero_le _, Nat.zero_le _⟩ (Nat.le_of_ble_eq_true rfl) dX4_value_94 rfl rfl (fun z18 => ?_)
                refine dn_pick [1, 2, 3] rfl ?_
                exact hj17 z18
          · refine dn_pick [1, 2, 3] rfl ?_
            exact hj8 x1 s0
    · refine dn_pick [0] rfl ?_
      exact hk s0
set_option maxHeartbeats 4000000 in
set_option maxRecDepth 100000 in
theorem ok_Law_value {G : wd_G} {l : Launch} (hN : gd_ok G)  (o : Nat) (ho : sh_kd o = 4) (σ : hp_I) (τ : hp_L) : cl_C G l 1 yX4_value cX4_value 4 (some .int) [.ref (wd_b G + o)] σ τ (ci_ih τ) (fn_Law_value o σ) := by
  refine cl_of (lv0 := [(0, .ref (wd_b G + o))]) (ci_ih τ) (by decide) (Nat.le_of_ble_eq_true rfl) rfl hN (fun M hM C => ?_)
  have C : cx_C G M RX4 cX4_value 4 1 (some .int) := C
  unfold fn_Law_value
  refine dn_iconst C dX4_value_0 ic_i_0 rfl ?_
  refine dn_istore_n (lv0 := [(0, .ref (wd_b G + o))]) C dX4_value_1 rfl (by decide) rfl rfl (fun v1_1 => ?_)
  refine dn_iconst C dX4_value_2 ic_i_0 rfl ?_
  refine dn_istore_n (lv0 := [(1, .int v1_1), (0, .ref (wd_b G + o))]) C dX4_value_3 rfl (by decide) rfl rfl (fun v2_2 => ?_)
  refine dn_pick [2, 1, 0] rfl ?_
  refine pf_Law_value_L4  C  o ho  τ _ (fun s_19 => ?_) FU v1_1 v2_2 σ
  refine dn_aload_n C dX4_value_107 rfl 0 rfl rfl ?_
  refine dn_getR C fd_X4_21 ho dX4_value_108 rfl ?_
  refine dn_iconst C dX4_value_111 ic_i_0 rfl ?_
  refine dn_iald C (kt_4_5 ho) dX4_value_112 rfl (fun z20 => ?_)
  exact dn_iret C dX4_value_113 rfl
def fn_Law_growth  (o : Nat) (p1 : Int32) (p2 : Int32) (p3 : Int32) (p4 : Int32) (p5 : Int32) (p6 : Int32) (p7 : Int32) (σ : hp_I) : Option (Int32 × hp_I) :=
  Option.bind (px_ast σ (sh_rf o 4) (0 : Int32) p1) fun s1 =>
  Option.bind (px_ast s1 (sh_rf o 4) (1 : Int32) p2) fun s2 =>
  Option.bind (px_ast s2 (sh_rf o 4) (2 : Int32) p3) fun s3 =>
  Option.bind (px_ast s3 (sh_rf o 4) (3 : Int32) p4) fun s4 =>
  Option.bind (px_ast s4 (sh_rf o 4) (4 : Int32) p5) fun s5 =>
  Option.bind (px_ast s5 (sh_rf o 4) (5 : Int32) p6) fun s6 =>
  Option.bind (px_ast s6 (sh_rf o 4) (6 : Int32) p7) fun s7 =>
  px_jn (fun (t8 : Int32) (s9 : hp_I) =>
    px_let t8 fun v8_10 =>
    some (px_max (0 : Int32) (px_min (60 : Int32) v8_10), s9)
  ) fun j11 =>
    if (s7 o 1) = 0 then (
      j11 p2 s7
    ) else (
      px_b2 (fn_Law_value o s7) fun z12 s13 =>
      j11 z12 s13
    )
set_option maxHeartbeats 4000000 in
set_option maxRecDepth 100000 in
theorem ok_Law_growth {G : wd_G} {l : Launch} (hN : gd_ok G)  (o : Nat) (ho : sh_kd o = 4) (p1 : Int32) (p2 : Int32) (p3 : Int32) (p4 : Int32) (p5 : Int32) (p6 : Int32) (p7 : Int32) (σ : hp_I) (τ : hp_L) : cl_C G l 2 yX4_growth cX4_growth 9 (some .int) [.ref (wd_b G + o), .int p1, .int p2, .int p3, .int p4, .int p5, .int p6, .int p7] σ τ (ci_ih τ) (fn_Law_growth o p1 p2 p3 p4 p5 p6 p7 σ) := by
  refine cl_of (lv0 := [(0, .ref (wd_b G + o)), (1, .int p1), (2, .int p2), (3, .int p3), (4, .int p4), (5, .int p5), (6, .int p6), (7, .int p7)]) (ci_ih τ) (by decide) (Nat.le_of_ble_eq_true rfl) rfl hN (fun M hM C => ?_)
  have C : cx_C G M RX4 cX4_growth 9 2 (some .int) := C
  unfold fn_Law_growth
  refine dn_aload_n C dX4_growth_0 rfl 0 rfl rfl ?_
  refine dn_getR C fd_X4_18 ho dX4_growth_1 rfl ?_
  refine dn_iconst C dX4_growth_4 ic_i_0 rfl ?_
  refine dn_iload_n C dX4_growth_5 rfl 1 rfl rfl ?_
  refine dn_iast C (kt_4_4 ho) dX4_growth_6 rfl (fun s1 => ?_)
  refine dn_aload_n C dX4_growth_7 rfl 0 rfl rfl ?_
  refine dn_getR C fd_X4_18 ho dX4_growth_8 rfl ?_
  refine dn_iconst C dX4_growth_11 ic_i_1 rfl ?_
  refine dn_iload_n C dX4_growth_12 rfl 2 rfl rfl ?_
  refine dn_iast C (kt_4_4 ho) dX4_growth_13 rfl (fun s2 => ?_)
  refine dn_aload_n C dX4_growth_14 rfl 0 rfl rfl ?_
  refine dn_getR C fd_X4_18 ho dX4_growth_15 rfl ?_
  refine dn_iconst C dX4_growth_18 ic_i_2 rfl ?_
  refine dn_iload_n C dX4_growth_19 rfl 3 rfl rfl ?_
  refine dn_iast C (kt_4_4 ho) dX4_growth_20 rfl (fun s3 => ?_)
  refine dn_aload_n C dX4_growth_21 rfl 0 rfl rfl ?_
  refine dn_getR C fd_X4_18 ho dX4_growth_22 rfl ?_
  refine dn_iconst C dX4_growth_25 ic_i_3 rfl ?_
  refine dn_iload C dX4_growth_26 4 rfl rfl ?_
  refine dn_iast C (kt_4_4 ho) dX4_growth_28 rfl (fun s4 => ?_)
  refine dn_aload_n C dX4_growth_29 rfl 0 rfl rfl ?_
  refine dn_getR C fd_X4_18 ho dX4_growth_30 rfl ?_
  refine dn_iconst C dX4_growth_33 ic_i_4 rfl ?_
  refine dn_iload C dX4_growth_34 5 rfl rfl ?_
  refine dn_iast C (kt_4_4 ho) dX4_growth_36 rfl (fun s5 => ?_)
  refine dn_aload_n C dX4_growth_37 rfl 0 rfl rfl ?_
  refine dn_getR C fd_X4_18 ho dX4_growth_38 rfl ?_
  refine dn_iconst C dX4_growth_41 ic_i_5 rfl ?_
  refine dn_iload C dX4_growth_42 6 rfl rfl ?_
  refine dn_iast C (kt_4_4 ho) dX4_growth_44 rfl (fun s6 => ?_)
  refine dn_aload_n C dX4_growth_45 rfl 0 rfl rfl ?_
  refine dn_getR C fd_X4_18 ho dX4_growth_46 rfl ?_
  refine dn_bipush C dX4_growth_49 ic_b_6 rfl ?_
  refine dn_iload C dX4_growth_51 7 rfl rfl ?_
  refine dn_iast C (kt_4_4 ho) dX4_growth_53 rfl (fun s7 => ?_)
  refine dn_aload_n C dX4_growth_54 rfl 0 rfl rfl ?_
  refine dn_getI C fd_X4_24 ho dX4_growth_55 rfl ?_
  refine dn_jn (fun z => ∀ (t8 : Int32) (s9 : hp_I), dn_D G M 9 0 0 (cl_M G M (ci_ih τ)) 69 [] [.int t8] s9 τ (z t8 s9)) (fun t8 s9 => ?_) (fun j11 hj11 => ?_)
  · refine dn_istore (lv0 := []) C dX4_growth_69 (by decide) rfl rfl (fun v8_10 => ?_)
    refine dn_iconst C dX4_growth_71 ic_i_0 rfl ?_
    refine dn_bipush C dX4_growth_72 ic_b_60 rfl ?_
    refine dn_iload C dX4_growth_74 0 rfl rfl ?_
    refine dn_min C mm_all lk_X4_120 (by decide) ⟨Nat.zero_le _, Nat.zero_le _⟩ (Nat.le_of_ble_eq_true rfl) dX4_growth_76 rfl ?_
    refine dn_max C mm_all lk_X4_125 (by decide) ⟨Nat.zero_le _, Nat.zero_le _⟩ (Nat.le_of_ble_eq_true rfl) dX4_growth_79 rfl ?_
    exact dn_iret C dX4_growth_82 rfl
  · refine dn_if_ne (t := 65) C dX4_growth_58 (by decide) rfl ?_ ?_
    · refine dn_iload_n C dX4_growth_61 rfl 2 rfl rfl ?_
      refine dn_goto (t := 69) C dX4_growth_62 (by decide) ?_
      refine dn_pick [] rfl ?_
      exact hj11 p2 s7
    · refine dn_aload_n C dX4_growth_65 rfl 0 rfl rfl ?_
      refine dn_callV_ih (As := []) (st := []) C (ok_Law_value (cx_g C) o ho s7 τ) mt_X4_value mv_X4_value lk_X4_117 (by decide) ho rfl ⟨Nat.zero_le _, Nat.zero_le _⟩ (Nat.le_of_ble_eq_true rfl) dX4_growth_66 rfl rfl (fun z12 s13 => ?_)
      refine dn_pick [] rfl ?_
      exact hj11 z12 s13
