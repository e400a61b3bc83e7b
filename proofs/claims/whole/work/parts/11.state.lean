def fn_State_begin_L47  (a0 : Nat) (k : hp_I → Option (hp_I)) : Nat → Int32 → hp_I → Option (hp_I)
  | 0, _, _ => none
  | fu + 1, x1, s0 =>
    if x1 < (s0 (sh_rf a0 0) 2) then (
      Option.bind (px_ald s0 (sh_rf (sh_rf a0 0) 7) x1) fun z7 =>
      Option.bind (px_ast s0 (sh_rf a0 2) ((5 : Int32) + x1) z7) fun s8 =>
      Option.bind (px_ald s8 (sh_rf (sh_rf a0 0) 8) x1) fun z9 =>
      Option.bind (px_ast s8 (sh_rf a0 2) ((13 : Int32) + x1) z9) fun s10 =>
      Option.bind (px_ast s10 (sh_rf a0 2) ((21 : Int32) + x1) (-1 : Int32)) fun s11 =>
      Option.bind (px_ast s11 (sh_rf a0 2) ((29 : Int32) + x1) (-1 : Int32)) fun s12 =>
      px_let (x1 + 1) fun v1_13 =>
      fn_State_begin_L47 a0 k fu v1_13 s12
    ) else (
      k s0
    )
def fn_State_begin_L121  (a0 : Nat) (k : hp_I → Option (hp_I)) : Nat → Int32 → hp_I → Option (hp_I)
  | 0, _, _ => none
  | fu + 1, x1, s0 =>
    if x1 < (s0 (sh_rf a0 0) 3) then (
      Option.bind (px_ald s0 (sh_rf (sh_rf a0 0) 10) x1) fun z16 =>
      Option.bind (px_ast s0 (sh_rf a0 2) ((37 : Int32) + x1) z16) fun s17 =>
      Option.bind (px_ast s17 (sh_rf a0 2) ((42 : Int32) + x1) (0 : Int32)) fun s18 =>
      px_let (x1 + 1) fun v1_19 =>
      fn_State_begin_L121 a0 k fu v1_19 s18
    ) else (
      k s0
    )
def fn_State_begin  (o : Nat) (σ : hp_I) : Option (hp_I) :=
  Option.bind (px_ast σ (sh_rf o 2) (0 : Int32) (0 : Int32)) fun s1 =>
  Option.bind (px_ast s1 (sh_rf o 2) (1 : Int32) (((1 : Int32) <<< ((s1 (sh_rf o 0) 2) &&& 31)) - (1 : Int32))) fun s2 =>
  Option.bind (px_ast s2 (sh_rf o 2) (2 : Int32) (0 : Int32)) fun s3 =>
  Option.bind (px_ast s3 (sh_rf o 2) (3 : Int32) (0 : Int32)) fun s4 =>
  Option.bind (px_ast s4 (sh_rf o 2) (4 : Int32) (0 : Int32)) fun s5 =>
  px_let (0 : Int32) fun v1_6 =>
  fn_State_begin_L47 o
    (fun (s_14 : hp_I) =>
      px_let (0 : Int32) fun v1_15 =>
      fn_State_begin_L121 o
        (fun (s_20 : hp_I) =>
          some s_20
        )
        FU v1_15 s_14
    )
    FU v1_6 s5
set_option maxHeartbeats 4000000 in
set_option maxRecDepth 100000 in
theorem pf_State_begin_L47 {G : wd_G} {M : wd_M}  (C : cx_C G M RX8 cX8_begin 2 0 none) (a0 : Nat) (ha0 : sh_kd a0 = 8)  (τ : hp_L) (k : hp_I → Option (hp_I)) (hk : ∀ (s : hp_I), dn_D G M 2 0 0 (cl_M G M (ci_h τ)) 119 [(0, .ref (wd_b G + a0))] [] s τ (k s)) : ∀ (fu : Nat) (x1 : Int32) (s0 : hp_I), dn_D G M 2 0 0 (cl_M G M (ci_h τ)) 47 [(0, .ref (wd_b G + a0)), (1, .int x1)] [] s0 τ (fn_State_begin_L47 a0 k fu x1 s0) := by
  intro fu
  induction fu with
  | zero => exact fun x1 s0 => dn_none
  | succ fu ih =>
    intro x1 s0
    unfold fn_State_begin_L47
    refine dn_iload_n C dX8_begin_47 rfl 1 rfl rfl ?_
    refine dn_aload_n C dX8_begin_48 rfl 0 rfl rfl ?_
    refine dn_getR C fd_X8_18 ha0 dX8_begin_49 rfl ?_
    refine dn_getI C fd_X8_32 (kt_8_0 ha0) dX8_begin_52 rfl ?_
    refine dn_icmp_ge (t := 119) C dX8_begin_55 (by decide) rfl ?_ ?_
    · refine dn_aload_n C dX8_begin_58 rfl 0 rfl rfl ?_
      refine dn_getR C fd_X8_11 ha0 dX8_begin_59 rfl ?_
      refine dn_iconst C dX8_begin_62 ic_i_5 rfl ?_
      refine dn_iload_n C dX8_begin_63 rfl 1 rfl rfl ?_
      refine dn_iadd C dX8_begin_64 rfl ?_
      refine dn_aload_n C dX8_begin_65 rfl 0 rfl rfl ?_
      refine dn_getR C fd_X8_18 ha0 dX8_begin_66 rfl ?_
      refine dn_getR C fd_X8_38 (kt_8_0 ha0) dX8_begin_69 rfl ?_
      refine dn_iload_n C dX8_begin_72 rfl 1 rfl rfl ?_
      refine dn_iald C (kt_3_7 (kt_8_0 ha0)) dX8_begin_73 rfl (fun z7 => ?_)
      refine dn_iast C (kt_8_2 ha0) dX8_begin_74 rfl (fun s8 => ?_)
      refine dn_aload_n C dX8_begin_75 rfl 0 rfl rfl ?_
      refine dn_getR C fd_X8_11 ha0 dX8_begin_76 rfl ?_
      refine dn_bipush C dX8_begin_79 ic_b_13 rfl ?_
      refine dn_iload_n C dX8_begin_81 rfl 1 rfl rfl ?_
      refine dn_iadd C dX8_begin_82 rfl ?_
      refine dn_aload_n C dX8_begin_83 rfl 0 rfl rfl ?_
      refine dn_getR C fd_X8_18 ha0 dX8_begin_84 rfl ?_
      refine dn_getR C fd_X8_41 (kt_8_0 ha0) dX8_begin_87 rfl ?_
      refine dn_iload_n C dX8_begin_90 rfl 1 rfl rfl ?_
      refine dn_iald C (kt_3_8 (kt_8_0 ha0)) dX8_begin_91 rfl (fun z9 => ?_)
      refine dn_iast C (kt_8_2 ha0) dX8_begin_92 rfl (fun s10 => ?_)
      refine dn_aload_n C dX8_begin_93 rfl 0 rfl rfl ?_
      refine dn_getR C fd_X8_11 ha0 dX8_begin_94 rfl ?_
      refine dn_bipush C dX8_begin_97 ic_b_21 rfl ?_
      refine dn_iload_n C dX8_begin_99 rfl 1 rfl rfl ?_
      refine dn_iadd C dX8_begin_100 rfl ?_
      refine dn_iconst C dX8_begin_101 ic_i_m1 rfl ?_
      refine dn_iast C (kt_8_2 ha0) dX8_begin_102 rfl (fun s11 => ?_)
      refine dn_aload_n C dX8_begin_103 rfl 0 rfl rfl ?_
      refine dn_getR C fd_X8_11 ha0 dX8_begin_104 rfl ?_
      refine dn_bipush C dX8_begin_107 ic_b_29 rfl ?_
      refine dn_iload_n C dX8_begin_109 rfl 1 rfl rfl ?_
      refine dn_iadd C dX8_begin_110 rfl ?_
      refine dn_iconst C dX8_begin_111 ic_i_m1 rfl ?_
      refine dn_iast C (kt_8_2 ha0) dX8_begin_112 rfl (fun s12 => ?_)
      refine dn_iinc (lv0 := [(0, .ref (wd_b G + a0))]) (v := x1 + 1) C dX8_begin_113 1 rfl rfl (by decide) rfl rfl (fun v1_13 => ?_)
      refine dn_goto (t := 47) C dX8_begin_116 (by decide) ?_
      refine dn_pick [1, 0] rfl ?_
      exact ih v1_13 s12
    · refine dn_pick [0] rfl ?_
      exact hk s0
set_option maxHeartbeats 4000000 in
set_option maxRecDepth 100000 in
theorem pf_State_begin_L121 {G : wd_G} {M : wd_M}  (C : cx_C G M RX8 cX8_begin 2 0 none) (a0 : Nat) (ha0 : sh_kd a0 = 8)  (τ : hp_L) (k : hp_I → Option (hp_I)) (hk : ∀ (s : hp_I), dn_D G M 2 0 0 (cl_M G M (ci_h τ)) 166 [] [] s τ (k s)) : ∀ (fu : Nat) (x1 : Int32) (s0 : hp_I), dn_D G M 2 0 0 (cl_M G M (ci_h τ)) 121 [(0, .ref (wd_b G + a0)), (1, .int x1)] [] s0 τ (fn_State_begin_L121 a0 k fu x1 s0) := by
  intro fu
  induction fu with
  | zero => exact fun x1 s0 => dn_none
  | succ fu ih =>
    intro x1 s0
    unfold fn_State_begin_L121
    refine dn_iload_n C dX8_begin_121 rfl 1 rfl rfl ?_
    refine dn_aload_n C dX8_begin_122 rfl 0 rfl rfl ?_
    refine dn_getR C fd_X8_18 ha0 dX8_begin_123 rfl ?_
    refine dn_getI C fd_X8_44 (kt_8_0 ha0) dX8_begin_126 rfl ?_
    refine dn_icmp_ge (t := 166) C dX8_begin_129 (by decide) rfl ?_ ?_
    · refine dn_aload_n C dX8_begin_132 rfl 0 rfl rfl ?_
      refine dn_getR C fd_X8_11 ha0 dX8_begin_133 rfl ?_
      refine dn_bipush C dX8_begin_136 ic_b_37 rfl ?_
      refine dn_iload_n C dX8_begin_138 rfl 1 rfl rfl ?_
      refine dn_iadd C dX8_begin_139 rfl ?_
      refine dn_aload_n C dX8_begin_140 rfl 0 rfl rfl ?_
      refine dn_getR C fd_X8_18 ha0 dX8_begin_141 rfl ?_
      refine dn_getR C fd_X8_47 (kt_8_0 ha0) dX8_begin_144 rfl ?_
      refine dn_iload_n C dX8_begin_147 rfl 1 rfl rfl ?_
      refine dn_iald C (kt_3_10 (kt_8_0 ha0)) dX8_begin_148 rfl (fun z16 => ?_)
      refine dn_iast C (kt_8_2 ha0) dX8_begin_149 rfl (fun s17 => ?_)
      refine dn_aload_n C dX8_begin_150 rfl 0 rfl rfl ?_
      refine dn_getR C fd_X8_11 ha0 dX8_begin_151 rfl ?_
      refine dn_bipush C dX8_begin_154 ic_b_42 rfl ?_
      refine dn_iload_n C dX8_begin_156 rfl 1 rfl rfl ?_
      refine dn_iadd C dX8_begin_157 rfl ?_
      refine dn_iconst C dX8_begin_158 ic_i_0 rfl ?_
      refine dn_iast C (kt_8_2 ha0) dX8_begin_159 rfl (fun s18 => ?_)
      refine dn_iinc (lv0 := [(0, .ref (wd_b G + a0))]) (v := x1 + 1) C dX8_begin_160 1 rfl rfl (by decide) rfl rfl (fun v1_19 => ?_)
      refine dn_goto (t := 121) C dX8_begin_163 (by decide) ?_
      refine dn_pick [1, 0] rfl ?_
      exact ih v1_19 s18
    · refine dn_pick [] rfl ?_
      exact hk s0
set_option maxHeartbeats 4000000 in
set_option maxRecDepth 100000 in
theorem ok_State_begin {G : wd_G} {l : Launch} (hN : gd_ok G)  (o : Nat) (ho : sh_kd o = 8) (σ : hp_I) (τ : hp_L) : cl_C G l 0 yX8_begin cX8_begin 2 none [.ref (wd_b G + o)] σ τ (ci_h τ) (fn_State_begin o σ) := by
  refine cl_of (lv0 := [(0, .ref (wd_b G + o))]) (ci_h τ) (by decide) (Nat.le_of_ble_eq_true rfl) rfl hN (fun M hM C => ?_)
  have C : cx_C G M RX8 cX8_begin 2 0 none := C
  unfold fn_State_begin
  refine dn_aload_n C dX8_begin_0 rfl 0 rfl rfl ?_
  refine dn_getR C fd_X8_11 ho dX8_begin_1 rfl ?_
  refine dn_iconst C dX8_begin_4 ic_i_0 rfl ?_
  refine dn_iconst C dX8_begin_5 ic_i_0 rfl ?_
  refine dn_iast C (kt_8_2 ho) dX8_begin_6 rfl (fun s1 => ?_)
  refine dn_aload_n C dX8_begin_7 rfl 0 rfl rfl ?_
  refine dn_getR C fd_X8_11 ho dX8_begin_8 rfl ?_
  refine dn_iconst C dX8_begin_11 ic_i_1 rfl ?_
  refine dn_iconst C dX8_begin_12 ic_i_1 rfl ?_
  refine dn_aload_n C dX8_begin_13 rfl 0 rfl rfl ?_
  refine dn_getR C fd_X8_18 ho dX8_begin_14 rfl ?_
  refine dn_getI C fd_X8_32 (kt_8_0 ho) dX8_begin_17 rfl ?_
  refine dn_ishl C dX8_begin_20 rfl ?_
  refine dn_iconst C dX8_begin_21 ic_i_1 rfl ?_
  refine dn_isub C dX8_begin_22 rfl ?_
  refine dn_iast C (kt_8_2 ho) dX8_begin_23 rfl (fun s2 => ?_)
  refine dn_aload_n C dX8_begin_24 rfl 0 rfl rfl ?_
  refine dn_getR C fd_X8_11 ho dX8_begin_25 rfl ?_
  refine dn_iconst C dX8_begin_28 ic_i_2 rfl ?_
  refine dn_iconst C dX8_begin_29 ic_i_0 rfl ?_
  refine dn_iast C (kt_8_2 ho) dX8_begin_30 rfl (fun s3 => ?_)
  refine dn_aload_n C dX8_begin_31 rfl 0 rfl rfl ?_
  refine dn_getR C fd_X8_11 ho dX8_begin_32 rfl ?_
  refine dn_iconst C dX8_begin_35 ic_i_3 rfl ?_
  refine dn_iconst C dX8_begin_36 ic_i_0 rfl ?_
  refine dn_iast C (kt_8_2 ho) dX8_begin_37 rfl (fun s4 => ?_)
  refine dn_aload_n C dX8_begin_38 rfl 0 rfl rfl ?_
  refine dn_getR C fd_X8_11 ho dX8_begin_39 rfl ?_
  refine dn_iconst C dX8_begin_42 ic_i_4 rfl ?_
  refine dn_iconst C dX8_begin_43 ic_i_0 rfl ?_
  refine dn_iast C (kt_8_2 ho) dX8_begin_44 rfl (fun s5 => ?_)
  refine dn_iconst C dX8_begin_45 ic_i_0 rfl ?_
  refine dn_istore_n (lv0 := [(0, .ref (wd_b G + o))]) C dX8_begin_46 rfl (by decide) rfl rfl (fun v1_6 => ?_)
  refine dn_pick [1, 0] rfl ?_
  refine pf_State_begin_L47  C  o ho  τ _ (fun s_14 => ?_) FU v1_6 s5
  refine dn_iconst C dX8_begin_119 ic_i_0 rfl ?_
  refine dn_istore_n (lv0 := [(0, .ref (wd_b G + o))]) C dX8_begin_120 rfl (by decide) rfl rfl (fun v1_15 => ?_)
  refine dn_pick [1, 0] rfl ?_
  refine pf_State_begin_L121  C  o ho  τ _ (fun s_20 => ?_) FU v1_15 s_14
  exact dn_vret C dX8_begin_166 rfl
def fn_State_besides_L4  (a0 : Nat) (a1 : Int32) (σ : hp_I) (k : Int32 → Option (Int32)) : Nat → Int32 → Int32 → Option (Int32)
  | 0, _, _ => none
  | fu + 1, x2, x3 =>
    if x3 < (σ (sh_rf a0 0) 1) then (
      Option.bind (px_ald σ (sh_rf a0 2) (4 : Int32)) fun z3 =>
      px_jn (fun (a2_4 : Int32) =>
        px_let (x3 + 1) fun v3_5 =>
        fn_State_besides_L4 a0 a1 σ k fu a2_4 v3_5
      ) fun j6 =>
        if ((z3 >>> (x3 &&& 31)) &&& (1 : Int32)) = 0 then (
          Option.bind (px_ald σ (sh_rf (sh_rf a0 0) 5) x3) fun z7 =>
          if z7 = a1 then (
            Option.bind (px_ald σ (sh_rf (sh_rf a0 0) 6) x3) fun z8 =>
            px_let (x2 ||| ((1 : Int32) <<< (z8 &&& 31))) fun v2_9 =>
            j6 v2_9
          ) else (
            Option.bind (px_ald σ (sh_rf (sh_rf a0 0) 6) x3) fun z10 =>
            if z10 = a1 then (
              Option.bind (px_ald σ (sh_rf (sh_rf a0 0) 5) x3) fun z11 =>
              px_let (x2 ||| ((1 : Int32) <<< (z11 &&& 31))) fun v2_12 =>
              j6 v2_12
            ) else (
              j6 x2
            )
          )
        ) else (
          j6 x2
        )
    ) else (
      k x2
    )
def fn_State_besides  (o : Nat) (p1 : Int32) (σ : hp_I) : Option (Int32) :=
  px_let (0 : Int32) fun v2_1 =>
  px_let (0 : Int32) fun v3_2 =>
  fn_State_besides_L4 o p1 σ
    (fun (y_13 : Int32) =>
      some y_13
    )
    FU v2_1 v3_2
set_option maxHeartbeats 4000000 in
set_option maxRecDepth 100000 in
theorem pf_State_besides_L4 {G : wd_G} {M : wd_M}  (C : cx_C G M RX8 cX8_besides 4 0 (some .int)) (a0 : Nat) (ha0 : sh_kd a0 = 8) (a1 : Int32) (σ : hp_I) (τ : hp_L) (k : Int32 → Option (Int32)) (hk : ∀ (y2 : Int32), dn_D G M 4 0 0 (cl_M G M (ci_i σ τ)) 91 [(2, .int y2)] [] σ τ (k y2)) : ∀ (fu : Nat) (x2 : Int32) (x3 : Int32), dn_D G M 4 0 0 (cl_M G M (ci_i σ τ)) 4 [(0, .ref (wd_b G + a0)), (1, .int a1), (2, .int x2), (3, .int x3)] [] σ τ (fn_State_besides_L4 a0 a1 σ k fu x2 x3) := by
  intro fu
  induction fu with
  | zero => exact fun x2 x3 => dn_none
  | succ fu ih =>
    intro x2 x3
    unfold fn_State_besides_L4
    refine dn_iload_n C dX8_besides_4 rfl 3 rfl rfl ?_
    refine dn_aload_n C dX8_besides_5 rfl 0 rfl rfl ?_
    refine dn_getR C fd_X8_18 ha0 dX8_besides_6 rfl ?_
    refine dn_getI C fd_X8_80 (kt_8_0 ha0) dX8_besides_9 rfl ?_
    refine dn_icmp_ge (t := 91) C dX8_besides_12 (by decide) rfl ?_ ?_
    · refine dn_aload_n C dX8_besides_15 rfl 0 rfl rfl ?_
      refine dn_getR C fd_X8_11 ha0 dX8_besides_16 rfl ?_
      refine dn_iconst C dX8_besides_19 ic_i_4 rfl ?_
      refine dn_iald C (kt_8_2 ha0) dX8_besides_20 rfl (fun z3 => ?_)
      refine dn_iload_n C dX8_besides_21 rfl 3 rfl rfl ?_
      refine dn_ishr C dX8_besides_22 rfl ?_
      refine dn_iconst C dX8_besides_23 ic_i_1 rfl ?_
      refine dn_iand C dX8_besides_24 rfl ?_
      refine dn_jn (fun z => ∀ (a2_4 : Int32), dn_D G M 4 0 0 (cl_M G M (ci_i σ τ)) 85 [(0, .ref (wd_b G + a0)), (1, .int a1), (2, .int a2_4), (3, .int x3)] [] σ τ (z a2_4)) (fun a2_4 => ?_) (fun j6 hj6 => ?_)
      · refine dn_iinc (lv0 := [(0, .ref (wd_b G + a0)), (1, .int a1), (2, .int a2_4)]) (v := x3 + 1) C dX8_besides_85 3 rfl rfl (by decide) rfl rfl (fun v3_5 => ?_)
        refine dn_goto (t := 4) C dX8_besides_88 (by decide) ?_
        refine dn_pick [1, 2, 3, 0] rfl ?_
        exact ih a2_4 v3_5
      · refine dn_if_ne (t := 85) C dX8_besides_25 (by decide) rfl ?_ ?_
        · refine dn_aload_n C dX8_besides_28 rfl 0 rfl rfl ?_
          refine dn_getR C fd_X8_18 ha0 dX8_besides_29 rfl ?_
          refine dn_getR C fd_X8_83 (kt_8_0 ha0) dX8_besides_32 rfl ?_
          refine dn_iload_n C dX8_besides_35 rfl 3 rfl rfl ?_
          refine dn_iald C (kt_3_5 (kt_8_0 ha0)) dX8_besides_36 rfl (fun z7 => ?_)
          refine dn_iload_n C dX8_besides_37 rfl 1 rfl rfl ?_
          refine dn_icmp_ne (t := 58) C dX8_besides_38 (by decide) rfl ?_ ?_
          · refine dn_iload_n C dX8_besides_41 rfl 2 rfl rfl ?_
            refine dn_iconst C dX8_besides_42 ic_i_1 rfl ?_
            refine dn_aload_n C dX8_besides_43 rfl 0 rfl rfl ?_
            refine dn_getR C fd_X8_18 ha0 dX8_besides_44 rfl ?_
            refine dn_getR C fd_X8_86 (kt_8_0 ha0) dX8_besides_47 rfl ?_
            refine dn_iload_n C dX8_besides_50 rfl 3 rfl rfl ?_
            refine dn_iald C (kt_3_6 (kt_8_0 ha0)) dX8_besides_51 rfl (fun z8 => ?_)
            refine dn_ishl C dX8_besides_52 rfl ?_
            refine dn_ior C dX8_besides_53 rfl ?_
            refine dn_istore_n (lv0 := [(0, .ref (wd_b G + a0)), (1, .int a1), (3, .int x3)]) C dX8_besides_54 rfl (by decide) rfl rfl (fun v2_9 => ?_)
            refine dn_goto (t := 85) C dX8_besides_55 (by decide) ?_
            refine dn_pick [1, 2, 0, 3] rfl ?_
            exact hj6 v2_9
          · refine dn_aload_n C dX8_besides_58 rfl 0 rfl rfl ?_
            refine dn_getR C fd_X8_18 ha0 dX8_besides_59 rfl ?_
            refine dn_getR C fd_X8_86 (kt_8_0 ha0) dX8_besides_62 rfl ?_
            refine dn_iload_n C dX8_besides_65 rfl 3 rfl rfl ?_
            refine dn_iald C (kt_3_6 (kt_8_0 ha0)) dX8_besides_66 rfl (fun z10 => ?_)
            refine dn_iload_n C dX8_besides_67 rfl 1 rfl rfl ?_
            refine dn_icmp_ne (t := 85) C dX8_besides_68 (by decide) rfl ?_ ?_
            · refine dn_iload_n C dX8_besides_71 rfl 2 rfl rfl ?_
              refine dn_iconst C dX8_besides_72 ic_i_1 rfl ?_
              refine dn_aload_n C dX8_besides_73 rfl 0 rfl rfl ?_
              refine dn_getR C fd_X8_18 ha0 dX8_besides_74 rfl ?_
              refine dn_getR C fd_X8_83 (kt_8_0 ha0) dX8_besides_77 rfl ?_
              refine dn_iload_n C dX8_besides_80 rfl 3 rfl rfl ?_
              refine dn_iald C (kt_3_5 (kt_8_0 ha0)) dX8_besides_81 rfl (fun z11 => ?_)
              refine dn_ishl C dX8_besides_82 rfl ?_
              refine dn_ior C dX8_besides_83 rfl ?_
              refine dn_istore_n (lv0 := [(0, .ref (wd_b G + a0)), (1, .int a1), (3, .int x3)]) C dX8_besides_84 rfl (by decide) rfl rfl (fun v2_12 => ?_)
              refine dn_pick [1, 2, 0, 3] rfl ?_
              exact hj6 v2_12
            · exact hj6 x2
        · exact hj6 x2
    · refine dn_pick [2] rfl ?_
      exact hk x2
set_option maxHeartbeats 4000000 in
set_option maxRecDepth 100000 in
theorem ok_State_besides {G : wd_G} {l : Launch} (hN : gd_ok G)  (o : Nat) (ho : sh_kd o = 8) (p1 : Int32) (σ : hp_I) (τ : hp_L) : cl_C G l 0 yX8_besides cX8_besides 4 (some .int) [.ref (wd_b G + o), .int p1] σ τ (ci_i σ τ) (fn_State_besides o p1 σ) := by
  refine cl_of (lv0 := [(0, .ref (wd_b G + o)), (1, .int p1)]) (ci_i σ τ) (by decide) (Nat.le_of_ble_eq_true rfl) rfl hN (fun M hM C => ?_)
  have C : cx_C G M RX8 cX8_besides 4 0 (some .int) := C
  unfold fn_State_besides
  refine dn_iconst C dX8_besides_0 ic_i_0 rfl ?_
  refine dn_istore_n (lv0 := [(0, .ref (wd_b G + o)), (1, .int p1)]) C dX8_besides_1 rfl (by decide) rfl rfl (fun v2_1 => ?_)
  refine dn_iconst C dX8_besides_2 ic_i_0 rfl ?_
  refine dn_istore_n (lv0 := [(2, .int v2_1), (0, .ref (wd_b G + o)), (1, .int p1)]) C dX8_besides_3 rfl (by decide) rfl rfl (fun v3_2 => ?_)
  refine dn_pick [2, 3, 1, 0] rfl ?_
  refine pf_State_besides_L4  C  o ho p1 σ τ _ (fun y_13 => ?_) FU v2_1 v3_2
  refine dn_iload_n C dX8_besides_91 rfl 0 rfl rfl ?_
  exact dn_iret C dX8_besides_92 rfl
def fn_State_joined  (o : Nat) (σ : hp_I) : Option (Int32) :=
  Option.bind (px_ald σ (sh_rf o 2) (3 : Int32)) fun z1 =>
  some z1
set_option maxHeartbeats 4000000 in
set_option maxRecDepth 100000 in
theorem ok_State_joined {G : wd_G} {l : Launch} (hN : gd_ok G)  (o : Nat) (ho : sh_kd o = 8) (σ : hp_I) (τ : hp_L) : cl_C G l 0 yX8_joined cX8_joined 1 (some .int) [.ref (wd_b G + o)] σ τ (ci_i σ τ) (fn_State_joined o σ) := by
  refine cl_of (lv0 := [(0, .ref (wd_b G + o))]) (ci_i σ τ) (by decide) (Nat.le_of_ble_eq_true rfl) rfl hN (fun M hM C => ?_)
  have C : cx_C G M RX8 cX8_joined 1 0 (some .int) := C
  unfold fn_State_joined
  refine dn_aload_n C dX8_joined_0 rfl 0 rfl rfl ?_
  refine dn_getR C fd_X8_11 ho dX8_joined_1 rfl ?_
  refine dn_iconst C dX8_joined_4 ic_i_3 rfl ?_
  refine dn_iald C (kt_8_2 ho) dX8_joined_5 rfl (fun z1 => ?_)
  exact dn_iret C dX8_joined_6 rfl
def fn_State_leaveOut  (o : Nat) (p1 : Int32) (σ : hp_I) : Option (hp_I) :=
  Option.bind (px_ald σ (sh_rf o 2) (1 : Int32)) fun z1 =>
  Option.bind (px_ast σ (sh_rf o 2) (1 : Int32) (z1 &&& (((1 : Int32) <<< (p1 &&& 31)) ^^^ (-1 : Int32)))) fun s2 =>
  some s2
set_option maxHeartbeats 4000000 in
set_option maxRecDepth 100000 in
theorem ok_State_leaveOut {G : wd_G} {l : Launch} (hN : gd_ok G)  (o : Nat) (ho : sh_kd o = 8) (p1 : Int32) (σ : hp_I) (τ : hp_L) : cl_C G l 0 yX8_leaveOut cX8_leaveOut 2 none [.ref (wd_b G + o), .int p1] σ τ (ci_h τ) (fn_State_leaveOut o p1 σ) := by
  refine cl_of (lv0 := [(0, .ref (wd_b G + o)), (1, .int p1)]) (ci_h τ) (by decide) (Nat.le_of_ble_eq_true rfl) rfl hN (fun M hM C => ?_)
  have C : cx_C G M RX8 cX8_leaveOut 2 0 none := C
  unfold fn_State_leaveOut
  refine dn_aload_n C dX8_leaveOut_0 rfl 0 rfl rfl ?_
  refine dn_getR C fd_X8_11 ho dX8_leaveOut_1 rfl ?_
  refine dn_iconst C dX8_leaveOut_4 ic_i_1 rfl ?_
  refine dn_dup2 C dX8_leaveOut_5 rfl rfl rfl ?_
  refine dn_iald C (kt_8_2 ho) dX8_leaveOut_6 rfl (fun z1 => ?_)
  refine dn_iconst C dX8_leaveOut_7 ic_i_1 rfl ?_
  refine dn_iload_n C dX8_leaveOut_8 rfl 1 rfl rfl ?_
  refine dn_ishl C dX8_leaveOut_9 rfl ?_
  refine dn_iconst C dX8_leaveOut_10 ic_i_m1 rfl ?_
  refine dn_ixor C dX8_leaveOut_11 rfl ?_
  refine dn_iand C dX8_leaveOut_12 rfl ?_
  refine dn_iast C (kt_8_2 ho) dX8_leaveOut_13 rfl (fun s2 => ?_)
  exact dn_vret C dX8_leaveOut_14 rfl
def fn_State_lives  (o : Nat) (p1 : Int32) (σ : hp_I) : Option (Int32) :=
  Option.bind (px_ald σ (sh_rf o 2) (1 : Int32)) fun z1 =>
  px_jn (fun (t2 : Int32) =>
    px_z t2 t2
  ) fun j3 =>
    if ((z1 >>> (p1 &&& 31)) &&& (1 : Int32)) = (1 : Int32) then (
      j3 (1 : Int32)
    ) else (
      j3 (0 : Int32)
    )
set_option maxHeartbeats 4000000 in
set_option maxRecDepth 100000 in
theorem ok_State_lives {G : wd_G} {l : Launch} (hN : gd_ok G)  (o : Nat) (ho : sh_kd o = 8) (p1 : Int32) (σ : hp_I) (τ : hp_L) : cl_C G l 0 yX8_lives cX8_lives 2 (some .boolean) [.ref (wd_b G + o), .int p1] σ τ (ci_i σ τ) (fn_State_lives o p1 σ) := by
  refine cl_of (lv0 := [(0, .ref (wd_b G + o)), (1, .int p1)]) (ci_i σ τ) (by decide) (Nat.le_of_ble_eq_true rfl) rfl hN (fun M hM C => ?_)
  have C : cx_C G M RX8 cX8_lives 2 0 (some .boolean) := C
  unfold fn_State_lives
  refine dn_aload_n C dX8_lives_0 rfl 0 rfl rfl ?_
  refine dn_getR C fd_X8_11 ho dX8_lives_1 rfl ?_
  refine dn_iconst C dX8_lives_4 ic_i_1 rfl ?_
  refine dn_iald C (kt_8_2 ho) dX8_lives_5 rfl (fun z1 => ?_)
  refine dn_iload_n C dX8_lives_6 rfl 1 rfl rfl ?_
  refine dn_ishr C dX8_lives_7 rfl ?_
  refine dn_iconst C dX8_lives_8 ic_i_1 rfl ?_
  refine dn_iand C dX8_lives_9 rfl ?_
  refine dn_iconst C dX8_lives_10 ic_i_1 rfl ?_
  refine dn_jn (fun z => ∀ (t2 : Int32), dn_D G M 2 0 0 (cl_M G M (ci_i σ τ)) 19 [] [.int t2] σ τ (z t2)) (fun t2 => ?_) (fun j3 hj3 => ?_)
  · exact dn_zret C dX8_lives_19 rfl
  · refine dn_icmp_ne (t := 18) C dX8_lives_11 (by decide) rfl ?_ ?_
    · refine dn_iconst C dX8_lives_14 ic_i_1 rfl ?_
      refine dn_goto (t := 19) C dX8_lives_15 (by decide) ?_
      refine dn_pick [] rfl ?_
      exact hj3 (1 : Int32)
    · refine dn_iconst C dX8_lives_18 ic_i_0 rfl ?_
      refine dn_pick [] rfl ?_
      exact hj3 (0 : Int32)
def fn_State_living  (o : Nat) (σ : hp_I) : Option (Int32) :=
  Option.bind (px_ald σ (sh_rf o 2) (1 : Int32)) fun z1 =>
  some z1
set_option maxHeartbeats 4000000 in
set_option maxRecDepth 100000 in
theorem ok_State_living {G : wd_G} {l : Launch} (hN : gd_ok G)  (o : Nat) (ho : sh_kd o = 8) (σ : hp_I) (τ : hp_L) : cl_C G l 0 yX8_living cX8_living 1 (some .int) [.ref (wd_b G + o)] σ τ (ci_i σ τ) (fn_State_living o σ) := by
  refine cl_of (lv0 := [(0, .ref (wd_b G + o))]) (ci_i σ τ) (by decide) (Nat.le_of_ble_eq_true rfl) rfl hN (fun M hM C => ?_)
  have C : cx_C G M RX8 cX8_living 1 0 (some .int) := C
  unfold fn_State_living
  refine dn_aload_n C dX8_living_0 rfl 0 rfl rfl ?_
  refine dn_getR C fd_X8_11 ho dX8_living_1 rfl ?_
  refine dn_iconst C dX8_living_4 ic_i_1 rfl ?_
  refine dn_iald C (kt_8_2 ho) dX8_living_5 rfl (fun z1 => ?_)
  exact dn_iret C dX8_living_6 rfl
def fn_State_night  (o : Nat) (σ : hp_I) : Option (Int32) :=
  Option.bind (px_ald σ (sh_rf o 2) (0 : Int32)) fun z1 =>
  some z1
set_option maxHeartbeats 4000000 in
set_option maxRecDepth 100000 in
theorem ok_State_night {G : wd_G} {l : Launch} (hN : gd_ok G)  (o : Nat) (ho : sh_kd o = 8) (σ : hp_I) (τ : hp_L) : cl_C G l 0 yX8_night cX8_night 1 (some .int) [.ref (wd_b G + o)] σ τ (ci_i σ τ) (fn_State_night o σ) := by
  refine cl_of (lv0 := [(0, .ref (wd_b G + o))]) (ci_i σ τ) (by decide) (Nat.le_of_ble_eq_true rfl) rfl hN (fun M hM C => ?_)
  have C : cx_C G M RX8 cX8_night 1 0 (some .int) := C
  unfold fn_State_night
  refine dn_aload_n C dX8_night_0 rfl 0 rfl rfl ?_
  refine dn_getR C fd_X8_11 ho dX8_night_1 rfl ?_
  refine dn_iconst C dX8_night_4 ic_i_0 rfl ?_
  refine dn_iald C (kt_8_2 ho) dX8_night_5 rfl (fun z1 => ?_)
  exact dn_iret C dX8_night_6 rfl
def fn_State_onMat  (o : Nat) (σ : hp_I) : Option (Int32) :=
  Option.bind (px_ald σ (sh_rf o 2) (2 : Int32)) fun z1 =>
  some z1
set_option maxHeartbeats 4000000 in
set_option maxRecDepth 100000 in
theorem ok_State_onMat {G : wd_G} {l : Launch} (hN : gd_ok G)  (o : Nat) (ho : sh_kd o = 8) (σ : hp_I) (τ : hp_L) : cl_C G l 0 yX8_onMat cX8_onMat 1 (some .int) [.ref (wd_b G + o)] σ τ (ci_i σ τ) (fn_State_onMat o σ) := by
  refine cl_of (lv0 := [(0, .ref (wd_b G + o))]) (ci_i σ τ) (by decide) (Nat.le_of_ble_eq_true rfl) rfl hN (fun M hM C => ?_)
  have C : cx_C G M RX8 cX8_onMat 1 0 (some .int) := C
  unfold fn_State_onMat
  refine dn_aload_n C dX8_onMat_0 rfl 0 rfl rfl ?_
  refine dn_getR C fd_X8_11 ho dX8_onMat_1 rfl ?_
  refine dn_iconst C dX8_onMat_4 ic_i_2 rfl ?_
  refine dn_iald C (kt_8_2 ho) dX8_onMat_5 rfl (fun z1 => ?_)
  exact dn_iret C dX8_onMat_6 rfl
def fn_State_putInto  (o : Nat) (p1 : Int32) (p2 : Int32) (σ : hp_I) : Option (hp_I) :=
  Option.bind (px_ast σ (sh_rf o 2) ((5 : Int32) + p1) p2) fun s1 =>
  some s1
set_option maxHeartbeats 4000000 in
set_option maxRecDepth 100000 in
theorem ok_State_putInto {G : wd_G} {l : Launch} (hN : gd_ok G)  (o : Nat) (ho : sh_kd o = 8) (p1 : Int32) (p2 : Int32) (σ : hp_I) (τ : hp_L) : cl_C G l 0 yX8_putInto cX8_putInto 3 none [.ref (wd_b G + o), .int p1, .int p2] σ τ (ci_h τ) (fn_State_putInto o p1 p2 σ) := by
  refine cl_of (lv0 := [(0, .ref (wd_b G + o)), (1, .int p1), (2, .int p2)]) (ci_h τ) (by decide) (Nat.le_of_ble_eq_true rfl) rfl hN (fun M hM C => ?_)
  have C : cx_C G M RX8 cX8_putInto 3 0 none := C
  unfold fn_State_putInto
  refine dn_aload_n C dX8_putInto_0 rfl 0 rfl rfl ?_
  refine dn_getR C fd_X8_11 ho dX8_putInto_1 rfl ?_
  refine dn_iconst C dX8_putInto_4 ic_i_5 rfl ?_
  refine dn_iload_n C dX8_putInto_5 rfl 1 rfl rfl ?_
  refine dn_iadd C dX8_putInto_6 rfl ?_
  refine dn_iload_n C dX8_putInto_7 rfl 2 rfl rfl ?_
  refine dn_iast C (kt_8_2 ho) dX8_putInto_8 rfl (fun s1 => ?_)
  exact dn_vret C dX8_putInto_9 rfl
def fn_State_roomOf  (o : Nat) (p1 : Int32) (σ : hp_I) : Option (Int32) :=
  Option.bind (px_ald σ (sh_rf o 2) ((5 : Int32) + p1)) fun z1 =>
  some z1
set_option maxHeartbeats 4000000 in
set_option maxRecDepth 100000 in
theorem ok_State_roomOf {G : wd_G} {l : Launch} (hN : gd_ok G)  (o : Nat) (ho : sh_kd o = 8) (p1 : Int32) (σ : hp_I) (τ : hp_L) : cl_C G l 0 yX8_roomOf cX8_roomOf 2 (some .int) [.ref (wd_b G + o), .int p1] σ τ (ci_i σ τ) (fn_State_roomOf o p1 σ) := by
  refine cl_of (lv0 := [(0, .ref (wd_b G + o)), (1, .int p1)]) (ci_i σ τ) (by decide) (Nat.le_of_ble_eq_true rfl) rfl hN (fun M hM C => ?_)
  have C : cx_C G M RX8 cX8_roomOf 2 0 (some .int) := C
  unfold fn_State_roomOf
  refine dn_aload_n C dX8_roomOf_0 rfl 0 rfl rfl ?_
  refine dn_getR C fd_X8_11 ho dX8_roomOf_1 rfl ?_
  refine dn_iconst C dX8_roomOf_4 ic_i_5 rfl ?_
  refine dn_iload_n C dX8_roomOf_5 rfl 1 rfl rfl ?_
  refine dn_iadd C dX8_roomOf_6 rfl ?_
  refine dn_iald C (kt_8_2 ho) dX8_roomOf_7 rfl (fun z1 => ?_)
  exact dn_iret C dX8_roomOf_8 rfl
def fn_State_roomOfCat  (o : Nat) (p1 : Int32) (σ : hp_I) : Option (Int32) :=
  Option.bind (px_ald σ (sh_rf o 2) ((37 : Int32) + p1)) fun z1 =>
  some z1
set_option maxHeartbeats 4000000 in
set_option maxRecDepth 100000 in
theorem ok_State_roomOfCat {G : wd_G} {l : Launch} (hN : gd_ok G)  (o : Nat) (ho : sh_kd o = 8) (p1 : Int32) (σ : hp_I) (τ : hp_L) : cl_C G l 0 yX8_roomOfCat cX8_roomOfCat 2 (some .int) [.ref (wd_b G + o), .int p1] σ τ (ci_i σ τ) (fn_State_roomOfCat o p1 σ) := by
  refine cl_of (lv0 := [(0, .ref (wd_b G + o)), (1, .int p1)]) (ci_i σ τ) (by decide) (Nat.le_of_ble_eq_true rfl) rfl hN (fun M hM C => ?_)
  have C : cx_C G M RX8 cX8_roomOfCat 2 0 (some .int) := C
  unfold fn_State_roomOfCat
  refine dn_aload_n C dX8_roomOfCat_0 rfl 0 rfl rfl ?_
  refine dn_getR C fd_X8_11 ho dX8_roomOfCat_1 rfl ?_
  refine dn_bipush C dX8_roomOfCat_4 ic_b_37 rfl ?_
  refine dn_iload_n C dX8_roomOfCat_6 rfl 1 rfl rfl ?_
  refine dn_iadd C dX8_roomOfCat_7 rfl ?_
  refine dn_iald C (kt_8_2 ho) dX8_roomOfCat_8 rfl (fun z1 => ?_)
  exact dn_iret C dX8_roomOfCat_9 rfl
def fn_State_shutWays  (o : Nat) (σ : hp_I) : Option (Int32) :=
  Option.bind (px_ald σ (sh_rf o 2) (4 : Int32)) fun z1 =>
  some z1
set_option maxHeartbeats 4000000 in
set_option maxRecDepth 100000 in
theorem ok_State_shutWays {G : wd_G} {l : Launch} (hN : gd_ok G)  (o : Nat) (ho : sh_kd o = 8) (σ : hp_I) (τ : hp_L) : cl_C G l 0 yX8_shutWays cX8_shutWays 1 (some .int) [.ref (wd_b G + o)] σ τ (ci_i σ τ) (fn_State_shutWays o σ) := by
  refine cl_of (lv0 := [(0, .ref (wd_b G + o))]) (ci_i σ τ) (by decide) (Nat.le_of_ble_eq_true rfl) rfl hN (fun M hM C => ?_)
  have C : cx_C G M RX8 cX8_shutWays 1 0 (some .int) := C
  unfold fn_State_shutWays
  refine dn_aload_n C dX8_shutWays_0 rfl 0 rfl rfl ?_
  refine dn_getR C fd_X8_11 ho dX8_shutWays_1 rfl ?_
  refine dn_iconst C dX8_shutWays_4 ic_i_4 rfl ?_
  refine dn_iald C (kt_8_2 ho) dX8_shutWays_5 rfl (fun z1 => ?_)
  exact dn_iret C dX8_shutWays_6 rfl
def fn_State_size  (o : Nat) (p1 : Int32) (σ : hp_I) : Option (Int32) :=
  Option.bind (px_ald σ (sh_rf o 2) ((13 : Int32) + p1)) fun z1 =>
  some z1
set_option maxHeartbeats 4000000 in
set_option maxRecDepth 100000 in
theorem ok_State_size {G : wd_G} {l : Launch} (hN : gd_ok G)  (o : Nat) (ho : sh_kd o = 8) (p1 : Int32) (σ : hp_I) (τ : hp_L) : cl_C G l 0 yX8_size cX8_size 2 (some .int) [.ref (wd_b G + o), .int p1] σ τ (ci_i σ τ) (fn_State_size o p1 σ) := by
  refine cl_of (lv0 := [(0, .ref (wd_b G + o)), (1, .int p1)]) (ci_i σ τ) (by decide) (Nat.le_of_ble_eq_true rfl) rfl hN (fun M hM C => ?_)
  have C : cx_C G M RX8 cX8_size 2 0 (some .int) := C
  unfold fn_State_size
  refine dn_aload_n C dX8_size_0 rfl 0 rfl rfl ?_
  refine dn_getR C fd_X8_11 ho dX8_size_1 rfl ?_
  refine dn_bipush C dX8_size_4 ic_b_13 rfl ?_
  refine dn_iload_n C dX8_size_6 rfl 1 rfl rfl ?_
  refine dn_iadd C dX8_size_7 rfl ?_
  refine dn_iald C (kt_8_2 ho) dX8_size_8 rfl (fun z1 => ?_)
  exact dn_iret C dX8_size_9 rfl
def fn_State_takenBy  (o : Nat) (p1 : Int32) (σ : hp_I) : Option (Int32) :=
  Option.bind (px_ald σ (sh_rf o 2) ((29 : Int32) + p1)) fun z1 =>
  some z1
set_option maxHeartbeats 4000000 in
set_option maxRecDepth 100000 in
theorem ok_State_takenBy {G : wd_G} {l : Launch} (hN : gd_ok G)  (o : Nat) (ho : sh_kd o = 8) (p1 : Int32) (σ : hp_I) (τ : hp_L) : cl_C G l 0 yX8_takenBy cX8_takenBy 2 (some .int) [.ref (wd_b G + o), .int p1] σ τ (ci_i σ τ) (fn_State_takenBy o p1 σ) := by
  refine cl_of (lv0 := [(0, .ref (wd_b G + o)), (1, .int p1)]) (ci_i σ τ) (by decide) (Nat.le_of_ble_eq_true rfl) rfl hN (fun M hM C => ?_)
  have C : cx_C G M RX8 cX8_takenBy 2 0 (some .int) := C
  unfold fn_State_takenBy
  refine dn_aload_n C dX8_takenBy_0 rfl 0 rfl rfl ?_
  refine dn_getR C fd_X8_11 ho dX8_takenBy_1 rfl ?_
  refine dn_bipush C dX8_takenBy_4 ic_b_29 rfl ?_
  refine dn_iload_n C dX8_takenBy_6 rfl 1 rfl rfl ?_
  refine dn_iadd C dX8_takenBy_7 rfl ?_
  refine dn_iald C (kt_8_2 ho) dX8_takenBy_8 rfl (fun z1 => ?_)
  exact dn_iret C dX8_takenBy_9 rfl
def fn_State_takenWhen  (o : Nat) (p1 : Int32) (σ : hp_I) : Option (Int32) :=
  Option.bind (px_ald σ (sh_rf o 2) ((21 : Int32) + p1)) fun z1 =>
  some z1
set_option maxHeartbeats 4000000 in
set_option maxRecDepth 100000 in
theorem ok_State_takenWhen {G : wd_G} {l : Launch} (hN : gd_ok G)  (o : Nat) (ho : sh_kd o = 8) (p1 : Int32) (σ : hp_I) (τ : hp_L) : cl_C G l 0 yX8_takenWhen cX8_takenWhen 2 (some .int) [.ref (wd_b G + o), .int p1] σ τ (ci_i σ τ) (fn_State_takenWhen o p1 σ) := by
  refine cl_of (lv0 := [(0, .ref (wd_b G + o)), (1, .int p1)]) (ci_i σ τ) (by decide) (Nat.le_of_ble_eq_true rfl) rfl hN (fun M hM C => ?_)
  have C : cx_C G M RX8 cX8_takenWhen 2 0 (some .int) := C
  unfold fn_State_takenWhen
  refine dn_aload_n C dX8_takenWhen_0 rfl 0 rfl rfl ?_
  refine dn_getR C fd_X8_11 ho dX8_takenWhen_1 rfl ?_
  refine dn_bipush C dX8_takenWhen_4 ic_b_21 rfl ?_
  refine dn_iload_n C dX8_takenWhen_6 rfl 1 rfl rfl ?_
  refine dn_iadd C dX8_takenWhen_7 rfl ?_
  refine dn_iald C (kt_8_2 ho) dX8_takenWhen_8 rfl (fun z1 => ?_)
  exact dn_iret C dX8_takenWhen_9 rfl
def fn_State_took  (o : Nat) (p1 : Int32) (σ : hp_I) : Option (Int32) :=
  Option.bind (px_ald σ (sh_rf o 2) ((42 : Int32) + p1)) fun z1 =>
  some z1
set_option maxHeartbeats 4000000 in
set_option maxRecDepth 100000 in
theorem ok_State_took {G : wd_G} {l : Launch} (hN : gd_ok G)  (o : Nat) (ho : sh_kd o = 8) (p1 : Int32) (σ : hp_I) (τ : hp_L) : cl_C G l 0 yX8_took cX8_took 2 (some .int) [.ref (wd_b G + o), .int p1] σ τ (ci_i σ τ) (fn_State_took o p1 σ) := by
  refine cl_of (lv0 := [(0, .ref (wd_b G + o)), (1, .int p1)]) (ci_i σ τ) (by decide) (Nat.le_of_ble_eq_true rfl) rfl hN (fun M hM C => ?_)
  have C : cx_C G M RX8 cX8_took 2 0 (some .int) := C
  unfold fn_State_took
  refine dn_aload_n C dX8_took_0 rfl 0 rfl rfl ?_
  refine dn_getR C fd_X8_11 ho dX8_took_1 rfl ?_
  refine dn_bipush C dX8_took_4 ic_b_42 rfl ?_
  refine dn_iload_n C dX8_took_6 rfl 1 rfl rfl ?_
  refine dn_iadd C dX8_took_7 rfl ?_
  refine dn_iald C (kt_8_2 ho) dX8_took_8 rfl (fun z1 => ?_)
  exact dn_iret C dX8_took_9 rfl
def fn_State_turnWay  (o : Nat) (p1 : Int32) (σ : hp_I) : Option (Int32 × hp_I) :=
  Option.bind (px_ald σ (sh_rf o 2) (4 : Int32)) fun z1 =>
  Option.bind (px_ast σ (sh_rf o 2) (4 : Int32) (z1 ^^^ ((1 : Int32) <<< (p1 &&& 31)))) fun s2 =>
  px_z (1 : Int32) ((1 : Int32), s2)
set_option maxHeartbeats 4000000 in
set_option maxRecDepth 100000 in
theorem ok_State_turnWay {G : wd_G} {l : Launch} (hN : gd_ok G)  (o : Nat) (ho : sh_kd o = 8) (p1 : Int32) (σ : hp_I) (τ : hp_L) : cl_C G l 0 yX8_turnWay cX8_turnWay 2 (some .boolean) [.ref (wd_b G + o), .int p1] σ τ (ci_ih τ) (fn_State_turnWay o p1 σ) := by
  refine cl_of (lv0 := [(0, .ref (wd_b G + o)), (1, .int p1)]) (ci_ih τ) (by decide) (Nat.le_of_ble_eq_true rfl) rfl hN (fun M hM C => ?_)
  have C : cx_C G M RX8 cX8_turnWay 2 0 (some .boolean) := C
  unfold fn_State_turnWay
  refine dn_aload_n C dX8_turnWay_0 rfl 0 rfl rfl ?_
  refine dn_getR C fd_X8_11 ho dX8_turnWay_1 rfl ?_
  refine dn_iconst C dX8_turnWay_4 ic_i_4 rfl ?_
  refine dn_dup2 C dX8_turnWay_5 rfl rfl rfl ?_
  refine dn_iald C (kt_8_2 ho) dX8_turnWay_6 rfl (fun z1 => ?_)
  refine dn_iconst C dX8_turnWay_7 ic_i_1 rfl ?_
  refine dn_iload_n C dX8_turnWay_8 rfl 1 rfl rfl ?_
  refine dn_ishl C dX8_turnWay_9 rfl ?_
  refine dn_ixor C dX8_turnWay_10 rfl ?_
  refine dn_iast C (kt_8_2 ho) dX8_turnWay_11 rfl (fun s2 => ?_)
  refine dn_iconst C dX8_turnWay_12 ic_i_1 rfl ?_
  exact dn_zret C dX8_turnWay_13 rfl
def fn_State_wouldSee  (o : Nat) (p1 : Int32) (p2 : Int32) (p3 : Int32) (σ : hp_I) : Option (Int32) :=
  Option.bind (px_ald σ (sh_rf (sh_rf o 0) 11) p1) fun z1 =>
  Option.bind (px_ald σ (sh_rf (sh_rf o 0) 4) p3) fun z2 =>
  px_jn (fun (t3 : Int32) =>
    px_z t3 t3
  ) fun j4 =>
    if z2 < (p2 + z1) then (
      j4 (1 : Int32)
    ) else (
      j4 (0 : Int32)
    )
set_option maxHeartbeats 4000000 in
set_option maxRecDepth 100000 in
theorem ok_State_wouldSee {G : wd_G} {l : Launch} (hN : gd_ok G)  (o : Nat) (ho : sh_kd o = 8) (p1 : Int32) (p2 : Int32) (p3 : Int32) (σ : hp_I) (τ : hp_L) : cl_C G l 0 yX8_wouldSee cX8_wouldSee 4 (some .boolean) [.ref (wd_b G + o), .int p1, .int p2, .int p3] σ τ (ci_i σ τ) (fn_State_wouldSee o p1 p2 p3 σ) := by
  refine cl_of (lv0 := [(0, .ref (wd_b G + o)), (1, .int p1), (2, .int p2), (3, .int p3)]) (ci_i σ τ) (by decide) (Nat.le_of_ble_eq_true rfl) rfl hN (fun M hM C => ?_)
  have C : cx_C G M RX8 cX8_wouldSee 4 0 (some .boolean) := C
  unfold fn_State_wouldSee
  refine dn_iload_n C dX8_wouldSee_0 rfl 2 rfl rfl ?_
  refine dn_aload_n C dX8_wouldSee_1 rfl 0 rfl rfl ?_
  refine dn_getR C fd_X8_18 ho dX8_wouldSee_2 rfl ?_
  refine dn_getR C fd_X8_67 (kt_8_0 ho) dX8_wouldSee_5 rfl ?_
  refine dn_iload_n C dX8_wouldSee_8 rfl 1 rfl rfl ?_
  refine dn_iald C (kt_3_11 (kt_8_0 ho)) dX8_wouldSee_9 rfl (fun z1 => ?_)
  refine dn_iadd C dX8_wouldSee_10 rfl ?_
  refine dn_aload_n C dX8_wouldSee_11 rfl 0 rfl rfl ?_
  refine dn_getR C fd_X8_18 ho dX8_wouldSee_12 rfl ?_
  refine dn_getR C fd_X8_70 (kt_8_0 ho) dX8_wouldSee_15 rfl ?_
  refine dn_iload_n C dX8_wouldSee_18 rfl 3 rfl rfl ?_
  refine dn_iald C (kt_3_4 (kt_8_0 ho)) dX8_wouldSee_19 rfl (fun z2 => ?_)
  refine dn_jn (fun z => ∀ (t3 : Int32), dn_D G M 4 0 0 (cl_M G M (ci_i σ τ)) 28 [] [.int t3] σ τ (z t3)) (fun t3 => ?_) (fun j4 hj4 => ?_)
  · exact dn_zret C dX8_wouldSee_28 rfl
  · refine dn_icmp_le (t := 27) C dX8_wouldSee_20 (by decide) rfl ?_ ?_
    · refine dn_iconst C dX8_wouldSee_23 ic_i_1 rfl ?_
      refine dn_goto (t := 28) C dX8_wouldSee_24 (by decide) ?_
      refine dn_pick [] rfl ?_
      exact hj4 (1 : Int32)
    · refine dn_iconst C dX8_wouldSee_27 ic_i_0 rfl ?_
      refine dn_pick [] rfl ?_
      exact hj4 (0 : Int32)
def fn_State_callCat  (o : Nat) (p1 : Int32) (p2 : Int32) (σ : hp_I) : Option (Int32 × hp_I) :=
  Option.bind (fn_State_roomOfCat o p1 σ) fun z1 =>
  Option.bind (fn_State_besides o z1 σ) fun z2 =>
  if ((z2 >>> (p2 &&& 31)) &&& (1 : Int32)) = 0 then (
    px_z (0 : Int32) ((0 : Int32), σ)
  ) else (
    Option.bind (px_ast σ (sh_rf o 2) ((37 : Int32) + p1) p2) fun s3 =>
    px_z (1 : Int32) ((1 : Int32), s3)
  )
set_option maxHeartbeats 4000000 in
set_option maxRecDepth 100000 in
theorem ok_State_callCat {G : wd_G} {l : Launch} (hN : gd_ok G)  (o : Nat) (ho : sh_kd o = 8) (p1 : Int32) (p2 : Int32) (σ : hp_I) (τ : hp_L) : cl_C G l 1 yX8_callCat cX8_callCat 3 (some .boolean) [.ref (wd_b G + o), .int p1, .int p2] σ τ (ci_ih τ) (fn_State_callCat o p1 p2 σ) := by
  refine cl_of (lv0 := [(0, .ref (wd_b G + o)), (1, .int p1), (2, .int p2)]) (ci_ih τ) (by decide) (Nat.le_of_ble_eq_true rfl) rfl hN (fun M hM C => ?_)
  have C : cx_C G M RX8 cX8_callCat 3 1 (some .boolean) := C
  unfold fn_State_callCat
  refine dn_aload_n C dX8_callCat_0 rfl 0 rfl rfl ?_
  refine dn_aload_n C dX8_callCat_1 rfl 0 rfl rfl ?_
  refine dn_iload_n C dX8_callCat_2 rfl 1 rfl rfl ?_
  refine dn_callV_i (As := [.int p1]) (st := [.ref (wd_b G + o)]) C (ok_State_roomOfCat (cx_g C) o ho p1 σ τ) mt_X8_roomOfCat mv_X8_roomOfCat lk_X8_58 (by decide) ho rfl ⟨Nat.zero_le _, Nat.zero_le _⟩ (Nat.le_of_ble_eq_true rfl) dX8_callCat_3 rfl rfl (fun z1 => ?_)
  refine dn_callV_i (As := [.int z1]) (st := []) C (ok_State_besides (cx_g C) o ho z1 σ τ) mt_X8_besides mv_X8_besides lk_X8_89 (by decide) ho rfl ⟨Nat.zero_le _, Nat.zero_le _⟩ (Nat.le_of_ble_eq_true rfl) dX8_callCat_6 rfl rfl (fun z2 => ?_)
  refine dn_iload_n C dX8_callCat_9 rfl 2 rfl rfl ?_
  refine dn_ishr C dX8_callCat_10 rfl ?_
  refine dn_iconst C dX8_callCat_11 ic_i_1 rfl ?_
  refine dn_iand C dX8_callCat_12 rfl ?_
  refine dn_if_ne (t := 18) C dX8_callCat_13 (by decide) rfl ?_ ?_
  · refine dn_iconst C dX8_callCat_16 ic_i_0 rfl ?_
    exact dn_zret C dX8_callCat_17 rfl
  · refine dn_aload_n C dX8_callCat_18 rfl 0 rfl rfl ?_
    refine dn_getR C fd_X8_11 ho dX8_callCat_19 rfl ?_
    refine dn_bipush C dX8_callCat_22 ic_b_37 rfl ?_
    refine dn_iload_n C dX8_callCat_24 rfl 1 rfl rfl ?_
    refine dn_iadd C dX8_callCat_25 rfl ?_
    refine dn_iload_n C dX8_callCat_26 rfl 2 rfl rfl ?_
    refine dn_iast C (kt_8_2 ho) dX8_callCat_27 rfl (fun s3 => ?_)
    refine dn_iconst C dX8_callCat_28 ic_i_1 rfl ?_
    exact dn_zret C dX8_callCat_29 rfl
def fn_State_catThatTookMost_L6  (a0 : Nat) (σ : hp_I) (k : Int32 → Option (Int32)) : Nat → Int32 → Int32 → Int32 → Option (Int32)
  | 0, _, _, _ => none
  | fu + 1, x1, x2, x3 =>
    if x3 < (σ (sh_rf a0 0) 3) then (
      Option.bind (fn_State_took a0 x3 σ) fun z4 =>
      px_jn (fun (a1_5 : Int32) (a2_6 : Int32) =>
        px_let (x3 + 1) fun v3_7 =>
        fn_State_catThatTookMost_L6 a0 σ k fu a1_5 a2_6 v3_7
      ) fun j8 =>
        if x2 < z4 then (
          Option.bind (fn_State_took a0 x3 σ) fun z9 =>
          px_let z9 fun v2_10 =>
          px_let x3 fun v1_11 =>
          j8 v1_11 v2_10
        ) else (
          j8 x1 x2
        )
    ) else (
      k x1
    )
def fn_State_catThatTookMost  (o : Nat) (σ : hp_I) : Option (Int32) :=
  px_let (-1 : Int32) fun v1_1 =>
  px_let (0 : Int32) fun v2_2 =>
  px_let (0 : Int32) fun v3_3 =>
  fn_State_catThatTookMost_L6 o σ
    (fun (y_12 : Int32) =>
      some y_12
    )
    FU v1_1 v2_2 v3_3
set_option maxHeartbeats 4000000 in
set_option maxRecDepth 100000 in
theorem pf_State_catThatTookMost_L6 {G : wd_G} {M : wd_M}  (C : cx_C G M RX8 cX8_catThatTookMost 4 1 (some .int)) (a0 : Nat) (ha0 : sh_kd a0 = 8) (σ : hp_I) (τ : hp_L) (k : Int32 → Option (Int32)) (hk : ∀ (y1 : Int32), dn_D G M 4 0 0 (cl_M G M (ci_i σ τ)) 40 [(1, .int y1)] [] σ τ (k y1)) : ∀ (fu : Nat) (x1 : Int32) (x2 : Int32) (x3 : Int32), dn_D G M 4 0 0 (cl_M G M (ci_i σ τ)) 6 [(0, .ref (wd_b G + a0)), (1, .int x1), (2, .int x2), (3, .int x3)] [] σ τ (fn_State_catThatTookMost_L6 a0 σ k fu x1 x2 x3) := by
  intro fu
  induction fu with
  | zero => exact fun x1 x2 x3 => dn_none
  | succ fu ih =>
    intro x1 x2 x3
    unfold fn_State_catThatTookMost_L6
    refine dn_iload_n C dX8_catThatTookMost_6 rfl 3 rfl rfl ?_
    refine dn_aload_n C dX8_catThatTookMost_7 rfl 0 rfl rfl ?_
    refine dn_getR C fd_X8_18 ha0 dX8_catThatTookMost_8 rfl ?_
    refine dn_getI C fd_X8_44 (kt_8_0 ha0) dX8_catThatTookMost_11 rfl ?_
    refine dn_icmp_ge (t := 40) C dX8_catThatTookMost_14 (by decide) rfl ?_ ?_
    · refine dn_aload_n C dX8_catThatTookMost_17 rfl 0 rfl rfl ?_
      refine dn_iload_n C dX8_catThatTookMost_18 rfl 3 rfl rfl ?_
      refine dn_callV_i (As := [.int x3]) (st := []) C (ok_State_took (cx_g C) a0 ha0 x3 σ τ) mt_X8_took mv_X8_took lk_X8_64 (by decide) ha0 rfl ⟨Nat.zero_le _, Nat.zero_le _⟩ (Nat.le_of_ble_eq_true rfl) dX8_catThatTookMost_19 rfl rfl (fun z4 => ?_)
      refine dn_iload_n C dX8_catThatTookMost_22 rfl 2 rfl rfl ?_
      refine dn_jn (fun z => ∀ (a1_5 : Int32) (a2_6 : Int32), dn_D G M 4 0 0 (cl_M G M (ci_i σ τ)) 34 [(0, .ref (wd_b G + a0)), (1, .int a1_5), (2, .int a2_6), (3, .int x3)] [] σ τ (z a1_5 a2_6)) (fun a1_5 a2_6 => ?_) (fun j8 hj8 => ?_)
      · refine dn_iinc (lv0 := [(0, .ref (wd_b G + a0)), (1, .int a1_5), (2, .int a2_6)]) (v := x3 + 1) C dX8_catThatTookMost_34 3 rfl rfl (by decide) rfl rfl (fun v3_7 => ?_)
        refine dn_goto (t := 6) C dX8_catThatTookMost_37 (by decide) ?_
        refine dn_pick [1, 2, 3, 0] rfl ?_
        exact ih a1_5 a2_6 v3_7
      · refine dn_icmp_le (t := 34) C dX8_catThatTookMost_23 (by decide) rfl ?_ ?_
        · refine dn_aload_n C dX8_catThatTookMost_26 rfl 0 rfl rfl ?_
          refine dn_iload_n C dX8_catThatTookMost_27 rfl 3 rfl rfl ?_
          refine dn_callV_i (As := [.int x3]) (st := []) C (ok_State_took (cx_g C) a0 ha0 x3 σ τ) mt_X8_took mv_X8_took lk_X8_64 (by decide) ha0 rfl ⟨Nat.zero_le _, Nat.zero_le _⟩ (Nat.le_of_ble_eq_true rfl) dX8_catThatTookMost_28 rfl rfl (fun z9 => ?_)
          refine dn_istore_n (lv0 := [(0, .ref (wd_b G + a0)), (1, .int x1), (3, .int x3)]) C dX8_catThatTookMost_31 rfl (by decide) rfl rfl (fun v2_10 => ?_)
          refine dn_iload_n C dX8_catThatTookMost_32 rfl 3 rfl rfl ?_
          refine dn_istore_n (lv0 := [(2, .int v2_10), (0, .ref (wd_b G + a0)), (3, .int x3)]) C dX8_catThatTookMost_33 rfl (by decide) rfl rfl (fun v1_11 => ?_)
          refine dn_pick [2, 0, 1, 3] rfl ?_
          exact hj8 v1_11 v2_10
        · exact hj8 x1 x2
    · refine dn_pick [1] rfl ?_
      exact hk x1
set_option maxHeartbeats 4000000 in
set_option maxRecDepth 100000 in
theorem ok_State_catThatTookMost {G : wd_G} {l : Launch} (hN : gd_ok G)  (o : Nat) (ho : sh_kd o = 8) (σ : hp_I) (τ : hp_L) : cl_C G l 1 yX8_catThatTookMost cX8_catThatTookMost 4 (some .int) [.ref (wd_b G + o)] σ τ (ci_i σ τ) (fn_State_catThatTookMost o σ) := by
  refine cl_of (lv0 := [(0, .ref (wd_b G + o))]) (ci_i σ τ) (by decide) (Nat.le_of_ble_eq_true rfl) rfl hN (fun M hM C => ?_)
  have C : cx_C G M RX8 cX8_catThatTookMost 4 1 (some .int) := C
  unfold fn_State_catThatTookMost
  refine dn_iconst C dX8_catThatTookMost_0 ic_i_m1 rfl ?_
  refine dn_istore_n (lv0 := [(0, .ref (wd_b G + o))]) C dX8_catThatTookMost_1 rfl (by decide) rfl rfl (fun v1_1 => ?_)
  refine dn_iconst C dX8_catThatTookMost_2 ic_i_0 rfl ?_
  refine dn_istore_n (lv0 := [(1, .int v1_1), (0, .ref (wd_b G + o))]) C dX8_catThatTookMost_3 rfl (by decide) rfl rfl (fun v2_2 => ?_)
  refine dn_iconst C dX8_catThatTookMost_4 ic_i_0 rfl ?_
  refine dn_istore_n (lv0 := [(2, .int v2_2), (1, .int v1_1), (0, .ref (wd_b G + o))]) C dX8_catThatTookMost_5 rfl (by decide) rfl rfl (fun v3_3 => ?_)
  refine dn_pick [3, 2, 1, 0] rfl ?_
  refine pf_State_catThatTookMost_L6  C  o ho σ τ _ (fun y_12 => ?_) FU v1_1 v2_2 v3_3
  refine dn_iload_n C dX8_catThatTookMost_40 rfl 0 rfl rfl ?_
  exact dn_iret C dX8_catThatTookMost_41 rfl
def fn_State_catsIn_L4  (a0 : Nat) (a1 : Int32) (σ : hp_I) (k : Int32 → Option (Int32)) : Nat → Int32 → Int32 → Option (Int32)
  | 0, _, _ => none
  | fu + 1, x2, x3 =>
    if x3 < (σ (sh_rf a0 0) 3) then (
      Option.bind (fn_State_roomOfCat a0 x3 σ) fun z3 =>
      px_jn (fun (a2_4 : Int32) =>
        px_let (x3 + 1) fun v3_5 =>
        fn_State_catsIn_L4 a0 a1 σ k fu a2_4 v3_5
      ) fun j6 =>
        if z3 = a1 then (
          px_let (x2 ||| ((1 : Int32) <<< (x3 &&& 31))) fun v2_7 =>
          j6 v2_7
        ) else (
          j6 x2
        )
    ) else (
      k x2
    )
def fn_State_catsIn  (o : Nat) (p1 : Int32) (σ : hp_I) : Option (Int32) :=
  px_let (0 : Int32) fun v2_1 =>
  px_let (0 : Int32) fun v3_2 =>
  fn_State_catsIn_L4 o p1 σ
    (fun (y_8 : Int32) =>
      some y_8
    )
    FU v2_1 v3_2
set_option maxHeartbeats 4000000 in
set_option maxRecDepth 100000 in
theorem pf_State_catsIn_L4 {G : wd_G} {M : wd_M}  (C : cx_C G M RX8 cX8_catsIn 4 1 (some .int)) (a0 : Nat) (ha0 : sh_kd a0 = 8) (a1 : Int32) (σ : hp_I) (τ : hp_L) (k : Int32 → Option (Int32)) (hk : ∀ (y2 : Int32), dn_D G M 4 0 0 (cl_M G M (ci_i σ τ)) 36 [(2, .int y2)] [] σ τ (k y2)) : ∀ (fu : Nat) (x2 : Int32) (x3 : Int32), dn_D G M 4 0 0 (cl_M G M (ci_i σ τ)) 4 [(0, .ref (wd_b G + a0)), (1, .int a1), (2, .int x2), (3, .int x3)] [] σ τ (fn_State_catsIn_L4 a0 a1 σ k fu x2 x3) := by
  intro fu
  induction fu with
  | zero => exact fun x2 x3 => dn_none
  | succ fu ih =>
    intro x2 x3
    unfold fn_State_catsIn_L4
    refine dn_iload_n C dX8_catsIn_4 rfl 3 rfl rfl ?_
    refine dn_aload_n C dX8_catsIn_5 rfl 0 rfl rfl ?_
    refine dn_getR C fd_X8_18 ha0 dX8_catsIn_6 rfl ?_
    refine dn_getI C fd_X8_44 (kt_8_0 ha0) dX8_catsIn_9 rfl ?_
    refine dn_icmp_ge (t := 36) C dX8_catsIn_12 (by decide) rfl ?_ ?_
    · refine dn_aload_n C dX8_catsIn_15 rfl 0 rfl rfl ?_
      refine dn_iload_n C dX8_catsIn_16 rfl 3 rfl rfl ?_
      refine dn_callV_i (As := [.int x3]) (st := []) C (ok_State_roomOfCat (cx_g C) a0 ha0 x3 σ τ) mt_X8_roomOfCat mv_X8_roomOfCat lk_X8_58 (by decide) ha0 rfl ⟨Nat.zero_le _, Nat.zero_le _⟩ (Nat.le_of_ble_eq_true rfl) dX8_catsIn_17 rfl rfl (fun z3 => ?_)
      refine dn_iload_n C dX8_catsIn_20 rfl 1 rfl rfl ?_
      refine dn_jn (fun z => ∀ (a2_4 : Int32), dn_D G M 4 0 0 (cl_M G M (ci_i σ τ)) 30 [(0, .ref (wd_b G + a0)), (1, .int a1), (2, .int a2_4), (3, .int x3)] [] σ τ (z a2_4)) (fun a2_4 => ?_) (fun j6 hj6 => ?_)
      · refine dn_iinc (lv0 := [(0, .ref (wd_b G + a0)), (1, .int a1), (2, .int a2_4)]) (v := x3 + 1) C dX8_catsIn_30 3 rfl rfl (by decide) rfl rfl (fun v3_5 => ?_)
        refine dn_goto (t := 4) C dX8_catsIn_33 (by decide) ?_
        refine dn_pick [1, 2, 3, 0] rfl ?_
        exact ih a2_4 v3_5
      · refine dn_icmp_ne (t := 30) C dX8_catsIn_21 (by decide) rfl ?_ ?_
        · refine dn_iload_n C dX8_catsIn_24 rfl 2 rfl rfl ?_
          refine dn_iconst C dX8_catsIn_25 ic_i_1 rfl ?_
          refine dn_iload_n C dX8_catsIn_26 rfl 3 rfl rfl ?_
          refine dn_ishl C dX8_catsIn_27 rfl ?_
          refine dn_ior C dX8_catsIn_28 rfl ?_
          refine dn_istore_n (lv0 := [(0, .ref (wd_b G + a0)), (1, .int a1), (3, .int x3)]) C dX8_catsIn_29 rfl (by decide) rfl rfl (fun v2_7 => ?_)
          refine dn_pick [1, 2, 0, 3] rfl ?_
          exact hj6 v2_7
        · exact hj6 x2
    · refine dn_pick [2] rfl ?_
      exact hk x2
set_option maxHeartbeats 4000000 in
set_option maxRecDepth 100000 in
theorem ok_State_catsIn {G : wd_G} {l : Launch} (hN : gd_ok G)  (o : Nat) (ho : sh_kd o = 8) (p1 : Int32) (σ : hp_I) (τ : hp_L) : cl_C G l 1 yX8_catsIn cX8_catsIn 4 (some .int) [.ref (wd_b G + o), .int p1] σ τ (ci_i σ τ) (fn_State_catsIn o p1 σ) := by
  refine cl_of (lv0 := [(0, .ref (wd_b G + o)), (1, .int p1)]) (ci_i σ τ) (by decide) (Nat.le_of_ble_eq_true rfl) rfl hN (fun M hM C => ?_)
  have C : cx_C G M RX8 cX8_catsIn 4 1 (some .int) := C
  unfold fn_State_catsIn
  refine dn_iconst C dX8_catsIn_0 ic_i_0 rfl ?_
  refine dn_istore_n (lv0 := [(0, .ref (wd_b G + o)), (1, .int p1)]) C dX8_catsIn_1 rfl (by decide) rfl rfl (fun v2_1 => ?_)
  refine dn_iconst C dX8_catsIn_2 ic_i_0 rfl ?_
  refine dn_istore_n (lv0 := [(2, .int v2_1), (0, .ref (wd_b G + o)), (1, .int p1)]) C dX8_catsIn_3 rfl (by decide) rfl rfl (fun v3_2 => ?_)
  refine dn_pick [2, 3, 1, 0] rfl ?_
  refine pf_State_catsIn_L4  C  o ho p1 σ τ _ (fun y_8 => ?_) FU v2_1 v3_2
  refine dn_iload_n C dX8_catsIn_36 rfl 0 rfl rfl ?_
  exact dn_iret C dX8_catsIn_37 rfl
def fn_State_copyFrom  (o : Nat) (p1 : Nat) (σ : hp_I) : Option (hp_I) :=
  Option.bind (px_cpy σ (sh_rf p1 2) (0 : Int32) (sh_rf o 2) (0 : Int32) (47 : Int32)) fun s1 =>
  some s1
set_option maxHeartbeats 4000000 in
set_option maxRecDepth 100000 in
theorem ok_State_copyFrom {G : wd_G} {l : Launch} (hN : gd_ok G)  (o : Nat) (ho : sh_kd o = 8) (p1 : Nat) (hp1 : sh_kd p1 = 8) (σ : hp_I) (τ : hp_L) : cl_C G l 1 yX8_copyFrom cX8_copyFrom 2 none [.ref (wd_b G + o), .ref (wd_b G + p1)] σ τ (ci_h τ) (fn_State_copyFrom o p1 σ) := by
  refine cl_of (lv0 := [(0, .ref (wd_b G + o)), (1, .ref (wd_b G + p1))]) (ci_h τ) (by decide) (Nat.le_of_ble_eq_true rfl) rfl hN (fun M hM C => ?_)
  have C : cx_C G M RX8 cX8_copyFrom 2 1 none := C
  unfold fn_State_copyFrom
  refine dn_aload_n C dX8_copyFrom_0 rfl 1 rfl rfl ?_
  refine dn_getR C fd_X8_11 hp1 dX8_copyFrom_1 rfl ?_
  refine dn_iconst C dX8_copyFrom_4 ic_i_0 rfl ?_
  refine dn_aload_n C dX8_copyFrom_5 rfl 0 rfl rfl ?_
  refine dn_getR C fd_X8_11 ho dX8_copyFrom_6 rfl ?_
  refine dn_iconst C dX8_copyFrom_9 ic_i_0 rfl ?_
  refine dn_bipush C dX8_copyFrom_10 ic_b_47 rfl ?_
  refine dn_acopy C ac_all lk_X8_26 (by decide) (kt_8_2 hp1) (kt_8_2 ho) (Nat.le_of_ble_eq_true rfl) dX8_copyFrom_12 rfl (fun s1 => ?_)
  exact dn_vret C dX8_copyFrom_15 rfl
def fn_State_distance_L41  (a0 : Nat) (a2 : Int32) (a3 : Int32) (a4 : Int32) (a5 : Int32) (σ : hp_I) (k : Int32 → Option (Int32)) : Nat → Int32 → Int32 → Option (Int32)
  | 0, _, _ => none
  | fu + 1, x6, x7 =>
    if x7 < (σ (sh_rf a0 0) 0) then (
      px_jn (fun (a6_6 : Int32) =>
        px_let (x7 + 1) fun v7_7 =>
        fn_State_distance_L41 a0 a2 a3 a4 a5 σ k fu a6_6 v7_7
      ) fun j8 =>
        if ((a4 >>> (x7 &&& 31)) &&& (1 : Int32)) = (1 : Int32) then (
          Option.bind (fn_State_besides a0 x7 σ) fun z9 =>
          px_let (x6 ||| z9) fun v6_10 =>
          j8 v6_10
        ) else (
          j8 x6
        )
    ) else (
      k x6
    )
def fn_State_distance_L10  (a0 : Nat) (a2 : Int32) (σ : hp_I) (k : Option (Int32)) : Nat → Int32 → Int32 → Int32 → Option (Int32)
  | 0, _, _, _ => none
  | fu + 1, x3, x4, x5 =>
    if x5 < (8 : Int32) then (
      if x4 = 0 then (
        k
      ) else (
        if ((x4 >>> (a2 &&& 31)) &&& (1 : Int32)) = (1 : Int32) then (
          some x5
        ) else (
          px_let (0 : Int32) fun v6_4 =>
          px_let (0 : Int32) fun v7_5 =>
          fn_State_distance_L41 a0 a2 x3 x4 x5 σ
            (fun (y_11 : Int32) =>
              px_let (y_11 &&& (x3 ^^^ (-1 : Int32))) fun v4_12 =>
              px_let (x3 ||| y_11) fun v3_13 =>
              px_let (x5 + 1) fun v5_14 =>
              fn_State_distance_L10 a0 a2 σ k fu v3_13 v4_12 v5_14
            )
            FU v6_4 v7_5
        )
      )
    ) else (
      k
    )
def fn_State_distance  (o : Nat) (p1 : Int32) (p2 : Int32) (σ : hp_I) : Option (Int32) :=
  px_let ((1 : Int32) <<< (p1 &&& 31)) fun v3_1 =>
  px_let v3_1 fun v4_2 =>
  px_let (0 : Int32) fun v5_3 =>
  fn_State_distance_L10 o p2 σ
    (
      some (-1 : Int32)
    )
    FU v3_1 v4_2 v5_3
set_option maxHeartbeats 4000000 in
set_option maxRecDepth 100000 in
theorem pf_State_distance_L41 {G : wd_G} {M : wd_M}  (C : cx_C G M RX8 cX8_distance 8 1 (some .int)) (a0 : Nat) (ha0 : sh_kd a0 = 8) (a2 : Int32) (a3 : Int32) (a4 : Int32) (a5 : Int32) (σ : hp_I) (τ : hp_L) (k : Int32 → Option (Int32)) (hk : ∀ (y6 : Int32), dn_D G M 8 0 0 (cl_M G M (ci_i σ τ)) 81 [(0, .ref (wd_b G + a0)), (2, .int a2), (3, .int a3), (5, .int a5), (6, .int y6)] [] σ τ (k y6)) : ∀ (fu : Nat) (x6 : Int32) (x7 : Int32), dn_D G M 8 0 0 (cl_M G M (ci_i σ τ)) 41 [(0, .ref (wd_b G + a0)), (2, .int a2), (3, .int a3), (4, .int a4), (5, .int a5), (6, .int x6), (7, .int x7)] [] σ τ (fn_State_distance_L41 a0 a2 a3 a4 a5 σ k fu x6 x7) := by
  intro fu
  induction fu with
  | zero => exact fun x6 x7 => dn_none
  | succ fu ih =>
    intro x6 x7
    unfold fn_State_distance_L41
    refine dn_iload C dX8_distance_41 6 rfl rfl ?_
    refine dn_aload_n C dX8_distance_43 rfl 0 rfl rfl ?_
    refine dn_getR C fd_X8_18 ha0 dX8_distance_44 rfl ?_
    refine dn_getI C fd_X8_77 (kt_8_0 ha0) dX8_distance_47 rfl ?_
    refine dn_icmp_ge (t := 81) C dX8_distance_50 (by decide) rfl ?_ ?_
    · refine dn_iload C dX8_distance_53 3 rfl rfl ?_
      refine dn_iload C dX8_distance_55 6 rfl rfl ?_
      refine dn_ishr C dX8_distance_57 rfl ?_
      refine dn_iconst C dX8_distance_58 ic_i_1 rfl ?_
      refine dn_iand C dX8_distance_59 rfl ?_
      refine dn_iconst C dX8_distance_60 ic_i_1 rfl ?_
      refine dn_jn (fun z => ∀ (a6_6 : Int32), dn_D G M 8 0 0 (cl_M G M (ci_i σ τ)) 75 [(0, .ref (wd_b G + a0)), (2, .int a2), (3, .int a3), (4, .int a4), (5, .int a5), (6, .int a6_6), (7, .int x7)] [] σ τ (z a6_6)) (fun a6_6 => ?_) (fun j8 hj8 => ?_)
      · refine dn_iinc (lv0 := [(0, .ref (wd_b G + a0)), (2, .int a2), (3, .int a3), (4, .int a4), (5, .int a5), (6, .int a6_6)]) (v := x7 + 1) C dX8_distance_75 6 rfl rfl (by decide) rfl rfl (fun v7_7 => ?_)
        refine dn_goto (t := 41) C dX8_distance_78 (by decide) ?_
        refine dn_pick [1, 2, 3, 4, 5, 6, 0] rfl ?_
        exact ih a6_6 v7_7
      · refine dn_icmp_ne (t := 75) C dX8_distance_61 (by decide) rfl ?_ ?_
        · refine dn_iload C dX8_distance_64 5 rfl rfl ?_
          refine dn_aload_n C dX8_distance_66 rfl 0 rfl rfl ?_
          refine dn_iload C dX8_distance_67 6 rfl rfl ?_
          refine dn_callV_i (As := [.int x7]) (st := [.int x6]) C (ok_State_besides (cx_g C) a0 ha0 x7 σ τ) mt_X8_besides mv_X8_besides lk_X8_89 (by decide) ha0 rfl ⟨Nat.zero_le _, Nat.zero_le _⟩ (Nat.le_of_ble_eq_true rfl) dX8_distance_69 rfl rfl (fun z9 => ?_)
          refine dn_ior C dX8_distance_72 rfl ?_
          refine dn_istore (lv0 := [(0, .ref (wd_b G + a0)), (2, .int a2), (3, .int a3), (4, .int a4), (5, .int a5), (7, .int x7)]) C dX8_distance_73 (by decide) rfl rfl (fun v6_10 => ?_)
          refine dn_pick [1, 2, 3, 4, 5, 0, 6] rfl ?_
          exact hj8 v6_10
        · exact hj8 x6
    · refine dn_pick [0, 1, 2, 4, 5] rfl ?_
      exact hk x6
set_option maxHeartbeats 4000000 in
set_option maxRecDepth 100000 in
theorem pf_State_distance_L10 {G : wd_G} {M : wd_M}  (C : cx_C G M RX8 cX8_distance 8 1 (some .int)) (a0 : Nat) (ha0 : sh_kd a0 = 8) (a2 : Int32) (σ : hp_I) (τ : hp_L) (k : Option (Int32)) (hk : dn_D G M 8 0 0 (cl_M G M (ci_i σ τ)) 100 [] [] σ τ k) : ∀ (fu : Nat) (x3 : Int32) (x4 : Int32) (x5 : Int32), dn_D G M 8 0 0 (cl_M G M (ci_i σ τ)) 10 [(0, .ref (wd_b G + a0)), (2, .int a2), (3, .int x3), (4, .int x4), (5, .int x5)] [] σ τ (fn_State_distance_L10 a0 a2 σ k fu x3 x4 x5) := by
  intro fu
  induction fu with
  | zero => exact fun x3 x4 x5 => dn_none
  | succ fu ih =>
    intro x3 x4 x5
    unfold fn_State_distance_L10
    refine dn_iload C dX8_distance_10 4 rfl rfl ?_
    refine dn_bipush C dX8_distance_12 ic_b_8 rfl ?_
    refine dn_icmp_ge (t := 100) C dX8_distance_14 (by decide) rfl ?_ ?_
    · refine dn_iload C dX8_distance_17 3 rfl rfl ?_
      refine dn_if_eq (t := 100) C dX8_distance_19 (by decide) rfl ?_ ?_
      · refine dn_pick [] rfl ?_
        exact hk
      · refine dn_iload C dX8_distance_22 3 rfl rfl ?_
        refine dn_iload_n C dX8_distance_24 rfl 1 rfl rfl ?_
        refine dn_ishr C dX8_distance_25 rfl ?_
        refine dn_iconst C dX8_distance_26 ic_i_1 rfl ?_
        refine dn_iand C dX8_distance_27 rfl ?_
        refine dn_iconst C dX8_distance_28 ic_i_1 rfl ?_
        refine dn_icmp_ne (t := 35) C dX8_distance_29 (by decide) rfl ?_ ?_
        · refine dn_iload C dX8_distance_32 4 rfl rfl ?_
          exact dn_iret C dX8_distance_34 rfl
        · refine dn_iconst C dX8_distance_35 ic_i_0 rfl ?_
          refine dn_istore (lv0 := [(0, .ref (wd_b G + a0)), (2, .int a2), (3, .int x3), (4, .int x4), (5, .int x5)]) C dX8_distance_36 (by decide) rfl rfl (fun v6_4 => ?_)
          refine dn_iconst C dX8_distance_38 ic_i_0 rfl ?_
          refine dn_istore (lv0 := [(6, .int v6_4), (0, .ref (wd_b G + a0)), (2, .int a2), (3, .int x3), (4, .int x4), (5, .int x5)]) C dX8_distance_39 (by decide) rfl rfl (fun v7_5 => ?_)
          refine dn_pick [2, 3, 4, 5, 6, 1, 0] rfl ?_
          refine pf_State_distance_L41  C  a0 ha0 a2 x3 x4 x5 σ τ _ (fun y_11 => ?_) FU v6_4 v7_5
          refine dn_iload C dX8_distance_81 4 rfl rfl ?_
          refine dn_iload_n C dX8_distance_83 rfl 2 rfl rfl ?_
          refine dn_iconst C dX8_distance_84 ic_i_m1 rfl ?_
          refine dn_ixor C dX8_distance_85 rfl ?_
          refine dn_iand C dX8_distance_86 rfl ?_
          refine dn_istore (lv0 := [(0, .ref (wd_b G + a0)), (2, .int a2), (3, .int x3), (5, .int x5), (6, .int y_11)]) C dX8_distance_87 (by decide) rfl rfl (fun v4_12 => ?_)
          refine dn_iload_n C dX8_distance_89 rfl 3 rfl rfl ?_
          refine dn_iload C dX8_distance_90 5 rfl rfl ?_
          refine dn_ior C dX8_distance_92 rfl ?_
          refine dn_istore_n (lv0 := [(4, .int v4_12), (0, .ref (wd_b G + a0)), (2, .int a2), (5, .int x5), (6, .int y_11)]) C dX8_distance_93 rfl (by decide) rfl rfl (fun v3_13 => ?_)
          refine dn_iinc (lv0 := [(3, .int v3_13), (4, .int v4_12), (0, .ref (wd_b G + a0)), (2, .int a2), (6, .int y_11)]) (v := x5 + 1) C dX8_distance_94 4 rfl rfl (by decide) rfl rfl (fun v5_14 => ?_)
          refine dn_goto (t := 10) C dX8_distance_97 (by decide) ?_
          refine dn_pick [3, 4, 1, 2, 0] rfl ?_
          exact ih v3_13 v4_12 v5_14
    · refine dn_pick [] rfl ?_
      exact hk
set_option maxHeartbeats 4000000 in
set_option maxRecDepth 100000 in
theorem ok_State_distance {G : wd_G} {l : Launch} (hN : gd_ok G)  (o : Nat) (ho : sh_kd o = 8) (p1 : Int32) (p2 : Int32) (σ : hp_I) (τ : hp_L) : cl_C G l 1 yX8_distance cX8_distance 8 (some .int) [.ref (wd_b G + o), .int p1, .int p2] σ τ (ci_i σ τ) (fn_State_distance o p1 p2 σ) := by
  refine cl_of (lv0 := [(0, .ref (wd_b G + o)), (1, .int p1), (2, .int p2)]) (ci_i σ τ) (by decide) (Nat.le_of_ble_eq_true rfl) rfl hN (fun M hM C => ?_)
  have C : cx_C G M RX8 cX8_distance 8 1 (some .int) := C
  unfold fn_State_distance
  refine dn_iconst C dX8_distance_0 ic_i_1 rfl ?_
  refine dn_iload_n C dX8_distance_1 rfl 1 rfl rfl ?_
  refine dn_ishl C dX8_distance_2 rfl ?_
  refine dn_istore_n (lv0 := [(0, .ref (wd_b G + o)), (1, .int p1), (2, .int p2)]) C dX8_distance_3 rfl (by decide) rfl rfl (fun v3_1 => ?_)
  refine dn_iload_n C dX8_distance_4 rfl 0 rfl rfl ?_
  refine dn_istore (lv0 := [(3, .int v3_1), (0, .ref (wd_b G + o)), (1, .int p1), (2, .int p2)]) C dX8_distance_5 (by decide) rfl rfl (fun v4_2 => ?_)
  refine dn_iconst C dX8_distance_7 ic_i_0 rfl ?_
  refine dn_istore (lv0 := [(4, .int v4_2), (3, .int v3_1), (0, .ref (wd_b G + o)), (1, .int p1), (2, .int p2)]) C dX8_distance_8 (by decide) rfl rfl (fun v5_3 => ?_)
  refine dn_pick [3, 5, 2, 1, 0] rfl ?_
  refine pf_State_distance_L10  C  o ho p2 σ τ _ ?_ FU v3_1 v4_2 v5_3
  refine dn_iconst C dX8_distance_100 ic_i_m1 rfl ?_
  exact dn_iret C dX8_distance_101 rfl
def fn_State_enlarge  (o : Nat) (p1 : Int32) (p2 : Int32) (σ : hp_I) : Option (hp_I) :=
  Option.bind (fn_State_size o p1 σ) fun z1 =>
  Option.bind (px_ast σ (sh_rf o 2) ((13 : Int32) + p1) (px_min (999 : Int32) (z1 + p2))) fun s2 =>
  some s2
set_option maxHeartbeats 4000000 in
set_option maxRecDepth 100000 in
theorem ok_State_enlarge {G : wd_G} {l : Launch} (hN : gd_ok G)  (o : Nat) (ho : sh_kd o = 8) (p1 : Int32) (p2 : Int32) (σ : hp_I) (τ : hp_L) : cl_C G l 1 yX8_enlarge cX8_enlarge 3 none [.ref (wd_b G + o), .int p1, .int p2] σ τ (ci_h τ) (fn_State_enlarge o p1 p2 σ) := by
  refine cl_of (lv0 := [(0, .ref (wd_b G + o)), (1, .int p1), (2, .int p2)]) (ci_h τ) (by decide) (Nat.le_of_ble_eq_true rfl) rfl hN (fun M hM C => ?_)
  have C : cx_C G M RX8 cX8_enlarge 3 1 none := C
  unfold fn_State_enlarge
  refine dn_aload_n C dX8_enlarge_0 rfl 0 rfl rfl ?_
  refine dn_getR C fd_X8_11 ho dX8_enlarge_1 rfl ?_
  refine dn_bipush C dX8_enlarge_4 ic_b_13 rfl ?_
  refine dn_iload_n C dX8_enlarge_6 rfl 1 rfl rfl ?_
  refine dn_iadd C dX8_enlarge_7 rfl ?_
  refine dn_sipush C dX8_enlarge_8 ic_s_999 rfl ?_
  refine dn_aload_n C dX8_enlarge_11 rfl 0 rfl rfl ?_
  refine dn_iload_n C dX8_enlarge_12 rfl 1 rfl rfl ?_
  refine dn_callV_i (As := [.int p1]) (st := [.int (999 : Int32), .int ((13 : Int32) + p1), .ref (wd_b G + sh_rf o 2)]) C (ok_State_size (cx_g C) o ho p1 σ τ) mt_X8_size mv_X8_size lk_X8_61 (by decide) ho rfl ⟨Nat.zero_le _, Nat.zero_le _⟩ (Nat.le_of_ble_eq_true rfl) dX8_enlarge_13 rfl rfl (fun z1 => ?_)
  refine dn_iload_n C dX8_enlarge_16 rfl 2 rfl rfl ?_
  refine dn_iadd C dX8_enlarge_17 rfl ?_
  refine dn_min C mm_all lk_X8_135 (by decide) ⟨Nat.zero_le _, Nat.zero_le _⟩ (Nat.le_of_ble_eq_true rfl) dX8_enlarge_18 rfl ?_
  refine dn_iast C (kt_8_2 ho) dX8_enlarge_21 rfl (fun s2 => ?_)
  exact dn_vret C dX8_enlarge_22 rfl
def fn_State_greatestOf_L4  (a0 : Nat) (a1 : Int32) (σ : hp_I) (k : Int32 → Option (Int32)) : Nat → Int32 → Int32 → Option (Int32)
  | 0, _, _ => none
  | fu + 1, x2, x3 =>
    if x3 < (σ (sh_rf a0 0) 2) then (
      px_jn (fun (a2_3 : Int32) =>
        px_let (x3 + 1) fun v3_4 =>
        fn_State_greatestOf_L4 a0 a1 σ k fu a2_3 v3_4
      ) fun j5 =>
        if ((a1 >>> (x3 &&& 31)) &&& (1 : Int32)) = (1 : Int32) then (
          px_jn (
            px_let x3 fun v2_6 =>
            j5 v2_6
          ) fun j7 =>
            if x2 = (-1 : Int32) then (
              j7
            ) else (
              Option.bind (fn_State_size a0 x3 σ) fun z8 =>
              Option.bind (fn_State_size a0 x2 σ) fun z9 =>
              if z9 < z8 then (
                j7
              ) else (
                j5 x2
              )
            )
        ) else (
          j5 x2
        )
    ) else (
      k x2
    )
def fn_State_greatestOf  (o : Nat) (p1 : Int32) (σ : hp_I) : Option (Int32) :=
  px_let (-1 : Int32) fun v2_1 =>
  px_let (0 : Int32) fun v3_2 =>
  fn_State_greatestOf_L4 o p1 σ
    (fun (y_10 : Int32) =>
      some y_10
    )
    FU v2_1 v3_2
set_option maxHeartbeats 4000000 in
set_option maxRecDepth 100000 in
theorem pf_State_greatestOf_L4 {G : wd_G} {M : wd_M}  (C : cx_C G M RX8 cX8_greatestOf 4 1 (some .int)) (a0 : Nat) (ha0 : sh_kd a0 = 8) (a1 : Int32) (σ : hp_I) (τ : hp_L) (k : Int32 → Option (Int32)) (hk : ∀ (y2 : Int32), dn_D G M 4 0 0 (cl_M G M (ci_i σ τ)) 50 [(2, .int y2)] [] σ τ (k y2)) : ∀ (fu : Nat) (x2 : Int32) (x3 : Int32), dn_D G M 4 0 0 (cl_M G M (ci_i σ τ)) 4 [(0, .ref (wd_b G + a0)), (1, .int a1), (2, .int x2), (3, .int x3)] [] σ τ (fn_State_greatestOf_L4 a0 a1 σ k fu x2 x3) := by
  intro fu
  induction fu with
  | zero => exact fun x2 x3 => dn_none
  | succ fu ih =>
    intro x2 x3
    unfold fn_State_greatestOf_L4
    refine dn_iload_n C dX8_greatestOf_4 rfl 3 rfl rfl ?_
    refine dn_aload_n C dX8_greatestOf_5 rfl 0 rfl rfl ?_
    refine dn_getR C fd_X8_18 ha0 dX8_greatestOf_6 rfl ?_
    refine dn_getI C fd_X8_32 (kt_8_0 ha0) dX8_greatestOf_9 rfl ?_
    refine dn_icmp_ge (t := 50) C dX8_greatestOf_12 (by decide) rfl ?_ ?_
    · refine dn_iload_n C dX8_greatestOf_15 rfl 1 rfl rfl ?_
      refine dn_iload_n C dX8_greatestOf_16 rfl 3 rfl rfl ?_
      refine dn_ishr C dX8_greatestOf_17 rfl ?_
      refine dn_iconst C dX8_greatestOf_18 ic_i_1 rfl ?_
      refine dn_iand C dX8_greatestOf_19 rfl ?_
      refine dn_iconst C dX8_greatestOf_20 ic_i_1 rfl ?_
      refine dn_jn (fun z => ∀ (a2_3 : Int32), dn_D G M 4 0 0 (cl_M G M (ci_i σ τ)) 44 [(0, .ref (wd_b G + a0)), (1, .int a1), (2, .int a2_3), (3, .int x3)] [] σ τ (z a2_3)) (fun a2_3 => ?_) (fun j5 hj5 => ?_)
      · refine dn_iinc (lv0 := [(0, .ref (wd_b G + a0)), (1, .int a1), (2, .int a2_3)]) (v := x3 + 1) C dX8_greatestOf_44 3 rfl rfl (by decide) rfl rfl (fun v3_4 => ?_)
        refine dn_goto (t := 4) C dX8_greatestOf_47 (by decide) ?_
        refine dn_pick [1, 2, 3, 0] rfl ?_
        exact ih a2_3 v3_4
      · refine dn_icmp_ne (t := 44) C dX8_greatestOf_21 (by decide) rfl ?_ ?_
        · refine dn_iload_n C dX8_greatestOf_24 rfl 2 rfl rfl ?_
          refine dn_iconst C dX8_greatestOf_25 ic_i_m1 rfl ?_
          refine dn_jn (fun z => dn_D G M 4 0 0 (cl_M G M (ci_i σ τ)) 42 [(0, .ref (wd_b G + a0)), (1, .int a1), (3, .int x3)] [] σ τ z) ?_ (fun j7 hj7 => ?_)
          · refine dn_iload_n C dX8_greatestOf_42 rfl 2 rfl rfl ?_
            refine dn_istore_n (lv0 := [(0, .ref (wd_b G + a0)), (1, .int a1), (3, .int x3)]) C dX8_greatestOf_43 rfl (by decide) rfl rfl (fun v2_6 => ?_)
            refine dn_pick [1, 2, 0, 3] rfl ?_
            exact hj5 v2_6
          · refine dn_icmp_eq (t := 42) C dX8_greatestOf_26 (by decide) rfl ?_ ?_
            · refine dn_pick [0, 1, 3] rfl ?_
              exact hj7
            · refine dn_aload_n C dX8_greatestOf_29 rfl 0 rfl rfl ?_
              refine dn_iload_n C dX8_greatestOf_30 rfl 3 rfl rfl ?_
              refine dn_callV_i (As := [.int x3]) (st := []) C (ok_State_size (cx_g C) a0 ha0 x3 σ τ) mt_X8_size mv_X8_size lk_X8_61 (by decide) ha0 rfl ⟨Nat.zero_le _, Nat.zero_le _⟩ (Nat.le_of_ble_eq_true rfl) dX8_greatestOf_31 rfl rfl (fun z8 => ?_)
              refine dn_aload_n C dX8_greatestOf_34 rfl 0 rfl rfl ?_
              refine dn_iload_n C dX8_greatestOf_35 rfl 2 rfl rfl ?_
              refine dn_callV_i (As := [.int x2]) (st := [.int z8]) C (ok_State_size (cx_g C) a0 ha0 x2 σ τ) mt_X8_size mv_X8_size lk_X8_61 (by decide) ha0 rfl ⟨Nat.zero_le _, Nat.zero_le _⟩ (Nat.le_of_ble_eq_true rfl) dX8_greatestOf_36 rfl rfl (fun z9 => ?_)
              refine dn_icmp_le (t := 44) C dX8_greatestOf_39 (by decide) rfl ?_ ?_
              · refine dn_pick [0, 1, 3] rfl ?_
                exact hj7
              · exact hj5 x2
        · exact hj5 x2
    · refine dn_pick [2] rfl ?_
      exact hk x2
set_option maxHeartbeats 4000000 in
set_option maxRecDepth 100000 in
theorem ok_State_greatestOf {G : wd_G} {l : Launch} (hN : gd_ok G)  (o : Nat) (ho : sh_kd o = 8) (p1 : Int32) (σ : hp_I) (τ : hp_L) : cl_C G l 1 yX8_greatestOf cX8_greatestOf 4 (some .int) [.ref (wd_b G + o), .int p1] σ τ (ci_i σ τ) (fn_State_greatestOf o p1 σ) := by
  refine cl_of (lv0 := [(0, .ref (wd_b G + o)), (1, .int p1)]) (ci_i σ τ) (by decide) (Nat.le_of_ble_eq_true rfl) rfl hN (fun M hM C => ?_)
  have C : cx_C G M RX8 cX8_greatestOf 4 1 (some .int) := C
  unfold fn_State_greatestOf
  refine dn_iconst C dX8_greatestOf_0 ic_i_m1 rfl ?_
  refine dn_istore_n (lv0 := [(0, .ref (wd_b G + o)), (1, .int p1)]) C dX8_greatestOf_1 rfl (by decide) rfl rfl (fun v2_1 => ?_)
  refine dn_iconst C dX8_greatestOf_2 ic_i_0 rfl ?_
  refine dn_istore_n (lv0 := [(2, .int v2_1), (0, .ref (wd_b G + o)), (1, .int p1)]) C dX8_greatestOf_3 rfl (by decide) rfl rfl (fun v3_2 => ?_)
  refine dn_pick [2, 3, 1, 0] rfl ?_
  refine pf_State_greatestOf_L4  C  o ho p1 σ τ _ (fun y_10 => ?_) FU v2_1 v3_2
  refine dn_iload_n C dX8_greatestOf_50 rfl 0 rfl rfl ?_
  exact dn_iret C dX8_greatestOf_51 rfl
def fn_State_hiddenRooms_L14  (a0 : Nat) (a1 : Int32) (σ : hp_I) (k : Int32 → Option (Int32)) : Nat → Int32 → Int32 → Option (Int32)
  | 0, _, _ => none
  | fu + 1, x2, x3 =>
    if x3 < (σ (sh_rf a0 0) 3) then (
      Option.bind (fn_State_roomOfCat a0 x3 σ) fun z3 =>
      px_let z3 fun v4_4 =>
      Option.bind (fn_State_wouldSee a0 x3 a1 v4_4 σ) fun z5 =>
      px_jn (fun (a2_6 : Int32) =>
        px_let (x3 + 1) fun v3_7 =>
        fn_State_hiddenRooms_L14 a0 a1 σ k fu a2_6 v3_7
      ) fun j8 =>
        if z5 = 0 then (
          j8 x2
        ) else (
          px_let (x2 &&& (((1 : Int32) <<< (v4_4 &&& 31)) ^^^ (-1 : Int32))) fun v2_9 =>
          j8 v2_9
        )
    ) else (
      k x2
    )
def fn_State_hiddenRooms  (o : Nat) (p1 : Int32) (σ : hp_I) : Option (Int32) :=
  px_let (((1 : Int32) <<< ((σ (sh_rf o 0) 0) &&& 31)) - (1 : Int32)) fun v2_1 =>
  px_let (0 : Int32) fun v3_2 =>
  fn_State_hiddenRooms_L14 o p1 σ
    (fun (y_10 : Int32) =>
      some y_10
    )
    FU v2_1 v3_2
set_option maxHeartbeats 4000000 in
set_option maxRecDepth 100000 in
theorem pf_State_hiddenRooms_L14 {G : wd_G} {M : wd_M}  (C : cx_C G M RX8 cX8_hiddenRooms 5 1 (some .int)) (a0 : Nat) (ha0 : sh_kd a0 = 8) (a1 : Int32) (σ : hp_I) (τ : hp_L) (k : Int32 → Option (Int32)) (hk : ∀ (y2 : Int32), dn_D G M 5 0 0 (cl_M G M (ci_i σ τ)) 58 [(2, .int y2)] [] σ τ (k y2)) : ∀ (fu : Nat) (x2 : Int32) (x3 : Int32), dn_D G M 5 0 0 (cl_M G M (ci_i σ τ)) 14 [(0, .ref (wd_b G + a0)), (1, .int a1), (2, .int x2), (3, .int x3)] [] σ τ (fn_State_hiddenRooms_L14 a0 a1 σ k fu x2 x3) := by
  intro fu
  induction fu with
  | zero => exact fun x2 x3 => dn_none
  | succ fu ih =>
    intro x2 x3
    unfold fn_State_hiddenRooms_L14
    refine dn_iload_n C dX8_hiddenRooms_14 rfl 3 rfl rfl ?_
    refine dn_aload_n C dX8_hiddenRooms_15 rfl 0 rfl rfl ?_
    refine dn_getR C fd_X8_18 ha0 dX8_hiddenRooms_16 rfl ?_
    refine dn_getI C fd_X8_44 (kt_8_0 ha0) dX8_hiddenRooms_19 rfl ?_
    refine dn_icmp_ge (t := 58) C dX8_hiddenRooms_22 (by decide) rfl ?_ ?_
    · refine dn_aload_n C dX8_hiddenRooms_25 rfl 0 rfl rfl ?_
      refine dn_iload_n C dX8_hiddenRooms_26 rfl 3 rfl rfl ?_
      refine dn_callV_i (As := [.int x3]) (st := []) C (ok_State_roomOfCat (cx_g C) a0 ha0 x3 σ τ) mt_X8_roomOfCat mv_X8_roomOfCat lk_X8_58 (by decide) ha0 rfl ⟨Nat.zero_le _, Nat.zero_le _⟩ (Nat.le_of_ble_eq_true rfl) dX8_hiddenRooms_27 rfl rfl (fun z3 => ?_)
      refine dn_istore (lv0 := [(0, .ref (wd_b G + a0)), (1, .int a1), (2, .int x2), (3, .int x3)]) C dX8_hiddenRooms_30 (by decide) rfl rfl (fun v4_4 => ?_)
      refine dn_aload_n C dX8_hiddenRooms_32 rfl 1 rfl rfl ?_
      refine dn_iload_n C dX8_hiddenRooms_33 rfl 4 rfl rfl ?_
      refine dn_iload_n C dX8_hiddenRooms_34 rfl 2 rfl rfl ?_
      refine dn_iload C dX8_hiddenRooms_35 0 rfl rfl ?_
      refine dn_callV_i (As := [.int x3, .int a1, .int v4_4]) (st := []) C (ok_State_wouldSee (cx_g C) a0 ha0 x3 a1 v4_4 σ τ) mt_X8_wouldSee mv_X8_wouldSee lk_X8_73 (by decide) ha0 rfl ⟨Nat.zero_le _, Nat.zero_le _⟩ (Nat.le_of_ble_eq_true rfl) dX8_hiddenRooms_37 rfl rfl (fun z5 => ?_)
      refine dn_jn (fun z => ∀ (a2_6 : Int32), dn_D G M 5 0 0 (cl_M G M (ci_i σ τ)) 52 [(0, .ref (wd_b G + a0)), (1, .int a1), (2, .int a2_6), (3, .int x3)] [] σ τ (z a2_6)) (fun a2_6 => ?_) (fun j8 hj8 => ?_)
      · refine dn_iinc (lv0 := [(0, .ref (wd_b G + a0)), (1, .int a1), (2, .int a2_6)]) (v := x3 + 1) C dX8_hiddenRooms_52 3 rfl rfl (by decide) rfl rfl (fun v3_7 => ?_)
        refine dn_goto (t := 14) C dX8_hiddenRooms_55 (by decide) ?_
        refine dn_pick [1, 2, 3, 0] rfl ?_
        exact ih a2_6 v3_7
      · refine dn_if_eq (t := 52) C dX8_hiddenRooms_40 (by decide) rfl ?_ ?_
        · refine dn_pick [1, 2, 3, 4] rfl ?_
          exact hj8 x2
        · refine dn_iload_n C dX8_hiddenRooms_43 rfl 3 rfl rfl ?_
          refine dn_iconst C dX8_hiddenRooms_44 ic_i_1 rfl ?_
          refine dn_iload C dX8_hiddenRooms_45 0 rfl rfl ?_
          refine dn_ishl C dX8_hiddenRooms_47 rfl ?_
          refine dn_iconst C dX8_hiddenRooms_48 ic_i_m1 rfl ?_
          refine dn_ixor C dX8_hiddenRooms_49 rfl ?_
          refine dn_iand C dX8_hiddenRooms_50 rfl ?_
          refine dn_istore_n (lv0 := [(4, .int v4_4), (0, .ref (wd_b G + a0)), (1, .int a1), (3, .int x3)]) C dX8_hiddenRooms_51 rfl (by decide) rfl rfl (fun v2_9 => ?_)
          refine dn_pick [2, 3, 0, 4] rfl ?_
          exact hj8 v2_9
    · refine dn_pick [2] rfl ?_
      exact hk x2
set_option maxHeartbeats 4000000 in
set_option maxRecDepth 100000 in
theorem ok_State_hiddenRooms {G : wd_G} {l : Launch} (hN : gd_ok G)  (o : Nat) (ho : sh_kd o = 8) (p1 : Int32) (σ : hp_I) (τ : hp_L) : cl_C G l 1 yX8_hiddenRooms cX8_hiddenRooms 5 (some .int) [.ref (wd_b G + o), .int p1] σ τ (ci_i σ τ) (fn_State_hiddenRooms o p1 σ) := by
  refine cl_of (lv0 := [(0, .ref (wd_b G + o)), (1, .int p1)]) (ci_i σ τ) (by decide) (Nat.le_of_ble_eq_true rfl) rfl hN (fun M hM C => ?_)
  have C : cx_C G M RX8 cX8_hiddenRooms 5 1 (some .int) := C
  unfold fn_State_hiddenRooms
  refine dn_iconst C dX8_hiddenRooms_0 ic_i_1 rfl ?_
  refine dn_aload_n C dX8_hiddenRooms_1 rfl 0 rfl rfl ?_
  refine dn_getR C fd_X8_18 ho dX8_hiddenRooms_2 rfl ?_
  refine dn_getI C fd_X8_77 (kt_8_0 ho) dX8_hiddenRooms_5 rfl ?_
  refine dn_ishl C dX8_hiddenRooms_8 rfl ?_
  refine dn_iconst C dX8_hiddenRooms_9 ic_i_1 rfl ?_
  refine dn_isub C dX8_hiddenRooms_10 rfl ?_
  refine dn_istore_n (lv0 := [(0, .ref (wd_b G + o)), (1, .int p1)]) C dX8_hiddenRooms_11 rfl (by decide) rfl rfl (fun v2_1 => ?_)
  refine dn_iconst C dX8_hiddenRooms_12 ic_i_0 rfl ?_
  refine dn_istore_n (lv0 := [(2, .int v2_1), (0, .ref (wd_b G + o)), (1, .int p1)]) C dX8_hiddenRooms_13 rfl (by decide) rfl rfl (fun v3_2 => ?_)
  refine dn_pick [2, 3, 1, 0] rfl ?_
  refine pf_State_hiddenRooms_L14  C  o ho p1 σ τ _ (fun y_10 => ?_) FU v2_1 v3_2
  refine dn_iload_n C dX8_hiddenRooms_58 rfl 0 rfl rfl ?_
  exact dn_iret C dX8_hiddenRooms_59 rfl
def fn_State_hideScheme  (o : Nat) (p1 : Int32) (p2 : Int32) (σ : hp_I) : Option (Int32 × hp_I) :=
  Option.bind (fn_State_lives o p1 σ) fun z1 =>
  px_jn (
    px_z (0 : Int32) ((0 : Int32), σ)
  ) fun j2 =>
    if z1 = 0 then (
      j2
    ) else (
      Option.bind (fn_State_roomOf o p1 σ) fun z3 =>
      Option.bind (fn_State_besides o z3 σ) fun z4 =>
      if ((z4 >>> (p2 &&& 31)) &&& (1 : Int32)) = 0 then (
        j2
      ) else (
        Option.bind (px_ast σ (sh_rf o 2) ((5 : Int32) + p1) p2) fun s5 =>
        px_z (1 : Int32) ((1 : Int32), s5)
      )
    )
set_option maxHeartbeats 4000000 in
set_option maxRecDepth 100000 in
theorem ok_State_hideScheme {G : wd_G} {l : Launch} (hN : gd_ok G)  (o : Nat) (ho : sh_kd o = 8) (p1 : Int32) (p2 : Int32) (σ : hp_I) (τ : hp_L) : cl_C G l 1 yX8_hideScheme cX8_hideScheme 3 (some .boolean) [.ref (wd_b G + o), .int p1, .int p2] σ τ (ci_ih τ) (fn_State_hideScheme o p1 p2 σ) := by
  refine cl_of (lv0 := [(0, .ref (wd_b G + o)), (1, .int p1), (2, .int p2)]) (ci_ih τ) (by decide) (Nat.le_of_ble_eq_true rfl) rfl hN (fun M hM C => ?_)
  have C : cx_C G M RX8 cX8_hideScheme 3 1 (some .boolean) := C
  unfold fn_State_hideScheme
  refine dn_aload_n C dX8_hideScheme_0 rfl 0 rfl rfl ?_
  refine dn_iload_n C dX8_hideScheme_1 rfl 1 rfl rfl ?_
  refine dn_callV_i (As := [.int p1]) (st := []) C (ok_State_lives (cx_g C) o ho p1 σ τ) mt_X8_lives mv_X8_lives lk_X8_50 (by decide) ho rfl ⟨Nat.zero_le _, Nat.zero_le _⟩ (Nat.le_of_ble_eq_true rfl) dX8_hideScheme_2 rfl rfl (fun z1 => ?_)
  refine dn_jn (fun z => dn_D G M 3 0 0 (cl_M G M (ci_ih τ)) 24 [] [] σ τ z) ?_ (fun j2 hj2 => ?_)
  · refine dn_iconst C dX8_hideScheme_24 ic_i_0 rfl ?_
    exact dn_zret C dX8_hideScheme_25 rfl
  · refine dn_if_eq (t := 24) C dX8_hideScheme_5 (by decide) rfl ?_ ?_
    · refine dn_pick [] rfl ?_
      exact hj2
    · refine dn_aload_n C dX8_hideScheme_8 rfl 0 rfl rfl ?_
      refine dn_aload_n C dX8_hideScheme_9 rfl 0 rfl rfl ?_
      refine dn_iload_n C dX8_hideScheme_10 rfl 1 rfl rfl ?_
      refine dn_callV_i (As := [.int p1]) (st := [.ref (wd_b G + o)]) C (ok_State_roomOf (cx_g C) o ho p1 σ τ) mt_X8_roomOf mv_X8_roomOf lk_X8_54 (by decide) ho rfl ⟨Nat.zero_le _, Nat.zero_le _⟩ (Nat.le_of_ble_eq_true rfl) dX8_hideScheme_11 rfl rfl (fun z3 => ?_)
      refine dn_callV_i (As := [.int z3]) (st := []) C (ok_State_besides (cx_g C) o ho z3 σ τ) mt_X8_besides mv_X8_besides lk_X8_89 (by decide) ho rfl ⟨Nat.zero_le _, Nat.zero_le _⟩ (Nat.le_of_ble_eq_true rfl) dX8_hideScheme_14 rfl rfl (fun z4 => ?_)
      refine dn_iload_n C dX8_hideScheme_17 rfl 2 rfl rfl ?_
      refine dn_ishr C dX8_hideScheme_18 rfl ?_
      refine dn_iconst C dX8_hideScheme_19 ic_i_1 rfl ?_
      refine dn_iand C dX8_hideScheme_20 rfl ?_
      refine dn_if_ne (t := 26) C dX8_hideScheme_21 (by decide) rfl ?_ ?_
      · refine dn_pick [] rfl ?_
        exact hj2
      · refine dn_aload_n C dX8_hideScheme_26 rfl 0 rfl rfl ?_
        refine dn_getR C fd_X8_11 ho dX8_hideScheme_27 rfl ?_
        refine dn_iconst C dX8_hideScheme_30 ic_i_5 rfl ?_
        refine dn_iload_n C dX8_hideScheme_31 rfl 1 rfl rfl ?_
        refine dn_iadd C dX8_hideScheme_32 rfl ?_
        refine dn_iload_n C dX8_hideScheme_33 rfl 2 rfl rfl ?_
        refine dn_iast C (kt_8_2 ho) dX8_hideScheme_34 rfl (fun s5 => ?_)
        refine dn_iconst C dX8_hideScheme_35 ic_i_1 rfl ?_
        exact dn_zret C dX8_hideScheme_36 rfl
def fn_State_livingIn_L4  (a0 : Nat) (a1 : Int32) (σ : hp_I) (k : Int32 → Option (Int32)) : Nat → Int32 → Int32 → Option (Int32)
  | 0, _, _ => none
  | fu + 1, x2, x3 =>
    if x3 < (σ (sh_rf a0 0) 2) then (
      Option.bind (fn_State_lives a0 x3 σ) fun z3 =>
      px_jn (fun (a2_4 : Int32) =>
        px_let (x3 + 1) fun v3_5 =>
        fn_State_livingIn_L4 a0 a1 σ k fu a2_4 v3_5
      ) fun j6 =>
        if z3 = 0 then (
          j6 x2
        ) else (
          Option.bind (fn_State_roomOf a0 x3 σ) fun z7 =>
          if z7 = a1 then (
            px_let (x2 ||| ((1 : Int32) <<< (x3 &&& 31))) fun v2_8 =>
            j6 v2_8
          ) else (
            j6 x2
          )
        )
    ) else (
      k x2
    )
def fn_State_livingIn  (o : Nat) (p1 : Int32) (σ : hp_I) : Option (Int32) :=
  px_let (0 : Int32) fun v2_1 =>
  px_let (0 : Int32) fun v3_2 =>
  fn_State_livingIn_L4 o p1 σ
    (fun (y_9 : Int32) =>
      some y_9
    )
    FU v2_1 v3_2
set_option maxHeartbeats 4000000 in
set_option maxRecDepth 100000 in
theorem pf_State_livingIn_L4 {G : wd_G} {M : wd_M}  (C : cx_C G M RX8 cX8_livingIn 4 1 (some .int)) (a0 : Nat) (ha0 : sh_kd a0 = 8) (a1 : Int32) (σ : hp_I) (τ : hp_L) (k : Int32 → Option (Int32)) (hk : ∀ (y2 : Int32), dn_D G M 4 0 0 (cl_M G M (ci_i σ τ)) 44 [(2, .int y2)] [] σ τ (k y2)) : ∀ (fu : Nat) (x2 : Int32) (x3 : Int32), dn_D G M 4 0 0 (cl_M G M (ci_i σ τ)) 4 [(0, .ref (wd_b G + a0)), (1, .int a1), (2, .int x2), (3, .int x3)] [] σ τ (fn_State_livingIn_L4 a0 a1 σ k fu x2 x3) := by
  intro fu
  induction fu with
  | zero => exact fun x2 x3 => dn_none
  | succ fu ih =>
    intro x2 x3
    unfold fn_State_livingIn_L4
    refine dn_iload_n C dX8_livingIn_4 rfl 3 rfl rfl ?_
    refine dn_aload_n C dX8_livingIn_5 rfl 0 rfl rfl ?_
    refine dn_getR C fd_X8_18 ha0 dX8_livingIn_6 rfl ?_
    refine dn_getI C fd_X8_32 (kt_8_0 ha0) dX8_livingIn_9 rfl ?_
    refine dn_icmp_ge (t := 44) C dX8_livingIn_12 (by decide) rfl ?_ ?_
    · refine dn_aload_n C dX8_livingIn_15 rfl 0 rfl rfl ?_
      refine dn_iload_n C dX8_livingIn_16 rfl 3 rfl rfl ?_
      refine dn_callV_i (As := [.int x3]) (st := []) C (ok_State_lives (cx_g C) a0 ha0 x3 σ τ) mt_X8_lives mv_X8_lives lk_X8_50 (by decide) ha0 rfl ⟨Nat.zero_le _, Nat.zero_le _⟩ (Nat.le_of_ble_eq_true rfl) dX8_livingIn_17 rfl rfl (fun z3 => ?_)
      refine dn_jn (fun z => ∀ (a2_4 : Int32), dn_D G M 4 0 0 (cl_M G M (ci_i σ τ)) 38 [(0, .ref (wd_b G + a0)), (1, .int a1), (2, .int a2_4), (3, .int x3)] [] σ τ (z a2_4)) (fun a2_4 => ?_) (fun j6 hj6 => ?_)
      · refine dn_iinc (lv0 := [(0, .ref (wd_b G + a0)), (1, .int a1), (2, .int a2_4)]) (v := x3 + 1) C dX8_livingIn_38 3 rfl rfl (by decide) rfl rfl (fun v3_5 => ?_)
        refine dn_goto (t := 4) C dX8_livingIn_41 (by decide) ?_
        refine dn_pick [1, 2, 3, 0] rfl ?_
        exact ih a2_4 v3_5
      · refine dn_if_eq (t := 38) C dX8_livingIn_20 (by decide) rfl ?_ ?_
        · exact hj6 x2
        · refine dn_aload_n C dX8_livingIn_23 rfl 0 rfl rfl ?_
          refine dn_iload_n C dX8_livingIn_24 rfl 3 rfl rfl ?_
          refine dn_callV_i (As := [.int x3]) (st := []) C (ok_State_roomOf (cx_g C) a0 ha0 x3 σ τ) mt_X8_roomOf mv_X8_roomOf lk_X8_54 (by decide) ha0 rfl ⟨Nat.zero_le _, Nat.zero_le _⟩ (Nat.le_of_ble_eq_true rfl) dX8_livingIn_25 rfl rfl (fun z7 => ?_)
          refine dn_iload_n C dX8_livingIn_28 rfl 1 rfl rfl ?_
          refine dn_icmp_ne (t := 38) C dX8_livingIn_29 (by decide) rfl ?_ ?_
          · refine dn_iload_n C dX8_livingIn_32 rfl 2 rfl rfl ?_
            refine dn_iconst C dX8_livingIn_33 ic_i_1 rfl ?_
            refine dn_iload_n C dX8_livingIn_34 rfl 3 rfl rfl ?_
            refine dn_ishl C dX8_livingIn_35 rfl ?_
            refine dn_ior C dX8_livingIn_36 rfl ?_
            refine dn_istore_n (lv0 := [(0, .ref (wd_b G + a0)), (1, .int a1), (3, .int x3)]) C dX8_livingIn_37 rfl (by decide) rfl rfl (fun v2_8 => ?_)
            refine dn_pick [1, 2, 0, 3] rfl ?_
            exact hj6 v2_8
          · exact hj6 x2
    · refine dn_pick [2] rfl ?_
      exact hk x2
set_option maxHeartbeats 4000000 in
set_option maxRecDepth 100000 in
theorem ok_State_livingIn {G : wd_G} {l : Launch} (hN : gd_ok G)  (o : Nat) (ho : sh_kd o = 8) (p1 : Int32) (σ : hp_I) (τ : hp_L) : cl_C G l 1 yX8_livingIn cX8_livingIn 4 (some .int) [.ref (wd_b G + o), .int p1] σ τ (ci_i σ τ) (fn_State_livingIn o p1 σ) := by
  refine cl_of (lv0 := [(0, .ref (wd_b G + o)), (1, .int p1)]) (ci_i σ τ) (by decide) (Nat.le_of_ble_eq_true rfl) rfl hN (fun M hM C => ?_)
  have C : cx_C G M RX8 cX8_livingIn 4 1 (some .int) := C
  unfold fn_State_livingIn
  refine dn_iconst C dX8_livingIn_0 ic_i_0 rfl ?_
  refine dn_istore_n (lv0 := [(0, .ref (wd_b G + o)), (1, .int p1)]) C dX8_livingIn_1 rfl (by decide) rfl rfl (fun v2_1 => ?_)
  refine dn_iconst C dX8_livingIn_2 ic_i_0 rfl ?_
  refine dn_istore_n (lv0 := [(2, .int v2_1), (0, .ref (wd_b G + o)), (1, .int p1)]) C dX8_livingIn_3 rfl (by decide) rfl rfl (fun v3_2 => ?_)
  refine dn_pick [2, 3, 1, 0] rfl ?_
  refine pf_State_livingIn_L4  C  o ho p1 σ τ _ (fun y_9 => ?_) FU v2_1 v3_2
  refine dn_iload_n C dX8_livingIn_44 rfl 0 rfl rfl ?_
  exact dn_iret C dX8_livingIn_45 rfl
def fn_State_moveToMat  (o : Nat) (p1 : Int32) (p2 : Int32) (σ : hp_I) : Option (hp_I) :=
  Option.bind (px_ald σ (sh_rf o 2) (1 : Int32)) fun z1 =>
  Option.bind (px_ast σ (sh_rf o 2) (1 : Int32) (z1 &&& (((1 : Int32) <<< (p1 &&& 31)) ^^^ (-1 : Int32)))) fun s2 =>
  Option.bind (px_ald s2 (sh_rf o 2) (2 : Int32)) fun z3 =>
  Option.bind (px_ast s2 (sh_rf o 2) (2 : Int32) (z3 ||| ((1 : Int32) <<< (p1 &&& 31)))) fun s4 =>
  Option.bind (fn_State_night o s4) fun z5 =>
  Option.bind (px_ast s4 (sh_rf o 2) ((21 : Int32) + p1) z5) fun s6 =>
  Option.bind (px_ast s6 (sh_rf o 2) ((29 : Int32) + p1) p2) fun s7 =>
  Option.bind (px_ald s7 (sh_rf o 2) ((42 : Int32) + p2)) fun z8 =>
  Option.bind (px_ast s7 (sh_rf o 2) ((42 : Int32) + p2) (z8 + (1 : Int32))) fun s9 =>
  some s9
set_option maxHeartbeats 4000000 in
set_option maxRecDepth 100000 in
theorem ok_State_moveToMat {G : wd_G} {l : Launch} (hN : gd_ok G)  (o : Nat) (ho : sh_kd o = 8) (p1 : Int32) (p2 : Int32) (σ : hp_I) (τ : hp_L) : cl_C G l 1 yX8_moveToMat cX8_moveToMat 3 none [.ref (wd_b G + o), .int p1, .int p2] σ τ (ci_h τ) (fn_State_moveToMat o p1 p2 σ) := by
  refine cl_of (lv0 := [(0, .ref (wd_b G + o)), (1, .int p1), (2, .int p2)]) (ci_h τ) (by decide) (Nat.le_of_ble_eq_true rfl) rfl hN (fun M hM C => ?_)
  have C : cx_C G M RX8 cX8_moveToMat 3 1 none := C
  unfold fn_State_moveToMat
  refine dn_aload_n C dX8_moveToMat_0 rfl 0 rfl rfl ?_
  refine dn_getR C fd_X8_11 ho dX8_moveToMat_1 rfl ?_
  refine dn_iconst C dX8_moveToMat_4 ic_i_1 rfl ?_
  refine dn_dup2 C dX8_moveToMat_5 rfl rfl rfl ?_
  refine dn_iald C (kt_8_2 ho) dX8_moveToMat_6 rfl (fun z1 => ?_)
  refine dn_iconst C dX8_moveToMat_7 ic_i_1 rfl ?_
  refine dn_iload_n C dX8_moveToMat_8 rfl 1 rfl rfl ?_
  refine dn_ishl C dX8_moveToMat_9 rfl ?_
  refine dn_iconst C dX8_moveToMat_10 ic_i_m1 rfl ?_
  refine dn_ixor C dX8_moveToMat_11 rfl ?_
  refine dn_iand C dX8_moveToMat_12 rfl ?_
  refine dn_iast C (kt_8_2 ho) dX8_moveToMat_13 rfl (fun s2 => ?_)
  refine dn_aload_n C dX8_moveToMat_14 rfl 0 rfl rfl ?_
  refine dn_getR C fd_X8_11 ho dX8_moveToMat_15 rfl ?_
  refine dn_iconst C dX8_moveToMat_18 ic_i_2 rfl ?_
  refine dn_dup2 C dX8_moveToMat_19 rfl rfl rfl ?_
  refine dn_iald C (kt_8_2 ho) dX8_moveToMat_20 rfl (fun z3 => ?_)
  refine dn_iconst C dX8_moveToMat_21 ic_i_1 rfl ?_
  refine dn_iload_n C dX8_moveToMat_22 rfl 1 rfl rfl ?_
  refine dn_ishl C dX8_moveToMat_23 rfl ?_
  refine dn_ior C dX8_moveToMat_24 rfl ?_
  refine dn_iast C (kt_8_2 ho) dX8_moveToMat_25 rfl (fun s4 => ?_)
  refine dn_aload_n C dX8_moveToMat_26 rfl 0 rfl rfl ?_
  refine dn_getR C fd_X8_11 ho dX8_moveToMat_27 rfl ?_
  refine dn_bipush C dX8_moveToMat_30 ic_b_21 rfl ?_
  refine dn_iload_n C dX8_moveToMat_32 rfl 1 rfl rfl ?_
  refine dn_iadd C dX8_moveToMat_33 rfl ?_
  refine dn_aload_n C dX8_moveToMat_34 rfl 0 rfl rfl ?_
  refine dn_callV_i (As := []) (st := [.int ((21 : Int32) + p1), .ref (wd_b G + sh_rf o 2)]) C (ok_State_night (cx_g C) o ho s4 τ) mt_X8_night mv_X8_night lk_X8_103 (by decide) ho rfl ⟨Nat.zero_le _, Nat.zero_le _⟩ (Nat.le_of_ble_eq_true rfl) dX8_moveToMat_35 rfl rfl (fun z5 => ?_)
  refine dn_iast C (kt_8_2 ho) dX8_moveToMat_38 rfl (fun s6 => ?_)
  refine dn_aload_n C dX8_moveToMat_39 rfl 0 rfl rfl ?_
  refine dn_getR C fd_X8_11 ho dX8_moveToMat_40 rfl ?_
  refine dn_bipush C dX8_moveToMat_43 ic_b_29 rfl ?_
  refine dn_iload_n C dX8_moveToMat_45 rfl 1 rfl rfl ?_
  refine dn_iadd C dX8_moveToMat_46 rfl ?_
  refine dn_iload_n C dX8_moveToMat_47 rfl 2 rfl rfl ?_
  refine dn_iast C (kt_8_2 ho) dX8_moveToMat_48 rfl (fun s7 => ?_)
  refine dn_aload_n C dX8_moveToMat_49 rfl 0 rfl rfl ?_
  refine dn_getR C fd_X8_11 ho dX8_moveToMat_50 rfl ?_
  refine dn_bipush C dX8_moveToMat_53 ic_b_42 rfl ?_
  refine dn_iload_n C dX8_moveToMat_55 rfl 2 rfl rfl ?_
  refine dn_iadd C dX8_moveToMat_56 rfl ?_
  refine dn_dup2 C dX8_moveToMat_57 rfl rfl rfl ?_
  refine dn_iald C (kt_8_2 ho) dX8_moveToMat_58 rfl (fun z8 => ?_)
  refine dn_iconst C dX8_moveToMat_59 ic_i_1 rfl ?_
  refine dn_iadd C dX8_moveToMat_60 rfl ?_
  refine dn_iast C (kt_8_2 ho) dX8_moveToMat_61 rfl (fun s9 => ?_)
  exact dn_vret C dX8_moveToMat_62 rfl
def fn_State_seenBy_L11  (a0 : Nat) (a1 : Int32) (a3 : Int32) (σ : hp_I) (k : Int32 → Option (Int32)) : Nat → Int32 → Int32 → Option (Int32)
  | 0, _, _ => none
  | fu + 1, x2, x4 =>
    if x4 < (σ (sh_rf a0 0) 2) then (
      Option.bind (fn_State_lives a0 x4 σ) fun z5 =>
      px_jn (fun (a2_6 : Int32) =>
        px_let (x4 + 1) fun v4_7 =>
        fn_State_seenBy_L11 a0 a1 a3 σ k fu a2_6 v4_7
      ) fun j8 =>
        if z5 = 0 then (
          j8 x2
        ) else (
          Option.bind (fn_State_roomOf a0 x4 σ) fun z9 =>
          if z9 = a3 then (
            Option.bind (fn_State_size a0 x4 σ) fun z10 =>
            Option.bind (fn_State_wouldSee a0 a1 z10 a3 σ) fun z11 =>
            if z11 = 0 then (
              j8 x2
            ) else (
              px_let (x2 ||| ((1 : Int32) <<< (x4 &&& 31))) fun v2_12 =>
              j8 v2_12
            )
          ) else (
            j8 x2
          )
        )
    ) else (
      k x2
    )
def fn_State_seenBy  (o : Nat) (p1 : Int32) (σ : hp_I) : Option (Int32) :=
  px_let (0 : Int32) fun v2_1 =>
  Option.bind (fn_State_roomOfCat o p1 σ) fun z2 =>
  px_let z2 fun v3_3 =>
  px_let (0 : Int32) fun v4_4 =>
  fn_State_seenBy_L11 o p1 v3_3 σ
    (fun (y_13 : Int32) =>
      some y_13
    )
    FU v2_1 v4_4
set_option maxHeartbeats 4000000 in
set_option maxRecDepth 100000 in
theorem pf_State_seenBy_L11 {G : wd_G} {M : wd_M}  (C : cx_C G M RX8 cX8_seenBy 5 1 (some .int)) (a0 : Nat) (ha0 : sh_kd a0 = 8) (a1 : Int32) (a3 : Int32) (σ : hp_I) (τ : hp_L) (k : Int32 → Option (Int32)) (hk : ∀ (y2 : Int32), dn_D G M 5 0 0 (cl_M G M (ci_i σ τ)) 70 [(2, .int y2)] [] σ τ (k y2)) : ∀ (fu : Nat) (x2 : Int32) (x4 : Int32), dn_D G M 5 0 0 (cl_M G M (ci_i σ τ)) 11 [(0, .ref (wd_b G + a0)), (1, .int a1), (2, .int x2), (3, .int a3), (4, .int x4)] [] σ τ (fn_State_seenBy_L11 a0 a1 a3 σ k fu x2 x4) := by
  intro fu
  induction fu with
  | zero => exact fun x2 x4 => dn_none
  | succ fu ih =>
    intro x2 x4
    unfold fn_State_seenBy_L11
    refine dn_iload C dX8_seenBy_11 4 rfl rfl ?_
    refine dn_aload_n C dX8_seenBy_13 rfl 0 rfl rfl ?_
    refine dn_getR C fd_X8_18 ha0 dX8_seenBy_14 rfl ?_
    refine dn_getI C fd_X8_32 (kt_8_0 ha0) dX8_seenBy_17 rfl ?_
    refine dn_icmp_ge (t := 70) C dX8_seenBy_20 (by decide) rfl ?_ ?_
    · refine dn_aload_n C dX8_seenBy_23 rfl 0 rfl rfl ?_
      refine dn_iload C dX8_seenBy_24 4 rfl rfl ?_
      refine dn_callV_i (As := [.int x4]) (st := []) C (ok_State_lives (cx_g C) a0 ha0 x4 σ τ) mt_X8_lives mv_X8_lives lk_X8_50 (by decide) ha0 rfl ⟨Nat.zero_le _, Nat.zero_le _⟩ (Nat.le_of_ble_eq_true rfl) dX8_seenBy_26 rfl rfl (fun z5 => ?_)
      refine dn_jn (fun z => ∀ (a2_6 : Int32), dn_D G M 5 0 0 (cl_M G M (ci_i σ τ)) 64 [(0, .ref (wd_b G + a0)), (1, .int a1), (2, .int a2_6), (3, .int a3), (4, .int x4)] [] σ τ (z a2_6)) (fun a2_6 => ?_) (fun j8 hj8 => ?_)
      · refine dn_iinc (lv0 := [(0, .ref (wd_b G + a0)), (1, .int a1), (2, .int a2_6), (3, .int a3)]) (v := x4 + 1) C dX8_seenBy_64 4 rfl rfl (by decide) rfl rfl (fun v4_7 => ?_)
        refine dn_goto (t := 11) C dX8_seenBy_67 (by decide) ?_
        refine dn_pick [1, 2, 3, 4, 0] rfl ?_
        exact ih a2_6 v4_7
      · refine dn_if_eq (t := 64) C dX8_seenBy_29 (by decide) rfl ?_ ?_
        · exact hj8 x2
        · refine dn_aload_n C dX8_seenBy_32 rfl 0 rfl rfl ?_
          refine dn_iload C dX8_seenBy_33 4 rfl rfl ?_
          refine dn_callV_i (As := [.int x4]) (st := []) C (ok_State_roomOf (cx_g C) a0 ha0 x4 σ τ) mt_X8_roomOf mv_X8_roomOf lk_X8_54 (by decide) ha0 rfl ⟨Nat.zero_le _, Nat.zero_le _⟩ (Nat.le_of_ble_eq_true rfl) dX8_seenBy_35 rfl rfl (fun z9 => ?_)
          refine dn_iload_n C dX8_seenBy_38 rfl 3 rfl rfl ?_
          refine dn_icmp_ne (t := 64) C dX8_seenBy_39 (by decide) rfl ?_ ?_
          · refine dn_aload_n C dX8_seenBy_42 rfl 0 rfl rfl ?_
            refine dn_iload_n C dX8_seenBy_43 rfl 1 rfl rfl ?_
            refine dn_aload_n C dX8_seenBy_44 rfl 0 rfl rfl ?_
            refine dn_iload C dX8_seenBy_45 4 rfl rfl ?_
            refine dn_callV_i (As := [.int x4]) (st := [.int a1, .ref (wd_b G + a0)]) C (ok_State_size (cx_g C) a0 ha0 x4 σ τ) mt_X8_size mv_X8_size lk_X8_61 (by decide) ha0 rfl ⟨Nat.zero_le _, Nat.zero_le _⟩ (Nat.le_of_ble_eq_true rfl) dX8_seenBy_47 rfl rfl (fun z10 => ?_)
            refine dn_iload_n C dX8_seenBy_50 rfl 3 rfl rfl ?_
            refine dn_callV_i (As := [.int a1, .int z10, .int a3]) (st := []) C (ok_State_wouldSee (cx_g C) a0 ha0 a1 z10 a3 σ τ) mt_X8_wouldSee mv_X8_wouldSee lk_X8_73 (by decide) ha0 rfl ⟨Nat.zero_le _, Nat.zero_le _⟩ (Nat.le_of_ble_eq_true rfl) dX8_seenBy_51 rfl rfl (fun z11 => ?_)
            refine dn_if_eq (t := 64) C dX8_seenBy_54 (by decide) rfl ?_ ?_
            · exact hj8 x2
            · refine dn_iload_n C dX8_seenBy_57 rfl 2 rfl rfl ?_
              refine dn_iconst C dX8_seenBy_58 ic_i_1 rfl ?_
              refine dn_iload C dX8_seenBy_59 4 rfl rfl ?_
              refine dn_ishl C dX8_seenBy_61 rfl ?_
              refine dn_ior C dX8_seenBy_62 rfl ?_
              refine dn_istore_n (lv0 := [(0, .ref (wd_b G + a0)), (1, .int a1), (3, .int a3), (4, .int x4)]) C dX8_seenBy_63 rfl (by decide) rfl rfl (fun v2_12 => ?_)
              refine dn_pick [1, 2, 0, 3, 4] rfl ?_
              exact hj8 v2_12
          · exact hj8 x2
    · refine dn_pick [2] rfl ?_
      exact hk x2
set_option maxHeartbeats 4000000 in
set_option maxRecDepth 100000 in
theorem ok_State_seenBy {G : wd_G} {l : Launch} (hN : gd_ok G)  (o : Nat) (ho : sh_kd o = 8) (p1 : Int32) (σ : hp_I) (τ : hp_L) : cl_C G l 1 yX8_seenBy cX8_seenBy 5 (some .int) [.ref (wd_b G + o), .int p1] σ τ (ci_i σ τ) (fn_State_seenBy o p1 σ) := by
  refine cl_of (lv0 := [(0, .ref (wd_b G + o)), (1, .int p1)]) (ci_i σ τ) (by decide) (Nat.le_of_ble_eq_true rfl) rfl hN (fun M hM C => ?_)
  have C : cx_C G M RX8 cX8_seenBy 5 1 (some .int) := C
  unfold fn_State_seenBy
  refine dn_iconst C dX8_seenBy_0 ic_i_0 rfl ?_
  refine dn_istore_n (lv0 := [(0, .ref (wd_b G + o)), (1, .int p1)]) C dX8_seenBy_1 rfl (by decide) rfl rfl (fun v2_1 => ?_)
  refine dn_aload_n C dX8_seenBy_2 rfl 1 rfl rfl ?_
  refine dn_iload_n C dX8_seenBy_3 rfl 2 rfl rfl ?_
  refine dn_callV_i (As := [.int p1]) (st := []) C (ok_State_roomOfCat (cx_g C) o ho p1 σ τ) mt_X8_roomOfCat mv_X8_roomOfCat lk_X8_58 (by decide) ho rfl ⟨Nat.zero_le _, Nat.zero_le _⟩ (Nat.le_of_ble_eq_true rfl) dX8_seenBy_4 rfl rfl (fun z2 => ?_)
  refine dn_istore_n (lv0 := [(2, .int v2_1), (0, .ref (wd_b G + o)), (1, .int p1)]) C dX8_seenBy_7 rfl (by decide) rfl rfl (fun v3_3 => ?_)
  refine dn_iconst C dX8_seenBy_8 ic_i_0 rfl ?_
  refine dn_istore (lv0 := [(3, .int v3_3), (2, .int v2_1), (0, .ref (wd_b G + o)), (1, .int p1)]) C dX8_seenBy_9 (by decide) rfl rfl (fun v4_4 => ?_)
  refine dn_pick [3, 4, 2, 1, 0] rfl ?_
  refine pf_State_seenBy_L11  C  o ho p1 v3_3 σ τ _ (fun y_13 => ?_) FU v2_1 v4_4
  refine dn_iload_n C dX8_seenBy_70 rfl 0 rfl rfl ?_
  exact dn_iret C dX8_seenBy_71 rfl
def fn_State_sizeOf_L4  (a0 : Nat) (a1 : Int32) (σ : hp_I) (k : Int32 → Option (Int32)) : Nat → Int32 → Int32 → Option (Int32)
  | 0, _, _ => none
  | fu + 1, x2, x3 =>
    if x3 < (σ (sh_rf a0 0) 2) then (
      px_jn (fun (a2_3 : Int32) =>
        px_let (x3 + 1) fun v3_4 =>
        fn_State_sizeOf_L4 a0 a1 σ k fu a2_3 v3_4
      ) fun j5 =>
        if ((a1 >>> (x3 &&& 31)) &&& (1 : Int32)) = (1 : Int32) then (
          Option.bind (fn_State_size a0 x3 σ) fun z6 =>
          px_let (x2 + z6) fun v2_7 =>
          j5 v2_7
        ) else (
          j5 x2
        )
    ) else (
      k x2
    )
def fn_State_sizeOf  (o : Nat) (p1 : Int32) (σ : hp_I) : Option (Int32) :=
  px_let (0 : Int32) fun v2_1 =>
  px_let (0 : Int32) fun v3_2 =>
  fn_State_sizeOf_L4 o p1 σ
    (fun (y_8 : Int32) =>
      some y_8
    )
    FU v2_1 v3_2
set_option maxHeartbeats 4000000 in
set_option maxRecDepth 100000 in
theorem pf_State_sizeOf_L4 {G : wd_G} {M : wd_M}  (C : cx_C G M RX8 cX8_sizeOf 4 1 (some .int)) (a0 : Nat) (ha0 : sh_kd a0 = 8) (a1 : Int32) (σ : hp_I) (τ : hp_L) (k : Int32 → Option (Int32)) (hk : ∀ (y2 : Int32), dn_D G M 4 0 0 (cl_M G M (ci_i σ τ)) 38 [(2, .int y2)] [] σ τ (k y2)) : ∀ (fu : Nat) (x2 : Int32) (x3 : Int32), dn_D G M 4 0 0 (cl_M G M (ci_i σ τ)) 4 [(0, .ref (wd_b G + a0)), (1, .int a1), (2, .int x2), (3, .int x3)] [] σ τ (fn_State_sizeOf_L4 a0 a1 σ k fu x2 x3) := by
  intro fu
  induction fu with
  | zero => exact fun x2 x3 => dn_none
  | succ fu ih =>
    intro x2 x3
    unfold fn_State_sizeOf_L4
    refine dn_iload_n C dX8_sizeOf_4 rfl 3 rfl rfl ?_
    refine dn_aload_n C dX8_sizeOf_5 rfl 0 rfl rfl ?_
    refine dn_getR C fd_X8_18 ha0 dX8_sizeOf_6 rfl ?_
    refine dn_getI C fd_X8_32 (kt_8_0 ha0) dX8_sizeOf_9 rfl ?_
    refine dn_icmp_ge (t := 38) C dX8_sizeOf_12 (by decide) rfl ?_ ?_
    · refine dn_iload_n C dX8_sizeOf_15 rfl 1 rfl rfl ?_
      refine dn_iload_n C dX8_sizeOf_16 rfl 3 rfl rfl ?_
      refine dn_ishr C dX8_sizeOf_17 rfl ?_
      refine dn_iconst C dX8_sizeOf_18 ic_i_1 rfl ?_
      refine dn_iand C dX8_sizeOf_19 rfl ?_
      refine dn_iconst C dX8_sizeOf_20 ic_i_1 rfl ?_
      refine dn_jn (fun z => ∀ (a2_3 : Int32), dn_D G M 4 0 0 (cl_M G M (ci_i σ τ)) 32 [(0, .ref (wd_b G + a0)), (1, .int a1), (2, .int a2_3), (3, .int x3)] [] σ τ (z a2_3)) (fun a2_3 => ?_) (fun j5 hj5 => ?_)
      · refine dn_iinc (lv0 := [(0, .ref (wd_b G + a0)), (1, .int a1), (2, .int a2_3)]) (v := x3 + 1) C dX8_sizeOf_32 3 rfl rfl (by decide) rfl rfl (fun v3_4 => ?_)
        refine dn_goto (t := 4) C dX8_sizeOf_35 (by decide) ?_
        refine dn_pick [1, 2, 3, 0] rfl ?_
        exact ih a2_3 v3_4
      · refine dn_icmp_ne (t := 32) C dX8_sizeOf_21 (by decide) rfl ?_ ?_
        · refine dn_iload_n C dX8_sizeOf_24 rfl 2 rfl rfl ?_
          refine dn_aload_n C dX8_sizeOf_25 rfl 0 rfl rfl ?_
          refine dn_iload_n C dX8_sizeOf_26 rfl 3 rfl rfl ?_
          refine dn_callV_i (As := [.int x3]) (st := [.int x2]) C (ok_State_size (cx_g C) a0 ha0 x3 σ τ) mt_X8_size mv_X8_size lk_X8_61 (by decide) ha0 rfl ⟨Nat.zero_le _, Nat.zero_le _⟩ (Nat.le_of_ble_eq_true rfl) dX8_sizeOf_27 rfl rfl (fun z6 => ?_)
          refine dn_iadd C dX8_sizeOf_30 rfl ?_
          refine dn_istore_n (lv0 := [(0, .ref (wd_b G + a0)), (1, .int a1), (3, .int x3)]) C dX8_sizeOf_31 rfl (by decide) rfl rfl (fun v2_7 => ?_)
          refine dn_pick [1, 2, 0, 3] rfl ?_
          exact hj5 v2_7
        · exact hj5 x2
    · refine dn_pick [2] rfl ?_
      exact hk x2
set_option maxHeartbeats 4000000 in
set_option maxRecDepth 100000 in
theorem ok_State_sizeOf {G : wd_G} {l : Launch} (hN : gd_ok G)  (o : Nat) (ho : sh_kd o = 8) (p1 : Int32) (σ : hp_I) (τ : hp_L) : cl_C G l 1 yX8_sizeOf cX8_sizeOf 4 (some .int) [.ref (wd_b G + o), .int p1] σ τ (ci_i σ τ) (fn_State_sizeOf o p1 σ) := by
  refine cl_of (lv0 := [(0, .ref (wd_b G + o)), (1, .int p1)]) (ci_i σ τ) (by decide) (Nat.le_of_ble_eq_true rfl) rfl hN (fun M hM C => ?_)
  have C : cx_C G M RX8 cX8_sizeOf 4 1 (some .int) := C
  unfold fn_State_sizeOf
  refine dn_iconst C dX8_sizeOf_0 ic_i_0 rfl ?_
  refine dn_istore_n (lv0 := [(0, .ref (wd_b G + o)), (1, .int p1)]) C dX8_sizeOf_1 rfl (by decide) rfl rfl (fun v2_1 => ?_)
  refine dn_iconst C dX8_sizeOf_2 ic_i_0 rfl ?_
  refine dn_istore_n (lv0 := [(2, .int v2_1), (0, .ref (wd_b G + o)), (1, .int p1)]) C dX8_sizeOf_3 rfl (by decide) rfl rfl (fun v3_2 => ?_)
  refine dn_pick [2, 3, 1, 0] rfl ?_
  refine pf_State_sizeOf_L4  C  o ho p1 σ τ _ (fun y_8 => ?_) FU v2_1 v3_2
  refine dn_iload_n C dX8_sizeOf_38 rfl 0 rfl rfl ?_
  exact dn_iret C dX8_sizeOf_39 rfl
def fn_State_feedScheme  (o : Nat) (p1 : Int32) (p2 : Int32) (σ : hp_I) : Option (Int32 × hp_I) :=
  Option.bind (fn_State_lives o p1 σ) fun z1 =>
  px_jn (
    px_z (0 : Int32) ((0 : Int32), σ)
  ) fun j2 =>
    if z1 = 0 then (
      j2
    ) else (
      Option.bind (fn_State_size o p1 σ) fun z3 =>
      if z3 = (999 : Int32) then (
        j2
      ) else (
        Option.bind (fn_State_enlarge o p1 p2 σ) fun s5 =>
        px_z (1 : Int32) ((1 : Int32), s5)
      )
    )
set_option maxHeartbeats 4000000 in
set_option maxRecDepth 100000 in
theorem ok_State_feedScheme {G : wd_G} {l : Launch} (hN : gd_ok G)  (o : Nat) (ho : sh_kd o = 8) (p1 : Int32) (p2 : Int32) (σ : hp_I) (τ : hp_L) : cl_C G l 2 yX8_feedScheme cX8_feedScheme 3 (some .boolean) [.ref (wd_b G + o), .int p1, .int p2] σ τ (ci_ih τ) (fn_State_feedScheme o p1 p2 σ) := by
  refine cl_of (lv0 := [(0, .ref (wd_b G + o)), (1, .int p1), (2, .int p2)]) (ci_ih τ) (by decide) (Nat.le_of_ble_eq_true rfl) rfl hN (fun M hM C => ?_)
  have C : cx_C G M RX8 cX8_feedScheme 3 2 (some .boolean) := C
  unfold fn_State_feedScheme
  refine dn_aload_n C dX8_feedScheme_0 rfl 0 rfl rfl ?_
  refine dn_iload_n C dX8_feedScheme_1 rfl 1 rfl rfl ?_
  refine dn_callV_i (As := [.int p1]) (st := []) C (ok_State_lives (cx_g C) o ho p1 σ τ) mt_X8_lives mv_X8_lives lk_X8_50 (by decide) ho rfl ⟨Nat.zero_le _, Nat.zero_le _⟩ (Nat.le_of_ble_eq_true rfl) dX8_feedScheme_2 rfl rfl (fun z1 => ?_)
  refine dn_jn (fun z => dn_D G M 3 0 0 (cl_M G M (ci_ih τ)) 19 [] [] σ τ z) ?_ (fun j2 hj2 => ?_)
  · refine dn_iconst C dX8_feedScheme_19 ic_i_0 rfl ?_
    exact dn_zret C dX8_feedScheme_20 rfl
  · refine dn_if_eq (t := 19) C dX8_feedScheme_5 (by decide) rfl ?_ ?_
    · refine dn_pick [] rfl ?_
      exact hj2
    · refine dn_aload_n C dX8_feedScheme_8 rfl 0 rfl rfl ?_
      refine dn_iload_n C dX8_feedScheme_9 rfl 1 rfl rfl ?_
      refine dn_callV_i (As := [.int p1]) (st := []) C (ok_State_size (cx_g C) o ho p1 σ τ) mt_X8_size mv_X8_size lk_X8_61 (by decide) ho rfl ⟨Nat.zero_le _, Nat.zero_le _⟩ (Nat.le_of_ble_eq_true rfl) dX8_feedScheme_10 rfl rfl (fun z3 => ?_)
      refine dn_sipush C dX8_feedScheme_13 ic_s_999 rfl ?_
      refine dn_icmp_ne (t := 21) C dX8_feedScheme_16 (by decide) rfl ?_ ?_
      · refine dn_pick [] rfl ?_
        exact hj2
      · refine dn_aload_n C dX8_feedScheme_21 rfl 0 rfl rfl ?_
        refine dn_iload_n C dX8_feedScheme_22 rfl 1 rfl rfl ?_
        refine dn_iload_n C dX8_feedScheme_23 rfl 2 rfl rfl ?_
        refine dn_callV_h (As := [.int p1, .int p2]) (st := []) C (ok_State_enlarge (cx_g C) o ho p1 p2 σ τ) mt_X8_enlarge mv_X8_enlarge lk_X8_116 (by decide) ho rfl ⟨Nat.zero_le _, Nat.zero_le _⟩ (Nat.le_of_ble_eq_true rfl) dX8_feedScheme_24 rfl rfl (fun s5 => ?_)
        refine dn_iconst C dX8_feedScheme_27 ic_i_1 rfl ?_
        exact dn_zret C dX8_feedScheme_28 rfl
def fn_State_joinSchemes  (o : Nat) (p1 : Int32) (p2 : Int32) (σ : hp_I) : Option (Int32 × hp_I) :=
  px_jn (
    px_z (0 : Int32) ((0 : Int32), σ)
  ) fun j1 =>
    if p1 = p2 then (
      j1
    ) else (
      Option.bind (fn_State_lives o p1 σ) fun z2 =>
      if z2 = 0 then (
        j1
      ) else (
        Option.bind (fn_State_lives o p2 σ) fun z3 =>
        if z3 = 0 then (
          j1
        ) else (
          Option.bind (fn_State_roomOf o p1 σ) fun z4 =>
          Option.bind (fn_State_roomOf o p2 σ) fun z5 =>
          if z4 = z5 then (
            Option.bind (fn_State_size o p2 σ) fun z6 =>
            Option.bind (fn_State_enlarge o p1 z6 σ) fun s8 =>
            Option.bind (px_ald s8 (sh_rf o 2) (1 : Int32)) fun z9 =>
            Option.bind (px_ast s8 (sh_rf o 2) (1 : Int32) (z9 &&& (((1 : Int32) <<< (p2 &&& 31)) ^^^ (-1 : Int32)))) fun s10 =>
            Option.bind (px_ald s10 (sh_rf o 2) (3 : Int32)) fun z11 =>
            Option.bind (px_ast s10 (sh_rf o 2) (3 : Int32) (z11 ||| ((1 : Int32) <<< (p2 &&& 31)))) fun s12 =>
            px_z (1 : Int32) ((1 : Int32), s12)
          ) else (
            j1
          )
        )
      )
    )
set_option maxHeartbeats 4000000 in
set_option maxRecDepth 100000 in
theorem ok_State_joinSchemes {G : wd_G} {l : Launch} (hN : gd_ok G)  (o : Nat) (ho : sh_kd o = 8) (p1 : Int32) (p2 : Int32) (σ : hp_I) (τ : hp_L) : cl_C G l 2 yX8_joinSchemes cX8_joinSchemes 3 (some .boolean) [.ref (wd_b G + o), .int p1, .int p2] σ τ (ci_ih τ) (fn_State_joinSchemes o p1 p2 σ) := by
  refine cl_of (lv0 := [(0, .ref (wd_b G + o)), (1, .int p1), (2, .int p2)]) (ci_ih τ) (by decide) (Nat.le_of_ble_eq_true rfl) rfl hN (fun M hM C => ?_)
  have C : cx_C G M RX8 cX8_joinSchemes 3 2 (some .boolean) := C
  unfold fn_State_joinSchemes
  refine dn_iload_n C dX8_joinSchemes_0 rfl 1 rfl rfl ?_
  refine dn_iload_n C dX8_joinSchemes_1 rfl 2 rfl rfl ?_
  refine dn_jn (fun z => dn_D G M 3 0 0 (cl_M G M (ci_ih τ)) 34 [] [] σ τ z) ?_ (fun j1 hj1 => ?_)
  · refine dn_iconst C dX8_joinSchemes_34 ic_i_0 rfl ?_
    exact dn_zret C dX8_joinSchemes_35 rfl
  · refine dn_icmp_eq (t := 34) C dX8_joinSchemes_2 (by decide) rfl ?_ ?_
    · refine dn_pick [] rfl ?_
      exact hj1
    · refine dn_aload_n C dX8_joinSchemes_5 rfl 0 rfl rfl ?_
      refine dn_iload_n C dX8_joinSchemes_6 rfl 1 rfl rfl ?_
      refine dn_callV_i (As := [.int p1]) (st := []) C (ok_State_lives (cx_g C) o ho p1 σ τ) mt_X8_lives mv_X8_lives lk_X8_50 (by decide) ho rfl ⟨Nat.zero_le _, Nat.zero_le _⟩ (Nat.le_of_ble_eq_true rfl) dX8_joinSchemes_7 rfl rfl (fun z2 => ?_)
      refine dn_if_eq (t := 34) C dX8_joinSchemes_10 (by decide) rfl ?_ ?_
      · refine dn_pick [] rfl ?_
        exact hj1
      · refine dn_aload_n C dX8_joinSchemes_13 rfl 0 rfl rfl ?_
        refine dn_iload_n C dX8_joinSchemes_14 rfl 2 rfl rfl ?_
        refine dn_callV_i (As := [.int p2]) (st := []) C (ok_State_lives (cx_g C) o ho p2 σ τ) mt_X8_lives mv_X8_lives lk_X8_50 (by decide) ho rfl ⟨Nat.zero_le _, Nat.zero_le _⟩ (Nat.le_of_ble_eq_true rfl) dX8_joinSchemes_15 rfl rfl (fun z3 => ?_)
        refine dn_if_eq (t := 34) C dX8_joinSchemes_18 (by decide) rfl ?_ ?_
        · refine dn_pick [] rfl ?_
          exact hj1
        · refine dn_aload_n C dX8_joinSchemes_21 rfl 0 rfl rfl ?_
          refine dn_iload_n C dX8_joinSchemes_22 rfl 1 rfl rfl ?_
          refine dn_callV_i (As := [.int p1]) (st := []) C (ok_State_roomOf (cx_g C) o ho p1 σ τ) mt_X8_roomOf mv_X8_roomOf lk_X8_54 (by decide) ho rfl ⟨Nat.zero_le _, Nat.zero_le _⟩ (Nat.le_of_ble_eq_true rfl) dX8_joinSchemes_23 rfl rfl (fun z4 => ?_)
          refine dn_aload_n C dX8_joinSchemes_26 rfl 0 rfl rfl ?_
          refine dn_iload_n C dX8_joinSchemes_27 rfl 2 rfl rfl ?_
          refine dn_callV_i (As := [.int p2]) (st := [.int z4]) C (ok_State_roomOf (cx_g C) o ho p2 σ τ) mt_X8_roomOf mv_X8_roomOf lk_X8_54 (by decide) ho rfl ⟨Nat.zero_le _, Nat.zero_le _⟩ (Nat.le_of_ble_eq_true rfl) dX8_joinSchemes_28 rfl rfl (fun z5 => ?_)
          refine dn_icmp_eq (t := 36) C dX8_joinSchemes_31 (by decide) rfl ?_ ?_
          · refine dn_aload_n C dX8_joinSchemes_36 rfl 0 rfl rfl ?_
            refine dn_iload_n C dX8_joinSchemes_37 rfl 1 rfl rfl ?_
            refine dn_aload_n C dX8_joinSchemes_38 rfl 0 rfl rfl ?_
            refine dn_iload_n C dX8_joinSchemes_39 rfl 2 rfl rfl ?_
            refine dn_callV_i (As := [.int p2]) (st := [.int p1, .ref (wd_b G + o)]) C (ok_State_size (cx_g C) o ho p2 σ τ) mt_X8_size mv_X8_size lk_X8_61 (by decide) ho rfl ⟨Nat.zero_le _, Nat.zero_le _⟩ (Nat.le_of_ble_eq_true rfl) dX8_joinSchemes_40 rfl rfl (fun z6 => ?_)
            refine dn_callV_h (As := [.int p1, .int z6]) (st := []) C (ok_State_enlarge (cx_g C) o ho p1 z6 σ τ) mt_X8_enlarge mv_X8_enlarge lk_X8_116 (by decide) ho rfl ⟨Nat.zero_le _, Nat.zero_le _⟩ (Nat.le_of_ble_eq_true rfl) dX8_joinSchemes_43 rfl rfl (fun s8 => ?_)
            refine dn_aload_n C dX8_joinSchemes_46 rfl 0 rfl rfl ?_
            refine dn_getR C fd_X8_11 ho dX8_joinSchemes_47 rfl ?_
            refine dn_iconst C dX8_joinSchemes_50 ic_i_1 rfl ?_
            refine dn_dup2 C dX8_joinSchemes_51 rfl rfl rfl ?_
            refine dn_iald C (kt_8_2 ho) dX8_joinSchemes_52 rfl (fun z9 => ?_)
            refine dn_iconst C dX8_joinSchemes_53 ic_i_1 rfl ?_
            refine dn_iload_n C dX8_joinSchemes_54 rfl 2 rfl rfl ?_
            refine dn_ishl C dX8_joinSchemes_55 rfl ?_
            refine dn_iconst C dX8_joinSchemes_56 ic_i_m1 rfl ?_
            refine dn_ixor C dX8_joinSchemes_57 rfl ?_
            refine dn_iand C dX8_joinSchemes_58 rfl ?_
            refine dn_iast C (kt_8_2 ho) dX8_joinSchemes_59 rfl (fun s10 => ?_)
            refine dn_aload_n C dX8_joinSchemes_60 rfl 0 rfl rfl ?_
            refine dn_getR C fd_X8_11 ho dX8_joinSchemes_61 rfl ?_
            refine dn_iconst C dX8_joinSchemes_64 ic_i_3 rfl ?_
            refine dn_dup2 C dX8_joinSchemes_65 rfl rfl rfl ?_
            refine dn_iald C (kt_8_2 ho) dX8_joinSchemes_66 rfl (fun z11 => ?_)
            refine dn_iconst C dX8_joinSchemes_67 ic_i_1 rfl ?_
            refine dn_iload_n C dX8_joinSchemes_68 rfl 2 rfl rfl ?_
            refine dn_ishl C dX8_joinSchemes_69 rfl ?_
            refine dn_ior C dX8_joinSchemes_70 rfl ?_
            refine dn_iast C (kt_8_2 ho) dX8_joinSchemes_71 rfl (fun s12 => ?_)
            refine dn_iconst C dX8_joinSchemes_72 ic_i_1 rfl ?_
            exact dn_zret C dX8_joinSchemes_73 rfl
          · refine dn_pick [] rfl ?_
            exact hj1
def fn_State_growthOf  (o : Nat) (p1 : Int32) (σ : hp_I) : Option (Int32 × hp_I) :=
  Option.bind (fn_State_roomOf o p1 σ) fun z1 =>
  px_let z1 fun v2_2 =>
  Option.bind (fn_State_size o p1 σ) fun z3 =>
  Option.bind (px_ald σ (sh_rf (sh_rf o 0) 9) p1) fun z4 =>
  Option.bind (px_ald σ (sh_rf (sh_rf o 0) 4) v2_2) fun z5 =>
  Option.bind (fn_State_catsIn o v2_2 σ) fun z6 =>
  Option.bind (fn_J6_bitCount_0f7a4 z6) fun z7 =>
  Option.bind (fn_State_night o σ) fun z8 =>
  Option.bind (fn_State_onMat o σ) fun z9 =>
  Option.bind (fn_J6_bitCount_0f7a4 z9) fun z10 =>
  px_b2 (fn_Law_growth (sh_rf o 1) z3 z4 z5 z7 z8 z10 p1 σ) fun z11 s12 =>
  some (z11, s12)
set_option maxHeartbeats 4000000 in
set_option maxRecDepth 100000 in
theorem ok_State_growthOf {G : wd_G} {l : Launch} (hN : gd_ok G)  (o : Nat) (ho : sh_kd o = 8) (p1 : Int32) (σ : hp_I) (τ : hp_L) : cl_C G l 3 yX8_growthOf cX8_growthOf 3 (some .int) [.ref (wd_b G + o), .int p1] σ τ (ci_ih τ) (fn_State_growthOf o p1 σ) := by
  refine cl_of (lv0 := [(0, .ref (wd_b G + o)), (1, .int p1)]) (ci_ih τ) (by decide) (Nat.le_of_ble_eq_true rfl) rfl hN (fun M hM C => ?_)
  have C : cx_C G M RX8 cX8_growthOf 3 3 (some .int) := C
  unfold fn_State_growthOf
  refine dn_aload_n C dX8_growthOf_0 rfl 0 rfl rfl ?_
  refine dn_iload_n C dX8_growthOf_1 rfl 1 rfl rfl ?_
  refine dn_callV_i (As := [.int p1]) (st := []) C (ok_State_roomOf (cx_g C) o ho p1 σ τ) mt_X8_roomOf mv_X8_roomOf lk_X8_54 (by decide) ho rfl ⟨Nat.zero_le _, Nat.zero_le _⟩ (Nat.le_of_ble_eq_true rfl) dX8_growthOf_2 rfl rfl (fun z1 => ?_)
  refine dn_istore_n (lv0 := [(0, .ref (wd_b G + o)), (1, .int p1)]) C dX8_growthOf_5 rfl (by decide) rfl rfl (fun v2_2 => ?_)
  refine dn_aload_n C dX8_growthOf_6 rfl 1 rfl rfl ?_
  refine dn_getR C fd_X8_22 ho dX8_growthOf_7 rfl ?_
  refine dn_aload_n C dX8_growthOf_10 rfl 1 rfl rfl ?_
  refine dn_iload_n C dX8_growthOf_11 rfl 2 rfl rfl ?_
  refine dn_callV_i (As := [.int p1]) (st := [.ref (wd_b G + sh_rf o 1)]) C (ok_State_size (cx_g C) o ho p1 σ τ) mt_X8_size mv_X8_size lk_X8_61 (by decide) ho rfl ⟨Nat.zero_le _, Nat.zero_le _⟩ (Nat.le_of_ble_eq_true rfl) dX8_growthOf_12 rfl rfl (fun z3 => ?_)
  refine dn_aload_n C dX8_growthOf_15 rfl 1 rfl rfl ?_
  refine dn_getR C fd_X8_18 ho dX8_growthOf_16 rfl ?_
  refine dn_getR C fd_X8_92 (kt_8_0 ho) dX8_growthOf_19 rfl ?_
  refine dn_iload_n C dX8_growthOf_22 rfl 2 rfl rfl ?_
  refine dn_iald C (kt_3_9 (kt_8_0 ho)) dX8_growthOf_23 rfl (fun z4 => ?_)
  refine dn_aload_n C dX8_growthOf_24 rfl 1 rfl rfl ?_
  refine dn_getR C fd_X8_18 ho dX8_growthOf_25 rfl ?_
  refine dn_getR C fd_X8_70 (kt_8_0 ho) dX8_growthOf_28 rfl ?_
  refine dn_iload_n C dX8_growthOf_31 rfl 0 rfl rfl ?_
  refine dn_iald C (kt_3_4 (kt_8_0 ho)) dX8_growthOf_32 rfl (fun z5 => ?_)
  refine dn_aload_n C dX8_growthOf_33 rfl 1 rfl rfl ?_
  refine dn_iload_n C dX8_growthOf_34 rfl 0 rfl rfl ?_
  refine dn_callV_i (As := [.int v2_2]) (st := [.int z5, .int z4, .int z3, .ref (wd_b G + sh_rf o 1)]) C (ok_State_catsIn (cx_g C) o ho v2_2 σ τ) mt_X8_catsIn mv_X8_catsIn lk_X8_95 (by decide) ho rfl ⟨Nat.zero_le _, Nat.zero_le _⟩ (Nat.le_of_ble_eq_true rfl) dX8_growthOf_35 rfl rfl (fun z6 => ?_)
  refine dn_callS_i (As := [.int z6]) (st := [.int z5, .int z4, .int z3, .ref (wd_b G + sh_rf o 1)]) C (ok_J6_bitCount_0f7a4 (cx_g C) z6 σ τ) mt_J6_bitCount_0f7a4 ms_J6_bitCount_0f7a4 lk_X8_98 (by decide) rfl ⟨Nat.zero_le _, Nat.zero_le _⟩ (Nat.le_of_ble_eq_true rfl) dX8_growthOf_38 rfl rfl (fun z7 => ?_)
  refine dn_aload_n C dX8_growthOf_41 rfl 1 rfl rfl ?_
  refine dn_callV_i (As := []) (st := [.int z7, .int z5, .int z4, .int z3, .ref (wd_b G + sh_rf o 1)]) C (ok_State_night (cx_g C) o ho σ τ) mt_X8_night mv_X8_night lk_X8_103 (by decide) ho rfl ⟨Nat.zero_le _, Nat.zero_le _⟩ (Nat.le_of_ble_eq_true rfl) dX8_growthOf_42 rfl rfl (fun z8 => ?_)
  refine dn_aload_n C dX8_growthOf_45 rfl 1 rfl rfl ?_
  refine dn_callV_i (As := []) (st := [.int z8, .int z7, .int z5, .int z4, .int z3, .ref (wd_b G + sh_rf o 1)]) C (ok_State_onMat (cx_g C) o ho σ τ) mt_X8_onMat mv_X8_onMat lk_X8_107 (by decide) ho rfl ⟨Nat.zero_le _, Nat.zero_le _⟩ (Nat.le_of_ble_eq_true rfl) dX8_growthOf_46 rfl rfl (fun z9 => ?_)
  refine dn_callS_i (As := [.int z9]) (st := [.int z8, .int z7, .int z5, .int z4, .int z3, .ref (wd_b G + sh_rf o 1)]) C (ok_J6_bitCount_0f7a4 (cx_g C) z9 σ τ) mt_J6_bitCount_0f7a4 ms_J6_bitCount_0f7a4 lk_X8_98 (by decide) rfl ⟨Nat.zero_le _, Nat.zero_le _⟩ (Nat.le_of_ble_eq_true rfl) dX8_growthOf_49 rfl rfl (fun z10 => ?_)
  refine dn_iload_n C dX8_growthOf_52 rfl 2 rfl rfl ?_
  refine dn_callV_ih (As := [.int z3, .int z4, .int z5, .int z7, .int z8, .int z10, .int p1]) (st := []) C (ok_Law_growth (cx_g C) (sh_rf o 1) (kt_8_1 ho) z3 z4 z5 z7 z8 z10 p1 σ τ) mt_X4_growth mv_X4_growth lk_X8_110 (by decide) (kt_8_1 ho) rfl ⟨Nat.zero_le _, Nat.zero_le _⟩ (Nat.le_of_ble_eq_true rfl) dX8_growthOf_53 rfl rfl (fun z11 s12 => ?_)
  exact dn_iret C dX8_growthOf_56 rfl
def fn_State_passNight_L2  (a0 : Nat) (k : hp_I → Option (Int32 × hp_I)) : Nat → Int32 → hp_I → Option (Int32 × hp_I)
  | 0, _, _ => none
  | fu + 1, x1, s0 =>
    if x1 < (s0 (sh_rf a0 0) 2) then (
      Option.bind (fn_State_lives a0 x1 s0) fun z2 =>
      px_jn (fun (s3 : hp_I) =>
        px_let (x1 + 1) fun v1_4 =>
        fn_State_passNight_L2 a0 k fu v1_4 s3
      ) fun j5 =>
        if z2 = 0 then (
          j5 s0
        ) else (
          px_b2 (fn_State_growthOf a0 x1 s0) fun z6 s7 =>
          Option.bind (fn_State_enlarge a0 x1 z6 s7) fun s9 =>
          j5 s9
        )
    ) else (
      k s0
    )
def fn_State_passNight_L41  (a0 : Nat) (k : Int32 → hp_I → Option (Int32 × hp_I)) : Nat → Int32 → Int32 → hp_I → Option (Int32 × hp_I)
  | 0, _, _, _ => none
  | fu + 1, x1, x2, s0 =>
    if x2 < (s0 (sh_rf a0 0) 3) then (
      Option.bind (fn_State_living a0 s0) fun z13 =>
      px_jn (fun (t14 : Int32) =>
        px_let t14 fun v3_15 =>
        Option.bind (px_ast s0 (sh_rf a0 3) x2 v3_15) fun s16 =>
        px_jn (fun (a1_17 : Int32) (s18 : hp_I) =>
          px_let (x2 + 1) fun v2_19 =>
          fn_State_passNight_L41 a0 k fu a1_17 v2_19 s18
        ) fun j20 =>
          if v3_15 = (-1 : Int32) then (
            j20 x1 s16
          ) else (
            Option.bind (fn_State_moveToMat a0 v3_15 x2 s16) fun s22 =>
            px_let (x1 ||| ((1 : Int32) <<< (x2 &&& 31))) fun v1_23 =>
            j20 v1_23 s22
          )
      ) fun j24 =>
        if z13 = 0 then (
          j24 (-1 : Int32)
        ) else (
          Option.bind (fn_State_seenBy a0 x2 s0) fun z25 =>
          Option.bind (fn_State_greatestOf a0 z25 s0) fun z26 =>
          j24 z26
        )
    ) else (
      k x1 s0
    )
def fn_State_passNight  (o : Nat) (σ : hp_I) : Option (Int32 × hp_I) :=
  px_let (0 : Int32) fun v1_1 =>
  fn_State_passNight_L2 o
    (fun (s_10 : hp_I) =>
      px_let (0 : Int32) fun v1_11 =>
      px_let (0 : Int32) fun v2_12 =>
      fn_State_passNight_L41 o
        (fun (y_27 : Int32) (s_28 : hp_I) =>
          Option.bind (px_ald s_28 (sh_rf o 2) (0 : Int32)) fun z29 =>
          Option.bind (px_ast s_28 (sh_rf o 2) (0 : Int32) (z29 + (1 : Int32))) fun s30 =>
          some (y_27, s30)
        )
        FU v1_11 v2_12 s_10
    )
    FU v1_1 σ
set_option maxHeartbeats 4000000 in
set_option maxRecDepth 100000 in
theorem pf_State_passNight_L2 {G : wd_G} {M : wd_M}  (C : cx_C G M RX8 cX8_passNight 4 4 (some .int)) (a0 : Nat) (ha0 : sh_kd a0 = 8)  (τ : hp_L) (k : hp_I → Option (Int32 × hp_I)) (hk : ∀ (s : hp_I), dn_D G M 4 0 0 (cl_M G M (ci_ih τ)) 37 [(0, .ref (wd_b G + a0))] [] s τ (k s)) : ∀ (fu : Nat) (x1 : Int32) (s0 : hp_I), dn_D G M 4 0 0 (cl_M G M (ci_ih τ)) 2 [(0, .ref (wd_b G + a0)), (1, .int x1)] [] s0 τ (fn_State_passNight_L2 a0 k fu x1 s0) := by
  intro fu
  induction fu with
  | zero => exact fun x1 s0 => dn_none
  | succ fu ih =>
    intro x1 s0
    unfold fn_State_passNight_L2
    refine dn_iload_n C dX8_passNight_2 rfl 1 rfl rfl ?_
    refine dn_aload_n C dX8_passNight_3 rfl 0 rfl rfl ?_
    refine dn_getR C fd_X8_18 ha0 dX8_passNight_4 rfl ?_
    refine dn_getI C fd_X8_32 (kt_8_0 ha0) dX8_passNight_7 rfl ?_
    refine dn_icmp_ge (t := 37) C dX8_passNight_10 (by decide) rfl ?_ ?_
    · refine dn_aload_n C dX8_passNight_13 rfl 0 rfl rfl ?_
      refine dn_iload_n C dX8_passNight_14 rfl 1 rfl rfl ?_
      refine dn_callV_i (As := [.int x1]) (st := []) C (ok_State_lives (cx_g C) a0 ha0 x1 s0 τ) mt_X8_lives mv_X8_lives lk_X8_50 (by decide) ha0 rfl ⟨Nat.zero_le _, Nat.zero_le _⟩ (Nat.le_of_ble_eq_true rfl) dX8_passNight_15 rfl rfl (fun z2 => ?_)
      refine dn_jn (fun z => ∀ (s3 : hp_I), dn_D G M 4 0 0 (cl_M G M (ci_ih τ)) 31 [(0, .ref (wd_b G + a0)), (1, .int x1)] [] s3 τ (z s3)) (fun s3 => ?_) (fun j5 hj5 => ?_)
      · refine dn_iinc (lv0 := [(0, .ref (wd_b G + a0))]) (v := x1 + 1) C dX8_passNight_31 1 rfl rfl (by decide) rfl rfl (fun v1_4 => ?_)
        refine dn_goto (t := 2) C dX8_passNight_34 (by decide) ?_
        refine dn_pick [1, 0] rfl ?_
        exact ih v1_4 s3
      · refine dn_if_eq (t := 31) C dX8_passNight_18 (by decide) rfl ?_ ?_
        · exact hj5 s0
        · refine dn_aload_n C dX8_passNight_21 rfl 0 rfl rfl ?_
          refine dn_iload_n C dX8_passNight_22 rfl 1 rfl rfl ?_
          refine dn_aload_n C dX8_passNight_23 rfl 0 rfl rfl ?_
          refine dn_iload_n C dX8_passNight_24 rfl 1 rfl rfl ?_
          refine dn_callV_ih (As := [.int x1]) (st := [.int x1, .ref (wd_b G + a0)]) C (ok_State_growthOf (cx_g C) a0 ha0 x1 s0 τ) mt_X8_growthOf mv_X8_growthOf lk_X8_120 (by decide) ha0 rfl ⟨Nat.zero_le _, Nat.zero_le _⟩ (Nat.le_of_ble_eq_true rfl) dX8_passNight_25 rfl rfl (fun z6 s7 => ?_)
          refine dn_callV_h (As := [.int x1, .int z6]) (st := []) C (ok_State_enlarge (cx_g C) a0 ha0 x1 z6 s7 τ) mt_X8_enlarge mv_X8_enlarge lk_X8_116 (by decide) ha0 rfl ⟨Nat.zero_le _, Nat.zero_le _⟩ (Nat.le_of_ble_eq_true rfl) dX8_passNight_28 rfl rfl (fun s9 => ?_)
          exact hj5 s9
    · refine dn_pick [0] rfl ?_
      exact hk s0
set_option maxHeartbeats 4000000 in
set_option maxRecDepth 100000 in
theorem pf_State_passNight_L41 {G : wd_G} {M : wd_M}  (C : cx_C G M RX8 cX8_passNight 4 4 (some .int)) (a0 : Nat) (ha0 : sh_kd a0 = 8)  (τ : hp_L) (k : Int32 → hp_I → Option (Int32 × hp_I)) (hk : ∀ (y1 : Int32) (s : hp_I), dn_D G M 4 0 0 (cl_M G M (ci_ih τ)) 103 [(0, .ref (wd_b G + a0)), (1, .int y1)] [] s τ (k y1 s)) : ∀ (fu : Nat) (x1 : Int32) (x2 : Int32) (s0 : hp_I), dn_D G M 4 0 0 (cl_M G M (ci_ih τ)) 41 [(0, .ref (wd_b G + a0)), (1, .int x1), (2, .int x2)] [] s0 τ (fn_State_passNight_L41 a0 k fu x1 x2 s0) := by
  intro fu
  induction fu with
  | zero => exact fun x1 x2 s0 => dn_none
  | succ fu ih =>
    intro x1 x2 s0
    unfold fn_State_passNight_L41
    refine dn_iload_n C dX8_passNight_41 rfl 2 rfl rfl ?_
    refine dn_aload_n C dX8_passNight_42 rfl 0 rfl rfl ?_
    refine dn_getR C fd_X8_18 ha0 dX8_passNight_43 rfl ?_
    refine dn_getI C fd_X8_44 (kt_8_0 ha0) dX8_passNight_46 rfl ?_
    refine dn_icmp_ge (t := 103) C dX8_passNight_49 (by decide) rfl ?_ ?_
    · refine dn_aload_n C dX8_passNight_52 rfl 0 rfl rfl ?_
      refine dn_callV_i (As := []) (st := []) C (ok_State_living (cx_g C) a0 ha0 s0 τ) mt_X8_living mv_X8_living lk_X8_123 (by decide) ha0 rfl ⟨Nat.zero_le _, Nat.zero_le _⟩ (Nat.le_of_ble_eq_true rfl) dX8_passNight_53 rfl rfl (fun z13 => ?_)
      refine dn_jn (fun z => ∀ (t14 : Int32), dn_D G M 4 0 0 (cl_M G M (ci_ih τ)) 72 [(0, .ref (wd_b G + a0)), (1, .int x1), (2, .int x2)] [.int t14] s0 τ (z t14)) (fun t14 => ?_) (fun j24 hj24 => ?_)
      · refine dn_istore_n (lv0 := [(0, .ref (wd_b G + a0)), (1, .int x1), (2, .int x2)]) C dX8_passNight_72 rfl (by decide) rfl rfl (fun v3_15 => ?_)
        refine dn_aload_n C dX8_passNight_73 rfl 1 rfl rfl ?_
        refine dn_getR C fd_X8_15 ha0 dX8_passNight_74 rfl ?_
        refine dn_iload_n C dX8_passNight_77 rfl 3 rfl rfl ?_
        refine dn_iload_n C dX8_passNight_78 rfl 0 rfl rfl ?_
        refine dn_iast C (kt_8_3 ha0) dX8_passNight_79 rfl (fun s16 => ?_)
        refine dn_iload_n C dX8_passNight_80 rfl 0 rfl rfl ?_
        refine dn_iconst C dX8_passNight_81 ic_i_m1 rfl ?_
        refine dn_jn (fun z => ∀ (a1_17 : Int32) (s18 : hp_I), dn_D G M 4 0 0 (cl_M G M (ci_ih τ)) 97 [(0, .ref (wd_b G + a0)), (1, .int a1_17), (2, .int x2)] [] s18 τ (z a1_17 s18)) (fun a1_17 s18 => ?_) (fun j20 hj20 => ?_)
        · refine dn_iinc (lv0 := [(0, .ref (wd_b G + a0)), (1, .int a1_17)]) (v := x2 + 1) C dX8_passNight_97 2 rfl rfl (by decide) rfl rfl (fun v2_19 => ?_)
          refine dn_goto (t := 41) C dX8_passNight_100 (by decide) ?_
          refine dn_pick [1, 2, 0] rfl ?_
          exact ih a1_17 v2_19 s18
        · refine dn_icmp_eq (t := 97) C dX8_passNight_82 (by decide) rfl ?_ ?_
          · refine dn_pick [1, 2, 3] rfl ?_
            exact hj20 x1 s16
          · refine dn_aload_n C dX8_passNight_85 rfl 1 rfl rfl ?_
            refine dn_iload_n C dX8_passNight_86 rfl 0 rfl rfl ?_
            refine dn_iload_n C dX8_passNight_87 rfl 3 rfl rfl ?_
            refine dn_callV_h (As := [.int v3_15, .int x2]) (st := []) C (ok_State_moveToMat (cx_g C) a0 ha0 v3_15 x2 s16 τ) mt_X8_moveToMat mv_X8_moveToMat lk_X8_132 (by decide) ha0 rfl ⟨Nat.zero_le _, Nat.zero_le _⟩ (Nat.le_of_ble_eq_true rfl) dX8_passNight_88 rfl rfl (fun s22 => ?_)
            refine dn_iload_n C dX8_passNight_91 rfl 2 rfl rfl ?_
            refine dn_iconst C dX8_passNight_92 ic_i_1 rfl ?_
            refine dn_iload_n C dX8_passNight_93 rfl 3 rfl rfl ?_
            refine dn_ishl C dX8_passNight_94 rfl ?_
            refine dn_ior C dX8_passNight_95 rfl ?_
            refine dn_istore_n (lv0 := [(3, .int v3_15), (0, .ref (wd_b G + a0)), (2, .int x2)]) C dX8_passNight_96 rfl (by decide) rfl rfl (fun v1_23 => ?_)
            refine dn_pick [2, 0, 3] rfl ?_
            exact hj20 v1_23 s22
      · refine dn_if_ne (t := 63) C dX8_passNight_56 (by decide) rfl ?_ ?_
        · refine dn_iconst C dX8_passNight_59 ic_i_m1 rfl ?_
          refine dn_goto (t := 72) C dX8_passNight_60 (by decide) ?_
          exact hj24 (-1 : Int32)
        · refine dn_aload_n C dX8_passNight_63 rfl 0 rfl rfl ?_
          refine dn_aload_n C dX8_passNight_64 rfl 0 rfl rfl ?_
          refine dn_iload_n C dX8_passNight_65 rfl 2 rfl rfl ?_
          refine dn_callV_i (As := [.int x2]) (st := [.ref (wd_b G + a0)]) C (ok_State_seenBy (cx_g C) a0 ha0 x2 s0 τ) mt_X8_seenBy mv_X8_seenBy lk_X8_126 (by decide) ha0 rfl ⟨Nat.zero_le _, Nat.zero_le _⟩ (Nat.le_of_ble_eq_true rfl) dX8_passNight_66 rfl rfl (fun z25 => ?_)
          refine dn_callV_i (As := [.int z25]) (st := []) C (ok_State_greatestOf (cx_g C) a0 ha0 z25 s0 τ) mt_X8_greatestOf mv_X8_greatestOf lk_X8_129 (by decide) ha0 rfl ⟨Nat.zero_le _, Nat.zero_le _⟩ (Nat.le_of_ble_eq_true rfl) dX8_passNight_69 rfl rfl (fun z26 => ?_)
          exact hj24 z26
    · refine dn_pick [0, 1] rfl ?_
      exact hk x1 s0
set_option maxHeartbeats 4000000 in
set_option maxRecDepth 100000 in
theorem ok_State_passNight {G : wd_G} {l : Launch} (hN : gd_ok G)  (o : Nat) (ho : sh_kd o = 8) (σ : hp_I) (τ : hp_L) : cl_C G l 4 yX8_passNight cX8_passNight 4 (some .int) [.ref (wd_b G + o)] σ τ (ci_ih τ) (fn_State_passNight o σ) := by
  refine cl_of (lv0 := [(0, .ref (wd_b G + o))]) (ci_ih τ) (by decide) (Nat.le_of_ble_eq_true rfl) rfl hN (fun M hM C => ?_)
  have C : cx_C G M RX8 cX8_passNight 4 4 (some .int) := C
  unfold fn_State_passNight
  refine dn_iconst C dX8_passNight_0 ic_i_0 rfl ?_
  refine dn_istore_n (lv0 := [(0, .ref (wd_b G + o))]) C dX8_passNight_1 rfl (by decide) rfl rfl (fun v1_1 => ?_)
  refine dn_pick [1, 0] rfl ?_
  refine pf_State_passNight_L2  C  o ho  τ _ (fun s_10 => ?_) FU v1_1 σ
  refine dn_iconst C dX8_passNight_37 ic_i_0 rfl ?_
  refine dn_istore_n (lv0 := [(0, .ref (wd_b G + o))]) C dX8_passNight_38 rfl (by decide) rfl rfl (fun v1_11 => ?_)
  refine dn_iconst C dX8_passNight_39 ic_i_0 rfl ?_
  refine dn_istore_n (lv0 := [(1, .int v1_11), (0, .ref (wd_b G + o))]) C dX8_passNight_40 rfl (by decide) rfl rfl (fun v2_12 => ?_)
  refine dn_pick [2, 1, 0] rfl ?_
  refine pf_State_passNight_L41  C  o ho  τ _ (fun y_27 s_28 => ?_) FU v1_11 v2_12 s_10
  refine dn_aload_n C dX8_passNight_103 rfl 0 rfl rfl ?_
  refine dn_getR C fd_X8_11 ho dX8_passNight_104 rfl ?_
  refine dn_iconst C dX8_passNight_107 ic_i_0 rfl ?_
  refine dn_dup2 C dX8_passNight_108 rfl rfl rfl ?_
  refine dn_iald C (kt_8_2 ho) dX8_passNight_109 rfl (fun z29 => ?_)
  refine dn_iconst C dX8_passNight_110 ic_i_1 rfl ?_
  refine dn_iadd C dX8_passNight_111 rfl ?_
  refine dn_iast C (kt_8_2 ho) dX8_passNight_112 rfl (fun s30 => ?_)
  refine dn_iload_n C dX8_passNight_113 rfl 1 rfl rfl ?_
  exact dn_iret C dX8_passNight_114 rfl
