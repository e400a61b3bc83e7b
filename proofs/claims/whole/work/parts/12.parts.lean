def fn_Book_agreesWith  (o : Nat) (p1 : Int32) (σ : hp_I) : Option (Int32) :=
  px_jn (fun (t1 : Int32) =>
    px_z t1 t1
  ) fun j2 =>
    if (p1 &&& (σ o 0)) = (σ o 1) then (
      j2 (1 : Int32)
    ) else (
      j2 (0 : Int32)
    )
set_option maxHeartbeats 4000000 in
set_option maxRecDepth 100000 in
theorem ok_Book_agreesWith {G : wd_G} {l : Launch} (hN : gd_ok G)  (o : Nat) (ho : sh_kd o = 0) (p1 : Int32) (σ : hp_I) (τ : hp_L) : cl_C G l 0 yX0_agreesWith cX0_agreesWith 2 (some .boolean) [.ref (wd_b G + o), .int p1] σ τ (ci_i σ τ) (fn_Book_agreesWith o p1 σ) := by
  refine cl_of (lv0 := [(0, .ref (wd_b G + o)), (1, .int p1)]) (ci_i σ τ) (by decide) (Nat.le_of_ble_eq_true rfl) rfl hN (fun M hM C => ?_)
  have C : cx_C G M RX0 cX0_agreesWith 2 0 (some .boolean) := C
  unfold fn_Book_agreesWith
  refine dn_iload_n C dX0_agreesWith_0 rfl 1 rfl rfl ?_
  refine dn_aload_n C dX0_agreesWith_1 rfl 0 rfl rfl ?_
  refine dn_getI C fd_X0_9 ho dX0_agreesWith_2 rfl ?_
  refine dn_iand C dX0_agreesWith_5 rfl ?_
  refine dn_aload_n C dX0_agreesWith_6 rfl 0 rfl rfl ?_
  refine dn_getI C fd_X0_15 ho dX0_agreesWith_7 rfl ?_
  refine dn_jn (fun z => ∀ (t1 : Int32), dn_D G M 2 0 0 (cl_M G M (ci_i σ τ)) 18 [] [.int t1] σ τ (z t1)) (fun t1 => ?_) (fun j2 hj2 => ?_)
  · exact dn_zret C dX0_agreesWith_18 rfl
  · refine dn_icmp_ne (t := 17) C dX0_agreesWith_10 (by decide) rfl ?_ ?_
    · refine dn_iconst C dX0_agreesWith_13 ic_i_1 rfl ?_
      refine dn_goto (t := 18) C dX0_agreesWith_14 (by decide) ?_
      refine dn_pick [] rfl ?_
      exact hj2 (1 : Int32)
    · refine dn_iconst C dX0_agreesWith_17 ic_i_0 rfl ?_
      refine dn_pick [] rfl ?_
      exact hj2 (0 : Int32)
def fn_Book_forget  (o : Nat) (σ : hp_I) : Option (hp_I) :=
  px_let (hp_s σ o 0 (0 : Int32)) fun s1 =>
  px_let (hp_s s1 o 1 (0 : Int32)) fun s2 =>
  some s2
set_option maxHeartbeats 4000000 in
set_option maxRecDepth 100000 in
theorem ok_Book_forget {G : wd_G} {l : Launch} (hN : gd_ok G)  (o : Nat) (ho : sh_kd o = 0) (σ : hp_I) (τ : hp_L) : cl_C G l 0 yX0_forget cX0_forget 1 none [.ref (wd_b G + o)] σ τ (ci_h τ) (fn_Book_forget o σ) := by
  refine cl_of (lv0 := [(0, .ref (wd_b G + o))]) (ci_h τ) (by decide) (Nat.le_of_ble_eq_true rfl) rfl hN (fun M hM C => ?_)
  have C : cx_C G M RX0 cX0_forget 1 0 none := C
  unfold fn_Book_forget
  refine dn_aload_n C dX0_forget_0 rfl 0 rfl rfl ?_
  refine dn_iconst C dX0_forget_1 ic_i_0 rfl ?_
  refine dn_putI C fp_X0_9 ho dX0_forget_2 rfl (fun s1 => ?_)
  refine dn_aload_n C dX0_forget_5 rfl 0 rfl rfl ?_
  refine dn_iconst C dX0_forget_6 ic_i_0 rfl ?_
  refine dn_putI C fp_X0_15 ho dX0_forget_7 rfl (fun s2 => ?_)
  exact dn_vret C dX0_forget_10 rfl
def fn_Book_hasLineOf  (o : Nat) (p1 : Int32) (σ : hp_I) : Option (Int32) :=
  px_jn (fun (t1 : Int32) =>
    px_z t1 t1
  ) fun j2 =>
    if (((σ o 0) >>> (p1 &&& 31)) &&& (1 : Int32)) = (1 : Int32) then (
      j2 (1 : Int32)
    ) else (
      j2 (0 : Int32)
    )
set_option maxHeartbeats 4000000 in
set_option maxRecDepth 100000 in
theorem ok_Book_hasLineOf {G : wd_G} {l : Launch} (hN : gd_ok G)  (o : Nat) (ho : sh_kd o = 0) (p1 : Int32) (σ : hp_I) (τ : hp_L) : cl_C G l 0 yX0_hasLineOf cX0_hasLineOf 2 (some .boolean) [.ref (wd_b G + o), .int p1] σ τ (ci_i σ τ) (fn_Book_hasLineOf o p1 σ) := by
  refine cl_of (lv0 := [(0, .ref (wd_b G + o)), (1, .int p1)]) (ci_i σ τ) (by decide) (Nat.le_of_ble_eq_true rfl) rfl hN (fun M hM C => ?_)
  have C : cx_C G M RX0 cX0_hasLineOf 2 0 (some .boolean) := C
  unfold fn_Book_hasLineOf
  refine dn_aload_n C dX0_hasLineOf_0 rfl 0 rfl rfl ?_
  refine dn_getI C fd_X0_9 ho dX0_hasLineOf_1 rfl ?_
  refine dn_iload_n C dX0_hasLineOf_4 rfl 1 rfl rfl ?_
  refine dn_ishr C dX0_hasLineOf_5 rfl ?_
  refine dn_iconst C dX0_hasLineOf_6 ic_i_1 rfl ?_
  refine dn_iand C dX0_hasLineOf_7 rfl ?_
  refine dn_iconst C dX0_hasLineOf_8 ic_i_1 rfl ?_
  refine dn_jn (fun z => ∀ (t1 : Int32), dn_D G M 2 0 0 (cl_M G M (ci_i σ τ)) 17 [] [.int t1] σ τ (z t1)) (fun t1 => ?_) (fun j2 hj2 => ?_)
  · exact dn_zret C dX0_hasLineOf_17 rfl
  · refine dn_icmp_ne (t := 16) C dX0_hasLineOf_9 (by decide) rfl ?_ ?_
    · refine dn_iconst C dX0_hasLineOf_12 ic_i_1 rfl ?_
      refine dn_goto (t := 17) C dX0_hasLineOf_13 (by decide) ?_
      refine dn_pick [] rfl ?_
      exact hj2 (1 : Int32)
    · refine dn_iconst C dX0_hasLineOf_16 ic_i_0 rfl ?_
      refine dn_pick [] rfl ?_
      exact hj2 (0 : Int32)
def fn_Tape_bytesOnIt  (o : Nat) (σ : hp_I) : Option (Int32) :=
  some (σ o 1)
set_option maxHeartbeats 4000000 in
set_option maxRecDepth 100000 in
theorem ok_Tape_bytesOnIt {G : wd_G} {l : Launch} (hN : gd_ok G)  (o : Nat) (ho : sh_kd o = 10) (σ : hp_I) (τ : hp_L) : cl_C G l 0 yX10_bytesOnIt cX10_bytesOnIt 1 (some .int) [.ref (wd_b G + o)] σ τ (ci_i σ τ) (fn_Tape_bytesOnIt o σ) := by
  refine cl_of (lv0 := [(0, .ref (wd_b G + o))]) (ci_i σ τ) (by decide) (Nat.le_of_ble_eq_true rfl) rfl hN (fun M hM C => ?_)
  have C : cx_C G M RX10 cX10_bytesOnIt 1 0 (some .int) := C
  unfold fn_Tape_bytesOnIt
  refine dn_aload_n C dX10_bytesOnIt_0 rfl 0 rfl rfl ?_
  refine dn_getI C fd_X10_19 ho dX10_bytesOnIt_1 rfl ?_
  exact dn_iret C dX10_bytesOnIt_4 rfl
def fn_Tape_fail  (o : Nat) (p1 : Int32) (p2 : Int32) (σ : hp_I) : Option (hp_I) :=
  px_jn (fun (s1 : hp_I) =>
    some s1
  ) fun j2 =>
    if (σ o 4) = 0 then (
      px_let (hp_s σ o 4 p1) fun s3 =>
      px_let (hp_s s3 o 5 p2) fun s4 =>
      j2 s4
    ) else (
      j2 σ
    )
set_option maxHeartbeats 4000000 in
set_option maxRecDepth 100000 in
theorem ok_Tape_fail {G : wd_G} {l : Launch} (hN : gd_ok G)  (o : Nat) (ho : sh_kd o = 10) (p1 : Int32) (p2 : Int32) (σ : hp_I) (τ : hp_L) : cl_C G l 0 yX10_fail cX10_fail 3 none [.ref (wd_b G + o), .int p1, .int p2] σ τ (ci_h τ) (fn_Tape_fail o p1 p2 σ) := by
  refine cl_of (lv0 := [(0, .ref (wd_b G + o)), (1, .int p1), (2, .int p2)]) (ci_h τ) (by decide) (Nat.le_of_ble_eq_true rfl) rfl hN (fun M hM C => ?_)
  have C : cx_C G M RX10 cX10_fail 3 0 none := C
  unfold fn_Tape_fail
  refine dn_aload_n C dX10_fail_0 rfl 0 rfl rfl ?_
  refine dn_getI C fd_X10_31 ho dX10_fail_1 rfl ?_
  refine dn_jn (fun z => ∀ (s1 : hp_I), dn_D G M 3 0 0 (cl_M G M (ci_h τ)) 17 [] [] s1 τ (z s1)) (fun s1 => ?_) (fun j2 hj2 => ?_)
  · exact dn_vret C dX10_fail_17 rfl
  · refine dn_if_ne (t := 17) C dX10_fail_4 (by decide) rfl ?_ ?_
    · refine dn_aload_n C dX10_fail_7 rfl 0 rfl rfl ?_
      refine dn_iload_n C dX10_fail_8 rfl 1 rfl rfl ?_
      refine dn_putI C fp_X10_31 ho dX10_fail_9 rfl (fun s3 => ?_)
      refine dn_aload_n C dX10_fail_12 rfl 0 rfl rfl ?_
      refine dn_iload_n C dX10_fail_13 rfl 2 rfl rfl ?_
      refine dn_putI C fp_X10_15 ho dX10_fail_14 rfl (fun s4 => ?_)
      refine dn_pick [] rfl ?_
      exact hj2 s4
    · refine dn_pick [] rfl ?_
      exact hj2 σ
def fn_Tape_failed  (o : Nat) (σ : hp_I) : Option (Int32) :=
  px_jn (fun (t1 : Int32) =>
    px_z t1 t1
  ) fun j2 =>
    if (σ o 4) = 0 then (
      j2 (0 : Int32)
    ) else (
      j2 (1 : Int32)
    )
set_option maxHeartbeats 4000000 in
set_option maxRecDepth 100000 in
theorem ok_Tape_failed {G : wd_G} {l : Launch} (hN : gd_ok G)  (o : Nat) (ho : sh_kd o = 10) (σ : hp_I) (τ : hp_L) : cl_C G l 0 yX10_failed cX10_failed 1 (some .boolean) [.ref (wd_b G + o)] σ τ (ci_i σ τ) (fn_Tape_failed o σ) := by
  refine cl_of (lv0 := [(0, .ref (wd_b G + o))]) (ci_i σ τ) (by decide) (Nat.le_of_ble_eq_true rfl) rfl hN (fun M hM C => ?_)
  have C : cx_C G M RX10 cX10_failed 1 0 (some .boolean) := C
  unfold fn_Tape_failed
  refine dn_aload_n C dX10_failed_0 rfl 0 rfl rfl ?_
  refine dn_getI C fd_X10_31 ho dX10_failed_1 rfl ?_
  refine dn_jn (fun z => ∀ (t1 : Int32), dn_D G M 1 0 0 (cl_M G M (ci_i σ τ)) 12 [] [.int t1] σ τ (z t1)) (fun t1 => ?_) (fun j2 hj2 => ?_)
  · exact dn_zret C dX10_failed_12 rfl
  · refine dn_if_eq (t := 11) C dX10_failed_4 (by decide) rfl ?_ ?_
    · refine dn_iconst C dX10_failed_11 ic_i_0 rfl ?_
      refine dn_pick [] rfl ?_
      exact hj2 (0 : Int32)
    · refine dn_iconst C dX10_failed_7 ic_i_1 rfl ?_
      refine dn_goto (t := 12) C dX10_failed_8 (by decide) ?_
      refine dn_pick [] rfl ?_
      exact hj2 (1 : Int32)
def fn_Tape_faultAnswer  (o : Nat) (σ : hp_I) : Option (Int32) :=
  some ((σ o 4) - (10 : Int32))
set_option maxHeartbeats 4000000 in
set_option maxRecDepth 100000 in
theorem ok_Tape_faultAnswer {G : wd_G} {l : Launch} (hN : gd_ok G)  (o : Nat) (ho : sh_kd o = 10) (σ : hp_I) (τ : hp_L) : cl_C G l 0 yX10_faultAnswer cX10_faultAnswer 1 (some .int) [.ref (wd_b G + o)] σ τ (ci_i σ τ) (fn_Tape_faultAnswer o σ) := by
  refine cl_of (lv0 := [(0, .ref (wd_b G + o))]) (ci_i σ τ) (by decide) (Nat.le_of_ble_eq_true rfl) rfl hN (fun M hM C => ?_)
  have C : cx_C G M RX10 cX10_faultAnswer 1 0 (some .int) := C
  unfold fn_Tape_faultAnswer
  refine dn_aload_n C dX10_faultAnswer_0 rfl 0 rfl rfl ?_
  refine dn_getI C fd_X10_31 ho dX10_faultAnswer_1 rfl ?_
  refine dn_bipush C dX10_faultAnswer_4 ic_b_10 rfl ?_
  refine dn_isub C dX10_faultAnswer_6 rfl ?_
  exact dn_iret C dX10_faultAnswer_7 rfl
def fn_Tape_faultPlace  (o : Nat) (σ : hp_I) : Option (Int32) :=
  some (σ o 5)
set_option maxHeartbeats 4000000 in
set_option maxRecDepth 100000 in
theorem ok_Tape_faultPlace {G : wd_G} {l : Launch} (hN : gd_ok G)  (o : Nat) (ho : sh_kd o = 10) (σ : hp_I) (τ : hp_L) : cl_C G l 0 yX10_faultPlace cX10_faultPlace 1 (some .int) [.ref (wd_b G + o)] σ τ (ci_i σ τ) (fn_Tape_faultPlace o σ) := by
  refine cl_of (lv0 := [(0, .ref (wd_b G + o))]) (ci_i σ τ) (by decide) (Nat.le_of_ble_eq_true rfl) rfl hN (fun M hM C => ?_)
  have C : cx_C G M RX10 cX10_faultPlace 1 0 (some .int) := C
  unfold fn_Tape_faultPlace
  refine dn_aload_n C dX10_faultPlace_0 rfl 0 rfl rfl ?_
  refine dn_getI C fd_X10_15 ho dX10_faultPlace_1 rfl ?_
  exact dn_iret C dX10_faultPlace_4 rfl
def fn_Tape_hasRoomForFive  (o : Nat) (σ : hp_I) : Option (Int32) :=
  px_jn (fun (t1 : Int32) =>
    px_z t1 t1
  ) fun j2 =>
    if ((σ o 1) + (20 : Int32)) ≤ (600 : Int32) then (
      j2 (1 : Int32)
    ) else (
      j2 (0 : Int32)
    )
set_option maxHeartbeats 4000000 in
set_option maxRecDepth 100000 in
theorem ok_Tape_hasRoomForFive {G : wd_G} {l : Launch} (hN : gd_ok G)  (o : Nat) (ho : sh_kd o = 10) (σ : hp_I) (τ : hp_L) : cl_C G l 0 yX10_hasRoomForFive cX10_hasRoomForFive 1 (some .boolean) [.ref (wd_b G + o)] σ τ (ci_i σ τ) (fn_Tape_hasRoomForFive o σ) := by
  refine cl_of (lv0 := [(0, .ref (wd_b G + o))]) (ci_i σ τ) (by decide) (Nat.le_of_ble_eq_true rfl) rfl hN (fun M hM C => ?_)
  have C : cx_C G M RX10 cX10_hasRoomForFive 1 0 (some .boolean) := C
  unfold fn_Tape_hasRoomForFive
  refine dn_aload_n C dX10_hasRoomForFive_0 rfl 0 rfl rfl ?_
  refine dn_getI C fd_X10_19 ho dX10_hasRoomForFive_1 rfl ?_
  refine dn_bipush C dX10_hasRoomForFive_4 ic_b_20 rfl ?_
  refine dn_iadd C dX10_hasRoomForFive_6 rfl ?_
  refine dn_sipush C dX10_hasRoomForFive_7 ic_s_600 rfl ?_
  refine dn_jn (fun z => ∀ (t1 : Int32), dn_D G M 1 0 0 (cl_M G M (ci_i σ τ)) 18 [] [.int t1] σ τ (z t1)) (fun t1 => ?_) (fun j2 hj2 => ?_)
  · exact dn_zret C dX10_hasRoomForFive_18 rfl
  · refine dn_icmp_gt (t := 17) C dX10_hasRoomForFive_10 (by decide) rfl ?_ ?_
    · refine dn_iconst C dX10_hasRoomForFive_13 ic_i_1 rfl ?_
      refine dn_goto (t := 18) C dX10_hasRoomForFive_14 (by decide) ?_
      refine dn_pick [] rfl ?_
      exact hj2 (1 : Int32)
    · refine dn_iconst C dX10_hasRoomForFive_17 ic_i_0 rfl ?_
      refine dn_pick [] rfl ?_
      exact hj2 (0 : Int32)
def fn_Tape_isDigit  (o : Nat) (p1 : Int32) (σ : hp_I) : Option (Int32) :=
  px_jn (fun (t1 : Int32) =>
    px_z t1 t1
  ) fun j2 =>
    px_jn (
      j2 (0 : Int32)
    ) fun j3 =>
      if p1 < (σ o 2) then (
        Option.bind (px_ald σ (sh_rf o 0) p1) fun z4 =>
        if (48 : Int32) ≤ z4 then (
          Option.bind (px_ald σ (sh_rf o 0) p1) fun z5 =>
          if z5 ≤ (57 : Int32) then (
            j2 (1 : Int32)
          ) else (
            j3
          )
        ) else (
          j3
        )
      ) else (
        j3
      )
set_option maxHeartbeats 4000000 in
set_option maxRecDepth 100000 in
theorem ok_Tape_isDigit {G : wd_G} {l : Launch} (hN : gd_ok G)  (o : Nat) (ho : sh_kd o = 10) (p1 : Int32) (σ : hp_I) (τ : hp_L) : cl_C G l 0 yX10_isDigit cX10_isDigit 2 (some .boolean) [.ref (wd_b G + o), .int p1] σ τ (ci_i σ τ) (fn_Tape_isDigit o p1 σ) := by
  refine cl_of (lv0 := [(0, .ref (wd_b G + o)), (1, .int p1)]) (ci_i σ τ) (by decide) (Nat.le_of_ble_eq_true rfl) rfl hN (fun M hM C => ?_)
  have C : cx_C G M RX10 cX10_isDigit 2 0 (some .boolean) := C
  unfold fn_Tape_isDigit
  refine dn_iload_n C dX10_isDigit_0 rfl 1 rfl rfl ?_
  refine dn_aload_n C dX10_isDigit_1 rfl 0 rfl rfl ?_
  refine dn_getI C fd_X10_28 ho dX10_isDigit_2 rfl ?_
  refine dn_jn (fun z => ∀ (t1 : Int32), dn_D G M 2 0 0 (cl_M G M (ci_i σ τ)) 35 [] [.int t1] σ τ (z t1)) (fun t1 => ?_) (fun j2 hj2 => ?_)
  · exact dn_zret C dX10_isDigit_35 rfl
  · refine dn_jn (fun z => dn_D G M 2 0 0 (cl_M G M (ci_i σ τ)) 34 [] [] σ τ z) ?_ (fun j3 hj3 => ?_)
    · refine dn_iconst C dX10_isDigit_34 ic_i_0 rfl ?_
      exact hj2 (0 : Int32)
    · refine dn_icmp_ge (t := 34) C dX10_isDigit_5 (by decide) rfl ?_ ?_
      · refine dn_aload_n C dX10_isDigit_8 rfl 0 rfl rfl ?_
        refine dn_getR C fd_X10_9 ho dX10_isDigit_9 rfl ?_
        refine dn_iload_n C dX10_isDigit_12 rfl 1 rfl rfl ?_
        refine dn_iald C (kt_10_0 ho) dX10_isDigit_13 rfl (fun z4 => ?_)
        refine dn_bipush C dX10_isDigit_14 ic_b_48 rfl ?_
        refine dn_icmp_lt (t := 34) C dX10_isDigit_16 (by decide) rfl ?_ ?_
        · refine dn_aload_n C dX10_isDigit_19 rfl 0 rfl rfl ?_
          refine dn_getR C fd_X10_9 ho dX10_isDigit_20 rfl ?_
          refine dn_iload_n C dX10_isDigit_23 rfl 1 rfl rfl ?_
          refine dn_iald C (kt_10_0 ho) dX10_isDigit_24 rfl (fun z5 => ?_)
          refine dn_bipush C dX10_isDigit_25 ic_b_57 rfl ?_
          refine dn_icmp_gt (t := 34) C dX10_isDigit_27 (by decide) rfl ?_ ?_
          · refine dn_iconst C dX10_isDigit_30 ic_i_1 rfl ?_
            refine dn_goto (t := 35) C dX10_isDigit_31 (by decide) ?_
            refine dn_pick [] rfl ?_
            exact hj2 (1 : Int32)
          · refine dn_pick [] rfl ?_
            exact hj3
        · refine dn_pick [] rfl ?_
          exact hj3
      · refine dn_pick [] rfl ?_
        exact hj3
def fn_Tape_isOver  (o : Nat) (σ : hp_I) : Option (Int32) :=
  px_jn (fun (t1 : Int32) =>
    px_z t1 t1
  ) fun j2 =>
    px_jn (
      j2 (1 : Int32)
    ) fun j3 =>
      if (σ o 4) = 0 then (
        if (σ o 2) ≤ (σ o 3) then (
          j3
        ) else (
          j2 (0 : Int32)
        )
      ) else (
        j3
      )
set_option maxHeartbeats 4000000 in
set_option maxRecDepth 100000 in
theorem ok_Tape_isOver {G : wd_G} {l : Launch} (hN : gd_ok G)  (o : Nat) (ho : sh_kd o = 10) (σ : hp_I) (τ : hp_L) : cl_C G l 0 yX10_isOver cX10_isOver 1 (some .boolean) [.ref (wd_b G + o)] σ τ (ci_i σ τ) (fn_Tape_isOver o σ) := by
  refine cl_of (lv0 := [(0, .ref (wd_b G + o))]) (ci_i σ τ) (by decide) (Nat.le_of_ble_eq_true rfl) rfl hN (fun M hM C => ?_)
  have C : cx_C G M RX10 cX10_isOver 1 0 (some .boolean) := C
  unfold fn_Tape_isOver
  refine dn_aload_n C dX10_isOver_0 rfl 0 rfl rfl ?_
  refine dn_getI C fd_X10_31 ho dX10_isOver_1 rfl ?_
  refine dn_jn (fun z => ∀ (t1 : Int32), dn_D G M 1 0 0 (cl_M G M (ci_i σ τ)) 23 [] [.int t1] σ τ (z t1)) (fun t1 => ?_) (fun j2 hj2 => ?_)
  · exact dn_zret C dX10_isOver_23 rfl
  · refine dn_jn (fun z => dn_D G M 1 0 0 (cl_M G M (ci_i σ τ)) 18 [] [] σ τ z) ?_ (fun j3 hj3 => ?_)
    · refine dn_iconst C dX10_isOver_18 ic_i_1 rfl ?_
      refine dn_goto (t := 23) C dX10_isOver_19 (by decide) ?_
      exact hj2 (1 : Int32)
    · refine dn_if_ne (t := 18) C dX10_isOver_4 (by decide) rfl ?_ ?_
      · refine dn_aload_n C dX10_isOver_7 rfl 0 rfl rfl ?_
        refine dn_getI C fd_X10_38 ho dX10_isOver_8 rfl ?_
        refine dn_aload_n C dX10_isOver_11 rfl 0 rfl rfl ?_
        refine dn_getI C fd_X10_28 ho dX10_isOver_12 rfl ?_
        refine dn_icmp_lt (t := 22) C dX10_isOver_15 (by decide) rfl ?_ ?_
        · refine dn_pick [] rfl ?_
          exact hj3
        · refine dn_iconst C dX10_isOver_22 ic_i_0 rfl ?_
          refine dn_pick [] rfl ?_
          exact hj2 (0 : Int32)
      · refine dn_pick [] rfl ?_
        exact hj3
def fn_Tape_isSmallLetter  (o : Nat) (p1 : Int32) (σ : hp_I) : Option (Int32) :=
  px_jn (fun (t1 : Int32) =>
    px_z t1 t1
  ) fun j2 =>
    px_jn (
      j2 (0 : Int32)
    ) fun j3 =>
      if p1 < (σ o 2) then (
        Option.bind (px_ald σ (sh_rf o 0) p1) fun z4 =>
        if (97 : Int32) ≤ z4 then (
          Option.bind (px_ald σ (sh_rf o 0) p1) fun z5 =>
          if z5 ≤ (122 : Int32) then (
            j2 (1 : Int32)
          ) else (
            j3
          )
        ) else (
          j3
        )
      ) else (
        j3
      )
set_option maxHeartbeats 4000000 in
set_option maxRecDepth 100000 in
theorem ok_Tape_isSmallLetter {G : wd_G} {l : Launch} (hN : gd_ok G)  (o : Nat) (ho : sh_kd o = 10) (p1 : Int32) (σ : hp_I) (τ : hp_L) : cl_C G l 0 yX10_isSmallLetter cX10_isSmallLetter 2 (some .boolean) [.ref (wd_b G + o), .int p1] σ τ (ci_i σ τ) (fn_Tape_isSmallLetter o p1 σ) := by
  refine cl_of (lv0 := [(0, .ref (wd_b G + o)), (1, .int p1)]) (ci_i σ τ) (by decide) (Nat.le_of_ble_eq_true rfl) rfl hN (fun M hM C => ?_)
  have C : cx_C G M RX10 cX10_isSmallLetter 2 0 (some .boolean) := C
  unfold fn_Tape_isSmallLetter
  refine dn_iload_n C dX10_isSmallLetter_0 rfl 1 rfl rfl ?_
  refine dn_aload_n C dX10_isSmallLetter_1 rfl 0 rfl rfl ?_
  refine dn_getI C fd_X10_28 ho dX10_isSmallLetter_2 rfl ?_
  refine dn_jn (fun z => ∀ (t1 : Int32), dn_D G M 2 0 0 (cl_M G M (ci_i σ τ)) 35 [] [.int t1] σ τ (z t1)) (fun t1 => ?_) (fun j2 hj2 => ?_)
  · exact dn_zret C dX10_isSmallLetter_35 rfl
  · refine dn_jn (fun z => dn_D G M 2 0 0 (cl_M G M (ci_i σ τ)) 34 [] [] σ τ z) ?_ (fun j3 hj3 => ?_)
    · refine dn_iconst C dX10_isSmallLetter_34 ic_i_0 rfl ?_
      exact hj2 (0 : Int32)
    · refine dn_icmp_ge (t := 34) C dX10_isSmallLetter_5 (by decide) rfl ?_ ?_
      · refine dn_aload_n C dX10_isSmallLetter_8 rfl 0 rfl rfl ?_
        refine dn_getR C fd_X10_9 ho dX10_isSmallLetter_9 rfl ?_
        refine dn_iload_n C dX10_isSmallLetter_12 rfl 1 rfl rfl ?_
        refine dn_iald C (kt_10_0 ho) dX10_isSmallLetter_13 rfl (fun z4 => ?_)
        refine dn_bipush C dX10_isSmallLetter_14 ic_b_97 rfl ?_
        refine dn_icmp_lt (t := 34) C dX10_isSmallLetter_16 (by decide) rfl ?_ ?_
        · refine dn_aload_n C dX10_isSmallLetter_19 rfl 0 rfl rfl ?_
          refine dn_getR C fd_X10_9 ho dX10_isSmallLetter_20 rfl ?_
          refine dn_iload_n C dX10_isSmallLetter_23 rfl 1 rfl rfl ?_
          refine dn_iald C (kt_10_0 ho) dX10_isSmallLetter_24 rfl (fun z5 => ?_)
          refine dn_bipush C dX10_isSmallLetter_25 ic_b_122 rfl ?_
          refine dn_icmp_gt (t := 34) C dX10_isSmallLetter_27 (by decide) rfl ?_ ?_
          · refine dn_iconst C dX10_isSmallLetter_30 ic_i_1 rfl ?_
            refine dn_goto (t := 35) C dX10_isSmallLetter_31 (by decide) ?_
            refine dn_pick [] rfl ?_
            exact hj2 (1 : Int32)
          · refine dn_pick [] rfl ?_
            exact hj3
        · refine dn_pick [] rfl ?_
          exact hj3
      · refine dn_pick [] rfl ?_
        exact hj3
def fn_Tape_moveTo_L5  (a0 : Nat) (k : hp_I → Option (hp_I)) : Nat → hp_I → Option (hp_I)
  | 0, _ => none
  | fu + 1, s0 =>
    if (s0 a0 3) < (s0 a0 2) then (
      Option.bind (px_ald s0 (sh_rf a0 0) (s0 a0 3)) fun z2 =>
      if z2 = (32 : Int32) then (
        px_let (hp_s s0 a0 3 ((s0 a0 3) + (1 : Int32))) fun s3 =>
        fn_Tape_moveTo_L5 a0 k fu s3
      ) else (
        k s0
      )
    ) else (
      k s0
    )
def fn_Tape_moveTo  (o : Nat) (p1 : Int32) (σ : hp_I) : Option (hp_I) :=
  px_let (hp_s σ o 3 p1) fun s1 =>
  fn_Tape_moveTo_L5 o
    (fun (s_4 : hp_I) =>
      some s_4
    )
    FU s1
set_option maxHeartbeats 4000000 in
set_option maxRecDepth 100000 in
theorem pf_Tape_moveTo_L5 {G : wd_G} {M : wd_M}  (C : cx_C G M RX10 cX10_moveTo 2 0 none) (a0 : Nat) (ha0 : sh_kd a0 = 10)  (τ : hp_L) (k : hp_I → Option (hp_I)) (hk : ∀ (s : hp_I), dn_D G M 2 0 0 (cl_M G M (ci_h τ)) 43 [] [] s τ (k s)) : ∀ (fu : Nat) (s0 : hp_I), dn_D G M 2 0 0 (cl_M G M (ci_h τ)) 5 [(0, .ref (wd_b G + a0))] [] s0 τ (fn_Tape_moveTo_L5 a0 k fu s0) := by
  intro fu
  induction fu with
  | zero => exact fun s0 => dn_none
  | succ fu ih =>
    intro s0
    unfold fn_Tape_moveTo_L5
    refine dn_aload_n C dX10_moveTo_5 rfl 0 rfl rfl ?_
    refine dn_getI C fd_X10_38 ha0 dX10_moveTo_6 rfl ?_
    refine dn_aload_n C dX10_moveTo_9 rfl 0 rfl rfl ?_
    refine dn_getI C fd_X10_28 ha0 dX10_moveTo_10 rfl ?_
    refine dn_icmp_ge (t := 43) C dX10_moveTo_13 (by decide) rfl ?_ ?_
    · refine dn_aload_n C dX10_moveTo_16 rfl 0 rfl rfl ?_
      refine dn_getR C fd_X10_9 ha0 dX10_moveTo_17 rfl ?_
      refine dn_aload_n C dX10_moveTo_20 rfl 0 rfl rfl ?_
      refine dn_getI C fd_X10_38 ha0 dX10_moveTo_21 rfl ?_
      refine dn_iald C (kt_10_0 ha0) dX10_moveTo_24 rfl (fun z2 => ?_)
      refine dn_bipush C dX10_moveTo_25 ic_b_32 rfl ?_
      refine dn_icmp_ne (t := 43) C dX10_moveTo_27 (by decide) rfl ?_ ?_
      · refine dn_aload_n C dX10_moveTo_30 rfl 0 rfl rfl ?_
        refine dn_dup C dX10_moveTo_31 rfl rfl ?_
        refine dn_getI C fd_X10_38 ha0 dX10_moveTo_32 rfl ?_
        refine dn_iconst C dX10_moveTo_35 ic_i_1 rfl ?_
        refine dn_iadd C dX10_moveTo_36 rfl ?_
        refine dn_putI C fp_X10_38 ha0 dX10_moveTo_37 rfl (fun s3 => ?_)
        refine dn_goto (t := 5) C dX10_moveTo_40 (by decide) ?_
        exact ih s3
      · refine dn_pick [] rfl ?_
        exact hk s0
    · refine dn_pick [] rfl ?_
      exact hk s0
set_option maxHeartbeats 4000000 in
set_option maxRecDepth 100000 in
theorem ok_Tape_moveTo {G : wd_G} {l : Launch} (hN : gd_ok G)  (o : Nat) (ho : sh_kd o = 10) (p1 : Int32) (σ : hp_I) (τ : hp_L) : cl_C G l 0 yX10_moveTo cX10_moveTo 2 none [.ref (wd_b G + o), .int p1] σ τ (ci_h τ) (fn_Tape_moveTo o p1 σ) := by
  refine cl_of (lv0 := [(0, .ref (wd_b G + o)), (1, .int p1)]) (ci_h τ) (by decide) (Nat.le_of_ble_eq_true rfl) rfl hN (fun M hM C => ?_)
  have C : cx_C G M RX10 cX10_moveTo 2 0 none := C
  unfold fn_Tape_moveTo
  refine dn_aload_n C dX10_moveTo_0 rfl 0 rfl rfl ?_
  refine dn_iload_n C dX10_moveTo_1 rfl 1 rfl rfl ?_
  refine dn_putI C fp_X10_38 ho dX10_moveTo_2 rfl (fun s1 => ?_)
  refine dn_pick [0] rfl ?_
  refine pf_Tape_moveTo_L5  C  o ho  τ _ (fun s_4 => ?_) FU s1
  exact dn_vret C dX10_moveTo_43 rfl
def fn_Tape_next  (o : Nat) (σ : hp_I) : Option (Int32) :=
  some (σ o 3)
set_option maxHeartbeats 4000000 in
set_option maxRecDepth 100000 in
theorem ok_Tape_next {G : wd_G} {l : Launch} (hN : gd_ok G)  (o : Nat) (ho : sh_kd o = 10) (σ : hp_I) (τ : hp_L) : cl_C G l 0 yX10_next cX10_next 1 (some .int) [.ref (wd_b G + o)] σ τ (ci_i σ τ) (fn_Tape_next o σ) := by
  refine cl_of (lv0 := [(0, .ref (wd_b G + o))]) (ci_i σ τ) (by decide) (Nat.le_of_ble_eq_true rfl) rfl hN (fun M hM C => ?_)
  have C : cx_C G M RX10 cX10_next 1 0 (some .int) := C
  unfold fn_Tape_next
  refine dn_aload_n C dX10_next_0 rfl 0 rfl rfl ?_
  refine dn_getI C fd_X10_38 ho dX10_next_1 rfl ?_
  exact dn_iret C dX10_next_4 rfl
def fn_Tape_put_L3  (a0 : Nat) (a1 : Int32) (k : hp_I → Option (hp_I)) : Nat → Int32 → hp_I → Option (hp_I)
  | 0, _, _ => none
  | fu + 1, x2, s0 =>
    if 0 ≤ x2 then (
      if (s0 a0 1) < (600 : Int32) then (
        Option.bind (px_ast s0 (sh_rf a0 0) (s0 a0 1) ((a1 >>> (x2 &&& 31)) &&& (255 : Int32))) fun s2 =>
        px_let (hp_s s2 a0 1 ((s2 a0 1) + (1 : Int32))) fun s3 =>
        px_let (x2 + (-8)) fun v2_4 =>
        fn_Tape_put_L3 a0 a1 k fu v2_4 s3
      ) else (
        k s0
      )
    ) else (
      k s0
    )
def fn_Tape_put  (o : Nat) (p1 : Int32) (σ : hp_I) : Option (hp_I) :=
  px_let (24 : Int32) fun v2_1 =>
  fn_Tape_put_L3 o p1
    (fun (s_5 : hp_I) =>
      some s_5
    )
    FU v2_1 σ
set_option maxHeartbeats 4000000 in
set_option maxRecDepth 100000 in
theorem pf_Tape_put_L3 {G : wd_G} {M : wd_M}  (C : cx_C G M RX10 cX10_put 3 0 none) (a0 : Nat) (ha0 : sh_kd a0 = 10) (a1 : Int32)  (τ : hp_L) (k : hp_I → Option (hp_I)) (hk : ∀ (s : hp_I), dn_D G M 3 0 0 (cl_M G M (ci_h τ)) 49 [] [] s τ (k s)) : ∀ (fu : Nat) (x2 : Int32) (s0 : hp_I), dn_D G M 3 0 0 (cl_M G M (ci_h τ)) 3 [(0, .ref (wd_b G + a0)), (1, .int a1), (2, .int x2)] [] s0 τ (fn_Tape_put_L3 a0 a1 k fu x2 s0) := by
  intro fu
  induction fu with
  | zero => exact fun x2 s0 => dn_none
  | succ fu ih =>
    intro x2 s0
    unfold fn_Tape_put_L3
    refine dn_iload_n C dX10_put_3 rfl 2 rfl rfl ?_
    refine dn_if_lt (t := 49) C dX10_put_4 (by decide) rfl ?_ ?_
    · refine dn_aload_n C dX10_put_7 rfl 0 rfl rfl ?_
      refine dn_getI C fd_X10_19 ha0 dX10_put_8 rfl ?_
      refine dn_sipush C dX10_put_11 ic_s_600 rfl ?_
      refine dn_icmp_ge (t := 49) C dX10_put_14 (by decide) rfl ?_ ?_
      · refine dn_aload_n C dX10_put_17 rfl 0 rfl rfl ?_
        refine dn_getR C fd_X10_9 ha0 dX10_put_18 rfl ?_
        refine dn_aload_n C dX10_put_21 rfl 0 rfl rfl ?_
        refine dn_getI C fd_X10_19 ha0 dX10_put_22 rfl ?_
        refine dn_iload_n C dX10_put_25 rfl 1 rfl rfl ?_
        refine dn_iload_n C dX10_put_26 rfl 2 rfl rfl ?_
        refine dn_ishr C dX10_put_27 rfl ?_
        refine dn_sipush C dX10_put_28 ic_s_255 rfl ?_
        refine dn_iand C dX10_put_31 rfl ?_
        refine dn_iast C (kt_10_0 ha0) dX10_put_32 rfl (fun s2 => ?_)
        refine dn_aload_n C dX10_put_33 rfl 0 rfl rfl ?_
        refine dn_dup C dX10_put_34 rfl rfl ?_
        refine dn_getI C fd_X10_19 ha0 dX10_put_35 rfl ?_
        refine dn_iconst C dX10_put_38 ic_i_1 rfl ?_
        refine dn_iadd C dX10_put_39 rfl ?_
        refine dn_putI C fp_X10_19 ha0 dX10_put_40 rfl (fun s3 => ?_)
        refine dn_iinc (lv0 := [(0, .ref (wd_b G + a0)), (1, .int a1)]) (v := x2 + (-8)) C dX10_put_43 2 rfl rfl (by decide) rfl rfl (fun v2_4 => ?_)
        refine dn_goto (t := 3) C dX10_put_46 (by decide) ?_
        refine dn_pick [1, 2, 0] rfl ?_
        exact ih v2_4 s3
      · refine dn_pick [] rfl ?_
        exact hk s0
    · refine dn_pick [] rfl ?_
      exact hk s0
set_option maxHeartbeats 4000000 in
set_option maxRecDepth 100000 in
theorem ok_Tape_put {G : wd_G} {l : Launch} (hN : gd_ok G)  (o : Nat) (ho : sh_kd o = 10) (p1 : Int32) (σ : hp_I) (τ : hp_L) : cl_C G l 0 yX10_put cX10_put 3 none [.ref (wd_b G + o), .int p1] σ τ (ci_h τ) (fn_Tape_put o p1 σ) := by
  refine cl_of (lv0 := [(0, .ref (wd_b G + o)), (1, .int p1)]) (ci_h τ) (by decide) (Nat.le_of_ble_eq_true rfl) rfl hN (fun M hM C => ?_)
  have C : cx_C G M RX10 cX10_put 3 0 none := C
  unfold fn_Tape_put
  refine dn_bipush C dX10_put_0 ic_b_24 rfl ?_
  refine dn_istore_n (lv0 := [(0, .ref (wd_b G + o)), (1, .int p1)]) C dX10_put_2 rfl (by decide) rfl rfl (fun v2_1 => ?_)
  refine dn_pick [1, 2, 0] rfl ?_
  refine pf_Tape_put_L3  C  o ho p1  τ _ (fun s_5 => ?_) FU v2_1 σ
  exact dn_vret C dX10_put_49 rfl
def fn_Chase_isFree  (o : Nat) (p1 : Int32) (p2 : Int32) (p3 : Int32) (σ : hp_I) : Option (Int32) :=
  px_jn (fun (t1 : Int32) =>
    px_z t1 t1
  ) fun j2 =>
    px_jn (
      j2 (0 : Int32)
    ) fun j3 =>
      if ((p3 >>> (p2 &&& 31)) &&& (1 : Int32)) = 0 then (
        Option.bind (px_ald σ (sh_rf o 2) ((p1 * (8 : Int32)) + p2)) fun z4 =>
        if z4 = (-1 : Int32) then (
          j3
        ) else (
          j2 (1 : Int32)
        )
      ) else (
        j3
      )
set_option maxHeartbeats 4000000 in
set_option maxRecDepth 100000 in
theorem ok_Chase_isFree {G : wd_G} {l : Launch} (hN : gd_ok G)  (o : Nat) (ho : sh_kd o = 1) (p1 : Int32) (p2 : Int32) (p3 : Int32) (σ : hp_I) (τ : hp_L) : cl_C G l 0 yX1_isFree cX1_isFree 4 (some .boolean) [.ref (wd_b G + o), .int p1, .int p2, .int p3] σ τ (ci_i σ τ) (fn_Chase_isFree o p1 p2 p3 σ) := by
  refine cl_of (lv0 := [(0, .ref (wd_b G + o)), (1, .int p1), (2, .int p2), (3, .int p3)]) (ci_i σ τ) (by decide) (Nat.le_of_ble_eq_true rfl) rfl hN (fun M hM C => ?_)
  have C : cx_C G M RX1 cX1_isFree 4 0 (some .boolean) := C
  unfold fn_Chase_isFree
  refine dn_iload_n C dX1_isFree_0 rfl 3 rfl rfl ?_
  refine dn_iload_n C dX1_isFree_1 rfl 2 rfl rfl ?_
  refine dn_ishr C dX1_isFree_2 rfl ?_
  refine dn_iconst C dX1_isFree_3 ic_i_1 rfl ?_
  refine dn_iand C dX1_isFree_4 rfl ?_
  refine dn_jn (fun z => ∀ (t1 : Int32), dn_D G M 4 0 0 (cl_M G M (ci_i σ τ)) 28 [] [.int t1] σ τ (z t1)) (fun t1 => ?_) (fun j2 hj2 => ?_)
  · exact dn_zret C dX1_isFree_28 rfl
  · refine dn_jn (fun z => dn_D G M 4 0 0 (cl_M G M (ci_i σ τ)) 27 [] [] σ τ z) ?_ (fun j3 hj3 => ?_)
    · refine dn_iconst C dX1_isFree_27 ic_i_0 rfl ?_
      exact hj2 (0 : Int32)
    · refine dn_if_ne (t := 27) C dX1_isFree_5 (by decide) rfl ?_ ?_
      · refine dn_aload_n C dX1_isFree_8 rfl 0 rfl rfl ?_
        refine dn_getR C fd_X1_15 ho dX1_isFree_9 rfl ?_
        refine dn_iload_n C dX1_isFree_12 rfl 1 rfl rfl ?_
        refine dn_bipush C dX1_isFree_13 ic_b_8 rfl ?_
        refine dn_imul C dX1_isFree_15 rfl ?_
        refine dn_iload_n C dX1_isFree_16 rfl 2 rfl rfl ?_
        refine dn_iadd C dX1_isFree_17 rfl ?_
        refine dn_iald C (kt_1_2 ho) dX1_isFree_18 rfl (fun z4 => ?_)
        refine dn_iconst C dX1_isFree_19 ic_i_m1 rfl ?_
        refine dn_icmp_eq (t := 27) C dX1_isFree_20 (by decide) rfl ?_ ?_
        · refine dn_pick [] rfl ?_
          exact hj3
        · refine dn_iconst C dX1_isFree_23 ic_i_1 rfl ?_
          refine dn_goto (t := 28) C dX1_isFree_24 (by decide) ?_
          refine dn_pick [] rfl ?_
          exact hj2 (1 : Int32)
      · refine dn_pick [] rfl ?_
        exact hj3
def fn_Chase_worth  (o : Nat) (p1 : Int32) (p2 : Int32) (p3 : Int32) (σ : hp_I) : Option (Int32) :=
  Option.bind (px_ald σ (sh_rf o 2) ((p1 * (8 : Int32)) + p2)) fun z1 =>
  Option.bind (px_ald σ (sh_rf o 1) (((p1 + (1 : Int32)) * (256 : Int32)) + (p3 ||| ((1 : Int32) <<< (p2 &&& 31))))) fun z2 =>
  some (((100 : Int32) - z1) + z2)
set_option maxHeartbeats 4000000 in
set_option maxRecDepth 100000 in
theorem ok_Chase_worth {G : wd_G} {l : Launch} (hN : gd_ok G)  (o : Nat) (ho : sh_kd o = 1) (p1 : Int32) (p2 : Int32) (p3 : Int32) (σ : hp_I) (τ : hp_L) : cl_C G l 0 yX1_worth cX1_worth 4 (some .int) [.ref (wd_b G + o), .int p1, .int p2, .int p3] σ τ (ci_i σ τ) (fn_Chase_worth o p1 p2 p3 σ) := by
  refine cl_of (lv0 := [(0, .ref (wd_b G + o)), (1, .int p1), (2, .int p2), (3, .int p3)]) (ci_i σ τ) (by decide) (Nat.le_of_ble_eq_true rfl) rfl hN (fun M hM C => ?_)
  have C : cx_C G M RX1 cX1_worth 4 0 (some .int) := C
  unfold fn_Chase_worth
  refine dn_bipush C dX1_worth_0 ic_b_100 rfl ?_
  refine dn_aload_n C dX1_worth_2 rfl 0 rfl rfl ?_
  refine dn_getR C fd_X1_15 ho dX1_worth_3 rfl ?_
  refine dn_iload_n C dX1_worth_6 rfl 1 rfl rfl ?_
  refine dn_bipush C dX1_worth_7 ic_b_8 rfl ?_
  refine dn_imul C dX1_worth_9 rfl ?_
  refine dn_iload_n C dX1_worth_10 rfl 2 rfl rfl ?_
  refine dn_iadd C dX1_worth_11 rfl ?_
  refine dn_iald C (kt_1_2 ho) dX1_worth_12 rfl (fun z1 => ?_)
  refine dn_isub C dX1_worth_13 rfl ?_
  refine dn_aload_n C dX1_worth_14 rfl 0 rfl rfl ?_
  refine dn_getR C fd_X1_11 ho dX1_worth_15 rfl ?_
  refine dn_iload_n C dX1_worth_18 rfl 1 rfl rfl ?_
  refine dn_iconst C dX1_worth_19 ic_i_1 rfl ?_
  refine dn_iadd C dX1_worth_20 rfl ?_
  refine dn_sipush C dX1_worth_21 ic_s_256 rfl ?_
  refine dn_imul C dX1_worth_24 rfl ?_
  refine dn_iload_n C dX1_worth_25 rfl 3 rfl rfl ?_
  refine dn_iconst C dX1_worth_26 ic_i_1 rfl ?_
  refine dn_iload_n C dX1_worth_27 rfl 2 rfl rfl ?_
  refine dn_ishl C dX1_worth_28 rfl ?_
  refine dn_ior C dX1_worth_29 rfl ?_
  refine dn_iadd C dX1_worth_30 rfl ?_
  refine dn_iald C (kt_1_1 ho) dX1_worth_31 rfl (fun z2 => ?_)
  refine dn_iadd C dX1_worth_32 rfl ?_
  exact dn_iret C dX1_worth_33 rfl
def fn_Guess_countPair_L24  (a0 : Nat) (a2 : Int32) (k : hp_I → Option (hp_I)) : Nat → Int32 → hp_I → Option (hp_I)
  | 0, _, _ => none
  | fu + 1, x3, s0 =>
    if x3 < (s0 (sh_rf a0 0) 3) then (
      Option.bind (px_ald s0 (sh_rf a0 1) x3) fun z4 =>
      Option.bind (px_ast s0 (sh_rf a0 1) x3 (z4 + ((a2 >>> (x3 &&& 31)) &&& (1 : Int32)))) fun s5 =>
      px_let (x3 + 1) fun v3_6 =>
      fn_Guess_countPair_L24 a0 a2 k fu v3_6 s5
    ) else (
      k s0
    )
def fn_Guess_countPair  (o : Nat) (p1 : Int32) (p2 : Int32) (σ : hp_I) : Option (hp_I) :=
  px_jn (fun (s1 : hp_I) =>
    px_let (hp_s s1 o 2 ((s1 o 2) + (1 : Int32))) fun s2 =>
    px_let (0 : Int32) fun v3_3 =>
    fn_Guess_countPair_L24 o p2
      (fun (s_7 : hp_I) =>
        some s_7
      )
      FU v3_3 s2
  ) fun j8 =>
    if (σ o 2) = 0 then (
      px_let (hp_s σ o 3 p1) fun s9 =>
      j8 s9
    ) else (
      j8 σ
    )
set_option maxHeartbeats 4000000 in
set_option maxRecDepth 100000 in
theorem pf_Guess_countPair_L24 {G : wd_G} {M : wd_M}  (C : cx_C G M RX2 cX2_countPair 4 0 none) (a0 : Nat) (ha0 : sh_kd a0 = 2) (a2 : Int32)  (τ : hp_L) (k : hp_I → Option (hp_I)) (hk : ∀ (s : hp_I), dn_D G M 4 0 0 (cl_M G M (ci_h τ)) 55 [] [] s τ (k s)) : ∀ (fu : Nat) (x3 : Int32) (s0 : hp_I), dn_D G M 4 0 0 (cl_M G M (ci_h τ)) 24 [(0, .ref (wd_b G + a0)), (2, .int a2), (3, .int x3)] [] s0 τ (fn_Guess_countPair_L24 a0 a2 k fu x3 s0) := by
  intro fu
  induction fu with
  | zero => exact fun x3 s0 => dn_none
  | succ fu ih =>
    intro x3 s0
    unfold fn_Guess_countPair_L24
    refine dn_iload_n C dX2_countPair_24 rfl 2 rfl rfl ?_
    refine dn_aload_n C dX2_countPair_25 rfl 0 rfl rfl ?_
    refine dn_getR C fd_X2_15 ha0 dX2_countPair_26 rfl ?_
    refine dn_getI C fd_X2_60 (kt_2_0 ha0) dX2_countPair_29 rfl ?_
    refine dn_icmp_ge (t := 55) C dX2_countPair_32 (by decide) rfl ?_ ?_
    · refine dn_aload_n C dX2_countPair_35 rfl 0 rfl rfl ?_
      refine dn_getR C fd_X2_9 ha0 dX2_countPair_36 rfl ?_
      refine dn_iload_n C dX2_countPair_39 rfl 2 rfl rfl ?_
      refine dn_dup2 C dX2_countPair_40 rfl rfl rfl ?_
      refine dn_iald C (kt_2_1 ha0) dX2_countPair_41 rfl (fun z4 => ?_)
      refine dn_iload_n C dX2_countPair_42 rfl 1 rfl rfl ?_
      refine dn_iload_n C dX2_countPair_43 rfl 2 rfl rfl ?_
      refine dn_ishr C dX2_countPair_44 rfl ?_
      refine dn_iconst C dX2_countPair_45 ic_i_1 rfl ?_
      refine dn_iand C dX2_countPair_46 rfl ?_
      refine dn_iadd C dX2_countPair_47 rfl ?_
      refine dn_iast C (kt_2_1 ha0) dX2_countPair_48 rfl (fun s5 => ?_)
      refine dn_iinc (lv0 := [(0, .ref (wd_b G + a0)), (2, .int a2)]) (v := x3 + 1) C dX2_countPair_49 2 rfl rfl (by decide) rfl rfl (fun v3_6 => ?_)
      refine dn_goto (t := 24) C dX2_countPair_52 (by decide) ?_
      refine dn_pick [1, 2, 0] rfl ?_
      exact ih v3_6 s5
    · refine dn_pick [] rfl ?_
      exact hk s0
set_option maxHeartbeats 4000000 in
set_option maxRecDepth 100000 in
theorem ok_Guess_countPair {G : wd_G} {l : Launch} (hN : gd_ok G)  (o : Nat) (ho : sh_kd o = 2) (p1 : Int32) (p2 : Int32) (σ : hp_I) (τ : hp_L) : cl_C G l 0 yX2_countPair cX2_countPair 4 none [.ref (wd_b G + o), .int p1, .int p2] σ τ (ci_h τ) (fn_Guess_countPair o p1 p2 σ) := by
  refine cl_of (lv0 := [(0, .ref (wd_b G + o)), (1, .int p1), (2, .int p2)]) (ci_h τ) (by decide) (Nat.le_of_ble_eq_true rfl) rfl hN (fun M hM C => ?_)
  have C : cx_C G M RX2 cX2_countPair 4 0 none := C
  unfold fn_Guess_countPair
  refine dn_aload_n C dX2_countPair_0 rfl 0 rfl rfl ?_
  refine dn_getI C fd_X2_19 ho dX2_countPair_1 rfl ?_
  refine dn_jn (fun z => ∀ (s1 : hp_I), dn_D G M 4 0 0 (cl_M G M (ci_h τ)) 12 [(0, .ref (wd_b G + o)), (2, .int p2)] [] s1 τ (z s1)) (fun s1 => ?_) (fun j8 hj8 => ?_)
  · refine dn_aload_n C dX2_countPair_12 rfl 0 rfl rfl ?_
    refine dn_dup C dX2_countPair_13 rfl rfl ?_
    refine dn_getI C fd_X2_19 ho dX2_countPair_14 rfl ?_
    refine dn_iconst C dX2_countPair_17 ic_i_1 rfl ?_
    refine dn_iadd C dX2_countPair_18 rfl ?_
    refine dn_putI C fp_X2_19 ho dX2_countPair_19 rfl (fun s2 => ?_)
    refine dn_iconst C dX2_countPair_22 ic_i_0 rfl ?_
    refine dn_istore_n (lv0 := [(0, .ref (wd_b G + o)), (2, .int p2)]) C dX2_countPair_23 rfl (by decide) rfl rfl (fun v3_3 => ?_)
    refine dn_pick [1, 2, 0] rfl ?_
    refine pf_Guess_countPair_L24  C  o ho p2  τ _ (fun s_7 => ?_) FU v3_3 s2
    exact dn_vret C dX2_countPair_55 rfl
  · refine dn_if_ne (t := 12) C dX2_countPair_4 (by decide) rfl ?_ ?_
    · refine dn_aload_n C dX2_countPair_7 rfl 0 rfl rfl ?_
      refine dn_iload_n C dX2_countPair_8 rfl 1 rfl rfl ?_
      refine dn_putI C fp_X2_23 ho dX2_countPair_9 rfl (fun s9 => ?_)
      refine dn_pick [0, 2] rfl ?_
      exact hj8 s9
    · refine dn_pick [0, 2] rfl ?_
      exact hj8 σ
def fn_Law_forget  (o : Nat) (σ : hp_I) : Option (hp_I) :=
  px_let (hp_s σ o 1 (0 : Int32)) fun s1 =>
  some s1
set_option maxHeartbeats 4000000 in
set_option maxRecDepth 100000 in
theorem ok_Law_forget {G : wd_G} {l : Launch} (hN : gd_ok G)  (o : Nat) (ho : sh_kd o = 4) (σ : hp_I) (τ : hp_L) : cl_C G l 0 yX4_forget cX4_forget 1 none [.ref (wd_b G + o)] σ τ (ci_h τ) (fn_Law_forget o σ) := by
  refine cl_of (lv0 := [(0, .ref (wd_b G + o))]) (ci_h τ) (by decide) (Nat.le_of_ble_eq_true rfl) rfl hN (fun M hM C => ?_)
  have C : cx_C G M RX4 cX4_forget 1 0 none := C
  unfold fn_Law_forget
  refine dn_aload_n C dX4_forget_0 rfl 0 rfl rfl ?_
  refine dn_iconst C dX4_forget_1 ic_i_0 rfl ?_
  refine dn_putI C fp_X4_24 ho dX4_forget_2 rfl (fun s1 => ?_)
  exact dn_vret C dX4_forget_5 rfl
def fn_Law_put  (o : Nat) (p1 : Int32) (σ : hp_I) : Option (hp_I) :=
  px_jn (fun (s1 : hp_I) =>
    some s1
  ) fun j2 =>
    if (σ o 3) < (150 : Int32) then (
      Option.bind (px_ast σ (sh_rf o 2) (σ o 3) p1) fun s3 =>
      px_let (hp_s s3 o 3 ((s3 o 3) + (1 : Int32))) fun s4 =>
      j2 s4
    ) else (
      j2 σ
    )
set_option maxHeartbeats 4000000 in
set_option maxRecDepth 100000 in
theorem ok_Law_put {G : wd_G} {l : Launch} (hN : gd_ok G)  (o : Nat) (ho : sh_kd o = 4) (p1 : Int32) (σ : hp_I) (τ : hp_L) : cl_C G l 0 yX4_put cX4_put 2 none [.ref (wd_b G + o), .int p1] σ τ (ci_h τ) (fn_Law_put o p1 σ) := by
  refine cl_of (lv0 := [(0, .ref (wd_b G + o)), (1, .int p1)]) (ci_h τ) (by decide) (Nat.le_of_ble_eq_true rfl) rfl hN (fun M hM C => ?_)
  have C : cx_C G M RX4 cX4_put 2 0 none := C
  unfold fn_Law_put
  refine dn_aload_n C dX4_put_0 rfl 0 rfl rfl ?_
  refine dn_getI C fd_X4_28 ho dX4_put_1 rfl ?_
  refine dn_aload_n C dX4_put_4 rfl 0 rfl rfl ?_
  refine dn_getR C fd_X4_15 ho dX4_put_5 rfl ?_
  refine dn_alen (v := 150) C (kt_4_2 ho) (by rw [kl_4_2 ho]; decide) dX4_put_8 rfl ?_
  refine dn_jn (fun z => ∀ (s1 : hp_I), dn_D G M 2 0 0 (cl_M G M (ci_h τ)) 32 [] [] s1 τ (z s1)) (fun s1 => ?_) (fun j2 hj2 => ?_)
  · exact dn_vret C dX4_put_32 rfl
  · refine dn_icmp_ge (t := 32) C dX4_put_9 (by decide) rfl ?_ ?_
    · refine dn_aload_n C dX4_put_12 rfl 0 rfl rfl ?_
      refine dn_getR C fd_X4_15 ho dX4_put_13 rfl ?_
      refine dn_aload_n C dX4_put_16 rfl 0 rfl rfl ?_
      refine dn_getI C fd_X4_28 ho dX4_put_17 rfl ?_
      refine dn_iload_n C dX4_put_20 rfl 1 rfl rfl ?_
      refine dn_iast C (kt_4_2 ho) dX4_put_21 rfl (fun s3 => ?_)
      refine dn_aload_n C dX4_put_22 rfl 0 rfl rfl ?_
      refine dn_dup C dX4_put_23 rfl rfl ?_
      refine dn_getI C fd_X4_28 ho dX4_put_24 rfl ?_
      refine dn_iconst C dX4_put_27 ic_i_1 rfl ?_
      refine dn_iadd C dX4_put_28 rfl ?_
      refine dn_putI C fp_X4_28 ho dX4_put_29 rfl (fun s4 => ?_)
      refine dn_pick [] rfl ?_
      exact hj2 s4
    · refine dn_pick [] rfl ?_
      exact hj2 σ
def fn_Past_forget  (o : Nat) (σ : hp_I) : Option (hp_I) :=
  px_let (hp_s σ o 0 (0 : Int32)) fun s1 =>
  px_let (hp_s s1 o 1 (0 : Int32)) fun s2 =>
  some s2
set_option maxHeartbeats 4000000 in
set_option maxRecDepth 100000 in
theorem ok_Past_forget {G : wd_G} {l : Launch} (hN : gd_ok G)  (o : Nat) (ho : sh_kd o = 5) (σ : hp_I) (τ : hp_L) : cl_C G l 0 yX5_forget cX5_forget 1 none [.ref (wd_b G + o)] σ τ (ci_h τ) (fn_Past_forget o σ) := by
  refine cl_of (lv0 := [(0, .ref (wd_b G + o))]) (ci_h τ) (by decide) (Nat.le_of_ble_eq_true rfl) rfl hN (fun M hM C => ?_)
  have C : cx_C G M RX5 cX5_forget 1 0 none := C
  unfold fn_Past_forget
  refine dn_aload_n C dX5_forget_0 rfl 0 rfl rfl ?_
  refine dn_iconst C dX5_forget_1 ic_i_0 rfl ?_
  refine dn_putI C fp_X5_21 ho dX5_forget_2 rfl (fun s1 => ?_)
  refine dn_aload_n C dX5_forget_5 rfl 0 rfl rfl ?_
  refine dn_iconst C dX5_forget_6 ic_i_0 rfl ?_
  refine dn_putI C fp_X5_25 ho dX5_forget_7 rfl (fun s2 => ?_)
  exact dn_vret C dX5_forget_10 rfl
def fn_Past_isFull  (o : Nat) (σ : hp_I) : Option (Int32) :=
  px_jn (fun (t1 : Int32) =>
    px_z t1 t1
  ) fun j2 =>
    if (16 : Int32) ≤ (σ o 0) then (
      j2 (1 : Int32)
    ) else (
      j2 (0 : Int32)
    )
set_option maxHeartbeats 4000000 in
set_option maxRecDepth 100000 in
theorem ok_Past_isFull {G : wd_G} {l : Launch} (hN : gd_ok G)  (o : Nat) (ho : sh_kd o = 5) (σ : hp_I) (τ : hp_L) : cl_C G l 0 yX5_isFull cX5_isFull 1 (some .boolean) [.ref (wd_b G + o)] σ τ (ci_i σ τ) (fn_Past_isFull o σ) := by
  refine cl_of (lv0 := [(0, .ref (wd_b G + o))]) (ci_i σ τ) (by decide) (Nat.le_of_ble_eq_true rfl) rfl hN (fun M hM C => ?_)
  have C : cx_C G M RX5 cX5_isFull 1 0 (some .boolean) := C
  unfold fn_Past_isFull
  refine dn_aload_n C dX5_isFull_0 rfl 0 rfl rfl ?_
  refine dn_getI C fd_X5_21 ho dX5_isFull_1 rfl ?_
  refine dn_bipush C dX5_isFull_4 ic_b_16 rfl ?_
  refine dn_jn (fun z => ∀ (t1 : Int32), dn_D G M 1 0 0 (cl_M G M (ci_i σ τ)) 14 [] [.int t1] σ τ (z t1)) (fun t1 => ?_) (fun j2 hj2 => ?_)
  · exact dn_zret C dX5_isFull_14 rfl
  · refine dn_icmp_lt (t := 13) C dX5_isFull_6 (by decide) rfl ?_ ?_
    · refine dn_iconst C dX5_isFull_9 ic_i_1 rfl ?_
      refine dn_goto (t := 14) C dX5_isFull_10 (by decide) ?_
      refine dn_pick [] rfl ?_
      exact hj2 (1 : Int32)
    · refine dn_iconst C dX5_isFull_13 ic_i_0 rfl ?_
      refine dn_pick [] rfl ?_
      exact hj2 (0 : Int32)
def fn_Season_draw  (o : Nat) (p1 : Int32) (σ : hp_I) : Option (Int32 × hp_I) :=
  px_let (hp_s σ o 1 (((σ o 1) * (1103515245 : Int32)) + (12345 : Int32))) fun s1 =>
  px_jn (fun (t2 : Int32) =>
    some (t2, s1)
  ) fun j3 =>
    if p1 ≤ 0 then (
      j3 (0 : Int32)
    ) else (
      Option.bind (px_rem ((px_ushr (s1 o 1) (16 : Int32)) &&& (32767 : Int32)) p1) fun z4 =>
      j3 z4
    )
set_option maxHeartbeats 4000000 in
set_option maxRecDepth 100000 in
theorem ok_Season_draw {G : wd_G} {l : Launch} (hN : gd_ok G)  (o : Nat) (ho : sh_kd o = 6) (p1 : Int32) (σ : hp_I) (τ : hp_L) : cl_C G l 0 yX6_draw cX6_draw 2 (some .int) [.ref (wd_b G + o), .int p1] σ τ (ci_ih τ) (fn_Season_draw o p1 σ) := by
  refine cl_of (lv0 := [(0, .ref (wd_b G + o)), (1, .int p1)]) (ci_ih τ) (by decide) (Nat.le_of_ble_eq_true rfl) rfl hN (fun M hM C => ?_)
  have C : cx_C G M RX6 cX6_draw 2 0 (some .int) := C
  unfold fn_Season_draw
  refine dn_aload_n C dX6_draw_0 rfl 0 rfl rfl ?_
  refine dn_aload_n C dX6_draw_1 rfl 0 rfl rfl ?_
  refine dn_getI C fd_X6_15 ho dX6_draw_2 rfl ?_
  refine dn_ldc C lc_X6_47 dX6_draw_5 rfl ?_
  refine dn_imul C dX6_draw_7 rfl ?_
  refine dn_sipush C dX6_draw_8 ic_s_12345 rfl ?_
  refine dn_iadd C dX6_draw_11 rfl ?_
  refine dn_putI C fp_X6_15 ho dX6_draw_12 rfl (fun s1 => ?_)
  refine dn_iload_n C dX6_draw_15 rfl 1 rfl rfl ?_
  refine dn_jn (fun z => ∀ (t2 : Int32), dn_D G M 2 0 0 (cl_M G M (ci_ih τ)) 36 [] [.int t2] s1 τ (z t2)) (fun t2 => ?_) (fun j3 hj3 => ?_)
  · exact dn_iret C dX6_draw_36 rfl
  · refine dn_if_gt (t := 23) C dX6_draw_16 (by decide) rfl ?_ ?_
    · refine dn_iconst C dX6_draw_19 ic_i_0 rfl ?_
      refine dn_goto (t := 36) C dX6_draw_20 (by decide) ?_
      refine dn_pick [] rfl ?_
      exact hj3 (0 : Int32)
    · refine dn_aload_n C dX6_draw_23 rfl 0 rfl rfl ?_
      refine dn_getI C fd_X6_15 ho dX6_draw_24 rfl ?_
      refine dn_bipush C dX6_draw_27 ic_b_16 rfl ?_
      refine dn_iushr (v := px_ushr (s1 o 1) (16 : Int32)) C dX6_draw_29 rfl rfl ?_
      refine dn_sipush C dX6_draw_30 ic_s_32767 rfl ?_
      refine dn_iand C dX6_draw_33 rfl ?_
      refine dn_iload_n C dX6_draw_34 rfl 1 rfl rfl ?_
      refine dn_irem C dX6_draw_35 rfl (fun z4 => ?_)
      refine dn_pick [] rfl ?_
      exact hj3 z4
def fn_Slip_clear_L13  (a0 : Nat) (a1 : Int32) (k : hp_I → Option (hp_I)) : Nat → Int32 → hp_I → Option (hp_I)
  | 0, _, _ => none
  | fu + 1, x2, s0 =>
    if x2 ≤ (s0 a0 8) then (
      Option.bind (px_ast s0 (sh_rf a0 2) ((a1 * (32 : Int32)) + x2) (0 : Int32)) fun s3 =>
      px_let (x2 + 1) fun v2_4 =>
      fn_Slip_clear_L13 a0 a1 k fu v2_4 s3
    ) else (
      k s0
    )
def fn_Slip_clear_L2  (a0 : Nat) (k : hp_I → Option (hp_I)) : Nat → Int32 → hp_I → Option (hp_I)
  | 0, _, _ => none
  | fu + 1, x1, s0 =>
    if x1 < (8 : Int32) then (
      px_let (s0 a0 7) fun v2_2 =>
      fn_Slip_clear_L13 a0 x1
        (fun (s_5 : hp_I) =>
          px_let (x1 + 1) fun v1_6 =>
          fn_Slip_clear_L2 a0 k fu v1_6 s_5
        )
        FU v2_2 s0
    ) else (
      k s0
    )
def fn_Slip_clear  (o : Nat) (σ : hp_I) : Option (hp_I) :=
  px_let (0 : Int32) fun v1_1 =>
  fn_Slip_clear_L2 o
    (fun (s_7 : hp_I) =>
      px_let (hp_s s_7 o 7 (32 : Int32)) fun s8 =>
      px_let (hp_s s8 o 8 (-1 : Int32)) fun s9 =>
      some s9
    )
    FU v1_1 σ
set_option maxHeartbeats 4000000 in
set_option maxRecDepth 100000 in
theorem pf_Slip_clear_L13 {G : wd_G} {M : wd_M}  (C : cx_C G M RX7 cX7_clear 3 0 none) (a0 : Nat) (ha0 : sh_kd a0 = 7) (a1 : Int32)  (τ : hp_L) (k : hp_I → Option (hp_I)) (hk : ∀ (s : hp_I), dn_D G M 3 0 0 (cl_M G M (ci_h τ)) 39 [(0, .ref (wd_b G + a0)), (1, .int a1)] [] s τ (k s)) : ∀ (fu : Nat) (x2 : Int32) (s0 : hp_I), dn_D G M 3 0 0 (cl_M G M (ci_h τ)) 13 [(0, .ref (wd_b G + a0)), (1, .int a1), (2, .int x2)] [] s0 τ (fn_Slip_clear_L13 a0 a1 k fu x2 s0) := by
  intro fu
  induction fu with
  | zero => exact fun x2 s0 => dn_none
  | succ fu ih =>
    intro x2 s0
    unfold fn_Slip_clear_L13
    refine dn_iload_n C dX7_clear_13 rfl 2 rfl rfl ?_
    refine dn_aload_n C dX7_clear_14 rfl 0 rfl rfl ?_
    refine dn_getI C fd_X7_22 ha0 dX7_clear_15 rfl ?_
    refine dn_icmp_gt (t := 39) C dX7_clear_18 (by decide) rfl ?_ ?_
    · refine dn_aload_n C dX7_clear_21 rfl 0 rfl rfl ?_
      refine dn_getR C fd_X7_11 ha0 dX7_clear_22 rfl ?_
      refine dn_iload_n C dX7_clear_25 rfl 1 rfl rfl ?_
      refine dn_bipush C dX7_clear_26 ic_b_32 rfl ?_
      refine dn_imul C dX7_clear_28 rfl ?_
      refine dn_iload_n C dX7_clear_29 rfl 2 rfl rfl ?_
      refine dn_iadd C dX7_clear_30 rfl ?_
      refine dn_iconst C dX7_clear_31 ic_i_0 rfl ?_
      refine dn_iast C (kt_7_2 ha0) dX7_clear_32 rfl (fun s3 => ?_)
      refine dn_iinc (lv0 := [(0, .ref (wd_b G + a0)), (1, .int a1)]) (v := x2 + 1) C dX7_clear_33 2 rfl rfl (by decide) rfl rfl (fun v2_4 => ?_)
      refine dn_goto (t := 13) C dX7_clear_36 (by decide) ?_
      refine dn_pick [1, 2, 0] rfl ?_
      exact ih v2_4 s3
    · refine dn_pick [0, 1] rfl ?_
      exact hk s0
set_option maxHeartbeats 4000000 in
set_option maxRecDepth 100000 in
theorem pf_Slip_clear_L2 {G : wd_G} {M : wd_M}  (C : cx_C G M RX7 cX7_clear 3 0 none) (a0 : Nat) (ha0 : sh_kd a0 = 7)  (τ : hp_L) (k : hp_I → Option (hp_I)) (hk : ∀ (s : hp_I), dn_D G M 3 0 0 (cl_M G M (ci_h τ)) 45 [(0, .ref (wd_b G + a0))] [] s τ (k s)) : ∀ (fu : Nat) (x1 : Int32) (s0 : hp_I), dn_D G M 3 0 0 (cl_M G M (ci_h τ)) 2 [(0, .ref (wd_b G + a0)), (1, .int x1)] [] s0 τ (fn_Slip_clear_L2 a0 k fu x1 s0) := by
  intro fu
  induction fu with
  | zero => exact fun x1 s0 => dn_none
  | succ fu ih =>
    intro x1 s0
    unfold fn_Slip_clear_L2
    refine dn_iload_n C dX7_clear_2 rfl 1 rfl rfl ?_
    refine dn_bipush C dX7_clear_3 ic_b_8 rfl ?_
    refine dn_icmp_ge (t := 45) C dX7_clear_5 (by decide) rfl ?_ ?_
    · refine dn_aload_n C dX7_clear_8 rfl 0 rfl rfl ?_
      refine dn_getI C fd_X7_18 ha0 dX7_clear_9 rfl ?_
      refine dn_istore_n (lv0 := [(0, .ref (wd_b G + a0)), (1, .int x1)]) C dX7_clear_12 rfl (by decide) rfl rfl (fun v2_2 => ?_)
      refine dn_pick [1, 2, 0] rfl ?_
      refine pf_Slip_clear_L13  C  a0 ha0 x1  τ _ (fun s_5 => ?_) FU v2_2 s0
      refine dn_iinc (lv0 := [(0, .ref (wd_b G + a0))]) (v := x1 + 1) C dX7_clear_39 1 rfl rfl (by decide) rfl rfl (fun v1_6 => ?_)
      refine dn_goto (t := 2) C dX7_clear_42 (by decide) ?_
      refine dn_pick [1, 0] rfl ?_
      exact ih v1_6 s_5
    · refine dn_pick [0] rfl ?_
      exact hk s0
set_option maxHeartbeats 4000000 in
set_option maxRecDepth 100000 in
theorem ok_Slip_clear {G : wd_G} {l : Launch} (hN : gd_ok G)  (o : Nat) (ho : sh_kd o = 7) (σ : hp_I) (τ : hp_L) : cl_C G l 0 yX7_clear cX7_clear 3 none [.ref (wd_b G + o)] σ τ (ci_h τ) (fn_Slip_clear o σ) := by
  refine cl_of (lv0 := [(0, .ref (wd_b G + o))]) (ci_h τ) (by decide) (Nat.le_of_ble_eq_true rfl) rfl hN (fun M hM C => ?_)
  have C : cx_C G M RX7 cX7_clear 3 0 none := C
  unfold fn_Slip_clear
  refine dn_iconst C dX7_clear_0 ic_i_0 rfl ?_
  refine dn_istore_n (lv0 := [(0, .ref (wd_b G + o))]) C dX7_clear_1 rfl (by decide) rfl rfl (fun v1_1 => ?_)
  refine dn_pick [1, 0] rfl ?_
  refine pf_Slip_clear_L2  C  o ho  τ _ (fun s_7 => ?_) FU v1_1 σ
  refine dn_aload_n C dX7_clear_45 rfl 0 rfl rfl ?_
  refine dn_bipush C dX7_clear_46 ic_b_32 rfl ?_
  refine dn_putI C fp_X7_18 ho dX7_clear_48 rfl (fun s8 => ?_)
  refine dn_aload_n C dX7_clear_51 rfl 0 rfl rfl ?_
  refine dn_iconst C dX7_clear_52 ic_i_m1 rfl ?_
  refine dn_putI C fp_X7_22 ho dX7_clear_53 rfl (fun s9 => ?_)
  exact dn_vret C dX7_clear_56 rfl
def fn_Slip_hasAny_L5  (a0 : Nat) (a1 : Int32) (σ : hp_I) (k : Option (Int32)) : Nat → Int32 → Option (Int32)
  | 0, _ => none
  | fu + 1, x2 =>
    if x2 ≤ (σ a0 8) then (
      Option.bind (px_ald σ (sh_rf a0 2) ((a1 * (32 : Int32)) + x2)) fun z2 =>
      if z2 = 0 then (
        px_let (x2 + 1) fun v2_3 =>
        fn_Slip_hasAny_L5 a0 a1 σ k fu v2_3
      ) else (
        px_z (1 : Int32) (1 : Int32)
      )
    ) else (
      k
    )
def fn_Slip_hasAny  (o : Nat) (p1 : Int32) (σ : hp_I) : Option (Int32) :=
  px_let (σ o 7) fun v2_1 =>
  fn_Slip_hasAny_L5 o p1 σ
    (
      px_z (0 : Int32) (0 : Int32)
    )
    FU v2_1
set_option maxHeartbeats 4000000 in
set_option maxRecDepth 100000 in
theorem pf_Slip_hasAny_L5 {G : wd_G} {M : wd_M}  (C : cx_C G M RX7 cX7_hasAny 3 0 (some .boolean)) (a0 : Nat) (ha0 : sh_kd a0 = 7) (a1 : Int32) (σ : hp_I) (τ : hp_L) (k : Option (Int32)) (hk : dn_D G M 3 0 0 (cl_M G M (ci_i σ τ)) 35 [] [] σ τ k) : ∀ (fu : Nat) (x2 : Int32), dn_D G M 3 0 0 (cl_M G M (ci_i σ τ)) 5 [(0, .ref (wd_b G + a0)), (1, .int a1), (2, .int x2)] [] σ τ (fn_Slip_hasAny_L5 a0 a1 σ k fu x2) := by
  intro fu
  induction fu with
  | zero => exact fun x2 => dn_none
  | succ fu ih =>
    intro x2
    unfold fn_Slip_hasAny_L5
    refine dn_iload_n C dX7_hasAny_5 rfl 2 rfl rfl ?_
    refine dn_aload_n C dX7_hasAny_6 rfl 0 rfl rfl ?_
    refine dn_getI C fd_X7_22 ha0 dX7_hasAny_7 rfl ?_
    refine dn_icmp_gt (t := 35) C dX7_hasAny_10 (by decide) rfl ?_ ?_
    · refine dn_aload_n C dX7_hasAny_13 rfl 0 rfl rfl ?_
      refine dn_getR C fd_X7_11 ha0 dX7_hasAny_14 rfl ?_
      refine dn_iload_n C dX7_hasAny_17 rfl 1 rfl rfl ?_
      refine dn_bipush C dX7_hasAny_18 ic_b_32 rfl ?_
      refine dn_imul C dX7_hasAny_20 rfl ?_
      refine dn_iload_n C dX7_hasAny_21 rfl 2 rfl rfl ?_
      refine dn_iadd C dX7_hasAny_22 rfl ?_
      refine dn_iald C (kt_7_2 ha0) dX7_hasAny_23 rfl (fun z2 => ?_)
      refine dn_if_eq (t := 29) C dX7_hasAny_24 (by decide) rfl ?_ ?_
      · refine dn_iinc (lv0 := [(0, .ref (wd_b G + a0)), (1, .int a1)]) (v := x2 + 1) C dX7_hasAny_29 2 rfl rfl (by decide) rfl rfl (fun v2_3 => ?_)
        refine dn_goto (t := 5) C dX7_hasAny_32 (by decide) ?_
        refine dn_pick [1, 2, 0] rfl ?_
        exact ih v2_3
      · refine dn_iconst C dX7_hasAny_27 ic_i_1 rfl ?_
        exact dn_zret C dX7_hasAny_28 rfl
    · refine dn_pick [] rfl ?_
      exact hk
set_option maxHeartbeats 4000000 in
set_option maxRecDepth 100000 in
theorem ok_Slip_hasAny {G : wd_G} {l : Launch} (hN : gd_ok G)  (o : Nat) (ho : sh_kd o = 7) (p1 : Int32) (σ : hp_I) (τ : hp_L) : cl_C G l 0 yX7_hasAny cX7_hasAny 3 (some .boolean) [.ref (wd_b G + o), .int p1] σ τ (ci_i σ τ) (fn_Slip_hasAny o p1 σ) := by
  refine cl_of (lv0 := [(0, .ref (wd_b G + o)), (1, .int p1)]) (ci_i σ τ) (by decide) (Nat.le_of_ble_eq_true rfl) rfl hN (fun M hM C => ?_)
  have C : cx_C G M RX7 cX7_hasAny 3 0 (some .boolean) := C
  unfold fn_Slip_hasAny
  refine dn_aload_n C dX7_hasAny_0 rfl 0 rfl rfl ?_
  refine dn_getI C fd_X7_18 ho dX7_hasAny_1 rfl ?_
  refine dn_istore_n (lv0 := [(0, .ref (wd_b G + o)), (1, .int p1)]) C dX7_hasAny_4 rfl (by decide) rfl rfl (fun v2_1 => ?_)
  refine dn_pick [1, 2, 0] rfl ?_
  refine pf_Slip_hasAny_L5  C  o ho p1 σ τ _ ?_ FU v2_1
  refine dn_iconst C dX7_hasAny_35 ic_i_0 rfl ?_
  exact dn_zret C dX7_hasAny_36 rfl
def fn_Steps_begin  (o : Nat) (σ : hp_I) : Option (hp_I) :=
  px_let (hp_s σ o 5 (0 : Int32)) fun s1 =>
  px_let (hp_s s1 o 6 (0 : Int32)) fun s2 =>
  px_let (hp_s s2 o 7 (0 : Int32)) fun s3 =>
  some s3
set_option maxHeartbeats 4000000 in
set_option maxRecDepth 100000 in
theorem ok_Steps_begin {G : wd_G} {l : Launch} (hN : gd_ok G)  (o : Nat) (ho : sh_kd o = 9) (σ : hp_I) (τ : hp_L) : cl_C G l 0 yX9_begin cX9_begin 1 none [.ref (wd_b G + o)] σ τ (ci_h τ) (fn_Steps_begin o σ) := by
  refine cl_of (lv0 := [(0, .ref (wd_b G + o))]) (ci_h τ) (by decide) (Nat.le_of_ble_eq_true rfl) rfl hN (fun M hM C => ?_)
  have C : cx_C G M RX9 cX9_begin 1 0 none := C
  unfold fn_Steps_begin
  refine dn_aload_n C dX9_begin_0 rfl 0 rfl rfl ?_
  refine dn_iconst C dX9_begin_1 ic_i_0 rfl ?_
  refine dn_putI C fp_X9_97 ho dX9_begin_2 rfl (fun s1 => ?_)
  refine dn_aload_n C dX9_begin_5 rfl 0 rfl rfl ?_
  refine dn_iconst C dX9_begin_6 ic_i_0 rfl ?_
  refine dn_putI C fp_X9_100 ho dX9_begin_7 rfl (fun s2 => ?_)
  refine dn_aload_n C dX9_begin_10 rfl 0 rfl rfl ?_
  refine dn_iconst C dX9_begin_11 ic_i_0 rfl ?_
  refine dn_putI C fp_X9_103 ho dX9_begin_12 rfl (fun s3 => ?_)
  exact dn_vret C dX9_begin_15 rfl
def fn_Steps_many  (o : Nat) (σ : hp_I) : Option (Int32) :=
  some (σ o 4)
set_option maxHeartbeats 4000000 in
set_option maxRecDepth 100000 in
theorem ok_Steps_many {G : wd_G} {l : Launch} (hN : gd_ok G)  (o : Nat) (ho : sh_kd o = 9) (σ : hp_I) (τ : hp_L) : cl_C G l 0 yX9_many cX9_many 1 (some .int) [.ref (wd_b G + o)] σ τ (ci_i σ τ) (fn_Steps_many o σ) := by
  refine cl_of (lv0 := [(0, .ref (wd_b G + o))]) (ci_i σ τ) (by decide) (Nat.le_of_ble_eq_true rfl) rfl hN (fun M hM C => ?_)
  have C : cx_C G M RX9 cX9_many 1 0 (some .int) := C
  unfold fn_Steps_many
  refine dn_aload_n C dX9_many_0 rfl 0 rfl rfl ?_
  refine dn_getI C fd_X9_24 ho dX9_many_1 rfl ?_
  exact dn_iret C dX9_many_4 rfl
def fn_Steps_put  (o : Nat) (p1 : Int32) (p2 : Int32) (p3 : Int32) (σ : hp_I) : Option (hp_I) :=
  px_jn (fun (s1 : hp_I) =>
    some s1
  ) fun j2 =>
    if (σ o 4) < (25 : Int32) then (
      Option.bind (px_ast σ (sh_rf o 0) (σ o 4) p1) fun s3 =>
      Option.bind (px_ast s3 (sh_rf o 1) (s3 o 4) p2) fun s4 =>
      Option.bind (px_ast s4 (sh_rf o 2) (s4 o 4) p3) fun s5 =>
      px_let (hp_s s5 o 4 ((s5 o 4) + (1 : Int32))) fun s6 =>
      Option.bind (px_ast s6 (sh_rf o 3) ((s6 o 4) - (1 : Int32)) (s6 o 4)) fun s7 =>
      j2 s7
    ) else (
      j2 σ
    )
set_option maxHeartbeats 4000000 in
set_option maxRecDepth 100000 in
theorem ok_Steps_put {G : wd_G} {l : Launch} (hN : gd_ok G)  (o : Nat) (ho : sh_kd o = 9) (p1 : Int32) (p2 : Int32) (p3 : Int32) (σ : hp_I) (τ : hp_L) : cl_C G l 0 yX9_put cX9_put 4 none [.ref (wd_b G + o), .int p1, .int p2, .int p3] σ τ (ci_h τ) (fn_Steps_put o p1 p2 p3 σ) := by
  refine cl_of (lv0 := [(0, .ref (wd_b G + o)), (1, .int p1), (2, .int p2), (3, .int p3)]) (ci_h τ) (by decide) (Nat.le_of_ble_eq_true rfl) rfl hN (fun M hM C => ?_)
  have C : cx_C G M RX9 cX9_put 4 0 none := C
  unfold fn_Steps_put
  refine dn_aload_n C dX9_put_0 rfl 0 rfl rfl ?_
  refine dn_getI C fd_X9_24 ho dX9_put_1 rfl ?_
  refine dn_bipush C dX9_put_4 ic_b_25 rfl ?_
  refine dn_jn (fun z => ∀ (s1 : hp_I), dn_D G M 4 0 0 (cl_M G M (ci_h τ)) 64 [] [] s1 τ (z s1)) (fun s1 => ?_) (fun j2 hj2 => ?_)
  · exact dn_vret C dX9_put_64 rfl
  · refine dn_icmp_ge (t := 64) C dX9_put_6 (by decide) rfl ?_ ?_
    · refine dn_aload_n C dX9_put_9 rfl 0 rfl rfl ?_
      refine dn_getR C fd_X9_11 ho dX9_put_10 rfl ?_
      refine dn_aload_n C dX9_put_13 rfl 0 rfl rfl ?_
      refine dn_getI C fd_X9_24 ho dX9_put_14 rfl ?_
      refine dn_iload_n C dX9_put_17 rfl 1 rfl rfl ?_
      refine dn_iast C (kt_9_0 ho) dX9_put_18 rfl (fun s3 => ?_)
      refine dn_aload_n C dX9_put_19 rfl 0 rfl rfl ?_
      refine dn_getR C fd_X9_15 ho dX9_put_20 rfl ?_
      refine dn_aload_n C dX9_put_23 rfl 0 rfl rfl ?_
      refine dn_getI C fd_X9_24 ho dX9_put_24 rfl ?_
      refine dn_iload_n C dX9_put_27 rfl 2 rfl rfl ?_
      refine dn_iast C (kt_9_1 ho) dX9_put_28 rfl (fun s4 => ?_)
      refine dn_aload_n C dX9_put_29 rfl 0 rfl rfl ?_
      refine dn_getR C fd_X9_18 ho dX9_put_30 rfl ?_
      refine dn_aload_n C dX9_put_33 rfl 0 rfl rfl ?_
      refine dn_getI C fd_X9_24 ho dX9_put_34 rfl ?_
      refine dn_iload_n C dX9_put_37 rfl 3 rfl rfl ?_
      refine dn_iast C (kt_9_2 ho) dX9_put_38 rfl (fun s5 => ?_)
      refine dn_aload_n C dX9_put_39 rfl 0 rfl rfl ?_
      refine dn_dup C dX9_put_40 rfl rfl ?_
      refine dn_getI C fd_X9_24 ho dX9_put_41 rfl ?_
      refine dn_iconst C dX9_put_44 ic_i_1 rfl ?_
      refine dn_iadd C dX9_put_45 rfl ?_
      refine dn_putI C fp_X9_24 ho dX9_put_46 rfl (fun s6 => ?_)
      refine dn_aload_n C dX9_put_49 rfl 0 rfl rfl ?_
      refine dn_getR C fd_X9_21 ho dX9_put_50 rfl ?_
      refine dn_aload_n C dX9_put_53 rfl 0 rfl rfl ?_
      refine dn_getI C fd_X9_24 ho dX9_put_54 rfl ?_
      refine dn_iconst C dX9_put_57 ic_i_1 rfl ?_
      refine dn_isub C dX9_put_58 rfl ?_
      refine dn_aload_n C dX9_put_59 rfl 0 rfl rfl ?_
      refine dn_getI C fd_X9_24 ho dX9_put_60 rfl ?_
      refine dn_iast C (kt_9_3 ho) dX9_put_63 rfl (fun s7 => ?_)
      refine dn_pick [] rfl ?_
      exact hj2 s7
    · refine dn_pick [] rfl ?_
      exact hj2 σ
def fn_Book_many  (o : Nat) (σ : hp_I) : Option (Int32) :=
  Option.bind (fn_J6_bitCount_0f7a4 (σ o 0)) fun z1 =>
  some z1
set_option maxHeartbeats 4000000 in
set_option maxRecDepth 100000 in
theorem ok_Book_many {G : wd_G} {l : Launch} (hN : gd_ok G)  (o : Nat) (ho : sh_kd o = 0) (σ : hp_I) (τ : hp_L) : cl_C G l 1 yX0_many cX0_many 1 (some .int) [.ref (wd_b G + o)] σ τ (ci_i σ τ) (fn_Book_many o σ) := by
  refine cl_of (lv0 := [(0, .ref (wd_b G + o))]) (ci_i σ τ) (by decide) (Nat.le_of_ble_eq_true rfl) rfl hN (fun M hM C => ?_)
  have C : cx_C G M RX0 cX0_many 1 1 (some .int) := C
  unfold fn_Book_many
  refine dn_aload_n C dX0_many_0 rfl 0 rfl rfl ?_
  refine dn_getI C fd_X0_9 ho dX0_many_1 rfl ?_
  refine dn_callS_i (As := [.int (σ o 0)]) (st := []) C (ok_J6_bitCount_0f7a4 (cx_g C) (σ o 0) σ τ) mt_J6_bitCount_0f7a4 ms_J6_bitCount_0f7a4 lk_X0_38 (by decide) rfl ⟨Nat.zero_le _, Nat.zero_le _⟩ (Nat.le_of_ble_eq_true rfl) dX0_many_4 rfl rfl (fun z1 => ?_)
  exact dn_iret C dX0_many_7 rfl
def fn_Tape_failLatestNumber  (o : Nat) (σ : hp_I) : Option (hp_I) :=
  Option.bind (fn_Tape_fail o (2 : Int32) (σ o 6) σ) fun s2 =>
  some s2
set_option maxHeartbeats 4000000 in
set_option maxRecDepth 100000 in
theorem ok_Tape_failLatestNumber {G : wd_G} {l : Launch} (hN : gd_ok G)  (o : Nat) (ho : sh_kd o = 10) (σ : hp_I) (τ : hp_L) : cl_C G l 1 yX10_failLatestNumber cX10_failLatestNumber 1 none [.ref (wd_b G + o)] σ τ (ci_h τ) (fn_Tape_failLatestNumber o σ) := by
  refine cl_of (lv0 := [(0, .ref (wd_b G + o))]) (ci_h τ) (by decide) (Nat.le_of_ble_eq_true rfl) rfl hN (fun M hM C => ?_)
  have C : cx_C G M RX10 cX10_failLatestNumber 1 1 none := C
  unfold fn_Tape_failLatestNumber
  refine dn_aload_n C dX10_failLatestNumber_0 rfl 0 rfl rfl ?_
  refine dn_iconst C dX10_failLatestNumber_1 ic_i_2 rfl ?_
  refine dn_aload_n C dX10_failLatestNumber_2 rfl 0 rfl rfl ?_
  refine dn_getI C fd_X10_61 ho dX10_failLatestNumber_3 rfl ?_
  refine dn_callV_h (As := [.int (2 : Int32), .int (σ o 6)]) (st := []) C (ok_Tape_fail (cx_g C) o ho (2 : Int32) (σ o 6) σ τ) mt_X10_fail mv_X10_fail lk_X10_53 (by decide) ho rfl ⟨Nat.zero_le _, Nat.zero_le _⟩ (Nat.le_of_ble_eq_true rfl) dX10_failLatestNumber_6 rfl rfl (fun s2 => ?_)
  exact dn_vret C dX10_failLatestNumber_9 rfl
def fn_Tape_number_L16  (a0 : Nat) (a1 : Int32) (a2 : Int32) (σ : hp_I) (k : Int32 → Int32 → Option (Int32 × hp_I)) : Nat → Int32 → Int32 → Option (Int32 × hp_I)
  | 0, _, _ => none
  | fu + 1, x3, x4 =>
    if x4 < (σ a0 2) then (
      Option.bind (fn_Tape_isDigit a0 x4 σ) fun z4 =>
      if z4 = 0 then (
        k x3 x4
      ) else (
        Option.bind (px_ald σ (sh_rf a0 0) x4) fun z5 =>
        px_let (px_min (((x3 * (10 : Int32)) + z5) - (48 : Int32)) (100000 : Int32)) fun v3_6 =>
        px_let (x4 + 1) fun v4_7 =>
        fn_Tape_number_L16 a0 a1 a2 σ k fu v3_6 v4_7
      )
    ) else (
      k x3 x4
    )
def fn_Tape_number  (o : Nat) (p1 : Int32) (p2 : Int32) (σ : hp_I) : Option (Int32 × hp_I) :=
  px_let (hp_s σ o 6 (σ o 3)) fun s1 =>
  px_let (0 : Int32) fun v3_2 =>
  px_let (s1 o 3) fun v4_3 =>
  fn_Tape_number_L16 o p1 p2 s1
    (fun (y_8 : Int32) (y_9 : Int32) =>
      px_jn (fun (s10 : hp_I) =>
        Option.bind (fn_Tape_moveTo o y_9 s10) fun s12 =>
        some (y_8, s12)
      ) fun j13 =>
        if y_9 = (s1 o 6) then (
          Option.bind (fn_Tape_fail o (1 : Int32) (s1 o 6) s1) fun s15 =>
          j13 s15
        ) else (
          px_jn (
            Option.bind (fn_Tape_fail o (2 : Int32) (s1 o 6) s1) fun s17 =>
            j13 s17
          ) fun j18 =>
            if p1 ≤ y_8 then (
              if p2 < y_8 then (
                j18
              ) else (
                j13 s1
              )
            ) else (
              j18
            )
        )
    )
    FU v3_2 v4_3
set_option maxHeartbeats 4000000 in
set_option maxRecDepth 100000 in
theorem pf_Tape_number_L16 {G : wd_G} {M : wd_M}  (C : cx_C G M RX10 cX10_number 5 1 (some .int)) (a0 : Nat) (ha0 : sh_kd a0 = 10) (a1 : Int32) (a2 : Int32) (σ : hp_I) (τ : hp_L) (k : Int32 → Int32 → Option (Int32 × hp_I)) (hk : ∀ (y3 : Int32) (y4 : Int32), dn_D G M 5 0 0 (cl_M G M (ci_ih τ)) 61 [(0, .ref (wd_b G + a0)), (1, .int a1), (2, .int a2), (3, .int y3), (4, .int y4)] [] σ τ (k y3 y4)) : ∀ (fu : Nat) (x3 : Int32) (x4 : Int32), dn_D G M 5 0 0 (cl_M G M (ci_ih τ)) 16 [(0, .ref (wd_b G + a0)), (1, .int a1), (2, .int a2), (3, .int x3), (4, .int x4)] [] σ τ (fn_Tape_number_L16 a0 a1 a2 σ k fu x3 x4) := by
  intro fu
  induction fu with
  | zero => exact fun x3 x4 => dn_none
  | succ fu ih =>
    intro x3 x4
    unfold fn_Tape_number_L16
    refine dn_iload C dX10_number_16 4 rfl rfl ?_
    refine dn_aload_n C dX10_number_18 rfl 0 rfl rfl ?_
    refine dn_getI C fd_X10_28 ha0 dX10_number_19 rfl ?_
    refine dn_icmp_ge (t := 61) C dX10_number_22 (by decide) rfl ?_ ?_
    · refine dn_aload_n C dX10_number_25 rfl 0 rfl rfl ?_
      refine dn_iload C dX10_number_26 4 rfl rfl ?_
      refine dn_callV_i (As := [.int x4]) (st := []) C (ok_Tape_isDigit (cx_g C) a0 ha0 x4 σ τ) mt_X10_isDigit mv_X10_isDigit lk_X10_57 (by decide) ha0 rfl ⟨Nat.zero_le _, Nat.zero_le _⟩ (Nat.le_of_ble_eq_true rfl) dX10_number_28 rfl rfl (fun z4 => ?_)
      refine dn_if_eq (t := 61) C dX10_number_31 (by decide) rfl ?_ ?_
      · exact hk x3 x4
      · refine dn_iload_n C dX10_number_34 rfl 3 rfl rfl ?_
        refine dn_bipush C dX10_number_35 ic_b_10 rfl ?_
        refine dn_imul C dX10_number_37 rfl ?_
        refine dn_aload_n C dX10_number_38 rfl 0 rfl rfl ?_
        refine dn_getR C fd_X10_9 ha0 dX10_number_39 rfl ?_
        refine dn_iload C dX10_number_42 4 rfl rfl ?_
        refine dn_iald C (kt_10_0 ha0) dX10_number_44 rfl (fun z5 => ?_)
        refine dn_iadd C dX10_number_45 rfl ?_
        refine dn_bipush C dX10_number_46 ic_b_48 rfl ?_
        refine dn_isub C dX10_number_48 rfl ?_
        refine dn_ldc C lc_X10_64 dX10_number_49 rfl ?_
        refine dn_min C mm_all lk_X10_22 (by decide) ⟨Nat.zero_le _, Nat.zero_le _⟩ (Nat.le_of_ble_eq_true rfl) dX10_number_51 rfl ?_
        refine dn_istore_n (lv0 := [(0, .ref (wd_b G + a0)), (1, .int a1), (2, .int a2), (4, .int x4)]) C dX10_number_54 rfl (by decide) rfl rfl (fun v3_6 => ?_)
        refine dn_iinc (lv0 := [(3, .int v3_6), (0, .ref (wd_b G + a0)), (1, .int a1), (2, .int a2)]) (v := x4 + 1) C dX10_number_55 4 rfl rfl (by decide) rfl rfl (fun v4_7 => ?_)
        refine dn_goto (t := 16) C dX10_number_58 (by decide) ?_
        refine dn_pick [2, 3, 4, 1, 0] rfl ?_
        exact ih v3_6 v4_7
    · exact hk x3 x4
set_option maxHeartbeats 4000000 in
set_option maxRecDepth 100000 in
theorem ok_Tape_number {G : wd_G} {l : Launch} (hN : gd_ok G)  (o : Nat) (ho : sh_kd o = 10) (p1 : Int32) (p2 : Int32) (σ : hp_I) (τ : hp_L) : cl_C G l 1 yX10_number cX10_number 5 (some .int) [.ref (wd_b G + o), .int p1, .int p2] σ τ (ci_ih τ) (fn_Tape_number o p1 p2 σ) := by
  refine cl_of (lv0 := [(0, .ref (wd_b G + o)), (1, .int p1), (2, .int p2)]) (ci_ih τ) (by decide) (Nat.le_of_ble_eq_true rfl) rfl hN (fun M hM C => ?_)
  have C : cx_C G M RX10 cX10_number 5 1 (some .int) := C
  unfold fn_Tape_number
  refine dn_aload_n C dX10_number_0 rfl 0 rfl rfl ?_
  refine dn_aload_n C dX10_number_1 rfl 0 rfl rfl ?_
  refine dn_getI C fd_X10_38 ho dX10_number_2 rfl ?_
  refine dn_putI C fp_X10_61 ho dX10_number_5 rfl (fun s1 => ?_)
  refine dn_iconst C dX10_number_8 ic_i_0 rfl ?_
  refine dn_istore_n (lv0 := [(0, .ref (wd_b G + o)), (1, .int p1), (2, .int p2)]) C dX10_number_9 rfl (by decide) rfl rfl (fun v3_2 => ?_)
  refine dn_aload_n C dX10_number_10 rfl 1 rfl rfl ?_
  refine dn_getI C fd_X10_38 ho dX10_number_11 rfl ?_
  refine dn_istore (lv0 := [(3, .int v3_2), (0, .ref (wd_b G + o)), (1, .int p1), (2, .int p2)]) C dX10_number_14 (by decide) rfl rfl (fun v4_3 => ?_)
  refine dn_pick [2, 3, 4, 1, 0] rfl ?_
  refine pf_Tape_number_L16  C  o ho p1 p2 s1 τ _ (fun y_8 y_9 => ?_) FU v3_2 v4_3
  refine dn_iload C dX10_number_61 4 rfl rfl ?_
  refine dn_aload_n C dX10_number_63 rfl 0 rfl rfl ?_
  refine dn_getI C fd_X10_61 ho dX10_number_64 rfl ?_
  refine dn_jn (fun z => ∀ (s10 : hp_I), dn_D G M 5 0 0 (cl_M G M (ci_ih τ)) 101 [(0, .ref (wd_b G + o)), (3, .int y_8), (4, .int y_9)] [] s10 τ (z s10)) (fun s10 => ?_) (fun j13 hj13 => ?_)
  · refine dn_aload_n C dX10_number_101 rfl 0 rfl rfl ?_
    refine dn_iload C dX10_number_102 2 rfl rfl ?_
    refine dn_callV_h (As := [.int y_9]) (st := []) C (ok_Tape_moveTo (cx_g C) o ho y_9 s10 τ) mt_X10_moveTo mv_X10_moveTo lk_X10_34 (by decide) ho rfl ⟨Nat.zero_le _, Nat.zero_le _⟩ (Nat.le_of_ble_eq_true rfl) dX10_number_104 rfl rfl (fun s12 => ?_)
    refine dn_iload_n C dX10_number_107 rfl 1 rfl rfl ?_
    exact dn_iret C dX10_number_108 rfl
  · refine dn_icmp_ne (t := 82) C dX10_number_67 (by decide) rfl ?_ ?_
    · refine dn_aload_n C dX10_number_70 rfl 0 rfl rfl ?_
      refine dn_iconst C dX10_number_71 ic_i_1 rfl ?_
      refine dn_aload_n C dX10_number_72 rfl 0 rfl rfl ?_
      refine dn_getI C fd_X10_61 ho dX10_number_73 rfl ?_
      refine dn_callV_h (As := [.int (1 : Int32), .int (s1 o 6)]) (st := []) C (ok_Tape_fail (cx_g C) o ho (1 : Int32) (s1 o 6) s1 τ) mt_X10_fail mv_X10_fail lk_X10_53 (by decide) ho rfl ⟨Nat.zero_le _, Nat.zero_le _⟩ (Nat.le_of_ble_eq_true rfl) dX10_number_76 rfl rfl (fun s15 => ?_)
      refine dn_goto (t := 101) C dX10_number_79 (by decide) ?_
      refine dn_pick [0, 3, 4] rfl ?_
      exact hj13 s15
    · refine dn_iload_n C dX10_number_82 rfl 3 rfl rfl ?_
      refine dn_iload_n C dX10_number_83 rfl 1 rfl rfl ?_
      refine dn_jn (fun z => dn_D G M 5 0 0 (cl_M G M (ci_ih τ)) 92 [(0, .ref (wd_b G + o)), (3, .int y_8), (4, .int y_9)] [] s1 τ z) ?_ (fun j18 hj18 => ?_)
      · refine dn_aload_n C dX10_number_92 rfl 0 rfl rfl ?_
        refine dn_iconst C dX10_number_93 ic_i_2 rfl ?_
        refine dn_aload_n C dX10_number_94 rfl 0 rfl rfl ?_
        refine dn_getI C fd_X10_61 ho dX10_number_95 rfl ?_
        refine dn_callV_h (As := [.int (2 : Int32), .int (s1 o 6)]) (st := []) C (ok_Tape_fail (cx_g C) o ho (2 : Int32) (s1 o 6) s1 τ) mt_X10_fail mv_X10_fail lk_X10_53 (by decide) ho rfl ⟨Nat.zero_le _, Nat.zero_le _⟩ (Nat.le_of_ble_eq_true rfl) dX10_number_98 rfl rfl (fun s17 => ?_)
        exact hj13 s17
      · refine dn_icmp_lt (t := 92) C dX10_number_84 (by decide) rfl ?_ ?_
        · refine dn_iload_n C dX10_number_87 rfl 3 rfl rfl ?_
          refine dn_iload_n C dX10_number_88 rfl 2 rfl rfl ?_
          refine dn_icmp_le (t := 101) C dX10_number_89 (by decide) rfl ?_ ?_
          · refine dn_pick [0, 3, 4] rfl ?_
            exact hj18
          · refine dn_pick [0, 3, 4] rfl ?_
            exact hj13 s1
        · refine dn_pick [0, 3, 4] rfl ?_
          exact hj18
def fn_Tape_numberIsNext  (o : Nat) (σ : hp_I) : Option (Int32) :=
  Option.bind (fn_Tape_isDigit o (σ o 3) σ) fun z1 =>
  px_z z1 z1
set_option maxHeartbeats 4000000 in
set_option maxRecDepth 100000 in
theorem ok_Tape_numberIsNext {G : wd_G} {l : Launch} (hN : gd_ok G)  (o : Nat) (ho : sh_kd o = 10) (σ : hp_I) (τ : hp_L) : cl_C G l 1 yX10_numberIsNext cX10_numberIsNext 1 (some .boolean) [.ref (wd_b G + o)] σ τ (ci_i σ τ) (fn_Tape_numberIsNext o σ) := by
  refine cl_of (lv0 := [(0, .ref (wd_b G + o))]) (ci_i σ τ) (by decide) (Nat.le_of_ble_eq_true rfl) rfl hN (fun M hM C => ?_)
  have C : cx_C G M RX10 cX10_numberIsNext 1 1 (some .boolean) := C
  unfold fn_Tape_numberIsNext
  refine dn_aload_n C dX10_numberIsNext_0 rfl 0 rfl rfl ?_
  refine dn_aload_n C dX10_numberIsNext_1 rfl 0 rfl rfl ?_
  refine dn_getI C fd_X10_38 ho dX10_numberIsNext_2 rfl ?_
  refine dn_callV_i (As := [.int (σ o 3)]) (st := []) C (ok_Tape_isDigit (cx_g C) o ho (σ o 3) σ τ) mt_X10_isDigit mv_X10_isDigit lk_X10_57 (by decide) ho rfl ⟨Nat.zero_le _, Nat.zero_le _⟩ (Nat.le_of_ble_eq_true rfl) dX10_numberIsNext_5 rfl rfl (fun z1 => ?_)
  exact dn_zret C dX10_numberIsNext_8 rfl
def fn_Tape_open  (o : Nat) (p1 : Int32) (σ : hp_I) : Option (hp_I) :=
  px_let (hp_s σ o 2 (px_min p1 (σ o 1))) fun s1 =>
  px_let (hp_s s1 o 1 (0 : Int32)) fun s2 =>
  px_let (hp_s s2 o 4 (0 : Int32)) fun s3 =>
  px_let (hp_s s3 o 5 (-1 : Int32)) fun s4 =>
  Option.bind (fn_Tape_moveTo o (0 : Int32) s4) fun s6 =>
  some s6
set_option maxHeartbeats 4000000 in
set_option maxRecDepth 100000 in
theorem ok_Tape_open {G : wd_G} {l : Launch} (hN : gd_ok G)  (o : Nat) (ho : sh_kd o = 10) (p1 : Int32) (σ : hp_I) (τ : hp_L) : cl_C G l 1 yX10_open cX10_open 2 none [.ref (wd_b G + o), .int p1] σ τ (ci_h τ) (fn_Tape_open o p1 σ) := by
  refine cl_of (lv0 := [(0, .ref (wd_b G + o)), (1, .int p1)]) (ci_h τ) (by decide) (Nat.le_of_ble_eq_true rfl) rfl hN (fun M hM C => ?_)
  have C : cx_C G M RX10 cX10_open 2 1 none := C
  unfold fn_Tape_open
  refine dn_aload_n C dX10_open_0 rfl 0 rfl rfl ?_
  refine dn_iload_n C dX10_open_1 rfl 1 rfl rfl ?_
  refine dn_aload_n C dX10_open_2 rfl 0 rfl rfl ?_
  refine dn_getI C fd_X10_19 ho dX10_open_3 rfl ?_
  refine dn_min C mm_all lk_X10_22 (by decide) ⟨Nat.zero_le _, Nat.zero_le _⟩ (Nat.le_of_ble_eq_true rfl) dX10_open_6 rfl ?_
  refine dn_putI C fp_X10_28 ho dX10_open_9 rfl (fun s1 => ?_)
  refine dn_aload_n C dX10_open_12 rfl 0 rfl rfl ?_
  refine dn_iconst C dX10_open_13 ic_i_0 rfl ?_
  refine dn_putI C fp_X10_19 ho dX10_open_14 rfl (fun s2 => ?_)
  refine dn_aload_n C dX10_open_17 rfl 0 rfl rfl ?_
  refine dn_iconst C dX10_open_18 ic_i_0 rfl ?_
  refine dn_putI C fp_X10_31 ho dX10_open_19 rfl (fun s3 => ?_)
  refine dn_aload_n C dX10_open_22 rfl 0 rfl rfl ?_
  refine dn_iconst C dX10_open_23 ic_i_m1 rfl ?_
  refine dn_putI C fp_X10_15 ho dX10_open_24 rfl (fun s4 => ?_)
  refine dn_aload_n C dX10_open_27 rfl 0 rfl rfl ?_
  refine dn_iconst C dX10_open_28 ic_i_0 rfl ?_
  refine dn_callV_h (As := [.int (0 : Int32)]) (st := []) C (ok_Tape_moveTo (cx_g C) o ho (0 : Int32) s4 τ) mt_X10_moveTo mv_X10_moveTo lk_X10_34 (by decide) ho rfl ⟨Nat.zero_le _, Nat.zero_le _⟩ (Nat.le_of_ble_eq_true rfl) dX10_open_29 rfl rfl (fun s6 => ?_)
  exact dn_vret C dX10_open_32 rfl
def fn_Tape_peek  (o : Nat) (σ : hp_I) : Option (Int32) :=
  Option.bind (fn_Tape_isOver o σ) fun z1 =>
  px_jn (fun (t2 : Int32) =>
    some t2
  ) fun j3 =>
    if z1 = 0 then (
      Option.bind (px_ald σ (sh_rf o 0) (σ o 3)) fun z4 =>
      j3 z4
    ) else (
      j3 (-1 : Int32)
    )
set_option maxHeartbeats 4000000 in
set_option maxRecDepth 100000 in
theorem ok_Tape_peek {G : wd_G} {l : Launch} (hN : gd_ok G)  (o : Nat) (ho : sh_kd o = 10) (σ : hp_I) (τ : hp_L) : cl_C G l 1 yX10_peek cX10_peek 1 (some .int) [.ref (wd_b G + o)] σ τ (ci_i σ τ) (fn_Tape_peek o σ) := by
  refine cl_of (lv0 := [(0, .ref (wd_b G + o))]) (ci_i σ τ) (by decide) (Nat.le_of_ble_eq_true rfl) rfl hN (fun M hM C => ?_)
  have C : cx_C G M RX10 cX10_peek 1 1 (some .int) := C
  unfold fn_Tape_peek
  refine dn_aload_n C dX10_peek_0 rfl 0 rfl rfl ?_
  refine dn_callV_i (As := []) (st := []) C (ok_Tape_isOver (cx_g C) o ho σ τ) mt_X10_isOver mv_X10_isOver lk_X10_41 (by decide) ho rfl ⟨Nat.zero_le _, Nat.zero_le _⟩ (Nat.le_of_ble_eq_true rfl) dX10_peek_1 rfl rfl (fun z1 => ?_)
  refine dn_jn (fun z => ∀ (t2 : Int32), dn_D G M 1 0 0 (cl_M G M (ci_i σ τ)) 20 [] [.int t2] σ τ (z t2)) (fun t2 => ?_) (fun j3 hj3 => ?_)
  · exact dn_iret C dX10_peek_20 rfl
  · refine dn_if_eq (t := 11) C dX10_peek_4 (by decide) rfl ?_ ?_
    · refine dn_aload_n C dX10_peek_11 rfl 0 rfl rfl ?_
      refine dn_getR C fd_X10_9 ho dX10_peek_12 rfl ?_
      refine dn_aload_n C dX10_peek_15 rfl 0 rfl rfl ?_
      refine dn_getI C fd_X10_38 ho dX10_peek_16 rfl ?_
      refine dn_iald C (kt_10_0 ho) dX10_peek_19 rfl (fun z4 => ?_)
      refine dn_pick [] rfl ?_
      exact hj3 z4
    · refine dn_iconst C dX10_peek_7 ic_i_m1 rfl ?_
      refine dn_goto (t := 20) C dX10_peek_8 (by decide) ?_
      refine dn_pick [] rfl ?_
      exact hj3 (-1 : Int32)
def fn_Chase_bestFor_L18  (a0 : Nat) (a1 : Int32) (a2 : Int32) (σ : hp_I) (k : Int32 → Option (Int32)) : Nat → Int32 → Int32 → Option (Int32)
  | 0, _, _ => none
  | fu + 1, x3, x4 =>
    if x4 < (σ (sh_rf a0 0) 2) then (
      Option.bind (fn_Chase_isFree a0 a1 x4 a2 σ) fun z4 =>
      px_jn (fun (a3_5 : Int32) =>
        px_let (x4 + 1) fun v4_6 =>
        fn_Chase_bestFor_L18 a0 a1 a2 σ k fu a3_5 v4_6
      ) fun j7 =>
        if z4 = 0 then (
          j7 x3
        ) else (
          Option.bind (fn_Chase_worth a0 a1 x4 a2 σ) fun z8 =>
          px_let (px_max x3 z8) fun v3_9 =>
          j7 v3_9
        )
    ) else (
      k x3
    )
def fn_Chase_bestFor  (o : Nat) (p1 : Int32) (p2 : Int32) (σ : hp_I) : Option (Int32) :=
  Option.bind (px_ald σ (sh_rf o 1) (((p1 + (1 : Int32)) * (256 : Int32)) + p2)) fun z1 =>
  px_let z1 fun v3_2 =>
  px_let (0 : Int32) fun v4_3 =>
  fn_Chase_bestFor_L18 o p1 p2 σ
    (fun (y_10 : Int32) =>
      some y_10
    )
    FU v3_2 v4_3
set_option maxHeartbeats 4000000 in
set_option maxRecDepth 100000 in
theorem pf_Chase_bestFor_L18 {G : wd_G} {M : wd_M}  (C : cx_C G M RX1 cX1_bestFor 5 1 (some .int)) (a0 : Nat) (ha0 : sh_kd a0 = 1) (a1 : Int32) (a2 : Int32) (σ : hp_I) (τ : hp_L) (k : Int32 → Option (Int32)) (hk : ∀ (y3 : Int32), dn_D G M 5 0 0 (cl_M G M (ci_i σ τ)) 60 [(3, .int y3)] [] σ τ (k y3)) : ∀ (fu : Nat) (x3 : Int32) (x4 : Int32), dn_D G M 5 0 0 (cl_M G M (ci_i σ τ)) 18 [(0, .ref (wd_b G + a0)), (1, .int a1), (2, .int a2), (3, .int x3), (4, .int x4)] [] σ τ (fn_Chase_bestFor_L18 a0 a1 a2 σ k fu x3 x4) := by
  intro fu
  induction fu with
  | zero => exact fun x3 x4 => dn_none
  | succ fu ih =>
    intro x3 x4
    unfold fn_Chase_bestFor_L18
    refine dn_iload C dX1_bestFor_18 4 rfl rfl ?_
    refine dn_aload_n C dX1_bestFor_20 rfl 0 rfl rfl ?_
    refine dn_getR C fd_X1_21 ha0 dX1_bestFor_21 rfl ?_
    refine dn_getI C fd_X1_35 (kt_1_0 ha0) dX1_bestFor_24 rfl ?_
    refine dn_icmp_ge (t := 60) C dX1_bestFor_27 (by decide) rfl ?_ ?_
    · refine dn_aload_n C dX1_bestFor_30 rfl 0 rfl rfl ?_
      refine dn_iload_n C dX1_bestFor_31 rfl 1 rfl rfl ?_
      refine dn_iload C dX1_bestFor_32 4 rfl rfl ?_
      refine dn_iload_n C dX1_bestFor_34 rfl 2 rfl rfl ?_
      refine dn_callV_i (As := [.int a1, .int x4, .int a2]) (st := []) C (ok_Chase_isFree (cx_g C) a0 ha0 a1 x4 a2 σ τ) mt_X1_isFree mv_X1_isFree lk_X1_73 (by decide) ha0 rfl ⟨Nat.zero_le _, Nat.zero_le _⟩ (Nat.le_of_ble_eq_true rfl) dX1_bestFor_35 rfl rfl (fun z4 => ?_)
      refine dn_jn (fun z => ∀ (a3_5 : Int32), dn_D G M 5 0 0 (cl_M G M (ci_i σ τ)) 54 [(0, .ref (wd_b G + a0)), (1, .int a1), (2, .int a2), (3, .int a3_5), (4, .int x4)] [] σ τ (z a3_5)) (fun a3_5 => ?_) (fun j7 hj7 => ?_)
      · refine dn_iinc (lv0 := [(0, .ref (wd_b G + a0)), (1, .int a1), (2, .int a2), (3, .int a3_5)]) (v := x4 + 1) C dX1_bestFor_54 4 rfl rfl (by decide) rfl rfl (fun v4_6 => ?_)
        refine dn_goto (t := 18) C dX1_bestFor_57 (by decide) ?_
        refine dn_pick [1, 2, 3, 4, 0] rfl ?_
        exact ih a3_5 v4_6
      · refine dn_if_eq (t := 54) C dX1_bestFor_38 (by decide) rfl ?_ ?_
        · exact hj7 x3
        · refine dn_iload_n C dX1_bestFor_41 rfl 3 rfl rfl ?_
          refine dn_aload_n C dX1_bestFor_42 rfl 0 rfl rfl ?_
          refine dn_iload_n C dX1_bestFor_43 rfl 1 rfl rfl ?_
          refine dn_iload C dX1_bestFor_44 4 rfl rfl ?_
          refine dn_iload_n C dX1_bestFor_46 rfl 2 rfl rfl ?_
          refine dn_callV_i (As := [.int a1, .int x4, .int a2]) (st := [.int x3]) C (ok_Chase_worth (cx_g C) a0 ha0 a1 x4 a2 σ τ) mt_X1_worth mv_X1_worth lk_X1_76 (by decide) ha0 rfl ⟨Nat.zero_le _, Nat.zero_le _⟩ (Nat.le_of_ble_eq_true rfl) dX1_bestFor_47 rfl rfl (fun z8 => ?_)
          refine dn_max C mm_all lk_X1_80 (by decide) ⟨Nat.zero_le _, Nat.zero_le _⟩ (Nat.le_of_ble_eq_true rfl) dX1_bestFor_50 rfl ?_
          refine dn_istore_n (lv0 := [(0, .ref (wd_b G + a0)), (1, .int a1), (2, .int a2), (4, .int x4)]) C dX1_bestFor_53 rfl (by decide) rfl rfl (fun v3_9 => ?_)
          refine dn_pick [1, 2, 3, 0, 4] rfl ?_
          exact hj7 v3_9
    · refine dn_pick [3] rfl ?_
      exact hk x3
set_option maxHeartbeats 4000000 in
set_option maxRecDepth 100000 in
theorem ok_Chase_bestFor {G : wd_G} {l : Launch} (hN : gd_ok G)  (o : Nat) (ho : sh_kd o = 1) (p1 : Int32) (p2 : Int32) (σ : hp_I) (τ : hp_L) : cl_C G l 1 yX1_bestFor cX1_bestFor 5 (some .int) [.ref (wd_b G + o), .int p1, .int p2] σ τ (ci_i σ τ) (fn_Chase_bestFor o p1 p2 σ) := by
  refine cl_of (lv0 := [(0, .ref (wd_b G + o)), (1, .int p1), (2, .int p2)]) (ci_i σ τ) (by decide) (Nat.le_of_ble_eq_true rfl) rfl hN (fun M hM C => ?_)
  have C : cx_C G M RX1 cX1_bestFor 5 1 (some .int) := C
  unfold fn_Chase_bestFor
  refine dn_aload_n C dX1_bestFor_0 rfl 0 rfl rfl ?_
  refine dn_getR C fd_X1_11 ho dX1_bestFor_1 rfl ?_
  refine dn_iload_n C dX1_bestFor_4 rfl 1 rfl rfl ?_
  refine dn_iconst C dX1_bestFor_5 ic_i_1 rfl ?_
  refine dn_iadd C dX1_bestFor_6 rfl ?_
  refine dn_sipush C dX1_bestFor_7 ic_s_256 rfl ?_
  refine dn_imul C dX1_bestFor_10 rfl ?_
  refine dn_iload_n C dX1_bestFor_11 rfl 2 rfl rfl ?_
  refine dn_iadd C dX1_bestFor_12 rfl ?_
  refine dn_iald C (kt_1_1 ho) dX1_bestFor_13 rfl (fun z1 => ?_)
  refine dn_istore_n (lv0 := [(0, .ref (wd_b G + o)), (1, .int p1), (2, .int p2)]) C dX1_bestFor_14 rfl (by decide) rfl rfl (fun v3_2 => ?_)
  refine dn_iconst C dX1_bestFor_15 ic_i_0 rfl ?_
  refine dn_istore (lv0 := [(3, .int v3_2), (0, .ref (wd_b G + o)), (1, .int p1), (2, .int p2)]) C dX1_bestFor_16 (by decide) rfl rfl (fun v4_3 => ?_)
  refine dn_pick [2, 3, 4, 1, 0] rfl ?_
  refine pf_Chase_bestFor_L18  C  o ho p1 p2 σ τ _ (fun y_10 => ?_) FU v3_2 v4_3
  refine dn_iload_n C dX1_bestFor_60 rfl 0 rfl rfl ?_
  exact dn_iret C dX1_bestFor_61 rfl
def fn_Chase_firstBest_L2  (a0 : Nat) (a1 : Int32) (a2 : Int32) (σ : hp_I) (k : Option (Int32)) : Nat → Int32 → Option (Int32)
  | 0, _ => none
  | fu + 1, x3 =>
    if x3 < (σ (sh_rf a0 0) 2) then (
      Option.bind (fn_Chase_isFree a0 a1 x3 a2 σ) fun z2 =>
      px_jn (
        px_let (x3 + 1) fun v3_3 =>
        fn_Chase_firstBest_L2 a0 a1 a2 σ k fu v3_3
      ) fun j4 =>
        if z2 = 0 then (
          j4
        ) else (
          Option.bind (fn_Chase_worth a0 a1 x3 a2 σ) fun z5 =>
          Option.bind (px_ald σ (sh_rf a0 1) ((a1 * (256 : Int32)) + a2)) fun z6 =>
          if z5 = z6 then (
            some x3
          ) else (
            j4
          )
        )
    ) else (
      k
    )
def fn_Chase_firstBest  (o : Nat) (p1 : Int32) (p2 : Int32) (σ : hp_I) : Option (Int32) :=
  px_let (0 : Int32) fun v3_1 =>
  fn_Chase_firstBest_L2 o p1 p2 σ
    (
      some (-1 : Int32)
    )
    FU v3_1
set_option maxHeartbeats 4000000 in
set_option maxRecDepth 100000 in
theorem pf_Chase_firstBest_L2 {G : wd_G} {M : wd_M}  (C : cx_C G M RX1 cX1_firstBest 4 1 (some .int)) (a0 : Nat) (ha0 : sh_kd a0 = 1) (a1 : Int32) (a2 : Int32) (σ : hp_I) (τ : hp_L) (k : Option (Int32)) (hk : dn_D G M 4 0 0 (cl_M G M (ci_i σ τ)) 53 [] [] σ τ k) : ∀ (fu : Nat) (x3 : Int32), dn_D G M 4 0 0 (cl_M G M (ci_i σ τ)) 2 [(0, .ref (wd_b G + a0)), (1, .int a1), (2, .int a2), (3, .int x3)] [] σ τ (fn_Chase_firstBest_L2 a0 a1 a2 σ k fu x3) := by
  intro fu
  induction fu with
  | zero => exact fun x3 => dn_none
  | succ fu ih =>
    intro x3
    unfold fn_Chase_firstBest_L2
    refine dn_iload_n C dX1_firstBest_2 rfl 3 rfl rfl ?_
    refine dn_aload_n C dX1_firstBest_3 rfl 0 rfl rfl ?_
    refine dn_getR C fd_X1_21 ha0 dX1_firstBest_4 rfl ?_
    refine dn_getI C fd_X1_35 (kt_1_0 ha0) dX1_firstBest_7 rfl ?_
    refine dn_icmp_ge (t := 53) C dX1_firstBest_10 (by decide) rfl ?_ ?_
    · refine dn_aload_n C dX1_firstBest_13 rfl 0 rfl rfl ?_
      refine dn_iload_n C dX1_firstBest_14 rfl 1 rfl rfl ?_
      refine dn_iload_n C dX1_firstBest_15 rfl 3 rfl rfl ?_
      refine dn_iload_n C dX1_firstBest_16 rfl 2 rfl rfl ?_
      refine dn_callV_i (As := [.int a1, .int x3, .int a2]) (st := []) C (ok_Chase_isFree (cx_g C) a0 ha0 a1 x3 a2 σ τ) mt_X1_isFree mv_X1_isFree lk_X1_73 (by decide) ha0 rfl ⟨Nat.zero_le _, Nat.zero_le _⟩ (Nat.le_of_ble_eq_true rfl) dX1_firstBest_17 rfl rfl (fun z2 => ?_)
      refine dn_jn (fun z => dn_D G M 4 0 0 (cl_M G M (ci_i σ τ)) 47 [(0, .ref (wd_b G + a0)), (1, .int a1), (2, .int a2), (3, .int x3)] [] σ τ z) ?_ (fun j4 hj4 => ?_)
      · refine dn_iinc (lv0 := [(0, .ref (wd_b G + a0)), (1, .int a1), (2, .int a2)]) (v := x3 + 1) C dX1_firstBest_47 3 rfl rfl (by decide) rfl rfl (fun v3_3 => ?_)
        refine dn_goto (t := 2) C dX1_firstBest_50 (by decide) ?_
        refine dn_pick [1, 2, 3, 0] rfl ?_
        exact ih v3_3
      · refine dn_if_eq (t := 47) C dX1_firstBest_20 (by decide) rfl ?_ ?_
        · exact hj4
        · refine dn_aload_n C dX1_firstBest_23 rfl 0 rfl rfl ?_
          refine dn_iload_n C dX1_firstBest_24 rfl 1 rfl rfl ?_
          refine dn_iload_n C dX1_firstBest_25 rfl 3 rfl rfl ?_
          refine dn_iload_n C dX1_firstBest_26 rfl 2 rfl rfl ?_
          refine dn_callV_i (As := [.int a1, .int x3, .int a2]) (st := []) C (ok_Chase_worth (cx_g C) a0 ha0 a1 x3 a2 σ τ) mt_X1_worth mv_X1_worth lk_X1_76 (by decide) ha0 rfl ⟨Nat.zero_le _, Nat.zero_le _⟩ (Nat.le_of_ble_eq_true rfl) dX1_firstBest_27 rfl rfl (fun z5 => ?_)
          refine dn_aload_n C dX1_firstBest_30 rfl 0 rfl rfl ?_
          refine dn_getR C fd_X1_11 ha0 dX1_firstBest_31 rfl ?_
          refine dn_iload_n C dX1_firstBest_34 rfl 1 rfl rfl ?_
          refine dn_sipush C dX1_firstBest_35 ic_s_256 rfl ?_
          refine dn_imul C dX1_firstBest_38 rfl ?_
          refine dn_iload_n C dX1_firstBest_39 rfl 2 rfl rfl ?_
          refine dn_iadd C dX1_firstBest_40 rfl ?_
          refine dn_iald C (kt_1_1 ha0) dX1_firstBest_41 rfl (fun z6 => ?_)
          refine dn_icmp_ne (t := 47) C dX1_firstBest_42 (by decide) rfl ?_ ?_
          · refine dn_iload_n C dX1_firstBest_45 rfl 3 rfl rfl ?_
            exact dn_iret C dX1_firstBest_46 rfl
          · exact hj4
    · refine dn_pick [] rfl ?_
      exact hk
set_option maxHeartbeats 4000000 in
set_option maxRecDepth 100000 in
theorem ok_Chase_firstBest {G : wd_G} {l : Launch} (hN : gd_ok G)  (o : Nat) (ho : sh_kd o = 1) (p1 : Int32) (p2 : Int32) (σ : hp_I) (τ : hp_L) : cl_C G l 1 yX1_firstBest cX1_firstBest 4 (some .int) [.ref (wd_b G + o), .int p1, .int p2] σ τ (ci_i σ τ) (fn_Chase_firstBest o p1 p2 σ) := by
  refine cl_of (lv0 := [(0, .ref (wd_b G + o)), (1, .int p1), (2, .int p2)]) (ci_i σ τ) (by decide) (Nat.le_of_ble_eq_true rfl) rfl hN (fun M hM C => ?_)
  have C : cx_C G M RX1 cX1_firstBest 4 1 (some .int) := C
  unfold fn_Chase_firstBest
  refine dn_iconst C dX1_firstBest_0 ic_i_0 rfl ?_
  refine dn_istore_n (lv0 := [(0, .ref (wd_b G + o)), (1, .int p1), (2, .int p2)]) C dX1_firstBest_1 rfl (by decide) rfl rfl (fun v3_1 => ?_)
  refine dn_pick [1, 2, 3, 0] rfl ?_
  refine pf_Chase_firstBest_L2  C  o ho p1 p2 σ τ _ ?_ FU v3_1
  refine dn_iconst C dX1_firstBest_53 ic_i_m1 rfl ?_
  exact dn_iret C dX1_firstBest_54 rfl
def fn_Guess_leftAtWorst  (o : Nat) (p1 : Int32) (σ : hp_I) : Option (Int32) :=
  Option.bind (px_ald σ (sh_rf o 1) p1) fun z1 =>
  Option.bind (px_ald σ (sh_rf o 1) p1) fun z2 =>
  some (px_max z1 ((σ o 2) - z2))
set_option maxHeartbeats 4000000 in
set_option maxRecDepth 100000 in
theorem ok_Guess_leftAtWorst {G : wd_G} {l : Launch} (hN : gd_ok G)  (o : Nat) (ho : sh_kd o = 2) (p1 : Int32) (σ : hp_I) (τ : hp_L) : cl_C G l 1 yX2_leftAtWorst cX2_leftAtWorst 2 (some .int) [.ref (wd_b G + o), .int p1] σ τ (ci_i σ τ) (fn_Guess_leftAtWorst o p1 σ) := by
  refine cl_of (lv0 := [(0, .ref (wd_b G + o)), (1, .int p1)]) (ci_i σ τ) (by decide) (Nat.le_of_ble_eq_true rfl) rfl hN (fun M hM C => ?_)
  have C : cx_C G M RX2 cX2_leftAtWorst 2 1 (some .int) := C
  unfold fn_Guess_leftAtWorst
  refine dn_aload_n C dX2_leftAtWorst_0 rfl 0 rfl rfl ?_
  refine dn_getR C fd_X2_9 ho dX2_leftAtWorst_1 rfl ?_
  refine dn_iload_n C dX2_leftAtWorst_4 rfl 1 rfl rfl ?_
  refine dn_iald C (kt_2_1 ho) dX2_leftAtWorst_5 rfl (fun z1 => ?_)
  refine dn_aload_n C dX2_leftAtWorst_6 rfl 0 rfl rfl ?_
  refine dn_getI C fd_X2_19 ho dX2_leftAtWorst_7 rfl ?_
  refine dn_aload_n C dX2_leftAtWorst_10 rfl 0 rfl rfl ?_
  refine dn_getR C fd_X2_9 ho dX2_leftAtWorst_11 rfl ?_
  refine dn_iload_n C dX2_leftAtWorst_14 rfl 1 rfl rfl ?_
  refine dn_iald C (kt_2_1 ho) dX2_leftAtWorst_15 rfl (fun z2 => ?_)
  refine dn_isub C dX2_leftAtWorst_16 rfl ?_
  refine dn_max C mm_all lk_X2_63 (by decide) ⟨Nat.zero_le _, Nat.zero_le _⟩ (Nat.le_of_ble_eq_true rfl) dX2_leftAtWorst_17 rfl ?_
  exact dn_iret C dX2_leftAtWorst_20 rfl
def fn_House_copyFrom  (o : Nat) (p1 : Nat) (σ : hp_I) : Option (hp_I) :=
  px_let (hp_s σ o 0 (σ p1 0)) fun s1 =>
  px_let (hp_s s1 o 1 (s1 p1 1)) fun s2 =>
  px_let (hp_s s2 o 2 (s2 p1 2)) fun s3 =>
  px_let (hp_s s3 o 3 (s3 p1 3)) fun s4 =>
  Option.bind (px_cpy s4 (sh_rf p1 4) (0 : Int32) (sh_rf o 4) (0 : Int32) (8 : Int32)) fun s5 =>
  Option.bind (px_cpy s5 (sh_rf p1 5) (0 : Int32) (sh_rf o 5) (0 : Int32) (12 : Int32)) fun s6 =>
  Option.bind (px_cpy s6 (sh_rf p1 6) (0 : Int32) (sh_rf o 6) (0 : Int32) (12 : Int32)) fun s7 =>
  Option.bind (px_cpy s7 (sh_rf p1 7) (0 : Int32) (sh_rf o 7) (0 : Int32) (8 : Int32)) fun s8 =>
  Option.bind (px_cpy s8 (sh_rf p1 8) (0 : Int32) (sh_rf o 8) (0 : Int32) (8 : Int32)) fun s9 =>
  Option.bind (px_cpy s9 (sh_rf p1 9) (0 : Int32) (sh_rf o 9) (0 : Int32) (8 : Int32)) fun s10 =>
  Option.bind (px_cpy s10 (sh_rf p1 10) (0 : Int32) (sh_rf o 10) (0 : Int32) (5 : Int32)) fun s11 =>
  Option.bind (px_cpy s11 (sh_rf p1 11) (0 : Int32) (sh_rf o 11) (0 : Int32) (5 : Int32)) fun s12 =>
  some s12
set_option maxHeartbeats 4000000 in
set_option maxRecDepth 100000 in
theorem ok_House_copyFrom {G : wd_G} {l : Launch} (hN : gd_ok G)  (o : Nat) (ho : sh_kd o = 3) (p1 : Nat) (hp1 : sh_kd p1 = 3) (σ : hp_I) (τ : hp_L) : cl_C G l 1 yX3_copyFrom cX3_copyFrom 2 none [.ref (wd_b G + o), .ref (wd_b G + p1)] σ τ (ci_h τ) (fn_House_copyFrom o p1 σ) := by
  refine cl_of (lv0 := [(0, .ref (wd_b G + o)), (1, .ref (wd_b G + p1))]) (ci_h τ) (by decide) (Nat.le_of_ble_eq_true rfl) rfl hN (fun M hM C => ?_)
  have C : cx_C G M RX3 cX3_copyFrom 2 1 none := C
  unfold fn_House_copyFrom
  refine dn_aload_n C dX3_copyFrom_0 rfl 0 rfl rfl ?_
  refine dn_aload_n C dX3_copyFrom_1 rfl 1 rfl rfl ?_
  refine dn_getI C fd_X3_36 hp1 dX3_copyFrom_2 rfl ?_
  refine dn_putI C fp_X3_36 ho dX3_copyFrom_5 rfl (fun s1 => ?_)
  refine dn_aload_n C dX3_copyFrom_8 rfl 0 rfl rfl ?_
  refine dn_aload_n C dX3_copyFrom_9 rfl 1 rfl rfl ?_
  refine dn_getI C fd_X3_40 hp1 dX3_copyFrom_10 rfl ?_
  refine dn_putI C fp_X3_40 ho dX3_copyFrom_13 rfl (fun s2 => ?_)
  refine dn_aload_n C dX3_copyFrom_16 rfl 0 rfl rfl ?_
  refine dn_aload_n C dX3_copyFrom_17 rfl 1 rfl rfl ?_
  refine dn_getI C fd_X3_43 hp1 dX3_copyFrom_18 rfl ?_
  refine dn_putI C fp_X3_43 ho dX3_copyFrom_21 rfl (fun s3 => ?_)
  refine dn_aload_n C dX3_copyFrom_24 rfl 0 rfl rfl ?_
  refine dn_aload_n C dX3_copyFrom_25 rfl 1 rfl rfl ?_
  refine dn_getI C fd_X3_46 hp1 dX3_copyFrom_26 rfl ?_
  refine dn_putI C fp_X3_46 ho dX3_copyFrom_29 rfl (fun s4 => ?_)
  refine dn_aload_n C dX3_copyFrom_32 rfl 1 rfl rfl ?_
  refine dn_getR C fd_X3_9 hp1 dX3_copyFrom_33 rfl ?_
  refine dn_iconst C dX3_copyFrom_36 ic_i_0 rfl ?_
  refine dn_aload_n C dX3_copyFrom_37 rfl 0 rfl rfl ?_
  refine dn_getR C fd_X3_9 ho dX3_copyFrom_38 rfl ?_
  refine dn_iconst C dX3_copyFrom_41 ic_i_0 rfl ?_
  refine dn_bipush C dX3_copyFrom_42 ic_b_8 rfl ?_
  refine dn_acopy C ac_all lk_X3_49 (by decide) (kt_3_4 hp1) (kt_3_4 ho) (Nat.le_of_ble_eq_true rfl) dX3_copyFrom_44 rfl (fun s5 => ?_)
  refine dn_aload_n C dX3_copyFrom_47 rfl 1 rfl rfl ?_
  refine dn_getR C fd_X3_15 hp1 dX3_copyFrom_48 rfl ?_
  refine dn_iconst C dX3_copyFrom_51 ic_i_0 rfl ?_
  refine dn_aload_n C dX3_copyFrom_52 rfl 0 rfl rfl ?_
  refine dn_getR C fd_X3_15 ho dX3_copyFrom_53 rfl ?_
  refine dn_iconst C dX3_copyFrom_56 ic_i_0 rfl ?_
  refine dn_bipush C dX3_copyFrom_57 ic_b_12 rfl ?_
  refine dn_acopy C ac_all lk_X3_49 (by decide) (kt_3_5 hp1) (kt_3_5 ho) (Nat.le_of_ble_eq_true rfl) dX3_copyFrom_59 rfl (fun s6 => ?_)
  refine dn_aload_n C dX3_copyFrom_62 rfl 1 rfl rfl ?_
  refine dn_getR C fd_X3_18 hp1 dX3_copyFrom_63 rfl ?_
  refine dn_iconst C dX3_copyFrom_66 ic_i_0 rfl ?_
  refine dn_aload_n C dX3_copyFrom_67 rfl 0 rfl rfl ?_
  refine dn_getR C fd_X3_18 ho dX3_copyFrom_68 rfl ?_
  refine dn_iconst C dX3_copyFrom_71 ic_i_0 rfl ?_
  refine dn_bipush C dX3_copyFrom_72 ic_b_12 rfl ?_
  refine dn_acopy C ac_all lk_X3_49 (by decide) (kt_3_6 hp1) (kt_3_6 ho) (Nat.le_of_ble_eq_true rfl) dX3_copyFrom_74 rfl (fun s7 => ?_)
  refine dn_aload_n C dX3_copyFrom_77 rfl 1 rfl rfl ?_
  refine dn_getR C fd_X3_21 hp1 dX3_copyFrom_78 rfl ?_
  refine dn_iconst C dX3_copyFrom_81 ic_i_0 rfl ?_
  refine dn_aload_n C dX3_copyFrom_82 rfl 0 rfl rfl ?_
  refine dn_getR C fd_X3_21 ho dX3_copyFrom_83 rfl ?_
  refine dn_iconst C dX3_copyFrom_86 ic_i_0 rfl ?_
  refine dn_bipush C dX3_copyFrom_87 ic_b_8 rfl ?_
  refine dn_acopy C ac_all lk_X3_49 (by decide) (kt_3_7 hp1) (kt_3_7 ho) (Nat.le_of_ble_eq_true rfl) dX3_copyFrom_89 rfl (fun s8 => ?_)
  refine dn_aload_n C dX3_copyFrom_92 rfl 1 rfl rfl ?_
  refine dn_getR C fd_X3_24 hp1 dX3_copyFrom_93 rfl ?_
  refine dn_iconst C dX3_copyFrom_96 ic_i_0 rfl ?_
  refine dn_aload_n C dX3_copyFrom_97 rfl 0 rfl rfl ?_
  refine dn_getR C fd_X3_24 ho dX3_copyFrom_98 rfl ?_
  refine dn_iconst C dX3_copyFrom_101 ic_i_0 rfl ?_
  refine dn_bipush C dX3_copyFrom_102 ic_b_8 rfl ?_
  refine dn_acopy C ac_all lk_X3_49 (by decide) (kt_3_8 hp1) (kt_3_8 ho) (Nat.le_of_ble_eq_true rfl) dX3_copyFrom_104 rfl (fun s9 => ?_)
  refine dn_aload_n C dX3_copyFrom_107 rfl 1 rfl rfl ?_
  refine dn_getR C fd_X3_27 hp1 dX3_copyFrom_108 rfl ?_
  refine dn_iconst C dX3_copyFrom_111 ic_i_0 rfl ?_
  refine dn_aload_n C dX3_copyFrom_112 rfl 0 rfl rfl ?_
  refine dn_getR C fd_X3_27 ho dX3_copyFrom_113 rfl ?_
  refine dn_iconst C dX3_copyFrom_116 ic_i_0 rfl ?_
  refine dn_bipush C dX3_copyFrom_117 ic_b_8 rfl ?_
  refine dn_acopy C ac_all lk_X3_49 (by decide) (kt_3_9 hp1) (kt_3_9 ho) (Nat.le_of_ble_eq_true rfl) dX3_copyFrom_119 rfl (fun s10 => ?_)
  refine dn_aload_n C dX3_copyFrom_122 rfl 1 rfl rfl ?_
  refine dn_getR C fd_X3_30 hp1 dX3_copyFrom_123 rfl ?_
  refine dn_iconst C dX3_copyFrom_126 ic_i_0 rfl ?_
  refine dn_aload_n C dX3_copyFrom_127 rfl 0 rfl rfl ?_
  refine dn_getR C fd_X3_30 ho dX3_copyFrom_128 rfl ?_
  refine dn_iconst C dX3_copyFrom_131 ic_i_0 rfl ?_
  refine dn_iconst C dX3_copyFrom_132 ic_i_5 rfl ?_
  refine dn_acopy C ac_all lk_X3_49 (by decide) (kt_3_10 hp1) (kt_3_10 ho) (Nat.le_of_ble_eq_true rfl) dX3_copyFrom_133 rfl (fun s11 => ?_)
  refine dn_aload_n C dX3_copyFrom_136 rfl 1 rfl rfl ?_
  refine dn_getR C fd_X3_33 hp1 dX3_copyFrom_137 rfl ?_
  refine dn_iconst C dX3_copyFrom_140 ic_i_0 rfl ?_
  refine dn_aload_n C dX3_copyFrom_141 rfl 0 rfl rfl ?_
  refine dn_getR C fd_X3_33 ho dX3_copyFrom_142 rfl ?_
  refine dn_iconst C dX3_copyFrom_145 ic_i_0 rfl ?_
  refine dn_iconst C dX3_copyFrom_146 ic_i_5 rfl ?_
  refine dn_acopy C ac_all lk_X3_49 (by decide) (kt_3_11 hp1) (kt_3_11 ho) (Nat.le_of_ble_eq_true rfl) dX3_copyFrom_147 rfl (fun s12 => ?_)
  exact dn_vret C dX3_copyFrom_150 rfl
def fn_Past_keepImage  (o : Nat) (p1 : Nat) (σ : hp_I) : Option (Int32 × hp_I) :=
  if (3 : Int32) ≤ (σ o 1) then (
    px_z (0 : Int32) ((0 : Int32), σ)
  ) else (
    Option.bind (px_cpy σ (sh_rf o 2) (0 : Int32) (sh_rf o 3) ((σ o 1) * (799 : Int32)) ((σ o 0) * (47 : Int32))) fun s1 =>
    Option.bind (px_cpy s1 (sh_rf p1 2) (0 : Int32) (sh_rf o 3) (((s1 o 1) * (799 : Int32)) + (752 : Int32)) (47 : Int32)) fun s2 =>
    Option.bind (px_ast s2 (sh_rf o 4) (s2 o 1) (s2 o 0)) fun s3 =>
    px_let (hp_s s3 o 1 ((s3 o 1) + (1 : Int32))) fun s4 =>
    px_z (1 : Int32) ((1 : Int32), s4)
  )
set_option maxHeartbeats 4000000 in
set_option maxRecDepth 100000 in
theorem ok_Past_keepImage {G : wd_G} {l : Launch} (hN : gd_ok G)  (o : Nat) (ho : sh_kd o = 5) (p1 : Nat) (hp1 : sh_kd p1 = 8) (σ : hp_I) (τ : hp_L) : cl_C G l 1 yX5_keepImage cX5_keepImage 2 (some .boolean) [.ref (wd_b G + o), .ref (wd_b G + p1)] σ τ (ci_ih τ) (fn_Past_keepImage o p1 σ) := by
  refine cl_of (lv0 := [(0, .ref (wd_b G + o)), (1, .ref (wd_b G + p1))]) (ci_ih τ) (by decide) (Nat.le_of_ble_eq_true rfl) rfl hN (fun M hM C => ?_)
  have C : cx_C G M RX5 cX5_keepImage 2 1 (some .boolean) := C
  unfold fn_Past_keepImage
  refine dn_aload_n C dX5_keepImage_0 rfl 0 rfl rfl ?_
  refine dn_getI C fd_X5_25 ho dX5_keepImage_1 rfl ?_
  refine dn_iconst C dX5_keepImage_4 ic_i_3 rfl ?_
  refine dn_icmp_lt (t := 10) C dX5_keepImage_5 (by decide) rfl ?_ ?_
  · refine dn_iconst C dX5_keepImage_8 ic_i_0 rfl ?_
    exact dn_zret C dX5_keepImage_9 rfl
  · refine dn_aload_n C dX5_keepImage_10 rfl 0 rfl rfl ?_
    refine dn_getR C fd_X5_11 ho dX5_keepImage_11 rfl ?_
    refine dn_iconst C dX5_keepImage_14 ic_i_0 rfl ?_
    refine dn_aload_n C dX5_keepImage_15 rfl 0 rfl rfl ?_
    refine dn_getR C fd_X5_15 ho dX5_keepImage_16 rfl ?_
    refine dn_aload_n C dX5_keepImage_19 rfl 0 rfl rfl ?_
    refine dn_getI C fd_X5_25 ho dX5_keepImage_20 rfl ?_
    refine dn_sipush C dX5_keepImage_23 ic_s_799 rfl ?_
    refine dn_imul C dX5_keepImage_26 rfl ?_
    refine dn_aload_n C dX5_keepImage_27 rfl 0 rfl rfl ?_
    refine dn_getI C fd_X5_21 ho dX5_keepImage_28 rfl ?_
    refine dn_bipush C dX5_keepImage_31 ic_b_47 rfl ?_
    refine dn_imul C dX5_keepImage_33 rfl ?_
    refine dn_acopy C ac_all lk_X5_35 (by decide) (kt_5_2 ho) (kt_5_3 ho) (Nat.le_of_ble_eq_true rfl) dX5_keepImage_34 rfl (fun s1 => ?_)
    refine dn_aload_n C dX5_keepImage_37 rfl 1 rfl rfl ?_
    refine dn_getR C fd_X5_32 hp1 dX5_keepImage_38 rfl ?_
    refine dn_iconst C dX5_keepImage_41 ic_i_0 rfl ?_
    refine dn_aload_n C dX5_keepImage_42 rfl 0 rfl rfl ?_
    refine dn_getR C fd_X5_15 ho dX5_keepImage_43 rfl ?_
    refine dn_aload_n C dX5_keepImage_46 rfl 0 rfl rfl ?_
    refine dn_getI C fd_X5_25 ho dX5_keepImage_47 rfl ?_
    refine dn_sipush C dX5_keepImage_50 ic_s_799 rfl ?_
    refine dn_imul C dX5_keepImage_53 rfl ?_
    refine dn_sipush C dX5_keepImage_54 ic_s_752 rfl ?_
    refine dn_iadd C dX5_keepImage_57 rfl ?_
    refine dn_bipush C dX5_keepImage_58 ic_b_47 rfl ?_
    refine dn_acopy C ac_all lk_X5_35 (by decide) (kt_8_2 hp1) (kt_5_3 ho) (Nat.le_of_ble_eq_true rfl) dX5_keepImage_60 rfl (fun s2 => ?_)
    refine dn_aload_n C dX5_keepImage_63 rfl 0 rfl rfl ?_
    refine dn_getR C fd_X5_18 ho dX5_keepImage_64 rfl ?_
    refine dn_aload_n C dX5_keepImage_67 rfl 0 rfl rfl ?_
    refine dn_getI C fd_X5_25 ho dX5_keepImage_68 rfl ?_
    refine dn_aload_n C dX5_keepImage_71 rfl 0 rfl rfl ?_
    refine dn_getI C fd_X5_21 ho dX5_keepImage_72 rfl ?_
    refine dn_iast C (kt_5_4 ho) dX5_keepImage_75 rfl (fun s3 => ?_)
    refine dn_aload_n C dX5_keepImage_76 rfl 0 rfl rfl ?_
    refine dn_dup C dX5_keepImage_77 rfl rfl ?_
    refine dn_getI C fd_X5_25 ho dX5_keepImage_78 rfl ?_
    refine dn_iconst C dX5_keepImage_81 ic_i_1 rfl ?_
    refine dn_iadd C dX5_keepImage_82 rfl ?_
    refine dn_putI C fp_X5_25 ho dX5_keepImage_83 rfl (fun s4 => ?_)
    refine dn_iconst C dX5_keepImage_86 ic_i_1 rfl ?_
    exact dn_zret C dX5_keepImage_87 rfl
def fn_Past_keepWork  (o : Nat) (p1 : Nat) (σ : hp_I) : Option (hp_I) :=
  Option.bind (fn_Past_isFull o σ) fun z1 =>
  px_jn (fun (s2 : hp_I) =>
    some s2
  ) fun j3 =>
    if z1 = 0 then (
      Option.bind (px_cpy σ (sh_rf p1 2) (0 : Int32) (sh_rf o 2) ((σ o 0) * (47 : Int32)) (47 : Int32)) fun s4 =>
      px_let (hp_s s4 o 0 ((s4 o 0) + (1 : Int32))) fun s5 =>
      j3 s5
    ) else (
      j3 σ
    )
set_option maxHeartbeats 4000000 in
set_option maxRecDepth 100000 in
theorem ok_Past_keepWork {G : wd_G} {l : Launch} (hN : gd_ok G)  (o : Nat) (ho : sh_kd o = 5) (p1 : Nat) (hp1 : sh_kd p1 = 8) (σ : hp_I) (τ : hp_L) : cl_C G l 1 yX5_keepWork cX5_keepWork 2 none [.ref (wd_b G + o), .ref (wd_b G + p1)] σ τ (ci_h τ) (fn_Past_keepWork o p1 σ) := by
  refine cl_of (lv0 := [(0, .ref (wd_b G + o)), (1, .ref (wd_b G + p1))]) (ci_h τ) (by decide) (Nat.le_of_ble_eq_true rfl) rfl hN (fun M hM C => ?_)
  have C : cx_C G M RX5 cX5_keepWork 2 1 none := C
  unfold fn_Past_keepWork
  refine dn_aload_n C dX5_keepWork_0 rfl 0 rfl rfl ?_
  refine dn_callV_i (As := []) (st := []) C (ok_Past_isFull (cx_g C) o ho σ τ) mt_X5_isFull mv_X5_isFull lk_X5_28 (by decide) ho rfl ⟨Nat.zero_le _, Nat.zero_le _⟩ (Nat.le_of_ble_eq_true rfl) dX5_keepWork_1 rfl rfl (fun z1 => ?_)
  refine dn_jn (fun z => ∀ (s2 : hp_I), dn_D G M 2 0 0 (cl_M G M (ci_h τ)) 38 [] [] s2 τ (z s2)) (fun s2 => ?_) (fun j3 hj3 => ?_)
  · exact dn_vret C dX5_keepWork_38 rfl
  · refine dn_if_ne (t := 38) C dX5_keepWork_4 (by decide) rfl ?_ ?_
    · refine dn_aload_n C dX5_keepWork_7 rfl 1 rfl rfl ?_
      refine dn_getR C fd_X5_32 hp1 dX5_keepWork_8 rfl ?_
      refine dn_iconst C dX5_keepWork_11 ic_i_0 rfl ?_
      refine dn_aload_n C dX5_keepWork_12 rfl 0 rfl rfl ?_
      refine dn_getR C fd_X5_11 ho dX5_keepWork_13 rfl ?_
      refine dn_aload_n C dX5_keepWork_16 rfl 0 rfl rfl ?_
      refine dn_getI C fd_X5_21 ho dX5_keepWork_17 rfl ?_
      refine dn_bipush C dX5_keepWork_20 ic_b_47 rfl ?_
      refine dn_imul C dX5_keepWork_22 rfl ?_
      refine dn_bipush C dX5_keepWork_23 ic_b_47 rfl ?_
      refine dn_acopy C ac_all lk_X5_35 (by decide) (kt_8_2 hp1) (kt_5_2 ho) (Nat.le_of_ble_eq_true rfl) dX5_keepWork_25 rfl (fun s4 => ?_)
      refine dn_aload_n C dX5_keepWork_28 rfl 0 rfl rfl ?_
      refine dn_dup C dX5_keepWork_29 rfl rfl ?_
      refine dn_getI C fd_X5_21 ho dX5_keepWork_30 rfl ?_
      refine dn_iconst C dX5_keepWork_33 ic_i_1 rfl ?_
      refine dn_iadd C dX5_keepWork_34 rfl ?_
      refine dn_putI C fp_X5_21 ho dX5_keepWork_35 rfl (fun s5 => ?_)
      refine dn_pick [] rfl ?_
      exact hj3 s5
    · refine dn_pick [] rfl ?_
      exact hj3 σ
def fn_Past_takeBackImage  (o : Nat) (p1 : Nat) (σ : hp_I) : Option (Int32 × hp_I) :=
  if (σ o 1) ≤ 0 then (
    px_z (0 : Int32) ((0 : Int32), σ)
  ) else (
    px_let (hp_s σ o 1 ((σ o 1) - (1 : Int32))) fun s1 =>
    Option.bind (px_ald s1 (sh_rf o 4) (s1 o 1)) fun z2 =>
    px_let (hp_s s1 o 0 z2) fun s3 =>
    Option.bind (px_cpy s3 (sh_rf o 3) ((s3 o 1) * (799 : Int32)) (sh_rf o 2) (0 : Int32) ((s3 o 0) * (47 : Int32))) fun s4 =>
    Option.bind (px_cpy s4 (sh_rf o 3) (((s4 o 1) * (799 : Int32)) + (752 : Int32)) (sh_rf p1 2) (0 : Int32) (47 : Int32)) fun s5 =>
    px_z (1 : Int32) ((1 : Int32), s5)
  )
set_option maxHeartbeats 4000000 in
set_option maxRecDepth 100000 in
theorem ok_Past_takeBackImage {G : wd_G} {l : Launch} (hN : gd_ok G)  (o : Nat) (ho : sh_kd o = 5) (p1 : Nat) (hp1 : sh_kd p1 = 8) (σ : hp_I) (τ : hp_L) : cl_C G l 1 yX5_takeBackImage cX5_takeBackImage 2 (some .boolean) [.ref (wd_b G + o), .ref (wd_b G + p1)] σ τ (ci_ih τ) (fn_Past_takeBackImage o p1 σ) := by
  refine cl_of (lv0 := [(0, .ref (wd_b G + o)), (1, .ref (wd_b G + p1))]) (ci_ih τ) (by decide) (Nat.le_of_ble_eq_true rfl) rfl hN (fun M hM C => ?_)
  have C : cx_C G M RX5 cX5_takeBackImage 2 1 (some .boolean) := C
  unfold fn_Past_takeBackImage
  refine dn_aload_n C dX5_takeBackImage_0 rfl 0 rfl rfl ?_
  refine dn_getI C fd_X5_25 ho dX5_takeBackImage_1 rfl ?_
  refine dn_if_gt (t := 9) C dX5_takeBackImage_4 (by decide) rfl ?_ ?_
  · refine dn_iconst C dX5_takeBackImage_7 ic_i_0 rfl ?_
    exact dn_zret C dX5_takeBackImage_8 rfl
  · refine dn_aload_n C dX5_takeBackImage_9 rfl 0 rfl rfl ?_
    refine dn_dup C dX5_takeBackImage_10 rfl rfl ?_
    refine dn_getI C fd_X5_25 ho dX5_takeBackImage_11 rfl ?_
    refine dn_iconst C dX5_takeBackImage_14 ic_i_1 rfl ?_
    refine dn_isub C dX5_takeBackImage_15 rfl ?_
    refine dn_putI C fp_X5_25 ho dX5_takeBackImage_16 rfl (fun s1 => ?_)
    refine dn_aload_n C dX5_takeBackImage_19 rfl 0 rfl rfl ?_
    refine dn_aload_n C dX5_takeBackImage_20 rfl 0 rfl rfl ?_
    refine dn_getR C fd_X5_18 ho dX5_takeBackImage_21 rfl ?_
    refine dn_aload_n C dX5_takeBackImage_24 rfl 0 rfl rfl ?_
    refine dn_getI C fd_X5_25 ho dX5_takeBackImage_25 rfl ?_
    refine dn_iald C (kt_5_4 ho) dX5_takeBackImage_28 rfl (fun z2 => ?_)
    refine dn_putI C fp_X5_21 ho dX5_takeBackImage_29 rfl (fun s3 => ?_)
    refine dn_aload_n C dX5_takeBackImage_32 rfl 0 rfl rfl ?_
    refine dn_getR C fd_X5_15 ho dX5_takeBackImage_33 rfl ?_
    refine dn_aload_n C dX5_takeBackImage_36 rfl 0 rfl rfl ?_
    refine dn_getI C fd_X5_25 ho dX5_takeBackImage_37 rfl ?_
    refine dn_sipush C dX5_takeBackImage_40 ic_s_799 rfl ?_
    refine dn_imul C dX5_takeBackImage_43 rfl ?_
    refine dn_aload_n C dX5_takeBackImage_44 rfl 0 rfl rfl ?_
    refine dn_getR C fd_X5_11 ho dX5_takeBackImage_45 rfl ?_
    refine dn_iconst C dX5_takeBackImage_48 ic_i_0 rfl ?_
    refine dn_aload_n C dX5_takeBackImage_49 rfl 0 rfl rfl ?_
    refine dn_getI C fd_X5_21 ho dX5_takeBackImage_50 rfl ?_
    refine dn_bipush C dX5_takeBackImage_53 ic_b_47 rfl ?_
    refine dn_imul C dX5_takeBackImage_55 rfl ?_
    refine dn_acopy C ac_all lk_X5_35 (by decide) (kt_5_3 ho) (kt_5_2 ho) (Nat.le_of_ble_eq_true rfl) dX5_takeBackImage_56 rfl (fun s4 => ?_)
    refine dn_aload_n C dX5_takeBackImage_59 rfl 0 rfl rfl ?_
    refine dn_getR C fd_X5_15 ho dX5_takeBackImage_60 rfl ?_
    refine dn_aload_n C dX5_takeBackImage_63 rfl 0 rfl rfl ?_
    refine dn_getI C fd_X5_25 ho dX5_takeBackImage_64 rfl ?_
    refine dn_sipush C dX5_takeBackImage_67 ic_s_799 rfl ?_
    refine dn_imul C dX5_takeBackImage_70 rfl ?_
    refine dn_sipush C dX5_takeBackImage_71 ic_s_752 rfl ?_
    refine dn_iadd C dX5_takeBackImage_74 rfl ?_
    refine dn_aload_n C dX5_takeBackImage_75 rfl 1 rfl rfl ?_
    refine dn_getR C fd_X5_32 hp1 dX5_takeBackImage_76 rfl ?_
    refine dn_iconst C dX5_takeBackImage_79 ic_i_0 rfl ?_
    refine dn_bipush C dX5_takeBackImage_80 ic_b_47 rfl ?_
    refine dn_acopy C ac_all lk_X5_35 (by decide) (kt_5_3 ho) (kt_8_2 hp1) (Nat.le_of_ble_eq_true rfl) dX5_takeBackImage_82 rfl (fun s5 => ?_)
    refine dn_iconst C dX5_takeBackImage_85 ic_i_1 rfl ?_
    exact dn_zret C dX5_takeBackImage_86 rfl
def fn_Past_takeBackWork  (o : Nat) (p1 : Nat) (σ : hp_I) : Option (Int32 × hp_I) :=
  if (σ o 0) ≤ 0 then (
    px_z (0 : Int32) ((0 : Int32), σ)
  ) else (
    px_let (hp_s σ o 0 ((σ o 0) - (1 : Int32))) fun s1 =>
    Option.bind (px_cpy s1 (sh_rf o 2) ((s1 o 0) * (47 : Int32)) (sh_rf p1 2) (0 : Int32) (47 : Int32)) fun s2 =>
    px_z (1 : Int32) ((1 : Int32), s2)
  )
set_option maxHeartbeats 4000000 in
set_option maxRecDepth 100000 in
theorem ok_Past_takeBackWork {G : wd_G} {l : Launch} (hN : gd_ok G)  (o : Nat) (ho : sh_kd o = 5) (p1 : Nat) (hp1 : sh_kd p1 = 8) (σ : hp_I) (τ : hp_L) : cl_C G l 1 yX5_takeBackWork cX5_takeBackWork 2 (some .boolean) [.ref (wd_b G + o), .ref (wd_b G + p1)] σ τ (ci_ih τ) (fn_Past_takeBackWork o p1 σ) := by
  refine cl_of (lv0 := [(0, .ref (wd_b G + o)), (1, .ref (wd_b G + p1))]) (ci_ih τ) (by decide) (Nat.le_of_ble_eq_true rfl) rfl hN (fun M hM C => ?_)
  have C : cx_C G M RX5 cX5_takeBackWork 2 1 (some .boolean) := C
  unfold fn_Past_takeBackWork
  refine dn_aload_n C dX5_takeBackWork_0 rfl 0 rfl rfl ?_
  refine dn_getI C fd_X5_21 ho dX5_takeBackWork_1 rfl ?_
  refine dn_if_gt (t := 9) C dX5_takeBackWork_4 (by decide) rfl ?_ ?_
  · refine dn_iconst C dX5_takeBackWork_7 ic_i_0 rfl ?_
    exact dn_zret C dX5_takeBackWork_8 rfl
  · refine dn_aload_n C dX5_takeBackWork_9 rfl 0 rfl rfl ?_
    refine dn_dup C dX5_takeBackWork_10 rfl rfl ?_
    refine dn_getI C fd_X5_21 ho dX5_takeBackWork_11 rfl ?_
    refine dn_iconst C dX5_takeBackWork_14 ic_i_1 rfl ?_
    refine dn_isub C dX5_takeBackWork_15 rfl ?_
    refine dn_putI C fp_X5_21 ho dX5_takeBackWork_16 rfl (fun s1 => ?_)
    refine dn_aload_n C dX5_takeBackWork_19 rfl 0 rfl rfl ?_
    refine dn_getR C fd_X5_11 ho dX5_takeBackWork_20 rfl ?_
    refine dn_aload_n C dX5_takeBackWork_23 rfl 0 rfl rfl ?_
    refine dn_getI C fd_X5_21 ho dX5_takeBackWork_24 rfl ?_
    refine dn_bipush C dX5_takeBackWork_27 ic_b_47 rfl ?_
    refine dn_imul C dX5_takeBackWork_29 rfl ?_
    refine dn_aload_n C dX5_takeBackWork_30 rfl 1 rfl rfl ?_
    refine dn_getR C fd_X5_32 hp1 dX5_takeBackWork_31 rfl ?_
    refine dn_iconst C dX5_takeBackWork_34 ic_i_0 rfl ?_
    refine dn_bipush C dX5_takeBackWork_35 ic_b_47 rfl ?_
    refine dn_acopy C ac_all lk_X5_35 (by decide) (kt_5_2 ho) (kt_8_2 hp1) (Nat.le_of_ble_eq_true rfl) dX5_takeBackWork_37 rfl (fun s2 => ?_)
    refine dn_iconst C dX5_takeBackWork_40 ic_i_1 rfl ?_
    exact dn_zret C dX5_takeBackWork_41 rfl
def fn_Slip_add  (o : Nat) (p1 : Int32) (p2 : Int32) (σ : hp_I) : Option (hp_I) :=
  Option.bind (px_div p2 (32 : Int32)) fun z1 =>
  px_let z1 fun v3_2 =>
  Option.bind (px_ald σ (sh_rf o 2) ((p1 * (32 : Int32)) + v3_2)) fun z3 =>
  Option.bind (px_rem p2 (32 : Int32)) fun z4 =>
  Option.bind (px_ast σ (sh_rf o 2) ((p1 * (32 : Int32)) + v3_2) (z3 ||| ((1 : Int32) <<< (z4 &&& 31)))) fun s5 =>
  px_let (hp_s s5 o 7 (px_min (s5 o 7) v3_2)) fun s6 =>
  px_let (hp_s s6 o 8 (px_max (s6 o 8) v3_2)) fun s7 =>
  some s7
set_option maxHeartbeats 4000000 in
set_option maxRecDepth 100000 in
theorem ok_Slip_add {G : wd_G} {l : Launch} (hN : gd_ok G)  (o : Nat) (ho : sh_kd o = 7) (p1 : Int32) (p2 : Int32) (σ : hp_I) (τ : hp_L) : cl_C G l 1 yX7_add cX7_add 4 none [.ref (wd_b G + o), .int p1, .int p2] σ τ (ci_h τ) (fn_Slip_add o p1 p2 σ) := by
  refine cl_of (lv0 := [(0, .ref (wd_b G + o)), (1, .int p1), (2, .int p2)]) (ci_h τ) (by decide) (Nat.le_of_ble_eq_true rfl) rfl hN (fun M hM C => ?_)
  have C : cx_C G M RX7 cX7_add 4 1 none := C
  unfold fn_Slip_add
  refine dn_iload_n C dX7_add_0 rfl 2 rfl rfl ?_
  refine dn_bipush C dX7_add_1 ic_b_32 rfl ?_
  refine dn_idiv C dX7_add_3 rfl (fun z1 => ?_)
  refine dn_istore_n (lv0 := [(0, .ref (wd_b G + o)), (1, .int p1), (2, .int p2)]) C dX7_add_4 rfl (by decide) rfl rfl (fun v3_2 => ?_)
  refine dn_aload_n C dX7_add_5 rfl 1 rfl rfl ?_
  refine dn_getR C fd_X7_11 ho dX7_add_6 rfl ?_
  refine dn_iload_n C dX7_add_9 rfl 2 rfl rfl ?_
  refine dn_bipush C dX7_add_10 ic_b_32 rfl ?_
  refine dn_imul C dX7_add_12 rfl ?_
  refine dn_iload_n C dX7_add_13 rfl 0 rfl rfl ?_
  refine dn_iadd C dX7_add_14 rfl ?_
  refine dn_dup2 C dX7_add_15 rfl rfl rfl ?_
  refine dn_iald C (kt_7_2 ho) dX7_add_16 rfl (fun z3 => ?_)
  refine dn_iconst C dX7_add_17 ic_i_1 rfl ?_
  refine dn_iload_n C dX7_add_18 rfl 3 rfl rfl ?_
  refine dn_bipush C dX7_add_19 ic_b_32 rfl ?_
  refine dn_irem C dX7_add_21 rfl (fun z4 => ?_)
  refine dn_ishl C dX7_add_22 rfl ?_
  refine dn_ior C dX7_add_23 rfl ?_
  refine dn_iast C (kt_7_2 ho) dX7_add_24 rfl (fun s5 => ?_)
  refine dn_aload_n C dX7_add_25 rfl 1 rfl rfl ?_
  refine dn_aload_n C dX7_add_26 rfl 1 rfl rfl ?_
  refine dn_getI C fd_X7_18 ho dX7_add_27 rfl ?_
  refine dn_iload_n C dX7_add_30 rfl 0 rfl rfl ?_
  refine dn_min C mm_all lk_X7_121 (by decide) ⟨Nat.zero_le _, Nat.zero_le _⟩ (Nat.le_of_ble_eq_true rfl) dX7_add_31 rfl ?_
  refine dn_putI C fp_X7_18 ho dX7_add_34 rfl (fun s6 => ?_)
  refine dn_aload_n C dX7_add_37 rfl 1 rfl rfl ?_
  refine dn_aload_n C dX7_add_38 rfl 1 rfl rfl ?_
  refine dn_getI C fd_X7_22 ho dX7_add_39 rfl ?_
  refine dn_iload_n C dX7_add_42 rfl 0 rfl rfl ?_
  refine dn_max C mm_all lk_X7_139 (by decide) ⟨Nat.zero_le _, Nat.zero_le _⟩ (Nat.le_of_ble_eq_true rfl) dX7_add_43 rfl ?_
  refine dn_putI C fp_X7_22 ho dX7_add_46 rfl (fun s7 => ?_)
  exact dn_vret C dX7_add_49 rfl
def fn_Slip_greatestSpared_L7  (a0 : Nat) (a1 : Nat) (a2 : Int32) (σ : hp_I) (k : Int32 → Option (Int32)) : Nat → Int32 → Int32 → Option (Int32)
  | 0, _, _ => none
  | fu + 1, x3, x4 =>
    if x4 < (σ (sh_rf a0 0) 3) then (
      Option.bind (fn_State_roomOfCat a1 x4 σ) fun z3 =>
      px_jn (fun (a3_4 : Int32) =>
        px_let (x4 + 1) fun v4_5 =>
        fn_Slip_greatestSpared_L7 a0 a1 a2 σ k fu a3_4 v4_5
      ) fun j6 =>
        if z3 = a2 then (
          Option.bind (px_ald σ (sh_rf (sh_rf a0 0) 4) a2) fun z7 =>
          Option.bind (px_ald σ (sh_rf (sh_rf a0 0) 11) x4) fun z8 =>
          px_let (z7 - z8) fun v5_9 =>
          Option.bind (px_ald σ (sh_rf a1 3) x4) fun z10 =>
          px_let z10 fun v6_11 =>
          px_jn (fun (a5_12 : Int32) =>
            px_let (px_min x3 a5_12) fun v3_13 =>
            j6 v3_13
          ) fun j14 =>
            if v6_11 = (-1 : Int32) then (
              j14 v5_9
            ) else (
              Option.bind (fn_State_size a1 v6_11 σ) fun z15 =>
              px_jn (fun (t16 : Int32) =>
                px_let (z15 - t16) fun v7_17 =>
                px_let (px_max v5_9 v7_17) fun v5_18 =>
                j14 v5_18
              ) fun j19 =>
                if v6_11 < (σ a0 4) then (
                  j19 (0 : Int32)
                ) else (
                  j19 (1 : Int32)
                )
            )
        ) else (
          j6 x3
        )
    ) else (
      k x3
    )
def fn_Slip_greatestSpared  (o : Nat) (p1 : Nat) (p2 : Int32) (σ : hp_I) : Option (Int32) :=
  px_let (999 : Int32) fun v3_1 =>
  px_let (0 : Int32) fun v4_2 =>
  fn_Slip_greatestSpared_L7 o p1 p2 σ
    (fun (y_20 : Int32) =>
      some y_20
    )
    FU v3_1 v4_2
set_option maxHeartbeats 4000000 in
set_option maxRecDepth 100000 in
theorem pf_Slip_greatestSpared_L7 {G : wd_G} {M : wd_M}  (C : cx_C G M RX7 cX7_greatestSpared 8 1 (some .int)) (a0 : Nat) (ha0 : sh_kd a0 = 7) (a1 : Nat) (ha1 : sh_kd a1 = 8) (a2 : Int32) (σ : hp_I) (τ : hp_L) (k : Int32 → Option (Int32)) (hk : ∀ (y3 : Int32), dn_D G M 8 0 0 (cl_M G M (ci_i σ τ)) 111 [(3, .int y3)] [] σ τ (k y3)) : ∀ (fu : Nat) (x3 : Int32) (x4 : Int32), dn_D G M 8 0 0 (cl_M G M (ci_i σ τ)) 7 [(0, .ref (wd_b G + a0)), (1, .ref (wd_b G + a1)), (2, .int a2), (3, .int x3), (4, .int x4)] [] σ τ (fn_Slip_greatestSpared_L7 a0 a1 a2 σ k fu x3 x4) := by
  intro fu
  induction fu with
  | zero => exact fun x3 x4 => dn_none
  | succ fu ih =>
    intro x3 x4
    unfold fn_Slip_greatestSpared_L7
    refine dn_iload C dX7_greatestSpared_7 4 rfl rfl ?_
    refine dn_aload_n C dX7_greatestSpared_9 rfl 0 rfl rfl ?_
    refine dn_getR C fd_X7_25 ha0 dX7_greatestSpared_10 rfl ?_
    refine dn_getI C fd_X7_127 (kt_7_0 ha0) dX7_greatestSpared_13 rfl ?_
    refine dn_icmp_ge (t := 111) C dX7_greatestSpared_16 (by decide) rfl ?_ ?_
    · refine dn_aload_n C dX7_greatestSpared_19 rfl 1 rfl rfl ?_
      refine dn_iload C dX7_greatestSpared_20 4 rfl rfl ?_
      refine dn_callV_i (As := [.int x4]) (st := []) C (ok_State_roomOfCat (cx_g C) a1 ha1 x4 σ τ) mt_X8_roomOfCat mv_X8_roomOfCat lk_X7_130 (by decide) ha1 rfl ⟨Nat.zero_le _, Nat.zero_le _⟩ (Nat.le_of_ble_eq_true rfl) dX7_greatestSpared_22 rfl rfl (fun z3 => ?_)
      refine dn_iload_n C dX7_greatestSpared_25 rfl 2 rfl rfl ?_
      refine dn_jn (fun z => ∀ (a3_4 : Int32), dn_D G M 8 0 0 (cl_M G M (ci_i σ τ)) 105 [(0, .ref (wd_b G + a0)), (1, .ref (wd_b G + a1)), (2, .int a2), (3, .int a3_4), (4, .int x4)] [] σ τ (z a3_4)) (fun a3_4 => ?_) (fun j6 hj6 => ?_)
      · refine dn_iinc (lv0 := [(0, .ref (wd_b G + a0)), (1, .ref (wd_b G + a1)), (2, .int a2), (3, .int a3_4)]) (v := x4 + 1) C dX7_greatestSpared_105 4 rfl rfl (by decide) rfl rfl (fun v4_5 => ?_)
        refine dn_goto (t := 7) C dX7_greatestSpared_108 (by decide) ?_
        refine dn_pick [1, 2, 3, 4, 0] rfl ?_
        exact ih a3_4 v4_5
      · refine dn_icmp_ne (t := 105) C dX7_greatestSpared_26 (by decide) rfl ?_ ?_
        · refine dn_aload_n C dX7_greatestSpared_29 rfl 0 rfl rfl ?_
          refine dn_getR C fd_X7_25 ha0 dX7_greatestSpared_30 rfl ?_
          refine dn_getR C fd_X7_112 (kt_7_0 ha0) dX7_greatestSpared_33 rfl ?_
          refine dn_iload_n C dX7_greatestSpared_36 rfl 2 rfl rfl ?_
          refine dn_iald C (kt_3_4 (kt_7_0 ha0)) dX7_greatestSpared_37 rfl (fun z7 => ?_)
          refine dn_aload_n C dX7_greatestSpared_38 rfl 0 rfl rfl ?_
          refine dn_getR C fd_X7_25 ha0 dX7_greatestSpared_39 rfl ?_
          refine dn_getR C fd_X7_133 (kt_7_0 ha0) dX7_greatestSpared_42 rfl ?_
          refine dn_iload C dX7_greatestSpared_45 4 rfl rfl ?_
          refine dn_iald C (kt_3_11 (kt_7_0 ha0)) dX7_greatestSpared_47 rfl (fun z8 => ?_)
          refine dn_isub C dX7_greatestSpared_48 rfl ?_
          refine dn_istore (lv0 := [(0, .ref (wd_b G + a0)), (1, .ref (wd_b G + a1)), (2, .int a2), (3, .int x3), (4, .int x4)]) C dX7_greatestSpared_49 (by decide) rfl rfl (fun v5_9 => ?_)
          refine dn_aload_n C dX7_greatestSpared_51 rfl 2 rfl rfl ?_
          refine dn_getR C fd_X7_136 ha1 dX7_greatestSpared_52 rfl ?_
          refine dn_iload C dX7_greatestSpared_55 5 rfl rfl ?_
          refine dn_iald C (kt_8_3 ha1) dX7_greatestSpared_57 rfl (fun z10 => ?_)
          refine dn_istore (lv0 := [(5, .int v5_9), (0, .ref (wd_b G + a0)), (1, .ref (wd_b G + a1)), (2, .int a2), (3, .int x3), (4, .int x4)]) C dX7_greatestSpared_58 (by decide) rfl rfl (fun v6_11 => ?_)
          refine dn_iload C dX7_greatestSpared_60 0 rfl rfl ?_
          refine dn_iconst C dX7_greatestSpared_62 ic_i_m1 rfl ?_
          refine dn_jn (fun z => ∀ (a5_12 : Int32), dn_D G M 8 0 0 (cl_M G M (ci_i σ τ)) 98 [(0, .ref (wd_b G + a0)), (1, .ref (wd_b G + a1)), (2, .int a2), (3, .int x3), (4, .int x4), (5, .int a5_12)] [] σ τ (z a5_12)) (fun a5_12 => ?_) (fun j14 hj14 => ?_)
          · refine dn_iload_n C dX7_greatestSpared_98 rfl 3 rfl rfl ?_
            refine dn_iload C dX7_greatestSpared_99 5 rfl rfl ?_
            refine dn_min C mm_all lk_X7_121 (by decide) ⟨Nat.zero_le _, Nat.zero_le _⟩ (Nat.le_of_ble_eq_true rfl) dX7_greatestSpared_101 rfl ?_
            refine dn_istore_n (lv0 := [(0, .ref (wd_b G + a0)), (1, .ref (wd_b G + a1)), (2, .int a2), (4, .int x4), (5, .int a5_12)]) C dX7_greatestSpared_104 rfl (by decide) rfl rfl (fun v3_13 => ?_)
            refine dn_pick [1, 2, 3, 0, 4] rfl ?_
            exact hj6 v3_13
          · refine dn_icmp_eq (t := 98) C dX7_greatestSpared_63 (by decide) rfl ?_ ?_
            · refine dn_pick [2, 3, 4, 5, 6, 1] rfl ?_
              exact hj14 v5_9
            · refine dn_aload_n C dX7_greatestSpared_66 rfl 3 rfl rfl ?_
              refine dn_iload C dX7_greatestSpared_67 0 rfl rfl ?_
              refine dn_callV_i (As := [.int v6_11]) (st := []) C (ok_State_size (cx_g C) a1 ha1 v6_11 σ τ) mt_X8_size mv_X8_size lk_X7_49 (by decide) ha1 rfl ⟨Nat.zero_le _, Nat.zero_le _⟩ (Nat.le_of_ble_eq_true rfl) dX7_greatestSpared_69 rfl rfl (fun z15 => ?_)
              refine dn_iload C dX7_greatestSpared_72 0 rfl rfl ?_
              refine dn_aload_n C dX7_greatestSpared_74 rfl 2 rfl rfl ?_
              refine dn_getI C fd_X7_43 ha0 dX7_greatestSpared_75 rfl ?_
              refine dn_jn (fun z => ∀ (t16 : Int32), dn_D G M 8 0 0 (cl_M G M (ci_i σ τ)) 86 [(0, .ref (wd_b G + a0)), (1, .ref (wd_b G + a1)), (2, .int a2), (3, .int x3), (4, .int x4), (5, .int v5_9)] [.int t16, .int z15] σ τ (z t16)) (fun t16 => ?_) (fun j19 hj19 => ?_)
              · refine dn_isub C dX7_greatestSpared_86 rfl ?_
                refine dn_istore (lv0 := [(0, .ref (wd_b G + a0)), (1, .ref (wd_b G + a1)), (2, .int a2), (3, .int x3), (4, .int x4), (5, .int v5_9)]) C dX7_greatestSpared_87 (by decide) rfl rfl (fun v7_17 => ?_)
                refine dn_iload C dX7_greatestSpared_89 6 rfl rfl ?_
                refine dn_iload C dX7_greatestSpared_91 0 rfl rfl ?_
                refine dn_max C mm_all lk_X7_139 (by decide) ⟨Nat.zero_le _, Nat.zero_le _⟩ (Nat.le_of_ble_eq_true rfl) dX7_greatestSpared_93 rfl ?_
                refine dn_istore (lv0 := [(7, .int v7_17), (0, .ref (wd_b G + a0)), (1, .ref (wd_b G + a1)), (2, .int a2), (3, .int x3), (4, .int x4)]) C dX7_greatestSpared_96 (by decide) rfl rfl (fun v5_18 => ?_)
                refine dn_pick [2, 3, 4, 5, 6, 0] rfl ?_
                exact hj14 v5_18
              · refine dn_icmp_ge (t := 85) C dX7_greatestSpared_78 (by decide) rfl ?_ ?_
                · refine dn_iconst C dX7_greatestSpared_81 ic_i_0 rfl ?_
                  refine dn_goto (t := 86) C dX7_greatestSpared_82 (by decide) ?_
                  refine dn_pick [2, 3, 4, 5, 6, 1] rfl ?_
                  exact hj19 (0 : Int32)
                · refine dn_iconst C dX7_greatestSpared_85 ic_i_1 rfl ?_
                  refine dn_pick [2, 3, 4, 5, 6, 1] rfl ?_
                  exact hj19 (1 : Int32)
        · exact hj6 x3
    · refine dn_pick [3] rfl ?_
      exact hk x3
set_option maxHeartbeats 4000000 in
set_option maxRecDepth 100000 in
theorem ok_Slip_greatestSpared {G : wd_G} {l : Launch} (hN : gd_ok G)  (o : Nat) (ho : sh_kd o = 7) (p1 : Nat) (hp1 : sh_kd p1 = 8) (p2 : Int32) (σ : hp_I) (τ : hp_L) : cl_C G l 1 yX7_greatestSpared cX7_greatestSpared 8 (some .int) [.ref (wd_b G + o), .ref (wd_b G + p1), .int p2] σ τ (ci_i σ τ) (fn_Slip_greatestSpared o p1 p2 σ) := by
  refine cl_of (lv0 := [(0, .ref (wd_b G + o)), (1, .ref (wd_b G + p1)), (2, .int p2)]) (ci_i σ τ) (by decide) (Nat.le_of_ble_eq_true rfl) rfl hN (fun M hM C => ?_)
  have C : cx_C G M RX7 cX7_greatestSpared 8 1 (some .int) := C
  unfold fn_Slip_greatestSpared
  refine dn_sipush C dX7_greatestSpared_0 ic_s_999 rfl ?_
  refine dn_istore_n (lv0 := [(0, .ref (wd_b G + o)), (1, .ref (wd_b G + p1)), (2, .int p2)]) C dX7_greatestSpared_3 rfl (by decide) rfl rfl (fun v3_1 => ?_)
  refine dn_iconst C dX7_greatestSpared_4 ic_i_0 rfl ?_
  refine dn_istore (lv0 := [(3, .int v3_1), (0, .ref (wd_b G + o)), (1, .ref (wd_b G + p1)), (2, .int p2)]) C dX7_greatestSpared_5 (by decide) rfl rfl (fun v4_2 => ?_)
  refine dn_pick [2, 3, 4, 1, 0] rfl ?_
  refine pf_Slip_greatestSpared_L7  C  o ho p1 hp1 p2 σ τ _ (fun y_20 => ?_) FU v3_1 v4_2
  refine dn_iload_n C dX7_greatestSpared_111 rfl 0 rfl rfl ?_
  exact dn_iret C dX7_greatestSpared_112 rfl
def fn_Slip_spread_L44  (a0 : Nat) (a1 : Nat) (a2 : Int32) (a3 : Int32) (a4 : Int32) (σ : hp_I) (k : Int32 → Option (hp_I)) : Nat → Int32 → Int32 → Option (hp_I)
  | 0, _, _ => none
  | fu + 1, x5, x6 =>
    if x6 < (σ (sh_rf a0 0) 0) then (
      px_jn (fun (a5_7 : Int32) =>
        px_let (x6 + 1) fun v6_8 =>
        fn_Slip_spread_L44 a0 a1 a2 a3 a4 σ k fu a5_7 v6_8
      ) fun j9 =>
        if ((a3 >>> (x6 &&& 31)) &&& (1 : Int32)) = (1 : Int32) then (
          Option.bind (px_ald σ (sh_rf a0 2) ((x6 * (32 : Int32)) + a4)) fun z10 =>
          px_let (x5 ||| z10) fun v5_11 =>
          j9 v5_11
        ) else (
          j9 x5
        )
    ) else (
      k x5
    )
def fn_Slip_spread_L29  (a0 : Nat) (a1 : Nat) (a2 : Int32) (a3 : Int32) (k : hp_I → Option (hp_I)) : Nat → Int32 → hp_I → Option (hp_I)
  | 0, _, _ => none
  | fu + 1, x4, s0 =>
    if x4 ≤ (s0 a0 8) then (
      px_let (0 : Int32) fun v5_5 =>
      px_let (0 : Int32) fun v6_6 =>
      fn_Slip_spread_L44 a0 a1 a2 a3 x4 s0
        (fun (y_12 : Int32) =>
          Option.bind (px_ast s0 (sh_rf a0 3) ((a2 * (32 : Int32)) + x4) y_12) fun s13 =>
          px_let (x4 + 1) fun v4_14 =>
          fn_Slip_spread_L29 a0 a1 a2 a3 k fu v4_14 s13
        )
        FU v5_5 v6_6
    ) else (
      k s0
    )
def fn_Slip_spread_L2  (a0 : Nat) (a1 : Nat) (k : hp_I → Option (hp_I)) : Nat → Int32 → hp_I → Option (hp_I)
  | 0, _, _ => none
  | fu + 1, x2, s0 =>
    if x2 < (s0 (sh_rf a0 0) 0) then (
      Option.bind (fn_State_besides a1 x2 s0) fun z2 =>
      px_let (z2 ||| ((1 : Int32) <<< (x2 &&& 31))) fun v3_3 =>
      px_let (s0 a0 7) fun v4_4 =>
      fn_Slip_spread_L29 a0 a1 x2 v3_3
        (fun (s_15 : hp_I) =>
          px_let (x2 + 1) fun v2_16 =>
          fn_Slip_spread_L2 a0 a1 k fu v2_16 s_15
        )
        FU v4_4 s0
    ) else (
      k s0
    )
def fn_Slip_spread  (o : Nat) (p1 : Nat) (σ : hp_I) : Option (hp_I) :=
  px_let (0 : Int32) fun v2_1 =>
  fn_Slip_spread_L2 o p1
    (fun (s_17 : hp_I) =>
      some s_17
    )
    FU v2_1 σ
set_option maxHeartbeats 4000000 in
set_option maxRecDepth 100000 in
theorem pf_Slip_spread_L44 {G : wd_G} {M : wd_M}  (C : cx_C G M RX7 cX7_spread 7 1 none) (a0 : Nat) (ha0 : sh_kd a0 = 7) (a1 : Nat) (ha1 : sh_kd a1 = 8) (a2 : Int32) (a3 : Int32) (a4 : Int32) (σ : hp_I) (τ : hp_L) (k : Int32 → Option (hp_I)) (hk : ∀ (y5 : Int32), dn_D G M 7 0 0 (cl_M G M (ci_h τ)) 90 [(0, .ref (wd_b G + a0)), (1, .ref (wd_b G + a1)), (2, .int a2), (3, .int a3), (4, .int a4), (5, .int y5)] [] σ τ (k y5)) : ∀ (fu : Nat) (x5 : Int32) (x6 : Int32), dn_D G M 7 0 0 (cl_M G M (ci_h τ)) 44 [(0, .ref (wd_b G + a0)), (1, .ref (wd_b G + a1)), (2, .int a2), (3, .int a3), (4, .int a4), (5, .int x5), (6, .int x6)] [] σ τ (fn_Slip_spread_L44 a0 a1 a2 a3 a4 σ k fu x5 x6) := by
  intro fu
  induction fu with
  | zero => exact fun x5 x6 => dn_none
  | succ fu ih =>
    intro x5 x6
    unfold fn_Slip_spread_L44
    refine dn_iload C dX7_spread_44 6 rfl rfl ?_
    refine dn_aload_n C dX7_spread_46 rfl 0 rfl rfl ?_
    refine dn_getR C fd_X7_25 ha0 dX7_spread_47 rfl ?_
    refine dn_getI C fd_X7_90 (kt_7_0 ha0) dX7_spread_50 rfl ?_
    refine dn_icmp_ge (t := 90) C dX7_spread_53 (by decide) rfl ?_ ?_
    · refine dn_iload_n C dX7_spread_56 rfl 3 rfl rfl ?_
      refine dn_iload C dX7_spread_57 6 rfl rfl ?_
      refine dn_ishr C dX7_spread_59 rfl ?_
      refine dn_iconst C dX7_spread_60 ic_i_1 rfl ?_
      refine dn_iand C dX7_spread_61 rfl ?_
      refine dn_iconst C dX7_spread_62 ic_i_1 rfl ?_
      refine dn_jn (fun z => ∀ (a5_7 : Int32), dn_D G M 7 0 0 (cl_M G M (ci_h τ)) 84 [(0, .ref (wd_b G + a0)), (1, .ref (wd_b G + a1)), (2, .int a2), (3, .int a3), (4, .int a4), (5, .int a5_7), (6, .int x6)] [] σ τ (z a5_7)) (fun a5_7 => ?_) (fun j9 hj9 => ?_)
      · refine dn_iinc (lv0 := [(0, .ref (wd_b G + a0)), (1, .ref (wd_b G + a1)), (2, .int a2), (3, .int a3), (4, .int a4), (5, .int a5_7)]) (v := x6 + 1) C dX7_spread_84 6 rfl rfl (by decide) rfl rfl (fun v6_8 => ?_)
        refine dn_goto (t := 44) C dX7_spread_87 (by decide) ?_
        refine dn_pick [1, 2, 3, 4, 5, 6, 0] rfl ?_
        exact ih a5_7 v6_8
      · refine dn_icmp_ne (t := 84) C dX7_spread_63 (by decide) rfl ?_ ?_
        · refine dn_iload C dX7_spread_66 5 rfl rfl ?_
          refine dn_aload_n C dX7_spread_68 rfl 0 rfl rfl ?_
          refine dn_getR C fd_X7_11 ha0 dX7_spread_69 rfl ?_
          refine dn_iload C dX7_spread_72 6 rfl rfl ?_
          refine dn_bipush C dX7_spread_74 ic_b_32 rfl ?_
          refine dn_imul C dX7_spread_76 rfl ?_
          refine dn_iload C dX7_spread_77 4 rfl rfl ?_
          refine dn_iadd C dX7_spread_79 rfl ?_
          refine dn_iald C (kt_7_2 ha0) dX7_spread_80 rfl (fun z10 => ?_)
          refine dn_ior C dX7_spread_81 rfl ?_
          refine dn_istore (lv0 := [(0, .ref (wd_b G + a0)), (1, .ref (wd_b G + a1)), (2, .int a2), (3, .int a3), (4, .int a4), (6, .int x6)]) C dX7_spread_82 (by decide) rfl rfl (fun v5_11 => ?_)
          refine dn_pick [1, 2, 3, 4, 5, 0, 6] rfl ?_
          exact hj9 v5_11
        · exact hj9 x5
    · refine dn_pick [0, 1, 2, 3, 4, 5] rfl ?_
      exact hk x5
set_option maxHeartbeats 4000000 in
set_option maxRecDepth 100000 in
theorem pf_Slip_spread_L29 {G : wd_G} {M : wd_M}  (C : cx_C G M RX7 cX7_spread 7 1 none) (a0 : Nat) (ha0 : sh_kd a0 = 7) (a1 : Nat) (ha1 : sh_kd a1 = 8) (a2 : Int32) (a3 : Int32)  (τ : hp_L) (k : hp_I → Option (hp_I)) (hk : ∀ (s : hp_I), dn_D G M 7 0 0 (cl_M G M (ci_h τ)) 110 [(0, .ref (wd_b G + a0)), (1, .ref (wd_b G + a1)), (2, .int a2)] [] s τ (k s)) : ∀ (fu : Nat) (x4 : Int32) (s0 : hp_I), dn_D G M 7 0 0 (cl_M G M (ci_h τ)) 29 [(0, .ref (wd_b G + a0)), (1, .ref (wd_b G + a1)), (2, .int a2), (3, .int a3), (4, .int x4)] [] s0 τ (fn_Slip_spread_L29 a0 a1 a2 a3 k fu x4 s0) := by
  intro fu
  induction fu with
  | zero => exact fun x4 s0 => dn_none
  | succ fu ih =>
    intro x4 s0
    unfold fn_Slip_spread_L29
    refine dn_iload C dX7_spread_29 4 rfl rfl ?_
    refine dn_aload_n C dX7_spread_31 rfl 0 rfl rfl ?_
    refine dn_getI C fd_X7_22 ha0 dX7_spread_32 rfl ?_
    refine dn_icmp_gt (t := 110) C dX7_spread_35 (by decide) rfl ?_ ?_
    · refine dn_iconst C dX7_spread_38 ic_i_0 rfl ?_
      refine dn_istore (lv0 := [(0, .ref (wd_b G + a0)), (1, .ref (wd_b G + a1)), (2, .int a2), (3, .int a3), (4, .int x4)]) C dX7_spread_39 (by decide) rfl rfl (fun v5_5 => ?_)
      refine dn_iconst C dX7_spread_41 ic_i_0 rfl ?_
      refine dn_istore (lv0 := [(5, .int v5_5), (0, .ref (wd_b G + a0)), (1, .ref (wd_b G + a1)), (2, .int a2), (3, .int a3), (4, .int x4)]) C dX7_spread_42 (by decide) rfl rfl (fun v6_6 => ?_)
      refine dn_pick [2, 3, 4, 5, 6, 1, 0] rfl ?_
      refine pf_Slip_spread_L44  C  a0 ha0 a1 ha1 a2 a3 x4 s0 τ _ (fun y_12 => ?_) FU v5_5 v6_6
      refine dn_aload_n C dX7_spread_90 rfl 0 rfl rfl ?_
      refine dn_getR C fd_X7_15 ha0 dX7_spread_91 rfl ?_
      refine dn_iload_n C dX7_spread_94 rfl 2 rfl rfl ?_
      refine dn_bipush C dX7_spread_95 ic_b_32 rfl ?_
      refine dn_imul C dX7_spread_97 rfl ?_
      refine dn_iload C dX7_spread_98 4 rfl rfl ?_
      refine dn_iadd C dX7_spread_100 rfl ?_
      refine dn_iload C dX7_spread_101 5 rfl rfl ?_
      refine dn_iast C (kt_7_3 ha0) dX7_spread_103 rfl (fun s13 => ?_)
      refine dn_iinc (lv0 := [(0, .ref (wd_b G + a0)), (1, .ref (wd_b G + a1)), (2, .int a2), (3, .int a3), (5, .int y_12)]) (v := x4 + 1) C dX7_spread_104 4 rfl rfl (by decide) rfl rfl (fun v4_14 => ?_)
      refine dn_goto (t := 29) C dX7_spread_107 (by decide) ?_
      refine dn_pick [1, 2, 3, 4, 0] rfl ?_
      exact ih v4_14 s13
    · refine dn_pick [0, 1, 2] rfl ?_
      exact hk s0
set_option maxHeartbeats 4000000 in
set_option maxRecDepth 100000 in
theorem pf_Slip_spread_L2 {G : wd_G} {M : wd_M}  (C : cx_C G M RX7 cX7_spread 7 1 none) (a0 : Nat) (ha0 : sh_kd a0 = 7) (a1 : Nat) (ha1 : sh_kd a1 = 8)  (τ : hp_L) (k : hp_I → Option (hp_I)) (hk : ∀ (s : hp_I), dn_D G M 7 0 0 (cl_M G M (ci_h τ)) 116 [] [] s τ (k s)) : ∀ (fu : Nat) (x2 : Int32) (s0 : hp_I), dn_D G M 7 0 0 (cl_M G M (ci_h τ)) 2 [(0, .ref (wd_b G + a0)), (1, .ref (wd_b G + a1)), (2, .int x2)] [] s0 τ (fn_Slip_spread_L2 a0 a1 k fu x2 s0) := by
  intro fu
  induction fu with
  | zero => exact fun x2 s0 => dn_none
  | succ fu ih =>
    intro x2 s0
    unfold fn_Slip_spread_L2
    refine dn_iload_n C dX7_spread_2 rfl 2 rfl rfl ?_
    refine dn_aload_n C dX7_spread_3 rfl 0 rfl rfl ?_
    refine dn_getR C fd_X7_25 ha0 dX7_spread_4 rfl ?_
    refine dn_getI C fd_X7_90 (kt_7_0 ha0) dX7_spread_7 rfl ?_
    refine dn_icmp_ge (t := 116) C dX7_spread_10 (by decide) rfl ?_ ?_
    · refine dn_aload_n C dX7_spread_13 rfl 1 rfl rfl ?_
      refine dn_iload_n C dX7_spread_14 rfl 2 rfl rfl ?_
      refine dn_callV_i (As := [.int x2]) (st := []) C (ok_State_besides (cx_g C) a1 ha1 x2 s0 τ) mt_X8_besides mv_X8_besides lk_X7_95 (by decide) ha1 rfl ⟨Nat.zero_le _, Nat.zero_le _⟩ (Nat.le_of_ble_eq_true rfl) dX7_spread_15 rfl rfl (fun z2 => ?_)
      refine dn_iconst C dX7_spread_18 ic_i_1 rfl ?_
      refine dn_iload_n C dX7_spread_19 rfl 2 rfl rfl ?_
      refine dn_ishl C dX7_spread_20 rfl ?_
      refine dn_ior C dX7_spread_21 rfl ?_
      refine dn_istore_n (lv0 := [(0, .ref (wd_b G + a0)), (1, .ref (wd_b G + a1)), (2, .int x2)]) C dX7_spread_22 rfl (by decide) rfl rfl (fun v3_3 => ?_)
      refine dn_aload_n C dX7_spread_23 rfl 1 rfl rfl ?_
      refine dn_getI C fd_X7_18 ha0 dX7_spread_24 rfl ?_
      refine dn_istore (lv0 := [(3, .int v3_3), (0, .ref (wd_b G + a0)), (1, .ref (wd_b G + a1)), (2, .int x2)]) C dX7_spread_27 (by decide) rfl rfl (fun v4_4 => ?_)
      refine dn_pick [2, 3, 4, 1, 0] rfl ?_
      refine pf_Slip_spread_L29  C  a0 ha0 a1 ha1 x2 v3_3  τ _ (fun s_15 => ?_) FU v4_4 s0
      refine dn_iinc (lv0 := [(0, .ref (wd_b G + a0)), (1, .ref (wd_b G + a1))]) (v := x2 + 1) C dX7_spread_110 2 rfl rfl (by decide) rfl rfl (fun v2_16 => ?_)
      refine dn_goto (t := 2) C dX7_spread_113 (by decide) ?_
      refine dn_pick [1, 2, 0] rfl ?_
      exact ih v2_16 s_15
    · refine dn_pick [] rfl ?_
      exact hk s0
set_option maxHeartbeats 4000000 in
set_option maxRecDepth 100000 in
theorem ok_Slip_spread {G : wd_G} {l : Launch} (hN : gd_ok G)  (o : Nat) (ho : sh_kd o = 7) (p1 : Nat) (hp1 : sh_kd p1 = 8) (σ : hp_I) (τ : hp_L) : cl_C G l 1 yX7_spread cX7_spread 7 none [.ref (wd_b G + o), .ref (wd_b G + p1)] σ τ (ci_h τ) (fn_Slip_spread o p1 σ) := by
  refine cl_of (lv0 := [(0, .ref (wd_b G + o)), (1, .ref (wd_b G + p1))]) (ci_h τ) (by decide) (Nat.le_of_ble_eq_true rfl) rfl hN (fun M hM C => ?_)
  have C : cx_C G M RX7 cX7_spread 7 1 none := C
  unfold fn_Slip_spread
  refine dn_iconst C dX7_spread_0 ic_i_0 rfl ?_
  refine dn_istore_n (lv0 := [(0, .ref (wd_b G + o)), (1, .ref (wd_b G + p1))]) C dX7_spread_1 rfl (by decide) rfl rfl (fun v2_1 => ?_)
  refine dn_pick [1, 2, 0] rfl ?_
  refine pf_Slip_spread_L2  C  o ho p1 hp1  τ _ (fun s_17 => ?_) FU v2_1 σ
  exact dn_vret C dX7_spread_116 rfl
def fn_Tape_takesSign  (o : Nat) (p1 : Int32) (σ : hp_I) : Option (Int32 × hp_I) :=
  Option.bind (fn_Tape_peek o σ) fun z1 =>
  if z1 = p1 then (
    Option.bind (fn_Tape_moveTo o ((σ o 3) + (1 : Int32)) σ) fun s3 =>
    px_z (1 : Int32) ((1 : Int32), s3)
  ) else (
    px_z (0 : Int32) ((0 : Int32), σ)
  )
set_option maxHeartbeats 4000000 in
set_option maxRecDepth 100000 in
theorem ok_Tape_takesSign {G : wd_G} {l : Launch} (hN : gd_ok G)  (o : Nat) (ho : sh_kd o = 10) (p1 : Int32) (σ : hp_I) (τ : hp_L) : cl_C G l 2 yX10_takesSign cX10_takesSign 2 (some .boolean) [.ref (wd_b G + o), .int p1] σ τ (ci_ih τ) (fn_Tape_takesSign o p1 σ) := by
  refine cl_of (lv0 := [(0, .ref (wd_b G + o)), (1, .int p1)]) (ci_ih τ) (by decide) (Nat.le_of_ble_eq_true rfl) rfl hN (fun M hM C => ?_)
  have C : cx_C G M RX10 cX10_takesSign 2 2 (some .boolean) := C
  unfold fn_Tape_takesSign
  refine dn_aload_n C dX10_takesSign_0 rfl 0 rfl rfl ?_
  refine dn_callV_i (As := []) (st := []) C (ok_Tape_peek (cx_g C) o ho σ τ) mt_X10_peek mv_X10_peek lk_X10_45 (by decide) ho rfl ⟨Nat.zero_le _, Nat.zero_le _⟩ (Nat.le_of_ble_eq_true rfl) dX10_takesSign_1 rfl rfl (fun z1 => ?_)
  refine dn_iload_n C dX10_takesSign_4 rfl 1 rfl rfl ?_
  refine dn_icmp_eq (t := 10) C dX10_takesSign_5 (by decide) rfl ?_ ?_
  · refine dn_aload_n C dX10_takesSign_10 rfl 0 rfl rfl ?_
    refine dn_aload_n C dX10_takesSign_11 rfl 0 rfl rfl ?_
    refine dn_getI C fd_X10_38 ho dX10_takesSign_12 rfl ?_
    refine dn_iconst C dX10_takesSign_15 ic_i_1 rfl ?_
    refine dn_iadd C dX10_takesSign_16 rfl ?_
    refine dn_callV_h (As := [.int ((σ o 3) + (1 : Int32))]) (st := []) C (ok_Tape_moveTo (cx_g C) o ho ((σ o 3) + (1 : Int32)) σ τ) mt_X10_moveTo mv_X10_moveTo lk_X10_34 (by decide) ho rfl ⟨Nat.zero_le _, Nat.zero_le _⟩ (Nat.le_of_ble_eq_true rfl) dX10_takesSign_17 rfl rfl (fun s3 => ?_)
    refine dn_iconst C dX10_takesSign_20 ic_i_1 rfl ?_
    exact dn_zret C dX10_takesSign_21 rfl
  · refine dn_iconst C dX10_takesSign_8 ic_i_0 rfl ?_
    exact dn_zret C dX10_takesSign_9 rfl
def fn_Chase_choose_L14  (a0 : Nat) (k : hp_I → Option (hp_I)) : Nat → Int32 → Int32 → hp_I → Option (hp_I)
  | 0, _, _, _ => none
  | fu + 1, x1, x2, s0 =>
    if x2 < (s0 (sh_rf a0 0) 3) then (
      Option.bind (fn_Chase_firstBest a0 x2 x1 s0) fun z5 =>
      px_let z5 fun v3_6 =>
      Option.bind (px_ast s0 (sh_rf a0 3) x2 v3_6) fun s7 =>
      px_jn (fun (a1_8 : Int32) (s9 : hp_I) =>
        px_let (x2 + 1) fun v2_10 =>
        fn_Chase_choose_L14 a0 k fu a1_8 v2_10 s9
      ) fun j11 =>
        if v3_6 = (-1 : Int32) then (
          j11 x1 s7
        ) else (
          px_let (x1 ||| ((1 : Int32) <<< (v3_6 &&& 31))) fun v1_12 =>
          px_let (hp_s s7 a0 4 ((s7 a0 4) + (1 : Int32))) fun s13 =>
          Option.bind (px_ald s13 (sh_rf a0 2) ((x2 * (8 : Int32)) + v3_6)) fun z14 =>
          px_let (hp_s s13 a0 5 ((s13 a0 5) + z14)) fun s15 =>
          j11 v1_12 s15
        )
    ) else (
      k s0
    )
def fn_Chase_choose  (o : Nat) (σ : hp_I) : Option (hp_I) :=
  px_let (0 : Int32) fun v1_1 =>
  px_let (hp_s σ o 4 (0 : Int32)) fun s2 =>
  px_let (hp_s s2 o 5 (0 : Int32)) fun s3 =>
  px_let (0 : Int32) fun v2_4 =>
  fn_Chase_choose_L14 o
    (fun (s_16 : hp_I) =>
      some s_16
    )
    FU v1_1 v2_4 s3
set_option maxHeartbeats 4000000 in
set_option maxRecDepth 100000 in
theorem pf_Chase_choose_L14 {G : wd_G} {M : wd_M}  (C : cx_C G M RX1 cX1_choose 4 2 none) (a0 : Nat) (ha0 : sh_kd a0 = 1)  (τ : hp_L) (k : hp_I → Option (hp_I)) (hk : ∀ (s : hp_I), dn_D G M 4 0 0 (cl_M G M (ci_h τ)) 86 [] [] s τ (k s)) : ∀ (fu : Nat) (x1 : Int32) (x2 : Int32) (s0 : hp_I), dn_D G M 4 0 0 (cl_M G M (ci_h τ)) 14 [(0, .ref (wd_b G + a0)), (1, .int x1), (2, .int x2)] [] s0 τ (fn_Chase_choose_L14 a0 k fu x1 x2 s0) := by
  intro fu
  induction fu with
  | zero => exact fun x1 x2 s0 => dn_none
  | succ fu ih =>
    intro x1 x2 s0
    unfold fn_Chase_choose_L14
    refine dn_iload_n C dX1_choose_14 rfl 2 rfl rfl ?_
    refine dn_aload_n C dX1_choose_15 rfl 0 rfl rfl ?_
    refine dn_getR C fd_X1_21 ha0 dX1_choose_16 rfl ?_
    refine dn_getI C fd_X1_29 (kt_1_0 ha0) dX1_choose_19 rfl ?_
    refine dn_icmp_ge (t := 86) C dX1_choose_22 (by decide) rfl ?_ ?_
    · refine dn_aload_n C dX1_choose_25 rfl 0 rfl rfl ?_
      refine dn_iload_n C dX1_choose_26 rfl 2 rfl rfl ?_
      refine dn_iload_n C dX1_choose_27 rfl 1 rfl rfl ?_
      refine dn_callV_i (As := [.int x2, .int x1]) (st := []) C (ok_Chase_firstBest (cx_g C) a0 ha0 x2 x1 s0 τ) mt_X1_firstBest mv_X1_firstBest lk_X1_91 (by decide) ha0 rfl ⟨Nat.zero_le _, Nat.zero_le _⟩ (Nat.le_of_ble_eq_true rfl) dX1_choose_28 rfl rfl (fun z5 => ?_)
      refine dn_istore_n (lv0 := [(0, .ref (wd_b G + a0)), (1, .int x1), (2, .int x2)]) C dX1_choose_31 rfl (by decide) rfl rfl (fun v3_6 => ?_)
      refine dn_aload_n C dX1_choose_32 rfl 1 rfl rfl ?_
      refine dn_getR C fd_X1_18 ha0 dX1_choose_33 rfl ?_
      refine dn_iload_n C dX1_choose_36 rfl 3 rfl rfl ?_
      refine dn_iload_n C dX1_choose_37 rfl 0 rfl rfl ?_
      refine dn_iast C (kt_1_3 ha0) dX1_choose_38 rfl (fun s7 => ?_)
      refine dn_iload_n C dX1_choose_39 rfl 0 rfl rfl ?_
      refine dn_iconst C dX1_choose_40 ic_i_m1 rfl ?_
      refine dn_jn (fun z => ∀ (a1_8 : Int32) (s9 : hp_I), dn_D G M 4 0 0 (cl_M G M (ci_h τ)) 80 [(0, .ref (wd_b G + a0)), (1, .int a1_8), (2, .int x2)] [] s9 τ (z a1_8 s9)) (fun a1_8 s9 => ?_) (fun j11 hj11 => ?_)
      · refine dn_iinc (lv0 := [(0, .ref (wd_b G + a0)), (1, .int a1_8)]) (v := x2 + 1) C dX1_choose_80 2 rfl rfl (by decide) rfl rfl (fun v2_10 => ?_)
        refine dn_goto (t := 14) C dX1_choose_83 (by decide) ?_
        refine dn_pick [1, 2, 0] rfl ?_
        exact ih a1_8 v2_10 s9
      · refine dn_icmp_eq (t := 80) C dX1_choose_41 (by decide) rfl ?_ ?_
        · refine dn_pick [1, 2, 3] rfl ?_
          exact hj11 x1 s7
        · refine dn_iload_n C dX1_choose_44 rfl 2 rfl rfl ?_
          refine dn_iconst C dX1_choose_45 ic_i_1 rfl ?_
          refine dn_iload_n C dX1_choose_46 rfl 0 rfl rfl ?_
          refine dn_ishl C dX1_choose_47 rfl ?_
          refine dn_ior C dX1_choose_48 rfl ?_
          refine dn_istore_n (lv0 := [(3, .int v3_6), (0, .ref (wd_b G + a0)), (2, .int x2)]) C dX1_choose_49 rfl (by decide) rfl rfl (fun v1_12 => ?_)
          refine dn_aload_n C dX1_choose_50 rfl 2 rfl rfl ?_
          refine dn_dup C dX1_choose_51 rfl rfl ?_
          refine dn_getI C fd_X1_85 ha0 dX1_choose_52 rfl ?_
          refine dn_iconst C dX1_choose_55 ic_i_1 rfl ?_
          refine dn_iadd C dX1_choose_56 rfl ?_
          refine dn_putI C fp_X1_85 ha0 dX1_choose_57 rfl (fun s13 => ?_)
          refine dn_aload_n C dX1_choose_60 rfl 2 rfl rfl ?_
          refine dn_dup C dX1_choose_61 rfl rfl ?_
          refine dn_getI C fd_X1_88 ha0 dX1_choose_62 rfl ?_
          refine dn_aload_n C dX1_choose_65 rfl 2 rfl rfl ?_
          refine dn_getR C fd_X1_15 ha0 dX1_choose_66 rfl ?_
          refine dn_iload_n C dX1_choose_69 rfl 3 rfl rfl ?_
          refine dn_bipush C dX1_choose_70 ic_b_8 rfl ?_
          refine dn_imul C dX1_choose_72 rfl ?_
          refine dn_iload_n C dX1_choose_73 rfl 1 rfl rfl ?_
          refine dn_iadd C dX1_choose_74 rfl ?_
          refine dn_iald C (kt_1_2 ha0) dX1_choose_75 rfl (fun z14 => ?_)
          refine dn_iadd C dX1_choose_76 rfl ?_
          refine dn_putI C fp_X1_88 ha0 dX1_choose_77 rfl (fun s15 => ?_)
          refine dn_pick [2, 0, 3] rfl ?_
          exact hj11 v1_12 s15
    · refine dn_pick [] rfl ?_
      exact hk s0
set_option maxHeartbeats 4000000 in
set_option maxRecDepth 100000 in
theorem ok_Chase_choose {G : wd_G} {l : Launch} (hN : gd_ok G)  (o : Nat) (ho : sh_kd o = 1) (σ : hp_I) (τ : hp_L) : cl_C G l 2 yX1_choose cX1_choose 4 none [.ref (wd_b G + o)] σ τ (ci_h τ) (fn_Chase_choose o σ) := by
  refine cl_of (lv0 := [(0, .ref (wd_b G + o))]) (ci_h τ) (by decide) (Nat.le_of_ble_eq_true rfl) rfl hN (fun M hM C => ?_)
  have C : cx_C G M RX1 cX1_choose 4 2 none := C
  unfold fn_Chase_choose
  refine dn_iconst C dX1_choose_0 ic_i_0 rfl ?_
  refine dn_istore_n (lv0 := [(0, .ref (wd_b G + o))]) C dX1_choose_1 rfl (by decide) rfl rfl (fun v1_1 => ?_)
  refine dn_aload_n C dX1_choose_2 rfl 1 rfl rfl ?_
  refine dn_iconst C dX1_choose_3 ic_i_0 rfl ?_
  refine dn_putI C fp_X1_85 ho dX1_choose_4 rfl (fun s2 => ?_)
  refine dn_aload_n C dX1_choose_7 rfl 1 rfl rfl ?_
  refine dn_iconst C dX1_choose_8 ic_i_0 rfl ?_
  refine dn_putI C fp_X1_88 ho dX1_choose_9 rfl (fun s3 => ?_)
  refine dn_iconst C dX1_choose_12 ic_i_0 rfl ?_
  refine dn_istore_n (lv0 := [(1, .int v1_1), (0, .ref (wd_b G + o))]) C dX1_choose_13 rfl (by decide) rfl rfl (fun v2_4 => ?_)
  refine dn_pick [2, 1, 0] rfl ?_
  refine pf_Chase_choose_L14  C  o ho  τ _ (fun s_16 => ?_) FU v1_1 v2_4 s3
  exact dn_vret C dX1_choose_86 rfl
def fn_Chase_measurePaths_L15  (a0 : Nat) (a1 : Nat) (a2 : Int32) (k : hp_I → Option (hp_I)) : Nat → Int32 → hp_I → Option (hp_I)
  | 0, _, _ => none
  | fu + 1, x3, s0 =>
    if x3 < (s0 (sh_rf a0 0) 2) then (
      Option.bind (fn_State_roomOf a1 x3 s0) fun z3 =>
      px_let z3 fun v4_4 =>
      Option.bind (fn_State_lives a1 x3 s0) fun z5 =>
      px_jn (fun (t6 : Int32) =>
        px_let t6 fun v5_7 =>
        px_jn (fun (t8 : Int32) =>
          Option.bind (px_ast s0 (sh_rf a0 2) ((a2 * (8 : Int32)) + x3) t8) fun s9 =>
          px_let (x3 + 1) fun v3_10 =>
          fn_Chase_measurePaths_L15 a0 a1 a2 k fu v3_10 s9
        ) fun j11 =>
          if v5_7 = 0 then (
            j11 (-1 : Int32)
          ) else (
            Option.bind (fn_State_roomOfCat a1 a2 s0) fun z12 =>
            Option.bind (fn_State_distance a1 z12 v4_4 s0) fun z13 =>
            j11 z13
          )
      ) fun j14 =>
        px_jn (
          j14 (0 : Int32)
        ) fun j15 =>
          if z5 = 0 then (
            j15
          ) else (
            Option.bind (fn_State_size a1 x3 s0) fun z16 =>
            Option.bind (fn_State_wouldSee a1 a2 z16 v4_4 s0) fun z17 =>
            if z17 = 0 then (
              j15
            ) else (
              j14 (1 : Int32)
            )
          )
    ) else (
      k s0
    )
def fn_Chase_measurePaths_L2  (a0 : Nat) (a1 : Nat) (k : hp_I → Option (hp_I)) : Nat → Int32 → hp_I → Option (hp_I)
  | 0, _, _ => none
  | fu + 1, x2, s0 =>
    if x2 < (s0 (sh_rf a0 0) 3) then (
      px_let (0 : Int32) fun v3_2 =>
      fn_Chase_measurePaths_L15 a0 a1 x2
        (fun (s_18 : hp_I) =>
          px_let (x2 + 1) fun v2_19 =>
          fn_Chase_measurePaths_L2 a0 a1 k fu v2_19 s_18
        )
        FU v3_2 s0
    ) else (
      k s0
    )
def fn_Chase_measurePaths  (o : Nat) (p1 : Nat) (σ : hp_I) : Option (hp_I) :=
  px_let (0 : Int32) fun v2_1 =>
  fn_Chase_measurePaths_L2 o p1
    (fun (s_20 : hp_I) =>
      some s_20
    )
    FU v2_1 σ
set_option maxHeartbeats 4000000 in
set_option maxRecDepth 100000 in
theorem pf_Chase_measurePaths_L15 {G : wd_G} {M : wd_M}  (C : cx_C G M RX1 cX1_measurePaths 6 2 none) (a0 : Nat) (ha0 : sh_kd a0 = 1) (a1 : Nat) (ha1 : sh_kd a1 = 8) (a2 : Int32)  (τ : hp_L) (k : hp_I → Option (hp_I)) (hk : ∀ (s : hp_I), dn_D G M 6 0 0 (cl_M G M (ci_h τ)) 100 [(0, .ref (wd_b G + a0)), (1, .ref (wd_b G + a1)), (2, .int a2)] [] s τ (k s)) : ∀ (fu : Nat) (x3 : Int32) (s0 : hp_I), dn_D G M 6 0 0 (cl_M G M (ci_h τ)) 15 [(0, .ref (wd_b G + a0)), (1, .ref (wd_b G + a1)), (2, .int a2), (3, .int x3)] [] s0 τ (fn_Chase_measurePaths_L15 a0 a1 a2 k fu x3 s0) := by
  intro fu
  induction fu with
  | zero => exact fun x3 s0 => dn_none
  | succ fu ih =>
    intro x3 s0
    unfold fn_Chase_measurePaths_L15
    refine dn_iload_n C dX1_measurePaths_15 rfl 3 rfl rfl ?_
    refine dn_aload_n C dX1_measurePaths_16 rfl 0 rfl rfl ?_
    refine dn_getR C fd_X1_21 ha0 dX1_measurePaths_17 rfl ?_
    refine dn_getI C fd_X1_35 (kt_1_0 ha0) dX1_measurePaths_20 rfl ?_
    refine dn_icmp_ge (t := 100) C dX1_measurePaths_23 (by decide) rfl ?_ ?_
    · refine dn_aload_n C dX1_measurePaths_26 rfl 1 rfl rfl ?_
      refine dn_iload_n C dX1_measurePaths_27 rfl 3 rfl rfl ?_
      refine dn_callV_i (As := [.int x3]) (st := []) C (ok_State_roomOf (cx_g C) a1 ha1 x3 s0 τ) mt_X8_roomOf mv_X8_roomOf lk_X1_51 (by decide) ha1 rfl ⟨Nat.zero_le _, Nat.zero_le _⟩ (Nat.le_of_ble_eq_true rfl) dX1_measurePaths_28 rfl rfl (fun z3 => ?_)
      refine dn_istore (lv0 := [(0, .ref (wd_b G + a0)), (1, .ref (wd_b G + a1)), (2, .int a2), (3, .int x3)]) C dX1_measurePaths_31 (by decide) rfl rfl (fun v4_4 => ?_)
      refine dn_aload_n C dX1_measurePaths_33 rfl 2 rfl rfl ?_
      refine dn_iload_n C dX1_measurePaths_34 rfl 4 rfl rfl ?_
      refine dn_callV_i (As := [.int x3]) (st := []) C (ok_State_lives (cx_g C) a1 ha1 x3 s0 τ) mt_X8_lives mv_X8_lives lk_X1_56 (by decide) ha1 rfl ⟨Nat.zero_le _, Nat.zero_le _⟩ (Nat.le_of_ble_eq_true rfl) dX1_measurePaths_35 rfl rfl (fun z5 => ?_)
      refine dn_jn (fun z => ∀ (t6 : Int32), dn_D G M 6 0 0 (cl_M G M (ci_h τ)) 61 [(0, .ref (wd_b G + a0)), (1, .ref (wd_b G + a1)), (2, .int a2), (3, .int x3), (4, .int v4_4)] [.int t6] s0 τ (z t6)) (fun t6 => ?_) (fun j14 hj14 => ?_)
      · refine dn_istore (lv0 := [(0, .ref (wd_b G + a0)), (1, .ref (wd_b G + a1)), (2, .int a2), (3, .int x3), (4, .int v4_4)]) C dX1_measurePaths_61 (by decide) rfl rfl (fun v5_7 => ?_)
        refine dn_aload_n C dX1_measurePaths_63 rfl 1 rfl rfl ?_
        refine dn_getR C fd_X1_15 ha0 dX1_measurePaths_64 rfl ?_
        refine dn_iload_n C dX1_measurePaths_67 rfl 3 rfl rfl ?_
        refine dn_bipush C dX1_measurePaths_68 ic_b_8 rfl ?_
        refine dn_imul C dX1_measurePaths_70 rfl ?_
        refine dn_iload_n C dX1_measurePaths_71 rfl 4 rfl rfl ?_
        refine dn_iadd C dX1_measurePaths_72 rfl ?_
        refine dn_iload C dX1_measurePaths_73 0 rfl rfl ?_
        refine dn_jn (fun z => ∀ (t8 : Int32), dn_D G M 6 0 0 (cl_M G M (ci_h τ)) 93 [(0, .ref (wd_b G + a0)), (1, .ref (wd_b G + a1)), (2, .int a2), (3, .int x3)] [.int t8, .int ((a2 * (8 : Int32)) + x3), .ref (wd_b G + sh_rf a0 2)] s0 τ (z t8)) (fun t8 => ?_) (fun j11 hj11 => ?_)
        · refine dn_iast C (kt_1_2 ha0) dX1_measurePaths_93 rfl (fun s9 => ?_)
          refine dn_iinc (lv0 := [(0, .ref (wd_b G + a0)), (1, .ref (wd_b G + a1)), (2, .int a2)]) (v := x3 + 1) C dX1_measurePaths_94 3 rfl rfl (by decide) rfl rfl (fun v3_10 => ?_)
          refine dn_goto (t := 15) C dX1_measurePaths_97 (by decide) ?_
          refine dn_pick [1, 2, 3, 0] rfl ?_
          exact ih v3_10 s9
        · refine dn_if_eq (t := 92) C dX1_measurePaths_75 (by decide) rfl ?_ ?_
          · refine dn_iconst C dX1_measurePaths_92 ic_i_m1 rfl ?_
            refine dn_pick [1, 2, 3, 4] rfl ?_
            exact hj11 (-1 : Int32)
          · refine dn_aload_n C dX1_measurePaths_78 rfl 2 rfl rfl ?_
            refine dn_aload_n C dX1_measurePaths_79 rfl 2 rfl rfl ?_
            refine dn_iload_n C dX1_measurePaths_80 rfl 3 rfl rfl ?_
            refine dn_callV_i (As := [.int a2]) (st := [.ref (wd_b G + a1), .int ((a2 * (8 : Int32)) + x3), .ref (wd_b G + sh_rf a0 2)]) C (ok_State_roomOfCat (cx_g C) a1 ha1 a2 s0 τ) mt_X8_roomOfCat mv_X8_roomOfCat lk_X1_67 (by decide) ha1 rfl ⟨Nat.zero_le _, Nat.zero_le _⟩ (Nat.le_of_ble_eq_true rfl) dX1_measurePaths_81 rfl rfl (fun z12 => ?_)
            refine dn_iload C dX1_measurePaths_84 5 rfl rfl ?_
            refine dn_callV_i (As := [.int z12, .int v4_4]) (st := [.int ((a2 * (8 : Int32)) + x3), .ref (wd_b G + sh_rf a0 2)]) C (ok_State_distance (cx_g C) a1 ha1 z12 v4_4 s0 τ) mt_X8_distance mv_X8_distance lk_X1_70 (by decide) ha1 rfl ⟨Nat.zero_le _, Nat.zero_le _⟩ (Nat.le_of_ble_eq_true rfl) dX1_measurePaths_86 rfl rfl (fun z13 => ?_)
            refine dn_goto (t := 93) C dX1_measurePaths_89 (by decide) ?_
            refine dn_pick [1, 2, 3, 4] rfl ?_
            exact hj11 z13
      · refine dn_jn (fun z => dn_D G M 6 0 0 (cl_M G M (ci_h τ)) 60 [(0, .ref (wd_b G + a0)), (1, .ref (wd_b G + a1)), (2, .int a2), (3, .int x3), (4, .int v4_4)] [] s0 τ z) ?_ (fun j15 hj15 => ?_)
        · refine dn_iconst C dX1_measurePaths_60 ic_i_0 rfl ?_
          exact hj14 (0 : Int32)
        · refine dn_if_eq (t := 60) C dX1_measurePaths_38 (by decide) rfl ?_ ?_
          · refine dn_pick [1, 2, 3, 4, 0] rfl ?_
            exact hj15
          · refine dn_aload_n C dX1_measurePaths_41 rfl 2 rfl rfl ?_
            refine dn_iload_n C dX1_measurePaths_42 rfl 3 rfl rfl ?_
            refine dn_aload_n C dX1_measurePaths_43 rfl 2 rfl rfl ?_
            refine dn_iload_n C dX1_measurePaths_44 rfl 4 rfl rfl ?_
            refine dn_callV_i (As := [.int x3]) (st := [.int a2, .ref (wd_b G + a1)]) C (ok_State_size (cx_g C) a1 ha1 x3 s0 τ) mt_X8_size mv_X8_size lk_X1_60 (by decide) ha1 rfl ⟨Nat.zero_le _, Nat.zero_le _⟩ (Nat.le_of_ble_eq_true rfl) dX1_measurePaths_45 rfl rfl (fun z16 => ?_)
            refine dn_iload C dX1_measurePaths_48 0 rfl rfl ?_
            refine dn_callV_i (As := [.int a2, .int z16, .int v4_4]) (st := []) C (ok_State_wouldSee (cx_g C) a1 ha1 a2 z16 v4_4 s0 τ) mt_X8_wouldSee mv_X8_wouldSee lk_X1_63 (by decide) ha1 rfl ⟨Nat.zero_le _, Nat.zero_le _⟩ (Nat.le_of_ble_eq_true rfl) dX1_measurePaths_50 rfl rfl (fun z17 => ?_)
            refine dn_if_eq (t := 60) C dX1_measurePaths_53 (by decide) rfl ?_ ?_
            · refine dn_pick [1, 2, 3, 4, 0] rfl ?_
              exact hj15
            · refine dn_iconst C dX1_measurePaths_56 ic_i_1 rfl ?_
              refine dn_goto (t := 61) C dX1_measurePaths_57 (by decide) ?_
              refine dn_pick [1, 2, 3, 4, 0] rfl ?_
              exact hj14 (1 : Int32)
    · refine dn_pick [0, 1, 2] rfl ?_
      exact hk s0
set_option maxHeartbeats 4000000 in
set_option maxRecDepth 100000 in
theorem pf_Chase_measurePaths_L2 {G : wd_G} {M : wd_M}  (C : cx_C G M RX1 cX1_measurePaths 6 2 none) (a0 : Nat) (ha0 : sh_kd a0 = 1) (a1 : Nat) (ha1 : sh_kd a1 = 8)  (τ : hp_L) (k : hp_I → Option (hp_I)) (hk : ∀ (s : hp_I), dn_D G M 6 0 0 (cl_M G M (ci_h τ)) 106 [] [] s τ (k s)) : ∀ (fu : Nat) (x2 : Int32) (s0 : hp_I), dn_D G M 6 0 0 (cl_M G M (ci_h τ)) 2 [(0, .ref (wd_b G + a0)), (1, .ref (wd_b G + a1)), (2, .int x2)] [] s0 τ (fn_Chase_measurePaths_L2 a0 a1 k fu x2 s0) := by
  intro fu
  induction fu with
  | zero => exact fun x2 s0 => dn_none
  | succ fu ih =>
    intro x2 s0
    unfold fn_Chase_measurePaths_L2
    refine dn_iload_n C dX1_measurePaths_2 rfl 2 rfl rfl ?_
    refine dn_aload_n C dX1_measurePaths_3 rfl 0 rfl rfl ?_
    refine dn_getR C fd_X1_21 ha0 dX1_measurePaths_4 rfl ?_
    refine dn_getI C fd_X1_29 (kt_1_0 ha0) dX1_measurePaths_7 rfl ?_
    refine dn_icmp_ge (t := 106) C dX1_measurePaths_10 (by decide) rfl ?_ ?_
    · refine dn_iconst C dX1_measurePaths_13 ic_i_0 rfl ?_
      refine dn_istore_n (lv0 := [(0, .ref (wd_b G + a0)), (1, .ref (wd_b G + a1)), (2, .int x2)]) C dX1_measurePaths_14 rfl (by decide) rfl rfl (fun v3_2 => ?_)
      refine dn_pick [1, 2, 3, 0] rfl ?_
      refine pf_Chase_measurePaths_L15  C  a0 ha0 a1 ha1 x2  τ _ (fun s_18 => ?_) FU v3_2 s0
      refine dn_iinc (lv0 := [(0, .ref (wd_b G + a0)), (1, .ref (wd_b G + a1))]) (v := x2 + 1) C dX1_measurePaths_100 2 rfl rfl (by decide) rfl rfl (fun v2_19 => ?_)
      refine dn_goto (t := 2) C dX1_measurePaths_103 (by decide) ?_
      refine dn_pick [1, 2, 0] rfl ?_
      exact ih v2_19 s_18
    · refine dn_pick [] rfl ?_
      exact hk s0
set_option maxHeartbeats 4000000 in
set_option maxRecDepth 100000 in
theorem ok_Chase_measurePaths {G : wd_G} {l : Launch} (hN : gd_ok G)  (o : Nat) (ho : sh_kd o = 1) (p1 : Nat) (hp1 : sh_kd p1 = 8) (σ : hp_I) (τ : hp_L) : cl_C G l 2 yX1_measurePaths cX1_measurePaths 6 none [.ref (wd_b G + o), .ref (wd_b G + p1)] σ τ (ci_h τ) (fn_Chase_measurePaths o p1 σ) := by
  refine cl_of (lv0 := [(0, .ref (wd_b G + o)), (1, .ref (wd_b G + p1))]) (ci_h τ) (by decide) (Nat.le_of_ble_eq_true rfl) rfl hN (fun M hM C => ?_)
  have C : cx_C G M RX1 cX1_measurePaths 6 2 none := C
  unfold fn_Chase_measurePaths
  refine dn_iconst C dX1_measurePaths_0 ic_i_0 rfl ?_
  refine dn_istore_n (lv0 := [(0, .ref (wd_b G + o)), (1, .ref (wd_b G + p1))]) C dX1_measurePaths_1 rfl (by decide) rfl rfl (fun v2_1 => ?_)
  refine dn_pick [1, 2, 0] rfl ?_
  refine pf_Chase_measurePaths_L2  C  o ho p1 hp1  τ _ (fun s_20 => ?_) FU v2_1 σ
  exact dn_vret C dX1_measurePaths_106 rfl
def fn_Guess_bestToWatch_L4  (a0 : Nat) (a1 : Nat) (σ : hp_I) (k : Int32 → Option (Int32)) : Nat → Int32 → Int32 → Option (Int32)
  | 0, _, _ => none
  | fu + 1, x2, x3 =>
    if x3 < (σ (sh_rf a0 0) 3) then (
      Option.bind (fn_Book_hasLineOf a1 x3 σ) fun z3 =>
      px_jn (fun (a2_4 : Int32) =>
        px_let (x3 + 1) fun v3_5 =>
        fn_Guess_bestToWatch_L4 a0 a1 σ k fu a2_4 v3_5
      ) fun j6 =>
        if z3 = 0 then (
          px_jn (
            px_let x3 fun v2_7 =>
            j6 v2_7
          ) fun j8 =>
            if x2 = (-1 : Int32) then (
              j8
            ) else (
              Option.bind (fn_Guess_leftAtWorst a0 x3 σ) fun z9 =>
              Option.bind (fn_Guess_leftAtWorst a0 x2 σ) fun z10 =>
              if z9 < z10 then (
                j8
              ) else (
                j6 x2
              )
            )
        ) else (
          j6 x2
        )
    ) else (
      k x2
    )
def fn_Guess_bestToWatch  (o : Nat) (p1 : Nat) (σ : hp_I) : Option (Int32) :=
  px_let (-1 : Int32) fun v2_1 =>
  px_let (0 : Int32) fun v3_2 =>
  fn_Guess_bestToWatch_L4 o p1 σ
    (fun (y_11 : Int32) =>
      some y_11
    )
    FU v2_1 v3_2
set_option maxHeartbeats 4000000 in
set_option maxRecDepth 100000 in
theorem pf_Guess_bestToWatch_L4 {G : wd_G} {M : wd_M}  (C : cx_C G M RX2 cX2_bestToWatch 4 2 (some .int)) (a0 : Nat) (ha0 : sh_kd a0 = 2) (a1 : Nat) (ha1 : sh_kd a1 = 0) (σ : hp_I) (τ : hp_L) (k : Int32 → Option (Int32)) (hk : ∀ (y2 : Int32), dn_D G M 4 0 0 (cl_M G M (ci_i σ τ)) 49 [(2, .int y2)] [] σ τ (k y2)) : ∀ (fu : Nat) (x2 : Int32) (x3 : Int32), dn_D G M 4 0 0 (cl_M G M (ci_i σ τ)) 4 [(0, .ref (wd_b G + a0)), (1, .ref (wd_b G + a1)), (2, .int x2), (3, .int x3)] [] σ τ (fn_Guess_bestToWatch_L4 a0 a1 σ k fu x2 x3) := by
  intro fu
  induction fu with
  | zero => exact fun x2 x3 => dn_none
  | succ fu ih =>
    intro x2 x3
    unfold fn_Guess_bestToWatch_L4
    refine dn_iload_n C dX2_bestToWatch_4 rfl 3 rfl rfl ?_
    refine dn_aload_n C dX2_bestToWatch_5 rfl 0 rfl rfl ?_
    refine dn_getR C fd_X2_15 ha0 dX2_bestToWatch_6 rfl ?_
    refine dn_getI C fd_X2_60 (kt_2_0 ha0) dX2_bestToWatch_9 rfl ?_
    refine dn_icmp_ge (t := 49) C dX2_bestToWatch_12 (by decide) rfl ?_ ?_
    · refine dn_aload_n C dX2_bestToWatch_15 rfl 1 rfl rfl ?_
      refine dn_iload_n C dX2_bestToWatch_16 rfl 3 rfl rfl ?_
      refine dn_callV_i (As := [.int x3]) (st := []) C (ok_Book_hasLineOf (cx_g C) a1 ha1 x3 σ τ) mt_X0_hasLineOf mv_X0_hasLineOf lk_X2_69 (by decide) ha1 rfl ⟨Nat.zero_le _, Nat.zero_le _⟩ (Nat.le_of_ble_eq_true rfl) dX2_bestToWatch_17 rfl rfl (fun z3 => ?_)
      refine dn_jn (fun z => ∀ (a2_4 : Int32), dn_D G M 4 0 0 (cl_M G M (ci_i σ τ)) 43 [(0, .ref (wd_b G + a0)), (1, .ref (wd_b G + a1)), (2, .int a2_4), (3, .int x3)] [] σ τ (z a2_4)) (fun a2_4 => ?_) (fun j6 hj6 => ?_)
      · refine dn_iinc (lv0 := [(0, .ref (wd_b G + a0)), (1, .ref (wd_b G + a1)), (2, .int a2_4)]) (v := x3 + 1) C dX2_bestToWatch_43 3 rfl rfl (by decide) rfl rfl (fun v3_5 => ?_)
        refine dn_goto (t := 4) C dX2_bestToWatch_46 (by decide) ?_
        refine dn_pick [1, 2, 3, 0] rfl ?_
        exact ih a2_4 v3_5
      · refine dn_if_ne (t := 43) C dX2_bestToWatch_20 (by decide) rfl ?_ ?_
        · refine dn_iload_n C dX2_bestToWatch_23 rfl 2 rfl rfl ?_
          refine dn_iconst C dX2_bestToWatch_24 ic_i_m1 rfl ?_
          refine dn_jn (fun z => dn_D G M 4 0 0 (cl_M G M (ci_i σ τ)) 41 [(0, .ref (wd_b G + a0)), (1, .ref (wd_b G + a1)), (3, .int x3)] [] σ τ z) ?_ (fun j8 hj8 => ?_)
          · refine dn_iload_n C dX2_bestToWatch_41 rfl 2 rfl rfl ?_
            refine dn_istore_n (lv0 := [(0, .ref (wd_b G + a0)), (1, .ref (wd_b G + a1)), (3, .int x3)]) C dX2_bestToWatch_42 rfl (by decide) rfl rfl (fun v2_7 => ?_)
            refine dn_pick [1, 2, 0, 3] rfl ?_
            exact hj6 v2_7
          · refine dn_icmp_eq (t := 41) C dX2_bestToWatch_25 (by decide) rfl ?_ ?_
            · refine dn_pick [0, 1, 3] rfl ?_
              exact hj8
            · refine dn_aload_n C dX2_bestToWatch_28 rfl 0 rfl rfl ?_
              refine dn_iload_n C dX2_bestToWatch_29 rfl 3 rfl rfl ?_
              refine dn_callV_i (As := [.int x3]) (st := []) C (ok_Guess_leftAtWorst (cx_g C) a0 ha0 x3 σ τ) mt_X2_leftAtWorst mv_X2_leftAtWorst lk_X2_72 (by decide) ha0 rfl ⟨Nat.zero_le _, Nat.zero_le _⟩ (Nat.le_of_ble_eq_true rfl) dX2_bestToWatch_30 rfl rfl (fun z9 => ?_)
              refine dn_aload_n C dX2_bestToWatch_33 rfl 0 rfl rfl ?_
              refine dn_iload_n C dX2_bestToWatch_34 rfl 2 rfl rfl ?_
              refine dn_callV_i (As := [.int x2]) (st := [.int z9]) C (ok_Guess_leftAtWorst (cx_g C) a0 ha0 x2 σ τ) mt_X2_leftAtWorst mv_X2_leftAtWorst lk_X2_72 (by decide) ha0 rfl ⟨Nat.zero_le _, Nat.zero_le _⟩ (Nat.le_of_ble_eq_true rfl) dX2_bestToWatch_35 rfl rfl (fun z10 => ?_)
              refine dn_icmp_ge (t := 43) C dX2_bestToWatch_38 (by decide) rfl ?_ ?_
              · refine dn_pick [0, 1, 3] rfl ?_
                exact hj8
              · exact hj6 x2
        · exact hj6 x2
    · refine dn_pick [2] rfl ?_
      exact hk x2
set_option maxHeartbeats 4000000 in
set_option maxRecDepth 100000 in
theorem ok_Guess_bestToWatch {G : wd_G} {l : Launch} (hN : gd_ok G)  (o : Nat) (ho : sh_kd o = 2) (p1 : Nat) (hp1 : sh_kd p1 = 0) (σ : hp_I) (τ : hp_L) : cl_C G l 2 yX2_bestToWatch cX2_bestToWatch 4 (some .int) [.ref (wd_b G + o), .ref (wd_b G + p1)] σ τ (ci_i σ τ) (fn_Guess_bestToWatch o p1 σ) := by
  refine cl_of (lv0 := [(0, .ref (wd_b G + o)), (1, .ref (wd_b G + p1))]) (ci_i σ τ) (by decide) (Nat.le_of_ble_eq_true rfl) rfl hN (fun M hM C => ?_)
  have C : cx_C G M RX2 cX2_bestToWatch 4 2 (some .int) := C
  unfold fn_Guess_bestToWatch
  refine dn_iconst C dX2_bestToWatch_0 ic_i_m1 rfl ?_
  refine dn_istore_n (lv0 := [(0, .ref (wd_b G + o)), (1, .ref (wd_b G + p1))]) C dX2_bestToWatch_1 rfl (by decide) rfl rfl (fun v2_1 => ?_)
  refine dn_iconst C dX2_bestToWatch_2 ic_i_0 rfl ?_
  refine dn_istore_n (lv0 := [(2, .int v2_1), (0, .ref (wd_b G + o)), (1, .ref (wd_b G + p1))]) C dX2_bestToWatch_3 rfl (by decide) rfl rfl (fun v3_2 => ?_)
  refine dn_pick [2, 3, 1, 0] rfl ?_
  refine pf_Guess_bestToWatch_L4  C  o ho p1 hp1 σ τ _ (fun y_11 => ?_) FU v2_1 v3_2
  refine dn_iload_n C dX2_bestToWatch_49 rfl 0 rfl rfl ?_
  exact dn_iret C dX2_bestToWatch_50 rfl
def fn_House_readCat  (o : Nat) (p1 : Nat) (p2 : Int32) (σ : hp_I) : Option (hp_I) :=
  if (5 : Int32) ≤ (σ o 3) then (
    Option.bind (fn_Tape_fail p1 (3 : Int32) p2 σ) fun s2 =>
    some s2
  ) else (
    px_b2 (fn_Tape_number p1 (0 : Int32) ((σ o 0) - (1 : Int32)) σ) fun z3 s4 =>
    Option.bind (px_ast s4 (sh_rf o 10) (σ o 3) z3) fun s5 =>
    px_b2 (fn_Tape_number p1 (0 : Int32) (20 : Int32) s5) fun z6 s7 =>
    Option.bind (px_ast s7 (sh_rf o 11) (s5 o 3) z6) fun s8 =>
    px_let (hp_s s8 o 3 ((s8 o 3) + (1 : Int32))) fun s9 =>
    some s9
  )
set_option maxHeartbeats 4000000 in
set_option maxRecDepth 100000 in
theorem ok_House_readCat {G : wd_G} {l : Launch} (hN : gd_ok G)  (o : Nat) (ho : sh_kd o = 3) (p1 : Nat) (hp1 : sh_kd p1 = 10) (p2 : Int32) (σ : hp_I) (τ : hp_L) : cl_C G l 2 yX3_readCat cX3_readCat 3 none [.ref (wd_b G + o), .ref (wd_b G + p1), .int p2] σ τ (ci_h τ) (fn_House_readCat o p1 p2 σ) := by
  refine cl_of (lv0 := [(0, .ref (wd_b G + o)), (1, .ref (wd_b G + p1)), (2, .int p2)]) (ci_h τ) (by decide) (Nat.le_of_ble_eq_true rfl) rfl hN (fun M hM C => ?_)
  have C : cx_C G M RX3 cX3_readCat 3 2 none := C
  unfold fn_House_readCat
  refine dn_aload_n C dX3_readCat_0 rfl 0 rfl rfl ?_
  refine dn_getI C fd_X3_46 ho dX3_readCat_1 rfl ?_
  refine dn_iconst C dX3_readCat_4 ic_i_5 rfl ?_
  refine dn_icmp_lt (t := 15) C dX3_readCat_5 (by decide) rfl ?_ ?_
  · refine dn_aload_n C dX3_readCat_8 rfl 1 rfl rfl ?_
    refine dn_iconst C dX3_readCat_9 ic_i_3 rfl ?_
    refine dn_iload_n C dX3_readCat_10 rfl 2 rfl rfl ?_
    refine dn_callV_h (As := [.int (3 : Int32), .int p2]) (st := []) C (ok_Tape_fail (cx_g C) p1 hp1 (3 : Int32) p2 σ τ) mt_X10_fail mv_X10_fail lk_X3_65 (by decide) hp1 rfl ⟨Nat.zero_le _, Nat.zero_le _⟩ (Nat.le_of_ble_eq_true rfl) dX3_readCat_11 rfl rfl (fun s2 => ?_)
    exact dn_vret C dX3_readCat_14 rfl
  · refine dn_aload_n C dX3_readCat_15 rfl 0 rfl rfl ?_
    refine dn_getR C fd_X3_30 ho dX3_readCat_16 rfl ?_
    refine dn_aload_n C dX3_readCat_19 rfl 0 rfl rfl ?_
    refine dn_getI C fd_X3_46 ho dX3_readCat_20 rfl ?_
    refine dn_aload_n C dX3_readCat_23 rfl 1 rfl rfl ?_
    refine dn_iconst C dX3_readCat_24 ic_i_0 rfl ?_
    refine dn_aload_n C dX3_readCat_25 rfl 0 rfl rfl ?_
    refine dn_getI C fd_X3_36 ho dX3_readCat_26 rfl ?_
    refine dn_iconst C dX3_readCat_29 ic_i_1 rfl ?_
    refine dn_isub C dX3_readCat_30 rfl ?_
    refine dn_callV_ih (As := [.int (0 : Int32), .int ((σ o 0) - (1 : Int32))]) (st := [.int (σ o 3), .ref (wd_b G + sh_rf o 10)]) C (ok_Tape_number (cx_g C) p1 hp1 (0 : Int32) ((σ o 0) - (1 : Int32)) σ τ) mt_X10_number mv_X10_number lk_X3_102 (by decide) hp1 rfl ⟨Nat.zero_le _, Nat.zero_le _⟩ (Nat.le_of_ble_eq_true rfl) dX3_readCat_31 rfl rfl (fun z3 s4 => ?_)
    refine dn_iast C (kt_3_10 ho) dX3_readCat_34 rfl (fun s5 => ?_)
    refine dn_aload_n C dX3_readCat_35 rfl 0 rfl rfl ?_
    refine dn_getR C fd_X3_33 ho dX3_readCat_36 rfl ?_
    refine dn_aload_n C dX3_readCat_39 rfl 0 rfl rfl ?_
    refine dn_getI C fd_X3_46 ho dX3_readCat_40 rfl ?_
    refine dn_aload_n C dX3_readCat_43 rfl 1 rfl rfl ?_
    refine dn_iconst C dX3_readCat_44 ic_i_0 rfl ?_
    refine dn_bipush C dX3_readCat_45 ic_b_20 rfl ?_
    refine dn_callV_ih (As := [.int (0 : Int32), .int (20 : Int32)]) (st := [.int (s5 o 3), .ref (wd_b G + sh_rf o 11)]) C (ok_Tape_number (cx_g C) p1 hp1 (0 : Int32) (20 : Int32) s5 τ) mt_X10_number mv_X10_number lk_X3_102 (by decide) hp1 rfl ⟨Nat.zero_le _, Nat.zero_le _⟩ (Nat.le_of_ble_eq_true rfl) dX3_readCat_47 rfl rfl (fun z6 s7 => ?_)
    refine dn_iast C (kt_3_11 ho) dX3_readCat_50 rfl (fun s8 => ?_)
    refine dn_aload_n C dX3_readCat_51 rfl 0 rfl rfl ?_
    refine dn_dup C dX3_readCat_52 rfl rfl ?_
    refine dn_getI C fd_X3_46 ho dX3_readCat_53 rfl ?_
    refine dn_iconst C dX3_readCat_56 ic_i_1 rfl ?_
    refine dn_iadd C dX3_readCat_57 rfl ?_
    refine dn_putI C fp_X3_46 ho dX3_readCat_58 rfl (fun s9 => ?_)
    exact dn_vret C dX3_readCat_61 rfl
def fn_House_readRoom  (o : Nat) (p1 : Nat) (p2 : Int32) (σ : hp_I) : Option (hp_I) :=
  if (8 : Int32) ≤ (σ o 0) then (
    Option.bind (fn_Tape_fail p1 (3 : Int32) p2 σ) fun s2 =>
    some s2
  ) else (
    px_b2 (fn_Tape_number p1 (0 : Int32) (60 : Int32) σ) fun z3 s4 =>
    Option.bind (px_ast s4 (sh_rf o 4) (σ o 0) z3) fun s5 =>
    px_let (hp_s s5 o 0 ((s5 o 0) + (1 : Int32))) fun s6 =>
    some s6
  )
set_option maxHeartbeats 4000000 in
set_option maxRecDepth 100000 in
theorem ok_House_readRoom {G : wd_G} {l : Launch} (hN : gd_ok G)  (o : Nat) (ho : sh_kd o = 3) (p1 : Nat) (hp1 : sh_kd p1 = 10) (p2 : Int32) (σ : hp_I) (τ : hp_L) : cl_C G l 2 yX3_readRoom cX3_readRoom 3 none [.ref (wd_b G + o), .ref (wd_b G + p1), .int p2] σ τ (ci_h τ) (fn_House_readRoom o p1 p2 σ) := by
  refine cl_of (lv0 := [(0, .ref (wd_b G + o)), (1, .ref (wd_b G + p1)), (2, .int p2)]) (ci_h τ) (by decide) (Nat.le_of_ble_eq_true rfl) rfl hN (fun M hM C => ?_)
  have C : cx_C G M RX3 cX3_readRoom 3 2 none := C
  unfold fn_House_readRoom
  refine dn_aload_n C dX3_readRoom_0 rfl 0 rfl rfl ?_
  refine dn_getI C fd_X3_36 ho dX3_readRoom_1 rfl ?_
  refine dn_bipush C dX3_readRoom_4 ic_b_8 rfl ?_
  refine dn_icmp_lt (t := 16) C dX3_readRoom_6 (by decide) rfl ?_ ?_
  · refine dn_aload_n C dX3_readRoom_9 rfl 1 rfl rfl ?_
    refine dn_iconst C dX3_readRoom_10 ic_i_3 rfl ?_
    refine dn_iload_n C dX3_readRoom_11 rfl 2 rfl rfl ?_
    refine dn_callV_h (As := [.int (3 : Int32), .int p2]) (st := []) C (ok_Tape_fail (cx_g C) p1 hp1 (3 : Int32) p2 σ τ) mt_X10_fail mv_X10_fail lk_X3_65 (by decide) hp1 rfl ⟨Nat.zero_le _, Nat.zero_le _⟩ (Nat.le_of_ble_eq_true rfl) dX3_readRoom_12 rfl rfl (fun s2 => ?_)
    exact dn_vret C dX3_readRoom_15 rfl
  · refine dn_aload_n C dX3_readRoom_16 rfl 0 rfl rfl ?_
    refine dn_getR C fd_X3_9 ho dX3_readRoom_17 rfl ?_
    refine dn_aload_n C dX3_readRoom_20 rfl 0 rfl rfl ?_
    refine dn_getI C fd_X3_36 ho dX3_readRoom_21 rfl ?_
    refine dn_aload_n C dX3_readRoom_24 rfl 1 rfl rfl ?_
    refine dn_iconst C dX3_readRoom_25 ic_i_0 rfl ?_
    refine dn_bipush C dX3_readRoom_26 ic_b_60 rfl ?_
    refine dn_callV_ih (As := [.int (0 : Int32), .int (60 : Int32)]) (st := [.int (σ o 0), .ref (wd_b G + sh_rf o 4)]) C (ok_Tape_number (cx_g C) p1 hp1 (0 : Int32) (60 : Int32) σ τ) mt_X10_number mv_X10_number lk_X3_102 (by decide) hp1 rfl ⟨Nat.zero_le _, Nat.zero_le _⟩ (Nat.le_of_ble_eq_true rfl) dX3_readRoom_28 rfl rfl (fun z3 s4 => ?_)
    refine dn_iast C (kt_3_4 ho) dX3_readRoom_31 rfl (fun s5 => ?_)
    refine dn_aload_n C dX3_readRoom_32 rfl 0 rfl rfl ?_
    refine dn_dup C dX3_readRoom_33 rfl rfl ?_
    refine dn_getI C fd_X3_36 ho dX3_readRoom_34 rfl ?_
    refine dn_iconst C dX3_readRoom_37 ic_i_1 rfl ?_
    refine dn_iadd C dX3_readRoom_38 rfl ?_
    refine dn_putI C fp_X3_36 ho dX3_readRoom_39 rfl (fun s6 => ?_)
    exact dn_vret C dX3_readRoom_42 rfl
def fn_House_readScheme  (o : Nat) (p1 : Nat) (p2 : Int32) (σ : hp_I) : Option (hp_I) :=
  if (8 : Int32) ≤ (σ o 2) then (
    Option.bind (fn_Tape_fail p1 (3 : Int32) p2 σ) fun s2 =>
    some s2
  ) else (
    px_b2 (fn_Tape_number p1 (0 : Int32) ((σ o 0) - (1 : Int32)) σ) fun z3 s4 =>
    Option.bind (px_ast s4 (sh_rf o 7) (σ o 2) z3) fun s5 =>
    px_b2 (fn_Tape_number p1 (1 : Int32) (60 : Int32) s5) fun z6 s7 =>
    Option.bind (px_ast s7 (sh_rf o 8) (s5 o 2) z6) fun s8 =>
    px_b2 (fn_Tape_number p1 (0 : Int32) (9 : Int32) s8) fun z9 s10 =>
    Option.bind (px_ast s10 (sh_rf o 9) (s8 o 2) z9) fun s11 =>
    px_let (hp_s s11 o 2 ((s11 o 2) + (1 : Int32))) fun s12 =>
    some s12
  )
set_option maxHeartbeats 4000000 in
set_option maxRecDepth 100000 in
theorem ok_House_readScheme {G : wd_G} {l : Launch} (hN : gd_ok G)  (o : Nat) (ho : sh_kd o = 3) (p1 : Nat) (hp1 : sh_kd p1 = 10) (p2 : Int32) (σ : hp_I) (τ : hp_L) : cl_C G l 2 yX3_readScheme cX3_readScheme 3 none [.ref (wd_b G + o), .ref (wd_b G + p1), .int p2] σ τ (ci_h τ) (fn_House_readScheme o p1 p2 σ) := by
  refine cl_of (lv0 := [(0, .ref (wd_b G + o)), (1, .ref (wd_b G + p1)), (2, .int p2)]) (ci_h τ) (by decide) (Nat.le_of_ble_eq_true rfl) rfl hN (fun M hM C => ?_)
  have C : cx_C G M RX3 cX3_readScheme 3 2 none := C
  unfold fn_House_readScheme
  refine dn_aload_n C dX3_readScheme_0 rfl 0 rfl rfl ?_
  refine dn_getI C fd_X3_43 ho dX3_readScheme_1 rfl ?_
  refine dn_bipush C dX3_readScheme_4 ic_b_8 rfl ?_
  refine dn_icmp_lt (t := 16) C dX3_readScheme_6 (by decide) rfl ?_ ?_
  · refine dn_aload_n C dX3_readScheme_9 rfl 1 rfl rfl ?_
    refine dn_iconst C dX3_readScheme_10 ic_i_3 rfl ?_
    refine dn_iload_n C dX3_readScheme_11 rfl 2 rfl rfl ?_
    refine dn_callV_h (As := [.int (3 : Int32), .int p2]) (st := []) C (ok_Tape_fail (cx_g C) p1 hp1 (3 : Int32) p2 σ τ) mt_X10_fail mv_X10_fail lk_X3_65 (by decide) hp1 rfl ⟨Nat.zero_le _, Nat.zero_le _⟩ (Nat.le_of_ble_eq_true rfl) dX3_readScheme_12 rfl rfl (fun s2 => ?_)
    exact dn_vret C dX3_readScheme_15 rfl
  · refine dn_aload_n C dX3_readScheme_16 rfl 0 rfl rfl ?_
    refine dn_getR C fd_X3_21 ho dX3_readScheme_17 rfl ?_
    refine dn_aload_n C dX3_readScheme_20 rfl 0 rfl rfl ?_
    refine dn_getI C fd_X3_43 ho dX3_readScheme_21 rfl ?_
    refine dn_aload_n C dX3_readScheme_24 rfl 1 rfl rfl ?_
    refine dn_iconst C dX3_readScheme_25 ic_i_0 rfl ?_
    refine dn_aload_n C dX3_readScheme_26 rfl 0 rfl rfl ?_
    refine dn_getI C fd_X3_36 ho dX3_readScheme_27 rfl ?_
    refine dn_iconst C dX3_readScheme_30 ic_i_1 rfl ?_
    refine dn_isub C dX3_readScheme_31 rfl ?_
    refine dn_callV_ih (As := [.int (0 : Int32), .int ((σ o 0) - (1 : Int32))]) (st := [.int (σ o 2), .ref (wd_b G + sh_rf o 7)]) C (ok_Tape_number (cx_g C) p1 hp1 (0 : Int32) ((σ o 0) - (1 : Int32)) σ τ) mt_X10_number mv_X10_number lk_X3_102 (by decide) hp1 rfl ⟨Nat.zero_le _, Nat.zero_le _⟩ (Nat.le_of_ble_eq_true rfl) dX3_readScheme_32 rfl rfl (fun z3 s4 => ?_)
    refine dn_iast C (kt_3_7 ho) dX3_readScheme_35 rfl (fun s5 => ?_)
    refine dn_aload_n C dX3_readScheme_36 rfl 0 rfl rfl ?_
    refine dn_getR C fd_X3_24 ho dX3_readScheme_37 rfl ?_
    refine dn_aload_n C dX3_readScheme_40 rfl 0 rfl rfl ?_
    refine dn_getI C fd_X3_43 ho dX3_readScheme_41 rfl ?_
    refine dn_aload_n C dX3_readScheme_44 rfl 1 rfl rfl ?_
    refine dn_iconst C dX3_readScheme_45 ic_i_1 rfl ?_
    refine dn_bipush C dX3_readScheme_46 ic_b_60 rfl ?_
    refine dn_callV_ih (As := [.int (1 : Int32), .int (60 : Int32)]) (st := [.int (s5 o 2), .ref (wd_b G + sh_rf o 8)]) C (ok_Tape_number (cx_g C) p1 hp1 (1 : Int32) (60 : Int32) s5 τ) mt_X10_number mv_X10_number lk_X3_102 (by decide) hp1 rfl ⟨Nat.zero_le _, Nat.zero_le _⟩ (Nat.le_of_ble_eq_true rfl) dX3_readScheme_48 rfl rfl (fun z6 s7 => ?_)
    refine dn_iast C (kt_3_8 ho) dX3_readScheme_51 rfl (fun s8 => ?_)
    refine dn_aload_n C dX3_readScheme_52 rfl 0 rfl rfl ?_
    refine dn_getR C fd_X3_27 ho dX3_readScheme_53 rfl ?_
    refine dn_aload_n C dX3_readScheme_56 rfl 0 rfl rfl ?_
    refine dn_getI C fd_X3_43 ho dX3_readScheme_57 rfl ?_
    refine dn_aload_n C dX3_readScheme_60 rfl 1 rfl rfl ?_
    refine dn_iconst C dX3_readScheme_61 ic_i_0 rfl ?_
    refine dn_bipush C dX3_readScheme_62 ic_b_9 rfl ?_
    refine dn_callV_ih (As := [.int (0 : Int32), .int (9 : Int32)]) (st := [.int (s8 o 2), .ref (wd_b G + sh_rf o 9)]) C (ok_Tape_number (cx_g C) p1 hp1 (0 : Int32) (9 : Int32) s8 τ) mt_X10_number mv_X10_number lk_X3_102 (by decide) hp1 rfl ⟨Nat.zero_le _, Nat.zero_le _⟩ (Nat.le_of_ble_eq_true rfl) dX3_readScheme_64 rfl rfl (fun z9 s10 => ?_)
    refine dn_iast C (kt_3_9 ho) dX3_readScheme_67 rfl (fun s11 => ?_)
    refine dn_aload_n C dX3_readScheme_68 rfl 0 rfl rfl ?_
    refine dn_dup C dX3_readScheme_69 rfl rfl ?_
    refine dn_getI C fd_X3_43 ho dX3_readScheme_70 rfl ?_
    refine dn_iconst C dX3_readScheme_73 ic_i_1 rfl ?_
    refine dn_iadd C dX3_readScheme_74 rfl ?_
    refine dn_putI C fp_X3_43 ho dX3_readScheme_75 rfl (fun s12 => ?_)
    exact dn_vret C dX3_readScheme_78 rfl
def fn_House_readWay  (o : Nat) (p1 : Nat) (p2 : Int32) (σ : hp_I) : Option (hp_I) :=
  if (12 : Int32) ≤ (σ o 1) then (
    Option.bind (fn_Tape_fail p1 (3 : Int32) p2 σ) fun s2 =>
    some s2
  ) else (
    px_b2 (fn_Tape_number p1 (0 : Int32) ((σ o 0) - (1 : Int32)) σ) fun z3 s4 =>
    Option.bind (px_ast s4 (sh_rf o 5) (σ o 1) z3) fun s5 =>
    px_b2 (fn_Tape_number p1 (0 : Int32) ((s5 o 0) - (1 : Int32)) s5) fun z6 s7 =>
    Option.bind (px_ast s7 (sh_rf o 6) (s5 o 1) z6) fun s8 =>
    Option.bind (px_ald s8 (sh_rf o 5) (s8 o 1)) fun z9 =>
    Option.bind (px_ald s8 (sh_rf o 6) (s8 o 1)) fun z10 =>
    px_jn (fun (s11 : hp_I) =>
      px_let (hp_s s11 o 1 ((s11 o 1) + (1 : Int32))) fun s12 =>
      some s12
    ) fun j13 =>
      if z9 = z10 then (
        Option.bind (fn_Tape_failLatestNumber p1 s8) fun s15 =>
        j13 s15
      ) else (
        j13 s8
      )
  )
set_option maxHeartbeats 4000000 in
set_option maxRecDepth 100000 in
theorem ok_House_readWay {G : wd_G} {l : Launch} (hN : gd_ok G)  (o : Nat) (ho : sh_kd o = 3) (p1 : Nat) (hp1 : sh_kd p1 = 10) (p2 : Int32) (σ : hp_I) (τ : hp_L) : cl_C G l 2 yX3_readWay cX3_readWay 3 none [.ref (wd_b G + o), .ref (wd_b G + p1), .int p2] σ τ (ci_h τ) (fn_House_readWay o p1 p2 σ) := by
  refine cl_of (lv0 := [(0, .ref (wd_b G + o)), (1, .ref (wd_b G + p1)), (2, .int p2)]) (ci_h τ) (by decide) (Nat.le_of_ble_eq_true rfl) rfl hN (fun M hM C => ?_)
  have C : cx_C G M RX3 cX3_readWay 3 2 none := C
  unfold fn_House_readWay
  refine dn_aload_n C dX3_readWay_0 rfl 0 rfl rfl ?_
  refine dn_getI C fd_X3_40 ho dX3_readWay_1 rfl ?_
  refine dn_bipush C dX3_readWay_4 ic_b_12 rfl ?_
  refine dn_icmp_lt (t := 16) C dX3_readWay_6 (by decide) rfl ?_ ?_
  · refine dn_aload_n C dX3_readWay_9 rfl 1 rfl rfl ?_
    refine dn_iconst C dX3_readWay_10 ic_i_3 rfl ?_
    refine dn_iload_n C dX3_readWay_11 rfl 2 rfl rfl ?_
    refine dn_callV_h (As := [.int (3 : Int32), .int p2]) (st := []) C (ok_Tape_fail (cx_g C) p1 hp1 (3 : Int32) p2 σ τ) mt_X10_fail mv_X10_fail lk_X3_65 (by decide) hp1 rfl ⟨Nat.zero_le _, Nat.zero_le _⟩ (Nat.le_of_ble_eq_true rfl) dX3_readWay_12 rfl rfl (fun s2 => ?_)
    exact dn_vret C dX3_readWay_15 rfl
  · refine dn_aload_n C dX3_readWay_16 rfl 0 rfl rfl ?_
    refine dn_getR C fd_X3_15 ho dX3_readWay_17 rfl ?_
    refine dn_aload_n C dX3_readWay_20 rfl 0 rfl rfl ?_
    refine dn_getI C fd_X3_40 ho dX3_readWay_21 rfl ?_
    refine dn_aload_n C dX3_readWay_24 rfl 1 rfl rfl ?_
    refine dn_iconst C dX3_readWay_25 ic_i_0 rfl ?_
    refine dn_aload_n C dX3_readWay_26 rfl 0 rfl rfl ?_
    refine dn_getI C fd_X3_36 ho dX3_readWay_27 rfl ?_
    refine dn_iconst C dX3_readWay_30 ic_i_1 rfl ?_
    refine dn_isub C dX3_readWay_31 rfl ?_
    refine dn_callV_ih (As := [.int (0 : Int32), .int ((σ o 0) - (1 : Int32))]) (st := [.int (σ o 1), .ref (wd_b G + sh_rf o 5)]) C (ok_Tape_number (cx_g C) p1 hp1 (0 : Int32) ((σ o 0) - (1 : Int32)) σ τ) mt_X10_number mv_X10_number lk_X3_102 (by decide) hp1 rfl ⟨Nat.zero_le _, Nat.zero_le _⟩ (Nat.le_of_ble_eq_true rfl) dX3_readWay_32 rfl rfl (fun z3 s4 => ?_)
    refine dn_iast C (kt_3_5 ho) dX3_readWay_35 rfl (fun s5 => ?_)
    refine dn_aload_n C dX3_readWay_36 rfl 0 rfl rfl ?_
    refine dn_getR C fd_X3_18 ho dX3_readWay_37 rfl ?_
    refine dn_aload_n C dX3_readWay_40 rfl 0 rfl rfl ?_
    refine dn_getI C fd_X3_40 ho dX3_readWay_41 rfl ?_
    refine dn_aload_n C dX3_readWay_44 rfl 1 rfl rfl ?_
    refine dn_iconst C dX3_readWay_45 ic_i_0 rfl ?_
    refine dn_aload_n C dX3_readWay_46 rfl 0 rfl rfl ?_
    refine dn_getI C fd_X3_36 ho dX3_readWay_47 rfl ?_
    refine dn_iconst C dX3_readWay_50 ic_i_1 rfl ?_
    refine dn_isub C dX3_readWay_51 rfl ?_
    refine dn_callV_ih (As := [.int (0 : Int32), .int ((s5 o 0) - (1 : Int32))]) (st := [.int (s5 o 1), .ref (wd_b G + sh_rf o 6)]) C (ok_Tape_number (cx_g C) p1 hp1 (0 : Int32) ((s5 o 0) - (1 : Int32)) s5 τ) mt_X10_number mv_X10_number lk_X3_102 (by decide) hp1 rfl ⟨Nat.zero_le _, Nat.zero_le _⟩ (Nat.le_of_ble_eq_true rfl) dX3_readWay_52 rfl rfl (fun z6 s7 => ?_)
    refine dn_iast C (kt_3_6 ho) dX3_readWay_55 rfl (fun s8 => ?_)
    refine dn_aload_n C dX3_readWay_56 rfl 0 rfl rfl ?_
    refine dn_getR C fd_X3_15 ho dX3_readWay_57 rfl ?_
    refine dn_aload_n C dX3_readWay_60 rfl 0 rfl rfl ?_
    refine dn_getI C fd_X3_40 ho dX3_readWay_61 rfl ?_
    refine dn_iald C (kt_3_5 ho) dX3_readWay_64 rfl (fun z9 => ?_)
    refine dn_aload_n C dX3_readWay_65 rfl 0 rfl rfl ?_
    refine dn_getR C fd_X3_18 ho dX3_readWay_66 rfl ?_
    refine dn_aload_n C dX3_readWay_69 rfl 0 rfl rfl ?_
    refine dn_getI C fd_X3_40 ho dX3_readWay_70 rfl ?_
    refine dn_iald C (kt_3_6 ho) dX3_readWay_73 rfl (fun z10 => ?_)
    refine dn_jn (fun z => ∀ (s11 : hp_I), dn_D G M 3 0 0 (cl_M G M (ci_h τ)) 81 [(0, .ref (wd_b G + o))] [] s11 τ (z s11)) (fun s11 => ?_) (fun j13 hj13 => ?_)
    · refine dn_aload_n C dX3_readWay_81 rfl 0 rfl rfl ?_
      refine dn_dup C dX3_readWay_82 rfl rfl ?_
      refine dn_getI C fd_X3_40 ho dX3_readWay_83 rfl ?_
      refine dn_iconst C dX3_readWay_86 ic_i_1 rfl ?_
      refine dn_iadd C dX3_readWay_87 rfl ?_
      refine dn_putI C fp_X3_40 ho dX3_readWay_88 rfl (fun s12 => ?_)
      exact dn_vret C dX3_readWay_91 rfl
    · refine dn_icmp_ne (t := 81) C dX3_readWay_74 (by decide) rfl ?_ ?_
      · refine dn_aload_n C dX3_readWay_77 rfl 1 rfl rfl ?_
        refine dn_callV_h (As := []) (st := []) C (ok_Tape_failLatestNumber (cx_g C) p1 hp1 s8 τ) mt_X10_failLatestNumber mv_X10_failLatestNumber lk_X3_106 (by decide) hp1 rfl ⟨Nat.zero_le _, Nat.zero_le _⟩ (Nat.le_of_ble_eq_true rfl) dX3_readWay_78 rfl rfl (fun s15 => ?_)
        refine dn_pick [0] rfl ?_
        exact hj13 s15
      · refine dn_pick [0] rfl ?_
        exact hj13 s8
def fn_Tape_expect  (o : Nat) (p1 : Int32) (σ : hp_I) : Option (hp_I) :=
  px_b2 (fn_Tape_takesSign o p1 σ) fun z1 s2 =>
  px_jn (fun (s3 : hp_I) =>
    some s3
  ) fun j4 =>
    if z1 = 0 then (
      Option.bind (fn_Tape_fail o (1 : Int32) (s2 o 3) s2) fun s6 =>
      j4 s6
    ) else (
      j4 s2
    )
set_option maxHeartbeats 4000000 in
set_option maxRecDepth 100000 in
theorem ok_Tape_expect {G : wd_G} {l : Launch} (hN : gd_ok G)  (o : Nat) (ho : sh_kd o = 10) (p1 : Int32) (σ : hp_I) (τ : hp_L) : cl_C G l 3 yX10_expect cX10_expect 2 none [.ref (wd_b G + o), .int p1] σ τ (ci_h τ) (fn_Tape_expect o p1 σ) := by
  refine cl_of (lv0 := [(0, .ref (wd_b G + o)), (1, .int p1)]) (ci_h τ) (by decide) (Nat.le_of_ble_eq_true rfl) rfl hN (fun M hM C => ?_)
  have C : cx_C G M RX10 cX10_expect 2 3 none := C
  unfold fn_Tape_expect
  refine dn_aload_n C dX10_expect_0 rfl 0 rfl rfl ?_
  refine dn_iload_n C dX10_expect_1 rfl 1 rfl rfl ?_
  refine dn_callV_ih (As := [.int p1]) (st := []) C (ok_Tape_takesSign (cx_g C) o ho p1 σ τ) mt_X10_takesSign mv_X10_takesSign lk_X10_49 (by decide) ho rfl ⟨Nat.zero_le _, Nat.zero_le _⟩ (Nat.le_of_ble_eq_true rfl) dX10_expect_2 rfl rfl (fun z1 s2 => ?_)
  refine dn_jn (fun z => ∀ (s3 : hp_I), dn_D G M 2 0 0 (cl_M G M (ci_h τ)) 17 [] [] s3 τ (z s3)) (fun s3 => ?_) (fun j4 hj4 => ?_)
  · exact dn_vret C dX10_expect_17 rfl
  · refine dn_if_ne (t := 17) C dX10_expect_5 (by decide) rfl ?_ ?_
    · refine dn_aload_n C dX10_expect_8 rfl 0 rfl rfl ?_
      refine dn_iconst C dX10_expect_9 ic_i_1 rfl ?_
      refine dn_aload_n C dX10_expect_10 rfl 0 rfl rfl ?_
      refine dn_getI C fd_X10_38 ho dX10_expect_11 rfl ?_
      refine dn_callV_h (As := [.int (1 : Int32), .int (s2 o 3)]) (st := []) C (ok_Tape_fail (cx_g C) o ho (1 : Int32) (s2 o 3) s2 τ) mt_X10_fail mv_X10_fail lk_X10_53 (by decide) ho rfl ⟨Nat.zero_le _, Nat.zero_le _⟩ (Nat.le_of_ble_eq_true rfl) dX10_expect_14 rfl rfl (fun s6 => ?_)
      refine dn_pick [] rfl ?_
      exact hj4 s6
    · refine dn_pick [] rfl ?_
      exact hj4 s2
def fn_Chase_solve_L7  (a0 : Nat) (k : hp_I → Option (hp_I)) : Nat → Int32 → hp_I → Option (hp_I)
  | 0, _, _ => none
  | fu + 1, x2, s0 =>
    if x2 < (256 : Int32) then (
      Option.bind (px_ast s0 (sh_rf a0 1) (((s0 (sh_rf a0 0) 3) * (256 : Int32)) + x2) (0 : Int32)) fun s4 =>
      px_let (x2 + 1) fun v2_5 =>
      fn_Chase_solve_L7 a0 k fu v2_5 s4
    ) else (
      k s0
    )
def fn_Chase_solve_L55  (a0 : Nat) (a2 : Int32) (k : hp_I → Option (hp_I)) : Nat → Int32 → hp_I → Option (hp_I)
  | 0, _, _ => none
  | fu + 1, x3, s0 =>
    if x3 < ((1 : Int32) <<< ((s0 (sh_rf a0 0) 2) &&& 31)) then (
      Option.bind (fn_J6_bitCount_0f7a4 x3) fun z9 =>
      px_jn (fun (s10 : hp_I) =>
        px_let (x3 + 1) fun v3_11 =>
        fn_Chase_solve_L55 a0 a2 k fu v3_11 s10
      ) fun j12 =>
        if z9 ≤ a2 then (
          Option.bind (fn_Chase_bestFor a0 a2 x3 s0) fun z13 =>
          Option.bind (px_ast s0 (sh_rf a0 1) ((a2 * (256 : Int32)) + x3) z13) fun s14 =>
          j12 s14
        ) else (
          j12 s0
        )
    ) else (
      k s0
    )
def fn_Chase_solve_L49  (a0 : Nat) (k : hp_I → Option (hp_I)) : Nat → Int32 → hp_I → Option (hp_I)
  | 0, _, _ => none
  | fu + 1, x2, s0 =>
    if 0 ≤ x2 then (
      px_let (0 : Int32) fun v3_8 =>
      fn_Chase_solve_L55 a0 x2
        (fun (s_15 : hp_I) =>
          px_let (x2 + (-1)) fun v2_16 =>
          fn_Chase_solve_L49 a0 k fu v2_16 s_15
        )
        FU v3_8 s0
    ) else (
      k s0
    )
def fn_Chase_solve  (o : Nat) (p1 : Nat) (σ : hp_I) : Option (hp_I) :=
  Option.bind (fn_Chase_measurePaths o p1 σ) fun s2 =>
  px_let (0 : Int32) fun v2_3 =>
  fn_Chase_solve_L7 o
    (fun (s_6 : hp_I) =>
      px_let ((s_6 (sh_rf o 0) 3) - (1 : Int32)) fun v2_7 =>
      fn_Chase_solve_L49 o
        (fun (s_17 : hp_I) =>
          Option.bind (fn_Chase_choose o s_17) fun s19 =>
          some s19
        )
        FU v2_7 s_6
    )
    FU v2_3 s2
set_option maxHeartbeats 4000000 in
set_option maxRecDepth 100000 in
theorem pf_Chase_solve_L7 {G : wd_G} {M : wd_M}  (C : cx_C G M RX1 cX1_solve 4 3 none) (a0 : Nat) (ha0 : sh_kd a0 = 1)  (τ : hp_L) (k : hp_I → Option (hp_I)) (hk : ∀ (s : hp_I), dn_D G M 4 0 0 (cl_M G M (ci_h τ)) 39 [(0, .ref (wd_b G + a0))] [] s τ (k s)) : ∀ (fu : Nat) (x2 : Int32) (s0 : hp_I), dn_D G M 4 0 0 (cl_M G M (ci_h τ)) 7 [(0, .ref (wd_b G + a0)), (2, .int x2)] [] s0 τ (fn_Chase_solve_L7 a0 k fu x2 s0) := by
  intro fu
  induction fu with
  | zero => exact fun x2 s0 => dn_none
  | succ fu ih =>
    intro x2 s0
    unfold fn_Chase_solve_L7
    refine dn_iload_n C dX1_solve_7 rfl 1 rfl rfl ?_
    refine dn_sipush C dX1_solve_8 ic_s_256 rfl ?_
    refine dn_icmp_ge (t := 39) C dX1_solve_11 (by decide) rfl ?_ ?_
    · refine dn_aload_n C dX1_solve_14 rfl 0 rfl rfl ?_
      refine dn_getR C fd_X1_11 ha0 dX1_solve_15 rfl ?_
      refine dn_aload_n C dX1_solve_18 rfl 0 rfl rfl ?_
      refine dn_getR C fd_X1_21 ha0 dX1_solve_19 rfl ?_
      refine dn_getI C fd_X1_29 (kt_1_0 ha0) dX1_solve_22 rfl ?_
      refine dn_sipush C dX1_solve_25 ic_s_256 rfl ?_
      refine dn_imul C dX1_solve_28 rfl ?_
      refine dn_iload_n C dX1_solve_29 rfl 1 rfl rfl ?_
      refine dn_iadd C dX1_solve_30 rfl ?_
      refine dn_iconst C dX1_solve_31 ic_i_0 rfl ?_
      refine dn_iast C (kt_1_1 ha0) dX1_solve_32 rfl (fun s4 => ?_)
      refine dn_iinc (lv0 := [(0, .ref (wd_b G + a0))]) (v := x2 + 1) C dX1_solve_33 1 rfl rfl (by decide) rfl rfl (fun v2_5 => ?_)
      refine dn_goto (t := 7) C dX1_solve_36 (by decide) ?_
      refine dn_pick [1, 0] rfl ?_
      exact ih v2_5 s4
    · refine dn_pick [0] rfl ?_
      exact hk s0
set_option maxHeartbeats 4000000 in
set_option maxRecDepth 100000 in
theorem pf_Chase_solve_L55 {G : wd_G} {M : wd_M}  (C : cx_C G M RX1 cX1_solve 4 3 none) (a0 : Nat) (ha0 : sh_kd a0 = 1) (a2 : Int32)  (τ : hp_L) (k : hp_I → Option (hp_I)) (hk : ∀ (s : hp_I), dn_D G M 4 0 0 (cl_M G M (ci_h τ)) 100 [(0, .ref (wd_b G + a0)), (2, .int a2)] [] s τ (k s)) : ∀ (fu : Nat) (x3 : Int32) (s0 : hp_I), dn_D G M 4 0 0 (cl_M G M (ci_h τ)) 55 [(0, .ref (wd_b G + a0)), (2, .int a2), (3, .int x3)] [] s0 τ (fn_Chase_solve_L55 a0 a2 k fu x3 s0) := by
  intro fu
  induction fu with
  | zero => exact fun x3 s0 => dn_none
  | succ fu ih =>
    intro x3 s0
    unfold fn_Chase_solve_L55
    refine dn_iload_n C dX1_solve_55 rfl 2 rfl rfl ?_
    refine dn_iconst C dX1_solve_56 ic_i_1 rfl ?_
    refine dn_aload_n C dX1_solve_57 rfl 0 rfl rfl ?_
    refine dn_getR C fd_X1_21 ha0 dX1_solve_58 rfl ?_
    refine dn_getI C fd_X1_35 (kt_1_0 ha0) dX1_solve_61 rfl ?_
    refine dn_ishl C dX1_solve_64 rfl ?_
    refine dn_icmp_ge (t := 100) C dX1_solve_65 (by decide) rfl ?_ ?_
    · refine dn_iload_n C dX1_solve_68 rfl 2 rfl rfl ?_
      refine dn_callS_i (As := [.int x3]) (st := []) C (ok_J6_bitCount_0f7a4 (cx_g C) x3 s0 τ) mt_J6_bitCount_0f7a4 ms_J6_bitCount_0f7a4 lk_X1_38 (by decide) rfl ⟨Nat.zero_le _, Nat.zero_le _⟩ (Nat.le_of_ble_eq_true rfl) dX1_solve_69 rfl rfl (fun z9 => ?_)
      refine dn_iload_n C dX1_solve_72 rfl 1 rfl rfl ?_
      refine dn_jn (fun z => ∀ (s10 : hp_I), dn_D G M 4 0 0 (cl_M G M (ci_h τ)) 94 [(0, .ref (wd_b G + a0)), (2, .int a2), (3, .int x3)] [] s10 τ (z s10)) (fun s10 => ?_) (fun j12 hj12 => ?_)
      · refine dn_iinc (lv0 := [(0, .ref (wd_b G + a0)), (2, .int a2)]) (v := x3 + 1) C dX1_solve_94 2 rfl rfl (by decide) rfl rfl (fun v3_11 => ?_)
        refine dn_goto (t := 55) C dX1_solve_97 (by decide) ?_
        refine dn_pick [1, 2, 0] rfl ?_
        exact ih v3_11 s10
      · refine dn_icmp_gt (t := 94) C dX1_solve_73 (by decide) rfl ?_ ?_
        · refine dn_aload_n C dX1_solve_76 rfl 0 rfl rfl ?_
          refine dn_getR C fd_X1_11 ha0 dX1_solve_77 rfl ?_
          refine dn_iload_n C dX1_solve_80 rfl 1 rfl rfl ?_
          refine dn_sipush C dX1_solve_81 ic_s_256 rfl ?_
          refine dn_imul C dX1_solve_84 rfl ?_
          refine dn_iload_n C dX1_solve_85 rfl 2 rfl rfl ?_
          refine dn_iadd C dX1_solve_86 rfl ?_
          refine dn_aload_n C dX1_solve_87 rfl 0 rfl rfl ?_
          refine dn_iload_n C dX1_solve_88 rfl 1 rfl rfl ?_
          refine dn_iload_n C dX1_solve_89 rfl 2 rfl rfl ?_
          refine dn_callV_i (As := [.int a2, .int x3]) (st := [.int ((a2 * (256 : Int32)) + x3), .ref (wd_b G + sh_rf a0 1)]) C (ok_Chase_bestFor (cx_g C) a0 ha0 a2 x3 s0 τ) mt_X1_bestFor mv_X1_bestFor lk_X1_44 (by decide) ha0 rfl ⟨Nat.zero_le _, Nat.zero_le _⟩ (Nat.le_of_ble_eq_true rfl) dX1_solve_90 rfl rfl (fun z13 => ?_)
          refine dn_iast C (kt_1_1 ha0) dX1_solve_93 rfl (fun s14 => ?_)
          exact hj12 s14
        · exact hj12 s0
    · refine dn_pick [0, 1] rfl ?_
      exact hk s0
set_option maxHeartbeats 4000000 in
set_option maxRecDepth 100000 in
theorem pf_Chase_solve_L49 {G : wd_G} {M : wd_M}  (C : cx_C G M RX1 cX1_solve 4 3 none) (a0 : Nat) (ha0 : sh_kd a0 = 1)  (τ : hp_L) (k : hp_I → Option (hp_I)) (hk : ∀ (s : hp_I), dn_D G M 4 0 0 (cl_M G M (ci_h τ)) 106 [(0, .ref (wd_b G + a0))] [] s τ (k s)) : ∀ (fu : Nat) (x2 : Int32) (s0 : hp_I), dn_D G M 4 0 0 (cl_M G M (ci_h τ)) 49 [(0, .ref (wd_b G + a0)), (2, .int x2)] [] s0 τ (fn_Chase_solve_L49 a0 k fu x2 s0) := by
  intro fu
  induction fu with
  | zero => exact fun x2 s0 => dn_none
  | succ fu ih =>
    intro x2 s0
    unfold fn_Chase_solve_L49
    refine dn_iload_n C dX1_solve_49 rfl 1 rfl rfl ?_
    refine dn_if_lt (t := 106) C dX1_solve_50 (by decide) rfl ?_ ?_
    · refine dn_iconst C dX1_solve_53 ic_i_0 rfl ?_
      refine dn_istore_n (lv0 := [(0, .ref (wd_b G + a0)), (2, .int x2)]) C dX1_solve_54 rfl (by decide) rfl rfl (fun v3_8 => ?_)
      refine dn_pick [1, 2, 0] rfl ?_
      refine pf_Chase_solve_L55  C  a0 ha0 x2  τ _ (fun s_15 => ?_) FU v3_8 s0
      refine dn_iinc (lv0 := [(0, .ref (wd_b G + a0))]) (v := x2 + (-1)) C dX1_solve_100 1 rfl rfl (by decide) rfl rfl (fun v2_16 => ?_)
      refine dn_goto (t := 49) C dX1_solve_103 (by decide) ?_
      refine dn_pick [1, 0] rfl ?_
      exact ih v2_16 s_15
    · refine dn_pick [0] rfl ?_
      exact hk s0
set_option maxHeartbeats 4000000 in
set_option maxRecDepth 100000 in
theorem ok_Chase_solve {G : wd_G} {l : Launch} (hN : gd_ok G)  (o : Nat) (ho : sh_kd o = 1) (p1 : Nat) (hp1 : sh_kd p1 = 8) (σ : hp_I) (τ : hp_L) : cl_C G l 3 yX1_solve cX1_solve 4 none [.ref (wd_b G + o), .ref (wd_b G + p1)] σ τ (ci_h τ) (fn_Chase_solve o p1 σ) := by
  refine cl_of (lv0 := [(0, .ref (wd_b G + o)), (1, .ref (wd_b G + p1))]) (ci_h τ) (by decide) (Nat.le_of_ble_eq_true rfl) rfl hN (fun M hM C => ?_)
  have C : cx_C G M RX1 cX1_solve 4 3 none := C
  unfold fn_Chase_solve
  refine dn_aload_n C dX1_solve_0 rfl 0 rfl rfl ?_
  refine dn_aload_n C dX1_solve_1 rfl 1 rfl rfl ?_
  refine dn_callV_h (As := [.ref (wd_b G + p1)]) (st := []) C (ok_Chase_measurePaths (cx_g C) o ho p1 hp1 σ τ) mt_X1_measurePaths mv_X1_measurePaths lk_X1_25 (by decide) ho rfl ⟨Nat.zero_le _, Nat.zero_le _⟩ (Nat.le_of_ble_eq_true rfl) dX1_solve_2 rfl rfl (fun s2 => ?_)
  refine dn_iconst C dX1_solve_5 ic_i_0 rfl ?_
  refine dn_istore_n (lv0 := [(0, .ref (wd_b G + o)), (1, .ref (wd_b G + p1))]) C dX1_solve_6 rfl (by decide) rfl rfl (fun v2_3 => ?_)
  refine dn_pick [1, 0] rfl ?_
  refine pf_Chase_solve_L7  C  o ho  τ _ (fun s_6 => ?_) FU v2_3 s2
  refine dn_aload_n C dX1_solve_39 rfl 0 rfl rfl ?_
  refine dn_getR C fd_X1_21 ho dX1_solve_40 rfl ?_
  refine dn_getI C fd_X1_29 (kt_1_0 ho) dX1_solve_43 rfl ?_
  refine dn_iconst C dX1_solve_46 ic_i_1 rfl ?_
  refine dn_isub C dX1_solve_47 rfl ?_
  refine dn_istore_n (lv0 := [(0, .ref (wd_b G + o))]) C dX1_solve_48 rfl (by decide) rfl rfl (fun v2_7 => ?_)
  refine dn_pick [1, 0] rfl ?_
  refine pf_Chase_solve_L49  C  o ho  τ _ (fun s_17 => ?_) FU v2_7 s_6
  refine dn_aload_n C dX1_solve_106 rfl 0 rfl rfl ?_
  refine dn_callV_h (As := []) (st := []) C (ok_Chase_choose (cx_g C) o ho s_17 τ) mt_X1_choose mv_X1_choose lk_X1_48 (by decide) ho rfl ⟨Nat.zero_le _, Nat.zero_le _⟩ (Nat.le_of_ble_eq_true rfl) dX1_solve_107 rfl rfl (fun s19 => ?_)
  exact dn_vret C dX1_solve_110 rfl
def fn_Slip_growWord_L16  (a0 : Nat) (a1 : Int32) (a2 : Int32) (a3 : Int32) (a4 : Int32) (k : hp_I → Option (hp_I)) : Nat → Int32 → Int32 → hp_I → Option (hp_I)
  | 0, _, _, _ => none
  | fu + 1, x5, x6, s0 =>
    if x6 < (32 : Int32) then (
      if x5 = 0 then (
        k s0
      ) else (
        px_jn (fun (s4 : hp_I) =>
          px_let (px_ushr x5 (1 : Int32)) fun v5_5 =>
          px_let (x6 + 1) fun v6_6 =>
          fn_Slip_growWord_L16 a0 a1 a2 a3 a4 k fu v5_5 v6_6 s4
        ) fun j7 =>
          if (x5 &&& (1 : Int32)) = (1 : Int32) then (
            px_let ((a2 * (32 : Int32)) + x6) fun v7_8 =>
            Option.bind (px_ald s0 (sh_rf (sh_rf a0 0) 9) (s0 a0 4)) fun z9 =>
            Option.bind (px_ald s0 (sh_rf (sh_rf a0 0) 4) a1) fun z10 =>
            px_b2 (fn_Law_growth (sh_rf a0 1) v7_8 z9 z10 a3 (s0 a0 5) (s0 a0 6) (s0 a0 4) s0) fun z11 s12 =>
            px_let z11 fun v8_13 =>
            px_let (px_min (999 : Int32) (v7_8 + v8_13)) fun v9_14 =>
            if v9_14 ≤ a4 then (
              Option.bind (fn_Slip_add a0 a1 v9_14 s12) fun s16 =>
              j7 s16
            ) else (
              j7 s12
            )
          ) else (
            j7 s0
          )
      )
    ) else (
      k s0
    )
def fn_Slip_growWord  (o : Nat) (p1 : Int32) (p2 : Int32) (p3 : Int32) (p4 : Int32) (σ : hp_I) : Option (hp_I) :=
  Option.bind (px_ald σ (sh_rf o 3) ((p1 * (32 : Int32)) + p2)) fun z1 =>
  px_let z1 fun v5_2 =>
  px_let (0 : Int32) fun v6_3 =>
  fn_Slip_growWord_L16 o p1 p2 p3 p4
    (fun (s_17 : hp_I) =>
      some s_17
    )
    FU v5_2 v6_3 σ
set_option maxHeartbeats 4000000 in
set_option maxRecDepth 100000 in
theorem pf_Slip_growWord_L16 {G : wd_G} {M : wd_M}  (C : cx_C G M RX7 cX7_growWord 10 3 none) (a0 : Nat) (ha0 : sh_kd a0 = 7) (a1 : Int32) (a2 : Int32) (a3 : Int32) (a4 : Int32)  (τ : hp_L) (k : hp_I → Option (hp_I)) (hk : ∀ (s : hp_I), dn_D G M 10 0 0 (cl_M G M (ci_h τ)) 129 [] [] s τ (k s)) : ∀ (fu : Nat) (x5 : Int32) (x6 : Int32) (s0 : hp_I), dn_D G M 10 0 0 (cl_M G M (ci_h τ)) 16 [(0, .ref (wd_b G + a0)), (1, .int a1), (2, .int a2), (3, .int a3), (4, .int a4), (5, .int x5), (6, .int x6)] [] s0 τ (fn_Slip_growWord_L16 a0 a1 a2 a3 a4 k fu x5 x6 s0) := by
  intro fu
  induction fu with
  | zero => exact fun x5 x6 s0 => dn_none
  | succ fu ih =>
    intro x5 x6 s0
    unfold fn_Slip_growWord_L16
    refine dn_iload C dX7_growWord_16 6 rfl rfl ?_
    refine dn_bipush C dX7_growWord_18 ic_b_32 rfl ?_
    refine dn_icmp_ge (t := 129) C dX7_growWord_20 (by decide) rfl ?_ ?_
    · refine dn_iload C dX7_growWord_23 5 rfl rfl ?_
      refine dn_if_eq (t := 129) C dX7_growWord_25 (by decide) rfl ?_ ?_
      · refine dn_pick [] rfl ?_
        exact hk s0
      · refine dn_iload C dX7_growWord_28 5 rfl rfl ?_
        refine dn_iconst C dX7_growWord_30 ic_i_1 rfl ?_
        refine dn_iand C dX7_growWord_31 rfl ?_
        refine dn_iconst C dX7_growWord_32 ic_i_1 rfl ?_
        refine dn_jn (fun z => ∀ (s4 : hp_I), dn_D G M 10 0 0 (cl_M G M (ci_h τ)) 117 [(0, .ref (wd_b G + a0)), (1, .int a1), (2, .int a2), (3, .int a3), (4, .int a4), (5, .int x5), (6, .int x6)] [] s4 τ (z s4)) (fun s4 => ?_) (fun j7 hj7 => ?_)
        · refine dn_iload C dX7_growWord_117 5 rfl rfl ?_
          refine dn_iconst C dX7_growWord_119 ic_i_1 rfl ?_
          refine dn_iushr (v := px_ushr x5 (1 : Int32)) C dX7_growWord_120 rfl rfl ?_
          refine dn_istore (lv0 := [(0, .ref (wd_b G + a0)), (1, .int a1), (2, .int a2), (3, .int a3), (4, .int a4), (6, .int x6)]) C dX7_growWord_121 (by decide) rfl rfl (fun v5_5 => ?_)
          refine dn_iinc (lv0 := [(5, .int v5_5), (0, .ref (wd_b G + a0)), (1, .int a1), (2, .int a2), (3, .int a3), (4, .int a4)]) (v := x6 + 1) C dX7_growWord_123 6 rfl rfl (by decide) rfl rfl (fun v6_6 => ?_)
          refine dn_goto (t := 16) C dX7_growWord_126 (by decide) ?_
          refine dn_pick [2, 3, 4, 5, 6, 1, 0] rfl ?_
          exact ih v5_5 v6_6 s4
        · refine dn_icmp_ne (t := 117) C dX7_growWord_33 (by decide) rfl ?_ ?_
          · refine dn_iload_n C dX7_growWord_36 rfl 2 rfl rfl ?_
            refine dn_bipush C dX7_growWord_37 ic_b_32 rfl ?_
            refine dn_imul C dX7_growWord_39 rfl ?_
            refine dn_iload C dX7_growWord_40 6 rfl rfl ?_
            refine dn_iadd C dX7_growWord_42 rfl ?_
            refine dn_istore (lv0 := [(0, .ref (wd_b G + a0)), (1, .int a1), (2, .int a2), (3, .int a3), (4, .int a4), (5, .int x5), (6, .int x6)]) C dX7_growWord_43 (by decide) rfl rfl (fun v7_8 => ?_)
            refine dn_aload_n C dX7_growWord_45 rfl 1 rfl rfl ?_
            refine dn_getR C fd_X7_29 ha0 dX7_growWord_46 rfl ?_
            refine dn_iload C dX7_growWord_49 0 rfl rfl ?_
            refine dn_aload_n C dX7_growWord_51 rfl 1 rfl rfl ?_
            refine dn_getR C fd_X7_25 ha0 dX7_growWord_52 rfl ?_
            refine dn_getR C fd_X7_109 (kt_7_0 ha0) dX7_growWord_55 rfl ?_
            refine dn_aload_n C dX7_growWord_58 rfl 1 rfl rfl ?_
            refine dn_getI C fd_X7_43 ha0 dX7_growWord_59 rfl ?_
            refine dn_iald C (kt_3_9 (kt_7_0 ha0)) dX7_growWord_62 rfl (fun z9 => ?_)
            refine dn_aload_n C dX7_growWord_63 rfl 1 rfl rfl ?_
            refine dn_getR C fd_X7_25 ha0 dX7_growWord_64 rfl ?_
            refine dn_getR C fd_X7_112 (kt_7_0 ha0) dX7_growWord_67 rfl ?_
            refine dn_iload_n C dX7_growWord_70 rfl 2 rfl rfl ?_
            refine dn_iald C (kt_3_4 (kt_7_0 ha0)) dX7_growWord_71 rfl (fun z10 => ?_)
            refine dn_iload_n C dX7_growWord_72 rfl 4 rfl rfl ?_
            refine dn_aload_n C dX7_growWord_73 rfl 1 rfl rfl ?_
            refine dn_getI C fd_X7_68 ha0 dX7_growWord_74 rfl ?_
            refine dn_aload_n C dX7_growWord_77 rfl 1 rfl rfl ?_
            refine dn_getI C fd_X7_78 ha0 dX7_growWord_78 rfl ?_
            refine dn_aload_n C dX7_growWord_81 rfl 1 rfl rfl ?_
            refine dn_getI C fd_X7_43 ha0 dX7_growWord_82 rfl ?_
            refine dn_callV_ih (As := [.int v7_8, .int z9, .int z10, .int a3, .int (s0 a0 5), .int (s0 a0 6), .int (s0 a0 4)]) (st := []) C (ok_Law_growth (cx_g C) (sh_rf a0 1) (kt_7_1 ha0) v7_8 z9 z10 a3 (s0 a0 5) (s0 a0 6) (s0 a0 4) s0 τ) mt_X4_growth mv_X4_growth lk_X7_115 (by decide) (kt_7_1 ha0) rfl ⟨Nat.zero_le _, Nat.zero_le _⟩ (Nat.le_of_ble_eq_true rfl) dX7_growWord_85 rfl rfl (fun z11 s12 => ?_)
            refine dn_istore (lv0 := [(7, .int v7_8), (0, .ref (wd_b G + a0)), (1, .int a1), (2, .int a2), (3, .int a3), (4, .int a4), (5, .int x5), (6, .int x6)]) C dX7_growWord_88 (by decide) rfl rfl (fun v8_13 => ?_)
            refine dn_sipush C dX7_growWord_90 ic_s_999 rfl ?_
            refine dn_iload C dX7_growWord_93 1 rfl rfl ?_
            refine dn_iload C dX7_growWord_95 0 rfl rfl ?_
            refine dn_iadd C dX7_growWord_97 rfl ?_
            refine dn_min C mm_all lk_X7_121 (by decide) ⟨Nat.zero_le _, Nat.zero_le _⟩ (Nat.le_of_ble_eq_true rfl) dX7_growWord_98 rfl ?_
            refine dn_istore (lv0 := [(8, .int v8_13), (7, .int v7_8), (0, .ref (wd_b G + a0)), (1, .int a1), (2, .int a2), (3, .int a3), (4, .int a4), (5, .int x5), (6, .int x6)]) C dX7_growWord_101 (by decide) rfl rfl (fun v9_14 => ?_)
            refine dn_iload C dX7_growWord_103 0 rfl rfl ?_
            refine dn_iload C dX7_growWord_105 7 rfl rfl ?_
            refine dn_icmp_gt (t := 117) C dX7_growWord_107 (by decide) rfl ?_ ?_
            · refine dn_aload_n C dX7_growWord_110 rfl 3 rfl rfl ?_
              refine dn_iload_n C dX7_growWord_111 rfl 4 rfl rfl ?_
              refine dn_iload C dX7_growWord_112 0 rfl rfl ?_
              refine dn_callV_h (As := [.int a1, .int v9_14]) (st := []) C (ok_Slip_add (cx_g C) a0 ha0 a1 v9_14 s12 τ) mt_X7_add mv_X7_add lk_X7_52 (by decide) ha0 rfl ⟨Nat.zero_le _, Nat.zero_le _⟩ (Nat.le_of_ble_eq_true rfl) dX7_growWord_114 rfl rfl (fun s16 => ?_)
              refine dn_pick [3, 4, 5, 6, 7, 8, 9] rfl ?_
              exact hj7 s16
            · refine dn_pick [3, 4, 5, 6, 7, 8, 9] rfl ?_
              exact hj7 s12
          · exact hj7 s0
    · refine dn_pick [] rfl ?_
      exact hk s0
set_option maxHeartbeats 4000000 in
set_option maxRecDepth 100000 in
theorem ok_Slip_growWord {G : wd_G} {l : Launch} (hN : gd_ok G)  (o : Nat) (ho : sh_kd o = 7) (p1 : Int32) (p2 : Int32) (p3 : Int32) (p4 : Int32) (σ : hp_I) (τ : hp_L) : cl_C G l 3 yX7_growWord cX7_growWord 10 none [.ref (wd_b G + o), .int p1, .int p2, .int p3, .int p4] σ τ (ci_h τ) (fn_Slip_growWord o p1 p2 p3 p4 σ) := by
  refine cl_of (lv0 := [(0, .ref (wd_b G + o)), (1, .int p1), (2, .int p2), (3, .int p3), (4, .int p4)]) (ci_h τ) (by decide) (Nat.le_of_ble_eq_true rfl) rfl hN (fun M hM C => ?_)
  have C : cx_C G M RX7 cX7_growWord 10 3 none := C
  unfold fn_Slip_growWord
  refine dn_aload_n C dX7_growWord_0 rfl 0 rfl rfl ?_
  refine dn_getR C fd_X7_15 ho dX7_growWord_1 rfl ?_
  refine dn_iload_n C dX7_growWord_4 rfl 1 rfl rfl ?_
  refine dn_bipush C dX7_growWord_5 ic_b_32 rfl ?_
  refine dn_imul C dX7_growWord_7 rfl ?_
  refine dn_iload_n C dX7_growWord_8 rfl 2 rfl rfl ?_
  refine dn_iadd C dX7_growWord_9 rfl ?_
  refine dn_iald C (kt_7_3 ho) dX7_growWord_10 rfl (fun z1 => ?_)
  refine dn_istore (lv0 := [(0, .ref (wd_b G + o)), (1, .int p1), (2, .int p2), (3, .int p3), (4, .int p4)]) C dX7_growWord_11 (by decide) rfl rfl (fun v5_2 => ?_)
  refine dn_iconst C dX7_growWord_13 ic_i_0 rfl ?_
  refine dn_istore (lv0 := [(5, .int v5_2), (0, .ref (wd_b G + o)), (1, .int p1), (2, .int p2), (3, .int p3), (4, .int p4)]) C dX7_growWord_14 (by decide) rfl rfl (fun v6_3 => ?_)
  refine dn_pick [2, 3, 4, 5, 6, 1, 0] rfl ?_
  refine pf_Slip_growWord_L16  C  o ho p1 p2 p3 p4  τ _ (fun s_17 => ?_) FU v5_2 v6_3 σ
  exact dn_vret C dX7_growWord_129 rfl
def fn_Book_read_L8  (a0 : Nat) (a1 : Nat) (a2 : Int32) (k : Int32 → Int32 → hp_I → Option (hp_I)) : Nat → Int32 → Int32 → Int32 → hp_I → Option (hp_I)
  | 0, _, _, _, _ => none
  | fu + 1, x3, x4, x5, s0 =>
    if x5 < (60 : Int32) then (
      Option.bind (fn_Tape_isOver a1 s0) fun z4 =>
      if z4 = 0 then (
        px_b2 (fn_Tape_number a1 (0 : Int32) (a2 - (1 : Int32)) s0) fun z5 s6 =>
        px_let z5 fun v6_7 =>
        Option.bind (fn_Tape_failed a1 s6) fun z8 =>
        px_jn (fun (s9 : hp_I) =>
          px_b2 (fn_Tape_number a1 (0 : Int32) (1 : Int32) s9) fun z10 s11 =>
          px_let z10 fun v7_12 =>
          Option.bind (fn_Tape_expect a1 (59 : Int32) s11) fun s14 =>
          Option.bind (fn_Tape_failed a1 s14) fun z15 =>
          px_jn (fun (a3_16 : Int32) (a4_17 : Int32) =>
            px_let (x5 + 1) fun v5_18 =>
            fn_Book_read_L8 a0 a1 a2 k fu a3_16 a4_17 v5_18 s14
          ) fun j19 =>
            if z15 = 0 then (
              px_let (x3 ||| ((1 : Int32) <<< (v6_7 &&& 31))) fun v3_20 =>
              px_let (x4 ||| (v7_12 <<< (v6_7 &&& 31))) fun v4_21 =>
              j19 v3_20 v4_21
            ) else (
              j19 x3 x4
            )
        ) fun j22 =>
          if z8 = 0 then (
            if ((x3 >>> (v6_7 &&& 31)) &&& (1 : Int32)) = (1 : Int32) then (
              Option.bind (fn_Tape_failLatestNumber a1 s6) fun s24 =>
              j22 s24
            ) else (
              j22 s6
            )
          ) else (
            j22 s6
          )
      ) else (
        k x3 x4 s0
      )
    ) else (
      k x3 x4 s0
    )
def fn_Book_read  (o : Nat) (p1 : Nat) (p2 : Int32) (σ : hp_I) : Option (hp_I) :=
  px_let (0 : Int32) fun v3_1 =>
  px_let (0 : Int32) fun v4_2 =>
  px_let (0 : Int32) fun v5_3 =>
  fn_Book_read_L8 o p1 p2
    (fun (y_25 : Int32) (y_26 : Int32) (s_27 : hp_I) =>
      Option.bind (fn_Tape_failed p1 s_27) fun z28 =>
      px_jn (fun (s29 : hp_I) =>
        some s29
      ) fun j30 =>
        if z28 = 0 then (
          px_let (hp_s s_27 o 0 y_25) fun s31 =>
          px_let (hp_s s31 o 1 y_26) fun s32 =>
          j30 s32
        ) else (
          j30 s_27
        )
    )
    FU v3_1 v4_2 v5_3 σ
set_option maxHeartbeats 4000000 in
set_option maxRecDepth 100000 in
theorem pf_Book_read_L8 {G : wd_G} {M : wd_M}  (C : cx_C G M RX0 cX0_read 8 4 none) (a0 : Nat) (ha0 : sh_kd a0 = 0) (a1 : Nat) (ha1 : sh_kd a1 = 10) (a2 : Int32)  (τ : hp_L) (k : Int32 → Int32 → hp_I → Option (hp_I)) (hk : ∀ (y3 : Int32) (y4 : Int32) (s : hp_I), dn_D G M 8 0 0 (cl_M G M (ci_h τ)) 97 [(0, .ref (wd_b G + a0)), (1, .ref (wd_b G + a1)), (3, .int y3), (4, .int y4)] [] s τ (k y3 y4 s)) : ∀ (fu : Nat) (x3 : Int32) (x4 : Int32) (x5 : Int32) (s0 : hp_I), dn_D G M 8 0 0 (cl_M G M (ci_h τ)) 8 [(0, .ref (wd_b G + a0)), (1, .ref (wd_b G + a1)), (2, .int a2), (3, .int x3), (4, .int x4), (5, .int x5)] [] s0 τ (fn_Book_read_L8 a0 a1 a2 k fu x3 x4 x5 s0) := by
  intro fu
  induction fu with
  | zero => exact fun x3 x4 x5 s0 => dn_none
  | succ fu ih =>
    intro x3 x4 x5 s0
    unfold fn_Book_read_L8
    refine dn_iload C dX0_read_8 5 rfl rfl ?_
    refine dn_bipush C dX0_read_10 ic_b_60 rfl ?_
    refine dn_icmp_ge (t := 97) C dX0_read_12 (by decide) rfl ?_ ?_
    · refine dn_aload_n C dX0_read_15 rfl 1 rfl rfl ?_
      refine dn_callV_i (As := []) (st := []) C (ok_Tape_isOver (cx_g C) a1 ha1 s0 τ) mt_X10_isOver mv_X10_isOver lk_X0_18 (by decide) ha1 rfl ⟨Nat.zero_le _, Nat.zero_le _⟩ (Nat.le_of_ble_eq_true rfl) dX0_read_16 rfl rfl (fun z4 => ?_)
      refine dn_if_ne (t := 97) C dX0_read_19 (by decide) rfl ?_ ?_
      · refine dn_aload_n C dX0_read_22 rfl 1 rfl rfl ?_
        refine dn_iconst C dX0_read_23 ic_i_0 rfl ?_
        refine dn_iload_n C dX0_read_24 rfl 2 rfl rfl ?_
        refine dn_iconst C dX0_read_25 ic_i_1 rfl ?_
        refine dn_isub C dX0_read_26 rfl ?_
        refine dn_callV_ih (As := [.int (0 : Int32), .int (a2 - (1 : Int32))]) (st := []) C (ok_Tape_number (cx_g C) a1 ha1 (0 : Int32) (a2 - (1 : Int32)) s0 τ) mt_X10_number mv_X10_number lk_X0_24 (by decide) ha1 rfl ⟨Nat.zero_le _, Nat.zero_le _⟩ (Nat.le_of_ble_eq_true rfl) dX0_read_27 rfl rfl (fun z5 s6 => ?_)
        refine dn_istore (lv0 := [(0, .ref (wd_b G + a0)), (1, .ref (wd_b G + a1)), (2, .int a2), (3, .int x3), (4, .int x4), (5, .int x5)]) C dX0_read_30 (by decide) rfl rfl (fun v6_7 => ?_)
        refine dn_aload_n C dX0_read_32 rfl 2 rfl rfl ?_
        refine dn_callV_i (As := []) (st := []) C (ok_Tape_failed (cx_g C) a1 ha1 s6 τ) mt_X10_failed mv_X10_failed lk_X0_28 (by decide) ha1 rfl ⟨Nat.zero_le _, Nat.zero_le _⟩ (Nat.le_of_ble_eq_true rfl) dX0_read_33 rfl rfl (fun z8 => ?_)
        refine dn_jn (fun z => ∀ (s9 : hp_I), dn_D G M 8 0 0 (cl_M G M (ci_h τ)) 53 [(0, .ref (wd_b G + a0)), (1, .ref (wd_b G + a1)), (2, .int a2), (3, .int x3), (4, .int x4), (5, .int x5), (6, .int v6_7)] [] s9 τ (z s9)) (fun s9 => ?_) (fun j22 hj22 => ?_)
        · refine dn_aload_n C dX0_read_53 rfl 1 rfl rfl ?_
          refine dn_iconst C dX0_read_54 ic_i_0 rfl ?_
          refine dn_iconst C dX0_read_55 ic_i_1 rfl ?_
          refine dn_callV_ih (As := [.int (0 : Int32), .int (1 : Int32)]) (st := []) C (ok_Tape_number (cx_g C) a1 ha1 (0 : Int32) (1 : Int32) s9 τ) mt_X10_number mv_X10_number lk_X0_24 (by decide) ha1 rfl ⟨Nat.zero_le _, Nat.zero_le _⟩ (Nat.le_of_ble_eq_true rfl) dX0_read_56 rfl rfl (fun z10 s11 => ?_)
          refine dn_istore (lv0 := [(0, .ref (wd_b G + a0)), (1, .ref (wd_b G + a1)), (2, .int a2), (3, .int x3), (4, .int x4), (5, .int x5), (6, .int v6_7)]) C dX0_read_59 (by decide) rfl rfl (fun v7_12 => ?_)
          refine dn_aload_n C dX0_read_61 rfl 2 rfl rfl ?_
          refine dn_bipush C dX0_read_62 ic_b_59 rfl ?_
          refine dn_callV_h (As := [.int (59 : Int32)]) (st := []) C (ok_Tape_expect (cx_g C) a1 ha1 (59 : Int32) s11 τ) mt_X10_expect mv_X10_expect lk_X0_34 (by decide) ha1 rfl ⟨Nat.zero_le _, Nat.zero_le _⟩ (Nat.le_of_ble_eq_true rfl) dX0_read_64 rfl rfl (fun s14 => ?_)
          refine dn_aload_n C dX0_read_67 rfl 2 rfl rfl ?_
          refine dn_callV_i (As := []) (st := []) C (ok_Tape_failed (cx_g C) a1 ha1 s14 τ) mt_X10_failed mv_X10_failed lk_X0_28 (by decide) ha1 rfl ⟨Nat.zero_le _, Nat.zero_le _⟩ (Nat.le_of_ble_eq_true rfl) dX0_read_68 rfl rfl (fun z15 => ?_)
          refine dn_jn (fun z => ∀ (a3_16 : Int32) (a4_17 : Int32), dn_D G M 8 0 0 (cl_M G M (ci_h τ)) 91 [(0, .ref (wd_b G + a0)), (1, .ref (wd_b G + a1)), (2, .int a2), (3, .int a3_16), (4, .int a4_17), (5, .int x5)] [] s14 τ (z a3_16 a4_17)) (fun a3_16 a4_17 => ?_) (fun j19 hj19 => ?_)
          · refine dn_iinc (lv0 := [(0, .ref (wd_b G + a0)), (1, .ref (wd_b G + a1)), (2, .int a2), (3, .int a3_16), (4, .int a4_17)]) (v := x5 + 1) C dX0_read_91 5 rfl rfl (by decide) rfl rfl (fun v5_18 => ?_)
            refine dn_goto (t := 8) C dX0_read_94 (by decide) ?_
            refine dn_pick [1, 2, 3, 4, 5, 0] rfl ?_
            exact ih a3_16 a4_17 v5_18 s14
          · refine dn_if_ne (t := 91) C dX0_read_71 (by decide) rfl ?_ ?_
            · refine dn_iload_n C dX0_read_74 rfl 4 rfl rfl ?_
              refine dn_iconst C dX0_read_75 ic_i_1 rfl ?_
              refine dn_iload C dX0_read_76 7 rfl rfl ?_
              refine dn_ishl C dX0_read_78 rfl ?_
              refine dn_ior C dX0_read_79 rfl ?_
              refine dn_istore_n (lv0 := [(7, .int v7_12), (0, .ref (wd_b G + a0)), (1, .ref (wd_b G + a1)), (2, .int a2), (4, .int x4), (5, .int x5), (6, .int v6_7)]) C dX0_read_80 rfl (by decide) rfl rfl (fun v3_20 => ?_)
              refine dn_iload C dX0_read_81 5 rfl rfl ?_
              refine dn_iload C dX0_read_83 1 rfl rfl ?_
              refine dn_iload C dX0_read_85 7 rfl rfl ?_
              refine dn_ishl C dX0_read_87 rfl ?_
              refine dn_ior C dX0_read_88 rfl ?_
              refine dn_istore (lv0 := [(3, .int v3_20), (7, .int v7_12), (0, .ref (wd_b G + a0)), (1, .ref (wd_b G + a1)), (2, .int a2), (5, .int x5), (6, .int v6_7)]) C dX0_read_89 (by decide) rfl rfl (fun v4_21 => ?_)
              refine dn_pick [3, 4, 5, 1, 0, 6] rfl ?_
              exact hj19 v3_20 v4_21
            · refine dn_pick [1, 2, 3, 4, 5, 6] rfl ?_
              exact hj19 x3 x4
        · refine dn_if_ne (t := 53) C dX0_read_36 (by decide) rfl ?_ ?_
          · refine dn_iload_n C dX0_read_39 rfl 4 rfl rfl ?_
            refine dn_iload C dX0_read_40 0 rfl rfl ?_
            refine dn_ishr C dX0_read_42 rfl ?_
            refine dn_iconst C dX0_read_43 ic_i_1 rfl ?_
            refine dn_iand C dX0_read_44 rfl ?_
            refine dn_iconst C dX0_read_45 ic_i_1 rfl ?_
            refine dn_icmp_ne (t := 53) C dX0_read_46 (by decide) rfl ?_ ?_
            · refine dn_aload_n C dX0_read_49 rfl 2 rfl rfl ?_
              refine dn_callV_h (As := []) (st := []) C (ok_Tape_failLatestNumber (cx_g C) a1 ha1 s6 τ) mt_X10_failLatestNumber mv_X10_failLatestNumber lk_X0_31 (by decide) ha1 rfl ⟨Nat.zero_le _, Nat.zero_le _⟩ (Nat.le_of_ble_eq_true rfl) dX0_read_50 rfl rfl (fun s24 => ?_)
              refine dn_pick [1, 2, 3, 4, 5, 6, 0] rfl ?_
              exact hj22 s24
            · refine dn_pick [1, 2, 3, 4, 5, 6, 0] rfl ?_
              exact hj22 s6
          · refine dn_pick [1, 2, 3, 4, 5, 6, 0] rfl ?_
            exact hj22 s6
      · refine dn_pick [0, 1, 3, 4] rfl ?_
        exact hk x3 x4 s0
    · refine dn_pick [0, 1, 3, 4] rfl ?_
      exact hk x3 x4 s0
set_option maxHeartbeats 4000000 in
set_option maxRecDepth 100000 in
theorem ok_Book_read {G : wd_G} {l : Launch} (hN : gd_ok G)  (o : Nat) (ho : sh_kd o = 0) (p1 : Nat) (hp1 : sh_kd p1 = 10) (p2 : Int32) (σ : hp_I) (τ : hp_L) : cl_C G l 4 yX0_read cX0_read 8 none [.ref (wd_b G + o), .ref (wd_b G + p1), .int p2] σ τ (ci_h τ) (fn_Book_read o p1 p2 σ) := by
  refine cl_of (lv0 := [(0, .ref (wd_b G + o)), (1, .ref (wd_b G + p1)), (2, .int p2)]) (ci_h τ) (by decide) (Nat.le_of_ble_eq_true rfl) rfl hN (fun M hM C => ?_)
  have C : cx_C G M RX0 cX0_read 8 4 none := C
  unfold fn_Book_read
  refine dn_iconst C dX0_read_0 ic_i_0 rfl ?_
  refine dn_istore_n (lv0 := [(0, .ref (wd_b G + o)), (1, .ref (wd_b G + p1)), (2, .int p2)]) C dX0_read_1 rfl (by decide) rfl rfl (fun v3_1 => ?_)
  refine dn_iconst C dX0_read_2 ic_i_0 rfl ?_
  refine dn_istore (lv0 := [(3, .int v3_1), (0, .ref (wd_b G + o)), (1, .ref (wd_b G + p1)), (2, .int p2)]) C dX0_read_3 (by decide) rfl rfl (fun v4_2 => ?_)
  refine dn_iconst C dX0_read_5 ic_i_0 rfl ?_
  refine dn_istore (lv0 := [(4, .int v4_2), (3, .int v3_1), (0, .ref (wd_b G + o)), (1, .ref (wd_b G + p1)), (2, .int p2)]) C dX0_read_6 (by decide) rfl rfl (fun v5_3 => ?_)
  refine dn_pick [3, 4, 5, 2, 1, 0] rfl ?_
  refine pf_Book_read_L8  C  o ho p1 hp1 p2  τ _ (fun y_25 y_26 s_27 => ?_) FU v3_1 v4_2 v5_3 σ
  refine dn_aload_n C dX0_read_97 rfl 1 rfl rfl ?_
  refine dn_callV_i (As := []) (st := []) C (ok_Tape_failed (cx_g C) p1 hp1 s_27 τ) mt_X10_failed mv_X10_failed lk_X0_28 (by decide) hp1 rfl ⟨Nat.zero_le _, Nat.zero_le _⟩ (Nat.le_of_ble_eq_true rfl) dX0_read_98 rfl rfl (fun z28 => ?_)
  refine dn_jn (fun z => ∀ (s29 : hp_I), dn_D G M 8 0 0 (cl_M G M (ci_h τ)) 115 [] [] s29 τ (z s29)) (fun s29 => ?_) (fun j30 hj30 => ?_)
  · exact dn_vret C dX0_read_115 rfl
  · refine dn_if_ne (t := 115) C dX0_read_101 (by decide) rfl ?_ ?_
    · refine dn_aload_n C dX0_read_104 rfl 0 rfl rfl ?_
      refine dn_iload_n C dX0_read_105 rfl 2 rfl rfl ?_
      refine dn_putI C fp_X0_9 ho dX0_read_106 rfl (fun s31 => ?_)
      refine dn_aload_n C dX0_read_109 rfl 0 rfl rfl ?_
      refine dn_iload C dX0_read_110 3 rfl rfl ?_
      refine dn_putI C fp_X0_15 ho dX0_read_112 rfl (fun s32 => ?_)
      refine dn_pick [] rfl ?_
      exact hj30 s32
    · refine dn_pick [] rfl ?_
      exact hj30 s_27
def fn_Tape_takesWord_L37  (a0 : Nat) (a1 : List Int32) (a2 : Int32) (σ : hp_I) (k : Option (Int32 × hp_I)) : Nat → Int32 → Option (Int32 × hp_I)
  | 0, _ => none
  | fu + 1, x3 =>
    if x3 < (sx_len a1) then (
      Option.bind (px_ald σ (sh_rf a0 0) ((σ a0 3) + x3)) fun z5 =>
      Option.bind (sx_chr a1 x3) fun z6 =>
      if z5 = z6 then (
        px_let (x3 + 1) fun v3_7 =>
        fn_Tape_takesWord_L37 a0 a1 a2 σ k fu v3_7
      ) else (
        px_z (0 : Int32) ((0 : Int32), σ)
      )
    ) else (
      k
    )
def fn_Tape_takesWord  (o : Nat) (p1 : List Int32) (σ : hp_I) : Option (Int32 × hp_I) :=
  px_let ((σ o 3) + (sx_len p1)) fun v2_1 =>
  px_jn (
    px_z (0 : Int32) ((0 : Int32), σ)
  ) fun j2 =>
    if (σ o 4) = 0 then (
      if v2_1 ≤ (σ o 2) then (
        Option.bind (fn_Tape_isSmallLetter o v2_1 σ) fun z3 =>
        if z3 = 0 then (
          px_let (0 : Int32) fun v3_4 =>
          fn_Tape_takesWord_L37 o p1 v2_1 σ
            (
              Option.bind (fn_Tape_moveTo o v2_1 σ) fun s9 =>
              px_z (1 : Int32) ((1 : Int32), s9)
            )
            FU v3_4
        ) else (
          j2
        )
      ) else (
        j2
      )
    ) else (
      j2
    )
set_option maxHeartbeats 4000000 in
set_option maxRecDepth 100000 in
theorem pf_Tape_takesWord_L37 {G : wd_G} {M : wd_M}  (C : cx_C G M RX10 cX10_takesWord 4 4 (some .boolean)) (a0 : Nat) (ha0 : sh_kd a0 = 10) (b1 : Nat) (a1 : List Int32) (ha1 : sx_at G b1 a1) (a2 : Int32) (σ : hp_I) (τ : hp_L) (k : Option (Int32 × hp_I)) (hk : dn_D G M 4 0 0 (cl_M G M (ci_ih τ)) 72 [(0, .ref (wd_b G + a0)), (2, .int a2)] [] σ τ k) : ∀ (fu : Nat) (x3 : Int32), dn_D G M 4 0 0 (cl_M G M (ci_ih τ)) 37 [(0, .ref (wd_b G + a0)), (1, .ref b1), (2, .int a2), (3, .int x3)] [] σ τ (fn_Tape_takesWord_L37 a0 a1 a2 σ k fu x3) := by
  intro fu
  induction fu with
  | zero => exact fun x3 => dn_none
  | succ fu ih =>
    intro x3
    unfold fn_Tape_takesWord_L37
    refine dn_iload_n C dX10_takesWord_37 rfl 3 rfl rfl ?_
    refine dn_aload_n C dX10_takesWord_38 rfl 1 rfl rfl ?_
    refine dn_slen C ha1 lk_X10_65 (by decide) ⟨Nat.zero_le _, Nat.zero_le _⟩ (Nat.le_of_ble_eq_true rfl) dX10_takesWord_39 rfl ?_
    refine dn_icmp_ge (t := 72) C dX10_takesWord_42 (by decide) rfl ?_ ?_
    · refine dn_aload_n C dX10_takesWord_45 rfl 0 rfl rfl ?_
      refine dn_getR C fd_X10_9 ha0 dX10_takesWord_46 rfl ?_
      refine dn_aload_n C dX10_takesWord_49 rfl 0 rfl rfl ?_
      refine dn_getI C fd_X10_38 ha0 dX10_takesWord_50 rfl ?_
      refine dn_iload_n C dX10_takesWord_53 rfl 3 rfl rfl ?_
      refine dn_iadd C dX10_takesWord_54 rfl ?_
      refine dn_iald C (kt_10_0 ha0) dX10_takesWord_55 rfl (fun z5 => ?_)
      refine dn_aload_n C dX10_takesWord_56 rfl 1 rfl rfl ?_
      refine dn_iload_n C dX10_takesWord_57 rfl 3 rfl rfl ?_
      refine dn_schr C ha1 lk_X10_72 (by decide) ⟨Nat.zero_le _, Nat.zero_le _⟩ (Nat.le_of_ble_eq_true rfl) dX10_takesWord_58 rfl (fun z6 => ?_)
      refine dn_icmp_eq (t := 66) C dX10_takesWord_61 (by decide) rfl ?_ ?_
      · refine dn_iinc (lv0 := [(0, .ref (wd_b G + a0)), (1, .ref b1), (2, .int a2)]) (v := x3 + 1) C dX10_takesWord_66 3 rfl rfl (by decide) rfl rfl (fun v3_7 => ?_)
        refine dn_goto (t := 37) C dX10_takesWord_69 (by decide) ?_
        refine dn_pick [1, 2, 3, 0] rfl ?_
        exact ih v3_7
      · refine dn_iconst C dX10_takesWord_64 ic_i_0 rfl ?_
        exact dn_zret C dX10_takesWord_65 rfl
    · refine dn_pick [0, 2] rfl ?_
      exact hk
set_option maxHeartbeats 4000000 in
set_option maxRecDepth 100000 in
theorem ok_Tape_takesWord {G : wd_G} {l : Launch} (hN : gd_ok G)  (o : Nat) (ho : sh_kd o = 10) (bp1 : Nat) (p1 : List Int32) (hp1 : sx_at G bp1 p1) (σ : hp_I) (τ : hp_L) : cl_C G l 4 yX10_takesWord cX10_takesWord 4 (some .boolean) [.ref (wd_b G + o), .ref bp1] σ τ (ci_ih τ) (fn_Tape_takesWord o p1 σ) := by
  refine cl_of (lv0 := [(0, .ref (wd_b G + o)), (1, .ref bp1)]) (ci_ih τ) (by decide) (Nat.le_of_ble_eq_true rfl) rfl hN (fun M hM C => ?_)
  have C : cx_C G M RX10 cX10_takesWord 4 4 (some .boolean) := C
  unfold fn_Tape_takesWord
  refine dn_aload_n C dX10_takesWord_0 rfl 0 rfl rfl ?_
  refine dn_getI C fd_X10_38 ho dX10_takesWord_1 rfl ?_
  refine dn_aload_n C dX10_takesWord_4 rfl 1 rfl rfl ?_
  refine dn_slen C hp1 lk_X10_65 (by decide) ⟨Nat.zero_le _, Nat.zero_le _⟩ (Nat.le_of_ble_eq_true rfl) dX10_takesWord_5 rfl ?_
  refine dn_iadd C dX10_takesWord_8 rfl ?_
  refine dn_istore_n (lv0 := [(0, .ref (wd_b G + o)), (1, .ref bp1)]) C dX10_takesWord_9 rfl (by decide) rfl rfl (fun v2_1 => ?_)
  refine dn_aload_n C dX10_takesWord_10 rfl 1 rfl rfl ?_
  refine dn_getI C fd_X10_31 ho dX10_takesWord_11 rfl ?_
  refine dn_jn (fun z => dn_D G M 4 0 0 (cl_M G M (ci_ih τ)) 33 [] [] σ τ z) ?_ (fun j2 hj2 => ?_)
  · refine dn_iconst C dX10_takesWord_33 ic_i_0 rfl ?_
    exact dn_zret C dX10_takesWord_34 rfl
  · refine dn_if_ne (t := 33) C dX10_takesWord_14 (by decide) rfl ?_ ?_
    · refine dn_iload_n C dX10_takesWord_17 rfl 0 rfl rfl ?_
      refine dn_aload_n C dX10_takesWord_18 rfl 1 rfl rfl ?_
      refine dn_getI C fd_X10_28 ho dX10_takesWord_19 rfl ?_
      refine dn_icmp_gt (t := 33) C dX10_takesWord_22 (by decide) rfl ?_ ?_
      · refine dn_aload_n C dX10_takesWord_25 rfl 1 rfl rfl ?_
        refine dn_iload_n C dX10_takesWord_26 rfl 0 rfl rfl ?_
        refine dn_callV_i (As := [.int v2_1]) (st := []) C (ok_Tape_isSmallLetter (cx_g C) o ho v2_1 σ τ) mt_X10_isSmallLetter mv_X10_isSmallLetter lk_X10_69 (by decide) ho rfl ⟨Nat.zero_le _, Nat.zero_le _⟩ (Nat.le_of_ble_eq_true rfl) dX10_takesWord_27 rfl rfl (fun z3 => ?_)
        refine dn_if_eq (t := 35) C dX10_takesWord_30 (by decide) rfl ?_ ?_
        · refine dn_iconst C dX10_takesWord_35 ic_i_0 rfl ?_
          refine dn_istore_n (lv0 := [(2, .int v2_1), (0, .ref (wd_b G + o)), (1, .ref bp1)]) C dX10_takesWord_36 rfl (by decide) rfl rfl (fun v3_4 => ?_)
          refine dn_pick [2, 3, 1, 0] rfl ?_
          refine pf_Tape_takesWord_L37  C  o ho bp1 p1 hp1 v2_1 σ τ _ ?_ FU v3_4
          refine dn_aload_n C dX10_takesWord_72 rfl 0 rfl rfl ?_
          refine dn_iload_n C dX10_takesWord_73 rfl 1 rfl rfl ?_
          refine dn_callV_h (As := [.int v2_1]) (st := []) C (ok_Tape_moveTo (cx_g C) o ho v2_1 σ τ) mt_X10_moveTo mv_X10_moveTo lk_X10_34 (by decide) ho rfl ⟨Nat.zero_le _, Nat.zero_le _⟩ (Nat.le_of_ble_eq_true rfl) dX10_takesWord_74 rfl rfl (fun s9 => ?_)
          refine dn_iconst C dX10_takesWord_77 ic_i_1 rfl ?_
          exact dn_zret C dX10_takesWord_78 rfl
        · refine dn_pick [] rfl ?_
          exact hj2
      · refine dn_pick [] rfl ?_
        exact hj2
    · refine dn_pick [] rfl ?_
      exact hj2
def fn_Slip_growAll_L52  (a0 : Nat) (a1 : Nat) (a2 : Int32) (a3 : Int32) (a4 : Int32) (a5 : Int32) (a6 : Int32) (k : hp_I → Option (hp_I)) : Nat → Int32 → hp_I → Option (hp_I)
  | 0, _, _ => none
  | fu + 1, x7, s0 =>
    if x7 ≤ a3 then (
      Option.bind (fn_Slip_growWord a0 a4 x7 a5 a6 s0) fun s13 =>
      px_let (x7 + 1) fun v7_14 =>
      fn_Slip_growAll_L52 a0 a1 a2 a3 a4 a5 a6 k fu v7_14 s13
    ) else (
      k s0
    )
def fn_Slip_growAll_L17  (a0 : Nat) (a1 : Nat) (a2 : Int32) (a3 : Int32) (k : hp_I → Option (hp_I)) : Nat → Int32 → hp_I → Option (hp_I)
  | 0, _, _ => none
  | fu + 1, x4, s0 =>
    if x4 < (s0 (sh_rf a0 0) 0) then (
      Option.bind (fn_State_catsIn a1 x4 s0) fun z6 =>
      Option.bind (fn_J6_bitCount_0f7a4 z6) fun z7 =>
      px_let z7 fun v5_8 =>
      Option.bind (fn_Slip_greatestSpared a0 a1 x4 s0) fun z9 =>
      px_let z9 fun v6_10 =>
      px_let a2 fun v7_11 =>
      fn_Slip_growAll_L52 a0 a1 a2 a3 x4 v5_8 v6_10
        (fun (s_15 : hp_I) =>
          px_let (x4 + 1) fun v4_16 =>
          fn_Slip_growAll_L17 a0 a1 a2 a3 k fu v4_16 s_15
        )
        FU v7_11 s0
    ) else (
      k s0
    )
def fn_Slip_growAll  (o : Nat) (p1 : Nat) (σ : hp_I) : Option (hp_I) :=
  px_let (σ o 7) fun v2_1 =>
  px_let (σ o 8) fun v3_2 =>
  Option.bind (fn_Slip_clear o σ) fun s4 =>
  px_let (0 : Int32) fun v4_5 =>
  fn_Slip_growAll_L17 o p1 v2_1 v3_2
    (fun (s_17 : hp_I) =>
      some s_17
    )
    FU v4_5 s4
set_option maxHeartbeats 4000000 in
set_option maxRecDepth 100000 in
theorem pf_Slip_growAll_L52 {G : wd_G} {M : wd_M}  (C : cx_C G M RX7 cX7_growAll 8 4 none) (a0 : Nat) (ha0 : sh_kd a0 = 7) (a1 : Nat) (ha1 : sh_kd a1 = 8) (a2 : Int32) (a3 : Int32) (a4 : Int32) (a5 : Int32) (a6 : Int32)  (τ : hp_L) (k : hp_I → Option (hp_I)) (hk : ∀ (s : hp_I), dn_D G M 8 0 0 (cl_M G M (ci_h τ)) 76 [(0, .ref (wd_b G + a0)), (1, .ref (wd_b G + a1)), (2, .int a2), (3, .int a3), (4, .int a4)] [] s τ (k s)) : ∀ (fu : Nat) (x7 : Int32) (s0 : hp_I), dn_D G M 8 0 0 (cl_M G M (ci_h τ)) 52 [(0, .ref (wd_b G + a0)), (1, .ref (wd_b G + a1)), (2, .int a2), (3, .int a3), (4, .int a4), (5, .int a5), (6, .int a6), (7, .int x7)] [] s0 τ (fn_Slip_growAll_L52 a0 a1 a2 a3 a4 a5 a6 k fu x7 s0) := by
  intro fu
  induction fu with
  | zero => exact fun x7 s0 => dn_none
  | succ fu ih =>
    intro x7 s0
    unfold fn_Slip_growAll_L52
    refine dn_iload C dX7_growAll_52 7 rfl rfl ?_
    refine dn_iload_n C dX7_growAll_54 rfl 3 rfl rfl ?_
    refine dn_icmp_gt (t := 76) C dX7_growAll_55 (by decide) rfl ?_ ?_
    · refine dn_aload_n C dX7_growAll_58 rfl 0 rfl rfl ?_
      refine dn_iload C dX7_growAll_59 4 rfl rfl ?_
      refine dn_iload C dX7_growAll_61 7 rfl rfl ?_
      refine dn_iload C dX7_growAll_63 5 rfl rfl ?_
      refine dn_iload C dX7_growAll_65 6 rfl rfl ?_
      refine dn_callV_h (As := [.int a4, .int x7, .int a5, .int a6]) (st := []) C (ok_Slip_growWord (cx_g C) a0 ha0 a4 x7 a5 a6 s0 τ) mt_X7_growWord mv_X7_growWord lk_X7_105 (by decide) ha0 rfl ⟨Nat.zero_le _, Nat.zero_le _⟩ (Nat.le_of_ble_eq_true rfl) dX7_growAll_67 rfl rfl (fun s13 => ?_)
      refine dn_iinc (lv0 := [(0, .ref (wd_b G + a0)), (1, .ref (wd_b G + a1)), (2, .int a2), (3, .int a3), (4, .int a4), (5, .int a5), (6, .int a6)]) (v := x7 + 1) C dX7_growAll_70 7 rfl rfl (by decide) rfl rfl (fun v7_14 => ?_)
      refine dn_goto (t := 52) C dX7_growAll_73 (by decide) ?_
      refine dn_pick [1, 2, 3, 4, 5, 6, 7, 0] rfl ?_
      exact ih v7_14 s13
    · refine dn_pick [0, 1, 2, 3, 4] rfl ?_
      exact hk s0
set_option maxHeartbeats 4000000 in
set_option maxRecDepth 100000 in
theorem pf_Slip_growAll_L17 {G : wd_G} {M : wd_M}  (C : cx_C G M RX7 cX7_growAll 8 4 none) (a0 : Nat) (ha0 : sh_kd a0 = 7) (a1 : Nat) (ha1 : sh_kd a1 = 8) (a2 : Int32) (a3 : Int32)  (τ : hp_L) (k : hp_I → Option (hp_I)) (hk : ∀ (s : hp_I), dn_D G M 8 0 0 (cl_M G M (ci_h τ)) 82 [] [] s τ (k s)) : ∀ (fu : Nat) (x4 : Int32) (s0 : hp_I), dn_D G M 8 0 0 (cl_M G M (ci_h τ)) 17 [(0, .ref (wd_b G + a0)), (1, .ref (wd_b G + a1)), (2, .int a2), (3, .int a3), (4, .int x4)] [] s0 τ (fn_Slip_growAll_L17 a0 a1 a2 a3 k fu x4 s0) := by
  intro fu
  induction fu with
  | zero => exact fun x4 s0 => dn_none
  | succ fu ih =>
    intro x4 s0
    unfold fn_Slip_growAll_L17
    refine dn_iload C dX7_growAll_17 4 rfl rfl ?_
    refine dn_aload_n C dX7_growAll_19 rfl 0 rfl rfl ?_
    refine dn_getR C fd_X7_25 ha0 dX7_growAll_20 rfl ?_
    refine dn_getI C fd_X7_90 (kt_7_0 ha0) dX7_growAll_23 rfl ?_
    refine dn_icmp_ge (t := 82) C dX7_growAll_26 (by decide) rfl ?_ ?_
    · refine dn_aload_n C dX7_growAll_29 rfl 1 rfl rfl ?_
      refine dn_iload C dX7_growAll_30 4 rfl rfl ?_
      refine dn_callV_i (As := [.int x4]) (st := []) C (ok_State_catsIn (cx_g C) a1 ha1 x4 s0 τ) mt_X8_catsIn mv_X8_catsIn lk_X7_98 (by decide) ha1 rfl ⟨Nat.zero_le _, Nat.zero_le _⟩ (Nat.le_of_ble_eq_true rfl) dX7_growAll_32 rfl rfl (fun z6 => ?_)
      refine dn_callS_i (As := [.int z6]) (st := []) C (ok_J6_bitCount_0f7a4 (cx_g C) z6 s0 τ) mt_J6_bitCount_0f7a4 ms_J6_bitCount_0f7a4 lk_X7_73 (by decide) rfl ⟨Nat.zero_le _, Nat.zero_le _⟩ (Nat.le_of_ble_eq_true rfl) dX7_growAll_35 rfl rfl (fun z7 => ?_)
      refine dn_istore (lv0 := [(0, .ref (wd_b G + a0)), (1, .ref (wd_b G + a1)), (2, .int a2), (3, .int a3), (4, .int x4)]) C dX7_growAll_38 (by decide) rfl rfl (fun v5_8 => ?_)
      refine dn_aload_n C dX7_growAll_40 rfl 1 rfl rfl ?_
      refine dn_aload_n C dX7_growAll_41 rfl 2 rfl rfl ?_
      refine dn_iload C dX7_growAll_42 5 rfl rfl ?_
      refine dn_callV_i (As := [.ref (wd_b G + a1), .int x4]) (st := []) C (ok_Slip_greatestSpared (cx_g C) a0 ha0 a1 ha1 x4 s0 τ) mt_X7_greatestSpared mv_X7_greatestSpared lk_X7_101 (by decide) ha0 rfl ⟨Nat.zero_le _, Nat.zero_le _⟩ (Nat.le_of_ble_eq_true rfl) dX7_growAll_44 rfl rfl (fun z9 => ?_)
      refine dn_istore (lv0 := [(5, .int v5_8), (0, .ref (wd_b G + a0)), (1, .ref (wd_b G + a1)), (2, .int a2), (3, .int a3), (4, .int x4)]) C dX7_growAll_47 (by decide) rfl rfl (fun v6_10 => ?_)
      refine dn_iload_n C dX7_growAll_49 rfl 4 rfl rfl ?_
      refine dn_istore (lv0 := [(6, .int v6_10), (5, .int v5_8), (0, .ref (wd_b G + a0)), (1, .ref (wd_b G + a1)), (2, .int a2), (3, .int a3), (4, .int x4)]) C dX7_growAll_50 (by decide) rfl rfl (fun v7_11 => ?_)
      refine dn_pick [3, 4, 5, 6, 7, 2, 1, 0] rfl ?_
      refine pf_Slip_growAll_L52  C  a0 ha0 a1 ha1 a2 a3 x4 v5_8 v6_10  τ _ (fun s_15 => ?_) FU v7_11 s0
      refine dn_iinc (lv0 := [(0, .ref (wd_b G + a0)), (1, .ref (wd_b G + a1)), (2, .int a2), (3, .int a3)]) (v := x4 + 1) C dX7_growAll_76 4 rfl rfl (by decide) rfl rfl (fun v4_16 => ?_)
      refine dn_goto (t := 17) C dX7_growAll_79 (by decide) ?_
      refine dn_pick [1, 2, 3, 4, 0] rfl ?_
      exact ih v4_16 s_15
    · refine dn_pick [] rfl ?_
      exact hk s0
set_option maxHeartbeats 4000000 in
set_option maxRecDepth 100000 in
theorem ok_Slip_growAll {G : wd_G} {l : Launch} (hN : gd_ok G)  (o : Nat) (ho : sh_kd o = 7) (p1 : Nat) (hp1 : sh_kd p1 = 8) (σ : hp_I) (τ : hp_L) : cl_C G l 4 yX7_growAll cX7_growAll 8 none [.ref (wd_b G + o), .ref (wd_b G + p1)] σ τ (ci_h τ) (fn_Slip_growAll o p1 σ) := by
  refine cl_of (lv0 := [(0, .ref (wd_b G + o)), (1, .ref (wd_b G + p1))]) (ci_h τ) (by decide) (Nat.le_of_ble_eq_true rfl) rfl hN (fun M hM C => ?_)
  have C : cx_C G M RX7 cX7_growAll 8 4 none := C
  unfold fn_Slip_growAll
  refine dn_aload_n C dX7_growAll_0 rfl 0 rfl rfl ?_
  refine dn_getI C fd_X7_18 ho dX7_growAll_1 rfl ?_
  refine dn_istore_n (lv0 := [(0, .ref (wd_b G + o)), (1, .ref (wd_b G + p1))]) C dX7_growAll_4 rfl (by decide) rfl rfl (fun v2_1 => ?_)
  refine dn_aload_n C dX7_growAll_5 rfl 1 rfl rfl ?_
  refine dn_getI C fd_X7_22 ho dX7_growAll_6 rfl ?_
  refine dn_istore_n (lv0 := [(2, .int v2_1), (0, .ref (wd_b G + o)), (1, .ref (wd_b G + p1))]) C dX7_growAll_9 rfl (by decide) rfl rfl (fun v3_2 => ?_)
  refine dn_aload_n C dX7_growAll_10 rfl 2 rfl rfl ?_
  refine dn_callV_h (As := []) (st := []) C (ok_Slip_clear (cx_g C) o ho σ τ) mt_X7_clear mv_X7_clear lk_X7_46 (by decide) ho rfl ⟨Nat.zero_le _, Nat.zero_le _⟩ (Nat.le_of_ble_eq_true rfl) dX7_growAll_11 rfl rfl (fun s4 => ?_)
  refine dn_iconst C dX7_growAll_14 ic_i_0 rfl ?_
  refine dn_istore (lv0 := [(3, .int v3_2), (2, .int v2_1), (0, .ref (wd_b G + o)), (1, .ref (wd_b G + p1))]) C dX7_growAll_15 (by decide) rfl rfl (fun v4_5 => ?_)
  refine dn_pick [3, 4, 2, 1, 0] rfl ?_
  refine pf_Slip_growAll_L17  C  o ho p1 hp1 v2_1 v3_2  τ _ (fun s_17 => ?_) FU v4_5 s4
  exact dn_vret C dX7_growAll_82 rfl
def fn_Guess_weigh_L13  (a0 : Nat) (a1 : Nat) (a2 : Nat) (a3 : Nat) (k : hp_I → Option (hp_I)) : Nat → Int32 → hp_I → Option (hp_I)
  | 0, _, _ => none
  | fu + 1, x4, s0 =>
    if x4 < (5 : Int32) then (
      Option.bind (px_ast s0 (sh_rf a0 1) x4 (0 : Int32)) fun s4 =>
      px_let (x4 + 1) fun v4_5 =>
      fn_Guess_weigh_L13 a0 a1 a2 a3 k fu v4_5 s4
    ) else (
      k s0
    )
def fn_Guess_weigh_L60  (a0 : Nat) (a1 : Nat) (a2 : Nat) (a3 : Nat) (a4 : Int32) (k : hp_I → Option (hp_I)) : Nat → Int32 → hp_I → Option (hp_I)
  | 0, _, _ => none
  | fu + 1, x5, s0 =>
    if x5 < (s0 (sh_rf a0 0) 0) then (
      Option.bind (fn_State_copyFrom a2 a1 s0) fun s14 =>
      Option.bind (fn_State_putInto a2 a4 x5 s14) fun s16 =>
      px_b2 (fn_State_passNight a2 s16) fun z17 s18 =>
      px_let z17 fun v6_19 =>
      Option.bind (fn_Book_agreesWith a3 v6_19 s18) fun z20 =>
      px_jn (fun (s21 : hp_I) =>
        px_let (x5 + 1) fun v5_22 =>
        fn_Guess_weigh_L60 a0 a1 a2 a3 a4 k fu v5_22 s21
      ) fun j23 =>
        if z20 = 0 then (
          j23 s18
        ) else (
          Option.bind (fn_Guess_countPair a0 (((10 : Int32) * a4) + x5) v6_19 s18) fun s25 =>
          j23 s25
        )
    ) else (
      k s0
    )
def fn_Guess_weigh_L36  (a0 : Nat) (a1 : Nat) (a2 : Nat) (a3 : Nat) (k : hp_I → Option (hp_I)) : Nat → Int32 → hp_I → Option (hp_I)
  | 0, _, _ => none
  | fu + 1, x4, s0 =>
    if x4 < (s0 (sh_rf a0 0) 2) then (
      Option.bind (fn_State_lives a1 x4 s0) fun z8 =>
      px_jn (fun (s9 : hp_I) =>
        px_let (x4 + 1) fun v4_10 =>
        fn_Guess_weigh_L36 a0 a1 a2 a3 k fu v4_10 s9
      ) fun j11 =>
        if z8 = 0 then (
          j11 s0
        ) else (
          px_let (0 : Int32) fun v5_12 =>
          fn_Guess_weigh_L60 a0 a1 a2 a3 x4
            (fun (s_26 : hp_I) =>
              j11 s_26
            )
            FU v5_12 s0
        )
    ) else (
      k s0
    )
def fn_Guess_weigh  (o : Nat) (p1 : Nat) (p2 : Nat) (p3 : Nat) (σ : hp_I) : Option (hp_I) :=
  px_let (hp_s σ o 2 (0 : Int32)) fun s1 =>
  px_let (hp_s s1 o 3 (-1 : Int32)) fun s2 =>
  px_let (0 : Int32) fun v4_3 =>
  fn_Guess_weigh_L13 o p1 p2 p3
    (fun (s_6 : hp_I) =>
      px_let (0 : Int32) fun v4_7 =>
      fn_Guess_weigh_L36 o p1 p2 p3
        (fun (s_27 : hp_I) =>
          some s_27
        )
        FU v4_7 s_6
    )
    FU v4_3 s2
set_option maxHeartbeats 4000000 in
set_option maxRecDepth 100000 in
theorem pf_Guess_weigh_L13 {G : wd_G} {M : wd_M}  (C : cx_C G M RX2 cX2_weigh 7 5 none) (a0 : Nat) (ha0 : sh_kd a0 = 2) (a1 : Nat) (ha1 : sh_kd a1 = 8) (a2 : Nat) (ha2 : sh_kd a2 = 8) (a3 : Nat) (ha3 : sh_kd a3 = 0)  (τ : hp_L) (k : hp_I → Option (hp_I)) (hk : ∀ (s : hp_I), dn_D G M 7 0 0 (cl_M G M (ci_h τ)) 33 [(0, .ref (wd_b G + a0)), (1, .ref (wd_b G + a1)), (2, .ref (wd_b G + a2)), (3, .ref (wd_b G + a3))] [] s τ (k s)) : ∀ (fu : Nat) (x4 : Int32) (s0 : hp_I), dn_D G M 7 0 0 (cl_M G M (ci_h τ)) 13 [(0, .ref (wd_b G + a0)), (1, .ref (wd_b G + a1)), (2, .ref (wd_b G + a2)), (3, .ref (wd_b G + a3)), (4, .int x4)] [] s0 τ (fn_Guess_weigh_L13 a0 a1 a2 a3 k fu x4 s0) := by
  intro fu
  induction fu with
  | zero => exact fun x4 s0 => dn_none
  | succ fu ih =>
    intro x4 s0
    unfold fn_Guess_weigh_L13
    refine dn_iload C dX2_weigh_13 4 rfl rfl ?_
    refine dn_iconst C dX2_weigh_15 ic_i_5 rfl ?_
    refine dn_icmp_ge (t := 33) C dX2_weigh_16 (by decide) rfl ?_ ?_
    · refine dn_aload_n C dX2_weigh_19 rfl 0 rfl rfl ?_
      refine dn_getR C fd_X2_9 ha0 dX2_weigh_20 rfl ?_
      refine dn_iload C dX2_weigh_23 4 rfl rfl ?_
      refine dn_iconst C dX2_weigh_25 ic_i_0 rfl ?_
      refine dn_iast C (kt_2_1 ha0) dX2_weigh_26 rfl (fun s4 => ?_)
      refine dn_iinc (lv0 := [(0, .ref (wd_b G + a0)), (1, .ref (wd_b G + a1)), (2, .ref (wd_b G + a2)), (3, .ref (wd_b G + a3))]) (v := x4 + 1) C dX2_weigh_27 4 rfl rfl (by decide) rfl rfl (fun v4_5 => ?_)
      refine dn_goto (t := 13) C dX2_weigh_30 (by decide) ?_
      refine dn_pick [1, 2, 3, 4, 0] rfl ?_
      exact ih v4_5 s4
    · refine dn_pick [0, 1, 2, 3] rfl ?_
      exact hk s0
set_option maxHeartbeats 4000000 in
set_option maxRecDepth 100000 in
theorem pf_Guess_weigh_L60 {G : wd_G} {M : wd_M}  (C : cx_C G M RX2 cX2_weigh 7 5 none) (a0 : Nat) (ha0 : sh_kd a0 = 2) (a1 : Nat) (ha1 : sh_kd a1 = 8) (a2 : Nat) (ha2 : sh_kd a2 = 8) (a3 : Nat) (ha3 : sh_kd a3 = 0) (a4 : Int32)  (τ : hp_L) (k : hp_I → Option (hp_I)) (hk : ∀ (s : hp_I), dn_D G M 7 0 0 (cl_M G M (ci_h τ)) 120 [(0, .ref (wd_b G + a0)), (1, .ref (wd_b G + a1)), (2, .ref (wd_b G + a2)), (3, .ref (wd_b G + a3)), (4, .int a4)] [] s τ (k s)) : ∀ (fu : Nat) (x5 : Int32) (s0 : hp_I), dn_D G M 7 0 0 (cl_M G M (ci_h τ)) 60 [(0, .ref (wd_b G + a0)), (1, .ref (wd_b G + a1)), (2, .ref (wd_b G + a2)), (3, .ref (wd_b G + a3)), (4, .int a4), (5, .int x5)] [] s0 τ (fn_Guess_weigh_L60 a0 a1 a2 a3 a4 k fu x5 s0) := by
  intro fu
  induction fu with
  | zero => exact fun x5 s0 => dn_none
  | succ fu ih =>
    intro x5 s0
    unfold fn_Guess_weigh_L60
    refine dn_iload C dX2_weigh_60 5 rfl rfl ?_
    refine dn_aload_n C dX2_weigh_62 rfl 0 rfl rfl ?_
    refine dn_getR C fd_X2_15 ha0 dX2_weigh_63 rfl ?_
    refine dn_getI C fd_X2_37 (kt_2_0 ha0) dX2_weigh_66 rfl ?_
    refine dn_icmp_ge (t := 120) C dX2_weigh_69 (by decide) rfl ?_ ?_
    · refine dn_aload_n C dX2_weigh_72 rfl 2 rfl rfl ?_
      refine dn_aload_n C dX2_weigh_73 rfl 1 rfl rfl ?_
      refine dn_callV_h (As := [.ref (wd_b G + a1)]) (st := []) C (ok_State_copyFrom (cx_g C) a2 ha2 a1 ha1 s0 τ) mt_X8_copyFrom mv_X8_copyFrom lk_X2_40 (by decide) ha2 rfl ⟨Nat.zero_le _, Nat.zero_le _⟩ (Nat.le_of_ble_eq_true rfl) dX2_weigh_74 rfl rfl (fun s14 => ?_)
      refine dn_aload_n C dX2_weigh_77 rfl 2 rfl rfl ?_
      refine dn_iload C dX2_weigh_78 4 rfl rfl ?_
      refine dn_iload C dX2_weigh_80 5 rfl rfl ?_
      refine dn_callV_h (As := [.int a4, .int x5]) (st := []) C (ok_State_putInto (cx_g C) a2 ha2 a4 x5 s14 τ) mt_X8_putInto mv_X8_putInto lk_X2_44 (by decide) ha2 rfl ⟨Nat.zero_le _, Nat.zero_le _⟩ (Nat.le_of_ble_eq_true rfl) dX2_weigh_82 rfl rfl (fun s16 => ?_)
      refine dn_aload_n C dX2_weigh_85 rfl 2 rfl rfl ?_
      refine dn_callV_ih (As := []) (st := []) C (ok_State_passNight (cx_g C) a2 ha2 s16 τ) mt_X8_passNight mv_X8_passNight lk_X2_48 (by decide) ha2 rfl ⟨Nat.zero_le _, Nat.zero_le _⟩ (Nat.le_of_ble_eq_true rfl) dX2_weigh_86 rfl rfl (fun z17 s18 => ?_)
      refine dn_istore (lv0 := [(0, .ref (wd_b G + a0)), (1, .ref (wd_b G + a1)), (2, .ref (wd_b G + a2)), (3, .ref (wd_b G + a3)), (4, .int a4), (5, .int x5)]) C dX2_weigh_89 (by decide) rfl rfl (fun v6_19 => ?_)
      refine dn_aload_n C dX2_weigh_91 rfl 4 rfl rfl ?_
      refine dn_iload C dX2_weigh_92 0 rfl rfl ?_
      refine dn_callV_i (As := [.int v6_19]) (st := []) C (ok_Book_agreesWith (cx_g C) a3 ha3 v6_19 s18 τ) mt_X0_agreesWith mv_X0_agreesWith lk_X2_52 (by decide) ha3 rfl ⟨Nat.zero_le _, Nat.zero_le _⟩ (Nat.le_of_ble_eq_true rfl) dX2_weigh_94 rfl rfl (fun z20 => ?_)
      refine dn_jn (fun z => ∀ (s21 : hp_I), dn_D G M 7 0 0 (cl_M G M (ci_h τ)) 114 [(0, .ref (wd_b G + a0)), (1, .ref (wd_b G + a1)), (2, .ref (wd_b G + a2)), (3, .ref (wd_b G + a3)), (4, .int a4), (5, .int x5)] [] s21 τ (z s21)) (fun s21 => ?_) (fun j23 hj23 => ?_)
      · refine dn_iinc (lv0 := [(0, .ref (wd_b G + a0)), (1, .ref (wd_b G + a1)), (2, .ref (wd_b G + a2)), (3, .ref (wd_b G + a3)), (4, .int a4)]) (v := x5 + 1) C dX2_weigh_114 5 rfl rfl (by decide) rfl rfl (fun v5_22 => ?_)
        refine dn_goto (t := 60) C dX2_weigh_117 (by decide) ?_
        refine dn_pick [1, 2, 3, 4, 5, 0] rfl ?_
        exact ih v5_22 s21
      · refine dn_if_eq (t := 114) C dX2_weigh_97 (by decide) rfl ?_ ?_
        · refine dn_pick [1, 2, 3, 4, 5, 6] rfl ?_
          exact hj23 s18
        · refine dn_aload_n C dX2_weigh_100 rfl 1 rfl rfl ?_
          refine dn_bipush C dX2_weigh_101 ic_b_10 rfl ?_
          refine dn_iload C dX2_weigh_103 5 rfl rfl ?_
          refine dn_imul C dX2_weigh_105 rfl ?_
          refine dn_iload C dX2_weigh_106 6 rfl rfl ?_
          refine dn_iadd C dX2_weigh_108 rfl ?_
          refine dn_iload C dX2_weigh_109 0 rfl rfl ?_
          refine dn_callV_h (As := [.int (((10 : Int32) * a4) + x5), .int v6_19]) (st := []) C (ok_Guess_countPair (cx_g C) a0 ha0 (((10 : Int32) * a4) + x5) v6_19 s18 τ) mt_X2_countPair mv_X2_countPair lk_X2_57 (by decide) ha0 rfl ⟨Nat.zero_le _, Nat.zero_le _⟩ (Nat.le_of_ble_eq_true rfl) dX2_weigh_111 rfl rfl (fun s25 => ?_)
          refine dn_pick [1, 2, 3, 4, 5, 6] rfl ?_
          exact hj23 s25
    · refine dn_pick [0, 1, 2, 3, 4] rfl ?_
      exact hk s0
set_option maxHeartbeats 4000000 in
set_option maxRecDepth 100000 in
theorem pf_Guess_weigh_L36 {G : wd_G} {M : wd_M}  (C : cx_C G M RX2 cX2_weigh 7 5 none) (a0 : Nat) (ha0 : sh_kd a0 = 2) (a1 : Nat) (ha1 : sh_kd a1 = 8) (a2 : Nat) (ha2 : sh_kd a2 = 8) (a3 : Nat) (ha3 : sh_kd a3 = 0)  (τ : hp_L) (k : hp_I → Option (hp_I)) (hk : ∀ (s : hp_I), dn_D G M 7 0 0 (cl_M G M (ci_h τ)) 126 [] [] s τ (k s)) : ∀ (fu : Nat) (x4 : Int32) (s0 : hp_I), dn_D G M 7 0 0 (cl_M G M (ci_h τ)) 36 [(0, .ref (wd_b G + a0)), (1, .ref (wd_b G + a1)), (2, .ref (wd_b G + a2)), (3, .ref (wd_b G + a3)), (4, .int x4)] [] s0 τ (fn_Guess_weigh_L36 a0 a1 a2 a3 k fu x4 s0) := by
  intro fu
  induction fu with
  | zero => exact fun x4 s0 => dn_none
  | succ fu ih =>
    intro x4 s0
    unfold fn_Guess_weigh_L36
    refine dn_iload C dX2_weigh_36 4 rfl rfl ?_
    refine dn_aload_n C dX2_weigh_38 rfl 0 rfl rfl ?_
    refine dn_getR C fd_X2_15 ha0 dX2_weigh_39 rfl ?_
    refine dn_getI C fd_X2_26 (kt_2_0 ha0) dX2_weigh_42 rfl ?_
    refine dn_icmp_ge (t := 126) C dX2_weigh_45 (by decide) rfl ?_ ?_
    · refine dn_aload_n C dX2_weigh_48 rfl 1 rfl rfl ?_
      refine dn_iload C dX2_weigh_49 4 rfl rfl ?_
      refine dn_callV_i (As := [.int x4]) (st := []) C (ok_State_lives (cx_g C) a1 ha1 x4 s0 τ) mt_X8_lives mv_X8_lives lk_X2_31 (by decide) ha1 rfl ⟨Nat.zero_le _, Nat.zero_le _⟩ (Nat.le_of_ble_eq_true rfl) dX2_weigh_51 rfl rfl (fun z8 => ?_)
      refine dn_jn (fun z => ∀ (s9 : hp_I), dn_D G M 7 0 0 (cl_M G M (ci_h τ)) 120 [(0, .ref (wd_b G + a0)), (1, .ref (wd_b G + a1)), (2, .ref (wd_b G + a2)), (3, .ref (wd_b G + a3)), (4, .int x4)] [] s9 τ (z s9)) (fun s9 => ?_) (fun j11 hj11 => ?_)
      · refine dn_iinc (lv0 := [(0, .ref (wd_b G + a0)), (1, .ref (wd_b G + a1)), (2, .ref (wd_b G + a2)), (3, .ref (wd_b G + a3))]) (v := x4 + 1) C dX2_weigh_120 4 rfl rfl (by decide) rfl rfl (fun v4_10 => ?_)
        refine dn_goto (t := 36) C dX2_weigh_123 (by decide) ?_
        refine dn_pick [1, 2, 3, 4, 0] rfl ?_
        exact ih v4_10 s9
      · refine dn_if_eq (t := 120) C dX2_weigh_54 (by decide) rfl ?_ ?_
        · exact hj11 s0
        · refine dn_iconst C dX2_weigh_57 ic_i_0 rfl ?_
          refine dn_istore (lv0 := [(0, .ref (wd_b G + a0)), (1, .ref (wd_b G + a1)), (2, .ref (wd_b G + a2)), (3, .ref (wd_b G + a3)), (4, .int x4)]) C dX2_weigh_58 (by decide) rfl rfl (fun v5_12 => ?_)
          refine dn_pick [1, 2, 3, 4, 5, 0] rfl ?_
          refine pf_Guess_weigh_L60  C  a0 ha0 a1 ha1 a2 ha2 a3 ha3 x4  τ _ (fun s_26 => ?_) FU v5_12 s0
          exact hj11 s_26
    · refine dn_pick [] rfl ?_
      exact hk s0
set_option maxHeartbeats 4000000 in
set_option maxRecDepth 100000 in
theorem ok_Guess_weigh {G : wd_G} {l : Launch} (hN : gd_ok G)  (o : Nat) (ho : sh_kd o = 2) (p1 : Nat) (hp1 : sh_kd p1 = 8) (p2 : Nat) (hp2 : sh_kd p2 = 8) (p3 : Nat) (hp3 : sh_kd p3 = 0) (σ : hp_I) (τ : hp_L) : cl_C G l 5 yX2_weigh cX2_weigh 7 none [.ref (wd_b G + o), .ref (wd_b G + p1), .ref (wd_b G + p2), .ref (wd_b G + p3)] σ τ (ci_h τ) (fn_Guess_weigh o p1 p2 p3 σ) := by
  refine cl_of (lv0 := [(0, .ref (wd_b G + o)), (1, .ref (wd_b G + p1)), (2, .ref (wd_b G + p2)), (3, .ref (wd_b G + p3))]) (ci_h τ) (by decide) (Nat.le_of_ble_eq_true rfl) rfl hN (fun M hM C => ?_)
  have C : cx_C G M RX2 cX2_weigh 7 5 none := C
  unfold fn_Guess_weigh
  refine dn_aload_n C dX2_weigh_0 rfl 0 rfl rfl ?_
  refine dn_iconst C dX2_weigh_1 ic_i_0 rfl ?_
  refine dn_putI C fp_X2_19 ho dX2_weigh_2 rfl (fun s1 => ?_)
  refine dn_aload_n C dX2_weigh_5 rfl 0 rfl rfl ?_
  refine dn_iconst C dX2_weigh_6 ic_i_m1 rfl ?_
  refine dn_putI C fp_X2_23 ho dX2_weigh_7 rfl (fun s2 => ?_)
  refine dn_iconst C dX2_weigh_10 ic_i_0 rfl ?_
  refine dn_istore (lv0 := [(0, .ref (wd_b G + o)), (1, .ref (wd_b G + p1)), (2, .ref (wd_b G + p2)), (3, .ref (wd_b G + p3))]) C dX2_weigh_11 (by decide) rfl rfl (fun v4_3 => ?_)
  refine dn_pick [1, 2, 3, 4, 0] rfl ?_
  refine pf_Guess_weigh_L13  C  o ho p1 hp1 p2 hp2 p3 hp3  τ _ (fun s_6 => ?_) FU v4_3 s2
  refine dn_iconst C dX2_weigh_33 ic_i_0 rfl ?_
  refine dn_istore (lv0 := [(0, .ref (wd_b G + o)), (1, .ref (wd_b G + p1)), (2, .ref (wd_b G + p2)), (3, .ref (wd_b G + p3))]) C dX2_weigh_34 (by decide) rfl rfl (fun v4_7 => ?_)
  refine dn_pick [1, 2, 3, 4, 0] rfl ?_
  refine pf_Guess_weigh_L36  C  o ho p1 hp1 p2 hp2 p3 hp3  τ _ (fun s_27 => ?_) FU v4_7 s_6
  exact dn_vret C dX2_weigh_126 rfl
def fn_House_readClause  (o : Nat) (p1 : Nat) (σ : hp_I) : Option (hp_I) :=
  Option.bind (fn_Tape_next p1 σ) fun z1 =>
  px_let z1 fun v2_2 =>
  px_b2 (fn_Tape_takesWord p1 ww_room σ) fun z4 s5 =>
  px_jn (fun (s6 : hp_I) =>
    Option.bind (fn_Tape_expect p1 (59 : Int32) s6) fun s8 =>
    some s8
  ) fun j9 =>
    if z4 = 0 then (
      px_b2 (fn_Tape_takesWord p1 ww_way s5) fun z13 s14 =>
      if z13 = 0 then (
        px_b2 (fn_Tape_takesWord p1 ww_scheme s14) fun z18 s19 =>
        if z18 = 0 then (
          px_b2 (fn_Tape_takesWord p1 ww_cat s19) fun z23 s24 =>
          if z23 = 0 then (
            Option.bind (fn_Tape_fail p1 (1 : Int32) v2_2 s24) fun s28 =>
            j9 s28
          ) else (
            Option.bind (fn_House_readCat o p1 v2_2 s24) fun s26 =>
            j9 s26
          )
        ) else (
          Option.bind (fn_House_readScheme o p1 v2_2 s19) fun s21 =>
          j9 s21
        )
      ) else (
        Option.bind (fn_House_readWay o p1 v2_2 s14) fun s16 =>
        j9 s16
      )
    ) else (
      Option.bind (fn_House_readRoom o p1 v2_2 s5) fun s11 =>
      j9 s11
    )
set_option maxHeartbeats 4000000 in
set_option maxRecDepth 100000 in
theorem ok_House_readClause {G : wd_G} {l : Launch} (hN : gd_ok G)  (o : Nat) (ho : sh_kd o = 3) (p1 : Nat) (hp1 : sh_kd p1 = 10) (σ : hp_I) (τ : hp_L) : cl_C G l 5 yX3_readClause cX3_readClause 3 none [.ref (wd_b G + o), .ref (wd_b G + p1)] σ τ (ci_h τ) (fn_House_readClause o p1 σ) := by
  refine cl_of (lv0 := [(0, .ref (wd_b G + o)), (1, .ref (wd_b G + p1))]) (ci_h τ) (by decide) (Nat.le_of_ble_eq_true rfl) rfl hN (fun M hM C => ?_)
  have C : cx_C G M RX3 cX3_readClause 3 5 none := C
  unfold fn_House_readClause
  refine dn_aload_n C dX3_readClause_0 rfl 1 rfl rfl ?_
  refine dn_callV_i (As := []) (st := []) C (ok_Tape_next (cx_g C) p1 hp1 σ τ) mt_X10_next mv_X10_next lk_X3_61 (by decide) hp1 rfl ⟨Nat.zero_le _, Nat.zero_le _⟩ (Nat.le_of_ble_eq_true rfl) dX3_readClause_1 rfl rfl (fun z1 => ?_)
  refine dn_istore_n (lv0 := [(0, .ref (wd_b G + o)), (1, .ref (wd_b G + p1))]) C dX3_readClause_4 rfl (by decide) rfl rfl (fun v2_2 => ?_)
  refine dn_aload_n C dX3_readClause_5 rfl 2 rfl rfl ?_
  obtain ⟨a3, hka3, hwa3⟩ := sc_X3_73 (cx_g C)
  refine dn_ldcS C hka3 dX3_readClause_6 rfl ?_
  refine dn_callV_ih (As := [.ref a3]) (st := []) C (ok_Tape_takesWord (cx_g C) p1 hp1 a3 ww_room hwa3 σ τ) mt_X10_takesWord mv_X10_takesWord lk_X3_75 (by decide) hp1 rfl ⟨Nat.zero_le _, Nat.zero_le _⟩ (Nat.le_of_ble_eq_true rfl) dX3_readClause_8 rfl rfl (fun z4 s5 => ?_)
  refine dn_jn (fun z => ∀ (s6 : hp_I), dn_D G M 3 0 0 (cl_M G M (ci_h τ)) 83 [(1, .ref (wd_b G + p1))] [] s6 τ (z s6)) (fun s6 => ?_) (fun j9 hj9 => ?_)
  · refine dn_aload_n C dX3_readClause_83 rfl 0 rfl rfl ?_
    refine dn_bipush C dX3_readClause_84 ic_b_59 rfl ?_
    refine dn_callV_h (As := [.int (59 : Int32)]) (st := []) C (ok_Tape_expect (cx_g C) p1 hp1 (59 : Int32) s6 τ) mt_X10_expect mv_X10_expect lk_X3_98 (by decide) hp1 rfl ⟨Nat.zero_le _, Nat.zero_le _⟩ (Nat.le_of_ble_eq_true rfl) dX3_readClause_86 rfl rfl (fun s8 => ?_)
    exact dn_vret C dX3_readClause_89 rfl
  · refine dn_if_eq (t := 23) C dX3_readClause_11 (by decide) rfl ?_ ?_
    · refine dn_aload_n C dX3_readClause_23 rfl 2 rfl rfl ?_
      obtain ⟨a12, hka12, hwa12⟩ := sc_X3_83 (cx_g C)
      refine dn_ldcS C hka12 dX3_readClause_24 rfl ?_
      refine dn_callV_ih (As := [.ref a12]) (st := []) C (ok_Tape_takesWord (cx_g C) p1 hp1 a12 ww_way hwa12 s5 τ) mt_X10_takesWord mv_X10_takesWord lk_X3_75 (by decide) hp1 rfl ⟨Nat.zero_le _, Nat.zero_le _⟩ (Nat.le_of_ble_eq_true rfl) dX3_readClause_26 rfl rfl (fun z13 s14 => ?_)
      refine dn_if_eq (t := 41) C dX3_readClause_29 (by decide) rfl ?_ ?_
      · refine dn_aload_n C dX3_readClause_41 rfl 2 rfl rfl ?_
        obtain ⟨a17, hka17, hwa17⟩ := sc_X3_88 (cx_g C)
        refine dn_ldcS C hka17 dX3_readClause_42 rfl ?_
        refine dn_callV_ih (As := [.ref a17]) (st := []) C (ok_Tape_takesWord (cx_g C) p1 hp1 a17 ww_scheme hwa17 s14 τ) mt_X10_takesWord mv_X10_takesWord lk_X3_75 (by decide) hp1 rfl ⟨Nat.zero_le _, Nat.zero_le _⟩ (Nat.le_of_ble_eq_true rfl) dX3_readClause_44 rfl rfl (fun z18 s19 => ?_)
        refine dn_if_eq (t := 59) C dX3_readClause_47 (by decide) rfl ?_ ?_
        · refine dn_aload_n C dX3_readClause_59 rfl 2 rfl rfl ?_
          obtain ⟨a22, hka22, hwa22⟩ := sc_X3_93 (cx_g C)
          refine dn_ldcS C hka22 dX3_readClause_60 rfl ?_
          refine dn_callV_ih (As := [.ref a22]) (st := []) C (ok_Tape_takesWord (cx_g C) p1 hp1 a22 ww_cat hwa22 s19 τ) mt_X10_takesWord mv_X10_takesWord lk_X3_75 (by decide) hp1 rfl ⟨Nat.zero_le _, Nat.zero_le _⟩ (Nat.le_of_ble_eq_true rfl) dX3_readClause_62 rfl rfl (fun z23 s24 => ?_)
          refine dn_if_eq (t := 77) C dX3_readClause_65 (by decide) rfl ?_ ?_
          · refine dn_aload_n C dX3_readClause_77 rfl 2 rfl rfl ?_
            refine dn_iconst C dX3_readClause_78 ic_i_1 rfl ?_
            refine dn_iload_n C dX3_readClause_79 rfl 0 rfl rfl ?_
            refine dn_callV_h (As := [.int (1 : Int32), .int v2_2]) (st := []) C (ok_Tape_fail (cx_g C) p1 hp1 (1 : Int32) v2_2 s24 τ) mt_X10_fail mv_X10_fail lk_X3_65 (by decide) hp1 rfl ⟨Nat.zero_le _, Nat.zero_le _⟩ (Nat.le_of_ble_eq_true rfl) dX3_readClause_80 rfl rfl (fun s28 => ?_)
            refine dn_pick [2] rfl ?_
            exact hj9 s28
          · refine dn_aload_n C dX3_readClause_68 rfl 1 rfl rfl ?_
            refine dn_aload_n C dX3_readClause_69 rfl 2 rfl rfl ?_
            refine dn_iload_n C dX3_readClause_70 rfl 0 rfl rfl ?_
            refine dn_callV_h (As := [.ref (wd_b G + p1), .int v2_2]) (st := []) C (ok_House_readCat (cx_g C) o ho p1 hp1 v2_2 s24 τ) mt_X3_readCat mv_X3_readCat lk_X3_95 (by decide) ho rfl ⟨Nat.zero_le _, Nat.zero_le _⟩ (Nat.le_of_ble_eq_true rfl) dX3_readClause_71 rfl rfl (fun s26 => ?_)
            refine dn_goto (t := 83) C dX3_readClause_74 (by decide) ?_
            refine dn_pick [2] rfl ?_
            exact hj9 s26
        · refine dn_aload_n C dX3_readClause_50 rfl 1 rfl rfl ?_
          refine dn_aload_n C dX3_readClause_51 rfl 2 rfl rfl ?_
          refine dn_iload_n C dX3_readClause_52 rfl 0 rfl rfl ?_
          refine dn_callV_h (As := [.ref (wd_b G + p1), .int v2_2]) (st := []) C (ok_House_readScheme (cx_g C) o ho p1 hp1 v2_2 s19 τ) mt_X3_readScheme mv_X3_readScheme lk_X3_90 (by decide) ho rfl ⟨Nat.zero_le _, Nat.zero_le _⟩ (Nat.le_of_ble_eq_true rfl) dX3_readClause_53 rfl rfl (fun s21 => ?_)
          refine dn_goto (t := 83) C dX3_readClause_56 (by decide) ?_
          refine dn_pick [2] rfl ?_
          exact hj9 s21
      · refine dn_aload_n C dX3_readClause_32 rfl 1 rfl rfl ?_
        refine dn_aload_n C dX3_readClause_33 rfl 2 rfl rfl ?_
        refine dn_iload_n C dX3_readClause_34 rfl 0 rfl rfl ?_
        refine dn_callV_h (As := [.ref (wd_b G + p1), .int v2_2]) (st := []) C (ok_House_readWay (cx_g C) o ho p1 hp1 v2_2 s14 τ) mt_X3_readWay mv_X3_readWay lk_X3_85 (by decide) ho rfl ⟨Nat.zero_le _, Nat.zero_le _⟩ (Nat.le_of_ble_eq_true rfl) dX3_readClause_35 rfl rfl (fun s16 => ?_)
        refine dn_goto (t := 83) C dX3_readClause_38 (by decide) ?_
        refine dn_pick [2] rfl ?_
        exact hj9 s16
    · refine dn_aload_n C dX3_readClause_14 rfl 1 rfl rfl ?_
      refine dn_aload_n C dX3_readClause_15 rfl 2 rfl rfl ?_
      refine dn_iload_n C dX3_readClause_16 rfl 0 rfl rfl ?_
      refine dn_callV_h (As := [.ref (wd_b G + p1), .int v2_2]) (st := []) C (ok_House_readRoom (cx_g C) o ho p1 hp1 v2_2 s5 τ) mt_X3_readRoom mv_X3_readRoom lk_X3_79 (by decide) ho rfl ⟨Nat.zero_le _, Nat.zero_le _⟩ (Nat.le_of_ble_eq_true rfl) dX3_readClause_17 rfl rfl (fun s11 => ?_)
      refine dn_goto (t := 83) C dX3_readClause_20 (by decide) ?_
      refine dn_pick [2] rfl ?_
      exact hj9 s11
def fn_Law_readVariable  (p1 : Nat) (σ : hp_I) : Option (Int32 × hp_I) :=
  px_b2 (fn_Tape_takesWord p1 ww_size σ) fun z2 s3 =>
  if z2 = 0 then (
    px_b2 (fn_Tape_takesWord p1 ww_grow s3) fun z5 s6 =>
    if z5 = 0 then (
      px_b2 (fn_Tape_takesWord p1 ww_hide s6) fun z8 s9 =>
      if z8 = 0 then (
        px_b2 (fn_Tape_takesWord p1 ww_cats s9) fun z11 s12 =>
        if z11 = 0 then (
          px_b2 (fn_Tape_takesWord p1 ww_night s12) fun z14 s15 =>
          if z14 = 0 then (
            px_b2 (fn_Tape_takesWord p1 ww_mat s15) fun z17 s18 =>
            if z17 = 0 then (
              px_b2 (fn_Tape_takesWord p1 ww_scheme s18) fun z20 s21 =>
              px_jn (fun (t22 : Int32) =>
                some (t22, s21)
              ) fun j23 =>
                if z20 = 0 then (
                  j23 (-1 : Int32)
                ) else (
                  j23 (6 : Int32)
                )
            ) else (
              some ((5 : Int32), s18)
            )
          ) else (
            some ((4 : Int32), s15)
          )
        ) else (
          some ((3 : Int32), s12)
        )
      ) else (
        some ((2 : Int32), s9)
      )
    ) else (
      some ((1 : Int32), s6)
    )
  ) else (
    some ((0 : Int32), s3)
  )
set_option maxHeartbeats 4000000 in
set_option maxRecDepth 100000 in
theorem ok_Law_readVariable {G : wd_G} {l : Launch} (hN : gd_ok G)  (p1 : Nat) (hp1 : sh_kd p1 = 10) (σ : hp_I) (τ : hp_L) : cl_C G l 5 yX4_readVariable cX4_readVariable 1 (some .int) [.ref (wd_b G + p1)] σ τ (ci_ih τ) (fn_Law_readVariable p1 σ) := by
  refine cl_of (lv0 := [(0, .ref (wd_b G + p1))]) (ci_ih τ) (by decide) (Nat.le_of_ble_eq_true rfl) rfl hN (fun M hM C => ?_)
  have C : cx_C G M RX4 cX4_readVariable 1 5 (some .int) := C
  unfold fn_Law_readVariable
  refine dn_aload_n C dX4_readVariable_0 rfl 0 rfl rfl ?_
  obtain ⟨a1, hka1, hwa1⟩ := sc_X4_103 (cx_g C)
  refine dn_ldcS C hka1 dX4_readVariable_1 rfl ?_
  refine dn_callV_ih (As := [.ref a1]) (st := []) C (ok_Tape_takesWord (cx_g C) p1 hp1 a1 ww_size hwa1 σ τ) mt_X10_takesWord mv_X10_takesWord lk_X4_85 (by decide) hp1 rfl ⟨Nat.zero_le _, Nat.zero_le _⟩ (Nat.le_of_ble_eq_true rfl) dX4_readVariable_3 rfl rfl (fun z2 s3 => ?_)
  refine dn_if_eq (t := 11) C dX4_readVariable_6 (by decide) rfl ?_ ?_
  · refine dn_aload_n C dX4_readVariable_11 rfl 0 rfl rfl ?_
    obtain ⟨a4, hka4, hwa4⟩ := sc_X4_105 (cx_g C)
    refine dn_ldcS C hka4 dX4_readVariable_12 rfl ?_
    refine dn_callV_ih (As := [.ref a4]) (st := []) C (ok_Tape_takesWord (cx_g C) p1 hp1 a4 ww_grow hwa4 s3 τ) mt_X10_takesWord mv_X10_takesWord lk_X4_85 (by decide) hp1 rfl ⟨Nat.zero_le _, Nat.zero_le _⟩ (Nat.le_of_ble_eq_true rfl) dX4_readVariable_14 rfl rfl (fun z5 s6 => ?_)
    refine dn_if_eq (t := 22) C dX4_readVariable_17 (by decide) rfl ?_ ?_
    · refine dn_aload_n C dX4_readVariable_22 rfl 0 rfl rfl ?_
      obtain ⟨a7, hka7, hwa7⟩ := sc_X4_107 (cx_g C)
      refine dn_ldcS C hka7 dX4_readVariable_23 rfl ?_
      refine dn_callV_ih (As := [.ref a7]) (st := []) C (ok_Tape_takesWord (cx_g C) p1 hp1 a7 ww_hide hwa7 s6 τ) mt_X10_takesWord mv_X10_takesWord lk_X4_85 (by decide) hp1 rfl ⟨Nat.zero_le _, Nat.zero_le _⟩ (Nat.le_of_ble_eq_true rfl) dX4_readVariable_25 rfl rfl (fun z8 s9 => ?_)
      refine dn_if_eq (t := 33) C dX4_readVariable_28 (by decide) rfl ?_ ?_
      · refine dn_aload_n C dX4_readVariable_33 rfl 0 rfl rfl ?_
        obtain ⟨a10, hka10, hwa10⟩ := sc_X4_109 (cx_g C)
        refine dn_ldcS C hka10 dX4_readVariable_34 rfl ?_
        refine dn_callV_ih (As := [.ref a10]) (st := []) C (ok_Tape_takesWord (cx_g C) p1 hp1 a10 ww_cats hwa10 s9 τ) mt_X10_takesWord mv_X10_takesWord lk_X4_85 (by decide) hp1 rfl ⟨Nat.zero_le _, Nat.zero_le _⟩ (Nat.le_of_ble_eq_true rfl) dX4_readVariable_36 rfl rfl (fun z11 s12 => ?_)
        refine dn_if_eq (t := 44) C dX4_readVariable_39 (by decide) rfl ?_ ?_
        · refine dn_aload_n C dX4_readVariable_44 rfl 0 rfl rfl ?_
          obtain ⟨a13, hka13, hwa13⟩ := sc_X4_111 (cx_g C)
          refine dn_ldcS C hka13 dX4_readVariable_45 rfl ?_
          refine dn_callV_ih (As := [.ref a13]) (st := []) C (ok_Tape_takesWord (cx_g C) p1 hp1 a13 ww_night hwa13 s12 τ) mt_X10_takesWord mv_X10_takesWord lk_X4_85 (by decide) hp1 rfl ⟨Nat.zero_le _, Nat.zero_le _⟩ (Nat.le_of_ble_eq_true rfl) dX4_readVariable_47 rfl rfl (fun z14 s15 => ?_)
          refine dn_if_eq (t := 55) C dX4_readVariable_50 (by decide) rfl ?_ ?_
          · refine dn_aload_n C dX4_readVariable_55 rfl 0 rfl rfl ?_
            obtain ⟨a16, hka16, hwa16⟩ := sc_X4_113 (cx_g C)
            refine dn_ldcS C hka16 dX4_readVariable_56 rfl ?_
            refine dn_callV_ih (As := [.ref a16]) (st := []) C (ok_Tape_takesWord (cx_g C) p1 hp1 a16 ww_mat hwa16 s15 τ) mt_X10_takesWord mv_X10_takesWord lk_X4_85 (by decide) hp1 rfl ⟨Nat.zero_le _, Nat.zero_le _⟩ (Nat.le_of_ble_eq_true rfl) dX4_readVariable_58 rfl rfl (fun z17 s18 => ?_)
            refine dn_if_eq (t := 66) C dX4_readVariable_61 (by decide) rfl ?_ ?_
            · refine dn_aload_n C dX4_readVariable_66 rfl 0 rfl rfl ?_
              obtain ⟨a19, hka19, hwa19⟩ := sc_X4_115 (cx_g C)
              refine dn_ldcS C hka19 dX4_readVariable_67 rfl ?_
              refine dn_callV_ih (As := [.ref a19]) (st := []) C (ok_Tape_takesWord (cx_g C) p1 hp1 a19 ww_scheme hwa19 s18 τ) mt_X10_takesWord mv_X10_takesWord lk_X4_85 (by decide) hp1 rfl ⟨Nat.zero_le _, Nat.zero_le _⟩ (Nat.le_of_ble_eq_true rfl) dX4_readVariable_69 rfl rfl (fun z20 s21 => ?_)
              refine dn_jn (fun z => ∀ (t22 : Int32), dn_D G M 1 0 0 (cl_M G M (ci_ih τ)) 81 [] [.int t22] s21 τ (z t22)) (fun t22 => ?_) (fun j23 hj23 => ?_)
              · exact dn_iret C dX4_readVariable_81 rfl
              · refine dn_if_eq (t := 80) C dX4_readVariable_72 (by decide) rfl ?_ ?_
                · refine dn_iconst C dX4_readVariable_80 ic_i_m1 rfl ?_
                  refine dn_pick [] rfl ?_
                  exact hj23 (-1 : Int32)
                · refine dn_bipush C dX4_readVariable_75 ic_b_6 rfl ?_
                  refine dn_goto (t := 81) C dX4_readVariable_77 (by decide) ?_
                  refine dn_pick [] rfl ?_
                  exact hj23 (6 : Int32)
            · refine dn_iconst C dX4_readVariable_64 ic_i_5 rfl ?_
              exact dn_iret C dX4_readVariable_65 rfl
          · refine dn_iconst C dX4_readVariable_53 ic_i_4 rfl ?_
            exact dn_iret C dX4_readVariable_54 rfl
        · refine dn_iconst C dX4_readVariable_42 ic_i_3 rfl ?_
          exact dn_iret C dX4_readVariable_43 rfl
      · refine dn_iconst C dX4_readVariable_31 ic_i_2 rfl ?_
        exact dn_iret C dX4_readVariable_32 rfl
    · refine dn_iconst C dX4_readVariable_20 ic_i_1 rfl ?_
      exact dn_iret C dX4_readVariable_21 rfl
  · refine dn_iconst C dX4_readVariable_9 ic_i_0 rfl ?_
    exact dn_iret C dX4_readVariable_10 rfl
def fn_Season_play_L8  (a0 : Nat) (a1 : Nat) (a3 : Int32) (a4 : Int32) (k : hp_I → Option (hp_I)) : Nat → Int32 → hp_I → Option (hp_I)
  | 0, _, _ => none
  | fu + 1, x5, s0 =>
    if x5 < a3 then (
      px_jn (fun (s3 : hp_I) =>
        px_jn (fun (s4 : hp_I) =>
          px_b2 (fn_State_passNight a1 s4) fun z5 s6 =>
          px_let (x5 + 1) fun v5_7 =>
          fn_Season_play_L8 a0 a1 a3 a4 k fu v5_7 s6
        ) fun j8 =>
          if 0 < (s3 (sh_rf a0 0) 3) then (
            px_b2 (fn_Season_draw a0 (16 : Int32) s3) fun z9 s10 =>
            if z9 < a4 then (
              px_b2 (fn_Season_draw a0 (s10 (sh_rf a0 0) 3) s10) fun z11 s12 =>
              px_let z11 fun v6_13 =>
              px_b2 (fn_Season_draw a0 (s12 (sh_rf a0 0) 0) s12) fun z14 s15 =>
              px_let z14 fun v7_16 =>
              px_b2 (fn_State_callCat a1 v6_13 v7_16 s15) fun z17 s18 =>
              j8 s18
            ) else (
              j8 s10
            )
          ) else (
            j8 s3
          )
      ) fun j19 =>
        if 0 < (s0 (sh_rf a0 0) 2) then (
          px_b2 (fn_Season_draw a0 (s0 (sh_rf a0 0) 2) s0) fun z20 s21 =>
          px_let z20 fun v6_22 =>
          px_b2 (fn_Season_draw a0 (s21 (sh_rf a0 0) 0) s21) fun z23 s24 =>
          px_let z23 fun v7_25 =>
          px_b2 (fn_State_hideScheme a1 v6_22 v7_25 s24) fun z26 s27 =>
          j19 s27
        ) else (
          j19 s0
        )
    ) else (
      k s0
    )
def fn_Season_play  (o : Nat) (p1 : Nat) (p2 : Int32) (p3 : Int32) (p4 : Int32) (σ : hp_I) : Option (hp_I) :=
  px_let (hp_s σ o 1 p2) fun s1 =>
  px_let (0 : Int32) fun v5_2 =>
  fn_Season_play_L8 o p1 p3 p4
    (fun (s_28 : hp_I) =>
      some s_28
    )
    FU v5_2 s1
set_option maxHeartbeats 4000000 in
set_option maxRecDepth 100000 in
theorem pf_Season_play_L8 {G : wd_G} {M : wd_M}  (C : cx_C G M RX6 cX6_play 8 5 none) (a0 : Nat) (ha0 : sh_kd a0 = 6) (a1 : Nat) (ha1 : sh_kd a1 = 8) (a3 : Int32) (a4 : Int32)  (τ : hp_L) (k : hp_I → Option (hp_I)) (hk : ∀ (s : hp_I), dn_D G M 8 0 0 (cl_M G M (ci_h τ)) 126 [] [] s τ (k s)) : ∀ (fu : Nat) (x5 : Int32) (s0 : hp_I), dn_D G M 8 0 0 (cl_M G M (ci_h τ)) 8 [(0, .ref (wd_b G + a0)), (1, .ref (wd_b G + a1)), (3, .int a3), (4, .int a4), (5, .int x5)] [] s0 τ (fn_Season_play_L8 a0 a1 a3 a4 k fu x5 s0) := by
  intro fu
  induction fu with
  | zero => exact fun x5 s0 => dn_none
  | succ fu ih =>
    intro x5 s0
    unfold fn_Season_play_L8
    refine dn_iload C dX6_play_8 4 rfl rfl ?_
    refine dn_iload_n C dX6_play_10 rfl 2 rfl rfl ?_
    refine dn_icmp_ge (t := 126) C dX6_play_11 (by decide) rfl ?_ ?_
    · refine dn_aload_n C dX6_play_14 rfl 0 rfl rfl ?_
      refine dn_getR C fd_X6_9 ha0 dX6_play_15 rfl ?_
      refine dn_getI C fd_X6_19 (kt_6_0 ha0) dX6_play_18 rfl ?_
      refine dn_jn (fun z => ∀ (s3 : hp_I), dn_D G M 8 0 0 (cl_M G M (ci_h τ)) 59 [(0, .ref (wd_b G + a0)), (1, .ref (wd_b G + a1)), (3, .int a3), (4, .int a4), (5, .int x5)] [] s3 τ (z s3)) (fun s3 => ?_) (fun j19 hj19 => ?_)
      · refine dn_aload_n C dX6_play_59 rfl 0 rfl rfl ?_
        refine dn_getR C fd_X6_9 ha0 dX6_play_60 rfl ?_
        refine dn_getI C fd_X6_37 (kt_6_0 ha0) dX6_play_63 rfl ?_
        refine dn_jn (fun z => ∀ (s4 : hp_I), dn_D G M 8 0 0 (cl_M G M (ci_h τ)) 115 [(0, .ref (wd_b G + a0)), (1, .ref (wd_b G + a1)), (3, .int a3), (4, .int a4), (5, .int x5)] [] s4 τ (z s4)) (fun s4 => ?_) (fun j8 hj8 => ?_)
        · refine dn_aload_n C dX6_play_115 rfl 1 rfl rfl ?_
          refine dn_callV_ih (As := []) (st := []) C (ok_State_passNight (cx_g C) a1 ha1 s4 τ) mt_X8_passNight mv_X8_passNight lk_X6_43 (by decide) ha1 rfl ⟨Nat.zero_le _, Nat.zero_le _⟩ (Nat.le_of_ble_eq_true rfl) dX6_play_116 rfl rfl (fun z5 s6 => ?_)
          refine dn_pop C dX6_play_119 rfl rfl ?_
          refine dn_iinc (lv0 := [(0, .ref (wd_b G + a0)), (1, .ref (wd_b G + a1)), (3, .int a3), (4, .int a4)]) (v := x5 + 1) C dX6_play_120 4 rfl rfl (by decide) rfl rfl (fun v5_7 => ?_)
          refine dn_goto (t := 8) C dX6_play_123 (by decide) ?_
          refine dn_pick [1, 2, 3, 4, 0] rfl ?_
          exact ih v5_7 s6
        · refine dn_if_le (t := 115) C dX6_play_66 (by decide) rfl ?_ ?_
          · refine dn_aload_n C dX6_play_69 rfl 0 rfl rfl ?_
            refine dn_bipush C dX6_play_70 ic_b_16 rfl ?_
            refine dn_callV_ih (As := [.int (16 : Int32)]) (st := []) C (ok_Season_draw (cx_g C) a0 ha0 (16 : Int32) s3 τ) mt_X6_draw mv_X6_draw lk_X6_24 (by decide) ha0 rfl ⟨Nat.zero_le _, Nat.zero_le _⟩ (Nat.le_of_ble_eq_true rfl) dX6_play_72 rfl rfl (fun z9 s10 => ?_)
            refine dn_iload C dX6_play_75 3 rfl rfl ?_
            refine dn_icmp_ge (t := 115) C dX6_play_77 (by decide) rfl ?_ ?_
            · refine dn_aload_n C dX6_play_80 rfl 0 rfl rfl ?_
              refine dn_aload_n C dX6_play_81 rfl 0 rfl rfl ?_
              refine dn_getR C fd_X6_9 ha0 dX6_play_82 rfl ?_
              refine dn_getI C fd_X6_37 (kt_6_0 ha0) dX6_play_85 rfl ?_
              refine dn_callV_ih (As := [.int (s10 (sh_rf a0 0) 3)]) (st := []) C (ok_Season_draw (cx_g C) a0 ha0 (s10 (sh_rf a0 0) 3) s10 τ) mt_X6_draw mv_X6_draw lk_X6_24 (by decide) ha0 rfl ⟨Nat.zero_le _, Nat.zero_le _⟩ (Nat.le_of_ble_eq_true rfl) dX6_play_88 rfl rfl (fun z11 s12 => ?_)
              refine dn_istore (lv0 := [(0, .ref (wd_b G + a0)), (1, .ref (wd_b G + a1)), (3, .int a3), (4, .int a4), (5, .int x5)]) C dX6_play_91 (by decide) rfl rfl (fun v6_13 => ?_)
              refine dn_aload_n C dX6_play_93 rfl 1 rfl rfl ?_
              refine dn_aload_n C dX6_play_94 rfl 1 rfl rfl ?_
              refine dn_getR C fd_X6_9 ha0 dX6_play_95 rfl ?_
              refine dn_getI C fd_X6_28 (kt_6_0 ha0) dX6_play_98 rfl ?_
              refine dn_callV_ih (As := [.int (s12 (sh_rf a0 0) 0)]) (st := []) C (ok_Season_draw (cx_g C) a0 ha0 (s12 (sh_rf a0 0) 0) s12 τ) mt_X6_draw mv_X6_draw lk_X6_24 (by decide) ha0 rfl ⟨Nat.zero_le _, Nat.zero_le _⟩ (Nat.le_of_ble_eq_true rfl) dX6_play_101 rfl rfl (fun z14 s15 => ?_)
              refine dn_istore (lv0 := [(6, .int v6_13), (0, .ref (wd_b G + a0)), (1, .ref (wd_b G + a1)), (3, .int a3), (4, .int a4), (5, .int x5)]) C dX6_play_104 (by decide) rfl rfl (fun v7_16 => ?_)
              refine dn_aload_n C dX6_play_106 rfl 3 rfl rfl ?_
              refine dn_iload C dX6_play_107 1 rfl rfl ?_
              refine dn_iload C dX6_play_109 0 rfl rfl ?_
              refine dn_callV_ih (As := [.int v6_13, .int v7_16]) (st := []) C (ok_State_callCat (cx_g C) a1 ha1 v6_13 v7_16 s15 τ) mt_X8_callCat mv_X8_callCat lk_X6_40 (by decide) ha1 rfl ⟨Nat.zero_le _, Nat.zero_le _⟩ (Nat.le_of_ble_eq_true rfl) dX6_play_111 rfl rfl (fun z17 s18 => ?_)
              refine dn_pop C dX6_play_114 rfl rfl ?_
              refine dn_pick [2, 3, 4, 5, 6] rfl ?_
              exact hj8 s18
            · exact hj8 s10
          · exact hj8 s3
      · refine dn_if_le (t := 59) C dX6_play_21 (by decide) rfl ?_ ?_
        · refine dn_aload_n C dX6_play_24 rfl 0 rfl rfl ?_
          refine dn_aload_n C dX6_play_25 rfl 0 rfl rfl ?_
          refine dn_getR C fd_X6_9 ha0 dX6_play_26 rfl ?_
          refine dn_getI C fd_X6_19 (kt_6_0 ha0) dX6_play_29 rfl ?_
          refine dn_callV_ih (As := [.int (s0 (sh_rf a0 0) 2)]) (st := []) C (ok_Season_draw (cx_g C) a0 ha0 (s0 (sh_rf a0 0) 2) s0 τ) mt_X6_draw mv_X6_draw lk_X6_24 (by decide) ha0 rfl ⟨Nat.zero_le _, Nat.zero_le _⟩ (Nat.le_of_ble_eq_true rfl) dX6_play_32 rfl rfl (fun z20 s21 => ?_)
          refine dn_istore (lv0 := [(0, .ref (wd_b G + a0)), (1, .ref (wd_b G + a1)), (3, .int a3), (4, .int a4), (5, .int x5)]) C dX6_play_35 (by decide) rfl rfl (fun v6_22 => ?_)
          refine dn_aload_n C dX6_play_37 rfl 1 rfl rfl ?_
          refine dn_aload_n C dX6_play_38 rfl 1 rfl rfl ?_
          refine dn_getR C fd_X6_9 ha0 dX6_play_39 rfl ?_
          refine dn_getI C fd_X6_28 (kt_6_0 ha0) dX6_play_42 rfl ?_
          refine dn_callV_ih (As := [.int (s21 (sh_rf a0 0) 0)]) (st := []) C (ok_Season_draw (cx_g C) a0 ha0 (s21 (sh_rf a0 0) 0) s21 τ) mt_X6_draw mv_X6_draw lk_X6_24 (by decide) ha0 rfl ⟨Nat.zero_le _, Nat.zero_le _⟩ (Nat.le_of_ble_eq_true rfl) dX6_play_45 rfl rfl (fun z23 s24 => ?_)
          refine dn_istore (lv0 := [(6, .int v6_22), (0, .ref (wd_b G + a0)), (1, .ref (wd_b G + a1)), (3, .int a3), (4, .int a4), (5, .int x5)]) C dX6_play_48 (by decide) rfl rfl (fun v7_25 => ?_)
          refine dn_aload_n C dX6_play_50 rfl 3 rfl rfl ?_
          refine dn_iload C dX6_play_51 1 rfl rfl ?_
          refine dn_iload C dX6_play_53 0 rfl rfl ?_
          refine dn_callV_ih (As := [.int v6_22, .int v7_25]) (st := []) C (ok_State_hideScheme (cx_g C) a1 ha1 v6_22 v7_25 s24 τ) mt_X8_hideScheme mv_X8_hideScheme lk_X6_31 (by decide) ha1 rfl ⟨Nat.zero_le _, Nat.zero_le _⟩ (Nat.le_of_ble_eq_true rfl) dX6_play_55 rfl rfl (fun z26 s27 => ?_)
          refine dn_pop C dX6_play_58 rfl rfl ?_
          refine dn_pick [2, 3, 4, 5, 6] rfl ?_
          exact hj19 s27
        · exact hj19 s0
    · refine dn_pick [] rfl ?_
      exact hk s0
set_option maxHeartbeats 4000000 in
set_option maxRecDepth 100000 in
theorem ok_Season_play {G : wd_G} {l : Launch} (hN : gd_ok G)  (o : Nat) (ho : sh_kd o = 6) (p1 : Nat) (hp1 : sh_kd p1 = 8) (p2 : Int32) (p3 : Int32) (p4 : Int32) (σ : hp_I) (τ : hp_L) : cl_C G l 5 yX6_play cX6_play 8 none [.ref (wd_b G + o), .ref (wd_b G + p1), .int p2, .int p3, .int p4] σ τ (ci_h τ) (fn_Season_play o p1 p2 p3 p4 σ) := by
  refine cl_of (lv0 := [(0, .ref (wd_b G + o)), (1, .ref (wd_b G + p1)), (2, .int p2), (3, .int p3), (4, .int p4)]) (ci_h τ) (by decide) (Nat.le_of_ble_eq_true rfl) rfl hN (fun M hM C => ?_)
  have C : cx_C G M RX6 cX6_play 8 5 none := C
  unfold fn_Season_play
  refine dn_aload_n C dX6_play_0 rfl 0 rfl rfl ?_
  refine dn_iload_n C dX6_play_1 rfl 2 rfl rfl ?_
  refine dn_putI C fp_X6_15 ho dX6_play_2 rfl (fun s1 => ?_)
  refine dn_iconst C dX6_play_5 ic_i_0 rfl ?_
  refine dn_istore (lv0 := [(0, .ref (wd_b G + o)), (1, .ref (wd_b G + p1)), (2, .int p2), (3, .int p3), (4, .int p4)]) C dX6_play_6 (by decide) rfl rfl (fun v5_2 => ?_)
  refine dn_pick [1, 2, 4, 5, 0] rfl ?_
  refine pf_Season_play_L8  C  o ho p1 hp1 p3 p4  τ _ (fun s_28 => ?_) FU v5_2 s1
  exact dn_vret C dX6_play_126 rfl
def fn_Slip_fewestNights_L59  (a0 : Nat) (a1 : Nat) (a3 : Int32) (k : hp_I → Option (Int32 × hp_I)) : Nat → Int32 → hp_I → Option (Int32 × hp_I)
  | 0, _, _ => none
  | fu + 1, x5, s0 =>
    if x5 ≤ (40 : Int32) then (
      if (s0 a0 7) ≤ (s0 a0 8) then (
        Option.bind (fn_Slip_spread a0 a1 s0) fun s14 =>
        Option.bind (fn_State_night a1 s14) fun z15 =>
        px_let (hp_s s14 a0 5 z15) fun s16 =>
        Option.bind (fn_State_onMat a1 s16) fun z17 =>
        Option.bind (fn_J6_bitCount_0f7a4 z17) fun z18 =>
        px_let (hp_s s16 a0 6 z18) fun s19 =>
        px_b2 (fn_State_passNight a1 s19) fun z20 s21 =>
        Option.bind (fn_Slip_growAll a0 a1 s21) fun s23 =>
        Option.bind (fn_Slip_hasAny a0 a3 s23) fun z24 =>
        if z24 = 0 then (
          px_let (x5 + 1) fun v5_25 =>
          fn_Slip_fewestNights_L59 a0 a1 a3 k fu v5_25 s23
        ) else (
          some (x5, s23)
        )
      ) else (
        k s0
      )
    ) else (
      k s0
    )
def fn_Slip_fewestNights  (o : Nat) (p1 : Nat) (p2 : Int32) (p3 : Int32) (σ : hp_I) : Option (Int32 × hp_I) :=
  Option.bind (fn_State_lives p1 p2 σ) fun z1 =>
  if z1 = 0 then (
    some ((-1 : Int32), σ)
  ) else (
    Option.bind (fn_State_roomOf p1 p2 σ) fun z2 =>
    px_let z2 fun v4_3 =>
    if v4_3 = p3 then (
      some ((0 : Int32), σ)
    ) else (
      px_let (hp_s σ o 4 p2) fun s4 =>
      Option.bind (fn_Slip_clear o s4) fun s6 =>
      Option.bind (fn_State_size p1 (s6 o 4) s6) fun z7 =>
      Option.bind (fn_Slip_add o v4_3 z7 s6) fun s9 =>
      Option.bind (fn_State_leaveOut p1 (s9 o 4) s9) fun s11 =>
      px_let (1 : Int32) fun v5_12 =>
      fn_Slip_fewestNights_L59 o p1 p3
        (fun (s_26 : hp_I) =>
          some ((-1 : Int32), s_26)
        )
        FU v5_12 s11
    )
  )
set_option maxHeartbeats 4000000 in
set_option maxRecDepth 100000 in
theorem pf_Slip_fewestNights_L59 {G : wd_G} {M : wd_M}  (C : cx_C G M RX7 cX7_fewestNights 6 5 (some .int)) (a0 : Nat) (ha0 : sh_kd a0 = 7) (a1 : Nat) (ha1 : sh_kd a1 = 8) (a3 : Int32)  (τ : hp_L) (k : hp_I → Option (Int32 × hp_I)) (hk : ∀ (s : hp_I), dn_D G M 6 0 0 (cl_M G M (ci_ih τ)) 128 [] [] s τ (k s)) : ∀ (fu : Nat) (x5 : Int32) (s0 : hp_I), dn_D G M 6 0 0 (cl_M G M (ci_ih τ)) 59 [(0, .ref (wd_b G + a0)), (1, .ref (wd_b G + a1)), (3, .int a3), (5, .int x5)] [] s0 τ (fn_Slip_fewestNights_L59 a0 a1 a3 k fu x5 s0) := by
  intro fu
  induction fu with
  | zero => exact fun x5 s0 => dn_none
  | succ fu ih =>
    intro x5 s0
    unfold fn_Slip_fewestNights_L59
    refine dn_iload C dX7_fewestNights_59 3 rfl rfl ?_
    refine dn_bipush C dX7_fewestNights_61 ic_b_40 rfl ?_
    refine dn_icmp_gt (t := 128) C dX7_fewestNights_63 (by decide) rfl ?_ ?_
    · refine dn_aload_n C dX7_fewestNights_66 rfl 0 rfl rfl ?_
      refine dn_getI C fd_X7_18 ha0 dX7_fewestNights_67 rfl ?_
      refine dn_aload_n C dX7_fewestNights_70 rfl 0 rfl rfl ?_
      refine dn_getI C fd_X7_22 ha0 dX7_fewestNights_71 rfl ?_
      refine dn_icmp_gt (t := 128) C dX7_fewestNights_74 (by decide) rfl ?_ ?_
      · refine dn_aload_n C dX7_fewestNights_77 rfl 0 rfl rfl ?_
        refine dn_aload_n C dX7_fewestNights_78 rfl 1 rfl rfl ?_
        refine dn_callV_h (As := [.ref (wd_b G + a1)]) (st := []) C (ok_Slip_spread (cx_g C) a0 ha0 a1 ha1 s0 τ) mt_X7_spread mv_X7_spread lk_X7_60 (by decide) ha0 rfl ⟨Nat.zero_le _, Nat.zero_le _⟩ (Nat.le_of_ble_eq_true rfl) dX7_fewestNights_79 rfl rfl (fun s14 => ?_)
        refine dn_aload_n C dX7_fewestNights_82 rfl 0 rfl rfl ?_
        refine dn_aload_n C dX7_fewestNights_83 rfl 1 rfl rfl ?_
        refine dn_callV_i (As := []) (st := [.ref (wd_b G + a0)]) C (ok_State_night (cx_g C) a1 ha1 s14 τ) mt_X8_night mv_X8_night lk_X7_64 (by decide) ha1 rfl ⟨Nat.zero_le _, Nat.zero_le _⟩ (Nat.le_of_ble_eq_true rfl) dX7_fewestNights_84 rfl rfl (fun z15 => ?_)
        refine dn_putI C fp_X7_68 ha0 dX7_fewestNights_87 rfl (fun s16 => ?_)
        refine dn_aload_n C dX7_fewestNights_90 rfl 0 rfl rfl ?_
        refine dn_aload_n C dX7_fewestNights_91 rfl 1 rfl rfl ?_
        refine dn_callV_i (As := []) (st := [.ref (wd_b G + a0)]) C (ok_State_onMat (cx_g C) a1 ha1 s16 τ) mt_X8_onMat mv_X8_onMat lk_X7_70 (by decide) ha1 rfl ⟨Nat.zero_le _, Nat.zero_le _⟩ (Nat.le_of_ble_eq_true rfl) dX7_fewestNights_92 rfl rfl (fun z17 => ?_)
        refine dn_callS_i (As := [.int z17]) (st := [.ref (wd_b G + a0)]) C (ok_J6_bitCount_0f7a4 (cx_g C) z17 s16 τ) mt_J6_bitCount_0f7a4 ms_J6_bitCount_0f7a4 lk_X7_73 (by decide) rfl ⟨Nat.zero_le _, Nat.zero_le _⟩ (Nat.le_of_ble_eq_true rfl) dX7_fewestNights_95 rfl rfl (fun z18 => ?_)
        refine dn_putI C fp_X7_78 ha0 dX7_fewestNights_98 rfl (fun s19 => ?_)
        refine dn_aload_n C dX7_fewestNights_101 rfl 1 rfl rfl ?_
        refine dn_callV_ih (As := []) (st := []) C (ok_State_passNight (cx_g C) a1 ha1 s19 τ) mt_X8_passNight mv_X8_passNight lk_X7_81 (by decide) ha1 rfl ⟨Nat.zero_le _, Nat.zero_le _⟩ (Nat.le_of_ble_eq_true rfl) dX7_fewestNights_102 rfl rfl (fun z20 s21 => ?_)
        refine dn_pop C dX7_fewestNights_105 rfl rfl ?_
        refine dn_aload_n C dX7_fewestNights_106 rfl 0 rfl rfl ?_
        refine dn_aload_n C dX7_fewestNights_107 rfl 1 rfl rfl ?_
        refine dn_callV_h (As := [.ref (wd_b G + a1)]) (st := []) C (ok_Slip_growAll (cx_g C) a0 ha0 a1 ha1 s21 τ) mt_X7_growAll mv_X7_growAll lk_X7_84 (by decide) ha0 rfl ⟨Nat.zero_le _, Nat.zero_le _⟩ (Nat.le_of_ble_eq_true rfl) dX7_fewestNights_108 rfl rfl (fun s23 => ?_)
        refine dn_aload_n C dX7_fewestNights_111 rfl 0 rfl rfl ?_
        refine dn_iload_n C dX7_fewestNights_112 rfl 2 rfl rfl ?_
        refine dn_callV_i (As := [.int a3]) (st := []) C (ok_Slip_hasAny (cx_g C) a0 ha0 a3 s23 τ) mt_X7_hasAny mv_X7_hasAny lk_X7_87 (by decide) ha0 rfl ⟨Nat.zero_le _, Nat.zero_le _⟩ (Nat.le_of_ble_eq_true rfl) dX7_fewestNights_113 rfl rfl (fun z24 => ?_)
        refine dn_if_eq (t := 122) C dX7_fewestNights_116 (by decide) rfl ?_ ?_
        · refine dn_iinc (lv0 := [(0, .ref (wd_b G + a0)), (1, .ref (wd_b G + a1)), (3, .int a3)]) (v := x5 + 1) C dX7_fewestNights_122 3 rfl rfl (by decide) rfl rfl (fun v5_25 => ?_)
          refine dn_goto (t := 59) C dX7_fewestNights_125 (by decide) ?_
          refine dn_pick [1, 2, 3, 0] rfl ?_
          exact ih v5_25 s23
        · refine dn_iload C dX7_fewestNights_119 3 rfl rfl ?_
          exact dn_iret C dX7_fewestNights_121 rfl
      · refine dn_pick [] rfl ?_
        exact hk s0
    · refine dn_pick [] rfl ?_
      exact hk s0
set_option maxHeartbeats 4000000 in
set_option maxRecDepth 100000 in
theorem ok_Slip_fewestNights {G : wd_G} {l : Launch} (hN : gd_ok G)  (o : Nat) (ho : sh_kd o = 7) (p1 : Nat) (hp1 : sh_kd p1 = 8) (p2 : Int32) (p3 : Int32) (σ : hp_I) (τ : hp_L) : cl_C G l 5 yX7_fewestNights cX7_fewestNights 6 (some .int) [.ref (wd_b G + o), .ref (wd_b G + p1), .int p2, .int p3] σ τ (ci_ih τ) (fn_Slip_fewestNights o p1 p2 p3 σ) := by
  refine cl_of (lv0 := [(0, .ref (wd_b G + o)), (1, .ref (wd_b G + p1)), (2, .int p2), (3, .int p3)]) (ci_ih τ) (by decide) (Nat.le_of_ble_eq_true rfl) rfl hN (fun M hM C => ?_)
  have C : cx_C G M RX7 cX7_fewestNights 6 5 (some .int) := C
  unfold fn_Slip_fewestNights
  refine dn_aload_n C dX7_fewestNights_0 rfl 1 rfl rfl ?_
  refine dn_iload_n C dX7_fewestNights_1 rfl 2 rfl rfl ?_
  refine dn_callV_i (As := [.int p2]) (st := []) C (ok_State_lives (cx_g C) p1 hp1 p2 σ τ) mt_X8_lives mv_X8_lives lk_X7_33 (by decide) hp1 rfl ⟨Nat.zero_le _, Nat.zero_le _⟩ (Nat.le_of_ble_eq_true rfl) dX7_fewestNights_2 rfl rfl (fun z1 => ?_)
  refine dn_if_ne (t := 10) C dX7_fewestNights_5 (by decide) rfl ?_ ?_
  · refine dn_iconst C dX7_fewestNights_8 ic_i_m1 rfl ?_
    exact dn_iret C dX7_fewestNights_9 rfl
  · refine dn_aload_n C dX7_fewestNights_10 rfl 1 rfl rfl ?_
    refine dn_iload_n C dX7_fewestNights_11 rfl 2 rfl rfl ?_
    refine dn_callV_i (As := [.int p2]) (st := []) C (ok_State_roomOf (cx_g C) p1 hp1 p2 σ τ) mt_X8_roomOf mv_X8_roomOf lk_X7_39 (by decide) hp1 rfl ⟨Nat.zero_le _, Nat.zero_le _⟩ (Nat.le_of_ble_eq_true rfl) dX7_fewestNights_12 rfl rfl (fun z2 => ?_)
    refine dn_istore (lv0 := [(0, .ref (wd_b G + o)), (1, .ref (wd_b G + p1)), (2, .int p2), (3, .int p3)]) C dX7_fewestNights_15 (by decide) rfl rfl (fun v4_3 => ?_)
    refine dn_iload C dX7_fewestNights_17 0 rfl rfl ?_
    refine dn_iload_n C dX7_fewestNights_19 rfl 4 rfl rfl ?_
    refine dn_icmp_ne (t := 25) C dX7_fewestNights_20 (by decide) rfl ?_ ?_
    · refine dn_iconst C dX7_fewestNights_23 ic_i_0 rfl ?_
      exact dn_iret C dX7_fewestNights_24 rfl
    · refine dn_aload_n C dX7_fewestNights_25 rfl 1 rfl rfl ?_
      refine dn_iload_n C dX7_fewestNights_26 rfl 3 rfl rfl ?_
      refine dn_putI C fp_X7_43 ho dX7_fewestNights_27 rfl (fun s4 => ?_)
      refine dn_aload_n C dX7_fewestNights_30 rfl 1 rfl rfl ?_
      refine dn_callV_h (As := []) (st := []) C (ok_Slip_clear (cx_g C) o ho s4 τ) mt_X7_clear mv_X7_clear lk_X7_46 (by decide) ho rfl ⟨Nat.zero_le _, Nat.zero_le _⟩ (Nat.le_of_ble_eq_true rfl) dX7_fewestNights_31 rfl rfl (fun s6 => ?_)
      refine dn_aload_n C dX7_fewestNights_34 rfl 1 rfl rfl ?_
      refine dn_iload C dX7_fewestNights_35 0 rfl rfl ?_
      refine dn_aload_n C dX7_fewestNights_37 rfl 2 rfl rfl ?_
      refine dn_aload_n C dX7_fewestNights_38 rfl 1 rfl rfl ?_
      refine dn_getI C fd_X7_43 ho dX7_fewestNights_39 rfl ?_
      refine dn_callV_i (As := [.int (s6 o 4)]) (st := [.int v4_3, .ref (wd_b G + o)]) C (ok_State_size (cx_g C) p1 hp1 (s6 o 4) s6 τ) mt_X8_size mv_X8_size lk_X7_49 (by decide) hp1 rfl ⟨Nat.zero_le _, Nat.zero_le _⟩ (Nat.le_of_ble_eq_true rfl) dX7_fewestNights_42 rfl rfl (fun z7 => ?_)
      refine dn_callV_h (As := [.int v4_3, .int z7]) (st := []) C (ok_Slip_add (cx_g C) o ho v4_3 z7 s6 τ) mt_X7_add mv_X7_add lk_X7_52 (by decide) ho rfl ⟨Nat.zero_le _, Nat.zero_le _⟩ (Nat.le_of_ble_eq_true rfl) dX7_fewestNights_45 rfl rfl (fun s9 => ?_)
      refine dn_aload_n C dX7_fewestNights_48 rfl 2 rfl rfl ?_
      refine dn_aload_n C dX7_fewestNights_49 rfl 1 rfl rfl ?_
      refine dn_getI C fd_X7_43 ho dX7_fewestNights_50 rfl ?_
      refine dn_callV_h (As := [.int (s9 o 4)]) (st := []) C (ok_State_leaveOut (cx_g C) p1 hp1 (s9 o 4) s9 τ) mt_X8_leaveOut mv_X8_leaveOut lk_X7_56 (by decide) hp1 rfl ⟨Nat.zero_le _, Nat.zero_le _⟩ (Nat.le_of_ble_eq_true rfl) dX7_fewestNights_53 rfl rfl (fun s11 => ?_)
      refine dn_iconst C dX7_fewestNights_56 ic_i_1 rfl ?_
      refine dn_istore (lv0 := [(4, .int v4_3), (0, .ref (wd_b G + o)), (1, .ref (wd_b G + p1)), (2, .int p2), (3, .int p3)]) C dX7_fewestNights_57 (by decide) rfl rfl (fun v5_12 => ?_)
      refine dn_pick [2, 3, 5, 0] rfl ?_
      refine pf_Slip_fewestNights_L59  C  o ho p1 hp1 p3  τ _ (fun s_26 => ?_) FU v5_12 s11
      refine dn_iconst C dX7_fewestNights_128 ic_i_m1 rfl ?_
      exact dn_iret C dX7_fewestNights_129 rfl
def fn_Steps_isDone  (p1 : Nat) (p2 : Int32) (p3 : Int32) (p4 : Int32) (σ : hp_I) : Option (Int32 × hp_I) :=
  px_sw p2 [
    ((0 : Int32), (
      px_b2 (fn_State_hideScheme p1 p3 p4 σ) fun z4 s5 =>
      px_z z4 (z4, s5)
    )),
    ((1 : Int32), (
      px_b2 (fn_State_callCat p1 p3 p4 σ) fun z6 s7 =>
      px_z z6 (z6, s7)
    )),
    ((2 : Int32), (
      px_b2 (fn_State_feedScheme p1 p3 p4 σ) fun z8 s9 =>
      px_z z8 (z8, s9)
    )),
    ((3 : Int32), (
      px_b2 (fn_State_joinSchemes p1 p3 p4 σ) fun z10 s11 =>
      px_z z10 (z10, s11)
    )),
    ((4 : Int32), (
      px_b2 (fn_State_turnWay p1 p3 σ) fun z12 s13 =>
      px_z z12 (z12, s13)
    ))
  ] (
    Option.bind (fn_State_night p1 σ) fun z1 =>
    if (900 : Int32) ≤ z1 then (
      px_z (0 : Int32) ((0 : Int32), σ)
    ) else (
      px_b2 (fn_State_passNight p1 σ) fun z2 s3 =>
      px_z (1 : Int32) ((1 : Int32), s3)
    )
  )
set_option maxHeartbeats 4000000 in
set_option maxRecDepth 100000 in
theorem ok_Steps_isDone {G : wd_G} {l : Launch} (hN : gd_ok G)  (p1 : Nat) (hp1 : sh_kd p1 = 8) (p2 : Int32) (p3 : Int32) (p4 : Int32) (σ : hp_I) (τ : hp_L) : cl_C G l 5 yX9_isDone cX9_isDone 4 (some .boolean) [.ref (wd_b G + p1), .int p2, .int p3, .int p4] σ τ (ci_ih τ) (fn_Steps_isDone p1 p2 p3 p4 σ) := by
  refine cl_of (lv0 := [(0, .ref (wd_b G + p1)), (1, .int p2), (2, .int p3), (3, .int p4)]) (ci_ih τ) (by decide) (Nat.le_of_ble_eq_true rfl) rfl hN (fun M hM C => ?_)
  have C : cx_C G M RX9 cX9_isDone 4 5 (some .boolean) := C
  unfold fn_Steps_isDone
  refine dn_iload_n C dX9_isDone_0 rfl 1 rfl rfl ?_
  refine dn_table (t0 := 70) _ C dX9_isDone_1 (by decide) rfl ?_ ⟨⟨35, 36, by decide, rfl, by decide, ?_⟩, ⟨42, 43, by decide, rfl, by decide, ?_⟩, ⟨49, 50, by decide, rfl, by decide, ?_⟩, ⟨56, 57, by decide, rfl, by decide, ?_⟩, ⟨63, 64, by decide, rfl, by decide, ?_⟩, trivial⟩
  · refine dn_aload_n C dX9_isDone_70 rfl 0 rfl rfl ?_
    refine dn_callV_i (As := []) (st := []) C (ok_State_night (cx_g C) p1 hp1 σ τ) mt_X8_night mv_X8_night lk_X9_137 (by decide) hp1 rfl ⟨Nat.zero_le _, Nat.zero_le _⟩ (Nat.le_of_ble_eq_true rfl) dX9_isDone_71 rfl rfl (fun z1 => ?_)
    refine dn_sipush C dX9_isDone_74 ic_s_900 rfl ?_
    refine dn_icmp_lt (t := 82) C dX9_isDone_77 (by decide) rfl ?_ ?_
    · refine dn_iconst C dX9_isDone_80 ic_i_0 rfl ?_
      exact dn_zret C dX9_isDone_81 rfl
    · refine dn_aload_n C dX9_isDone_82 rfl 0 rfl rfl ?_
      refine dn_callV_ih (As := []) (st := []) C (ok_State_passNight (cx_g C) p1 hp1 σ τ) mt_X8_passNight mv_X8_passNight lk_X9_139 (by decide) hp1 rfl ⟨Nat.zero_le _, Nat.zero_le _⟩ (Nat.le_of_ble_eq_true rfl) dX9_isDone_83 rfl rfl (fun z2 s3 => ?_)
      refine dn_pop C dX9_isDone_86 rfl rfl ?_
      refine dn_iconst C dX9_isDone_87 ic_i_1 rfl ?_
      exact dn_zret C dX9_isDone_88 rfl
  · refine dn_aload_n C dX9_isDone_36 rfl 0 rfl rfl ?_
    refine dn_iload_n C dX9_isDone_37 rfl 2 rfl rfl ?_
    refine dn_iload_n C dX9_isDone_38 rfl 3 rfl rfl ?_
    refine dn_callV_ih (As := [.int p3, .int p4]) (st := []) C (ok_State_hideScheme (cx_g C) p1 hp1 p3 p4 σ τ) mt_X8_hideScheme mv_X8_hideScheme lk_X9_118 (by decide) hp1 rfl ⟨Nat.zero_le _, Nat.zero_le _⟩ (Nat.le_of_ble_eq_true rfl) dX9_isDone_39 rfl rfl (fun z4 s5 => ?_)
    exact dn_zret C dX9_isDone_42 rfl
  · refine dn_aload_n C dX9_isDone_43 rfl 0 rfl rfl ?_
    refine dn_iload_n C dX9_isDone_44 rfl 2 rfl rfl ?_
    refine dn_iload_n C dX9_isDone_45 rfl 3 rfl rfl ?_
    refine dn_callV_ih (As := [.int p3, .int p4]) (st := []) C (ok_State_callCat (cx_g C) p1 hp1 p3 p4 σ τ) mt_X8_callCat mv_X8_callCat lk_X9_124 (by decide) hp1 rfl ⟨Nat.zero_le _, Nat.zero_le _⟩ (Nat.le_of_ble_eq_true rfl) dX9_isDone_46 rfl rfl (fun z6 s7 => ?_)
    exact dn_zret C dX9_isDone_49 rfl
  · refine dn_aload_n C dX9_isDone_50 rfl 0 rfl rfl ?_
    refine dn_iload_n C dX9_isDone_51 rfl 2 rfl rfl ?_
    refine dn_iload_n C dX9_isDone_52 rfl 3 rfl rfl ?_
    refine dn_callV_ih (As := [.int p3, .int p4]) (st := []) C (ok_State_feedScheme (cx_g C) p1 hp1 p3 p4 σ τ) mt_X8_feedScheme mv_X8_feedScheme lk_X9_127 (by decide) hp1 rfl ⟨Nat.zero_le _, Nat.zero_le _⟩ (Nat.le_of_ble_eq_true rfl) dX9_isDone_53 rfl rfl (fun z8 s9 => ?_)
    exact dn_zret C dX9_isDone_56 rfl
  · refine dn_aload_n C dX9_isDone_57 rfl 0 rfl rfl ?_
    refine dn_iload_n C dX9_isDone_58 rfl 2 rfl rfl ?_
    refine dn_iload_n C dX9_isDone_59 rfl 3 rfl rfl ?_
    refine dn_callV_ih (As := [.int p3, .int p4]) (st := []) C (ok_State_joinSchemes (cx_g C) p1 hp1 p3 p4 σ τ) mt_X8_joinSchemes mv_X8_joinSchemes lk_X9_130 (by decide) hp1 rfl ⟨Nat.zero_le _, Nat.zero_le _⟩ (Nat.le_of_ble_eq_true rfl) dX9_isDone_60 rfl rfl (fun z10 s11 => ?_)
    exact dn_zret C dX9_isDone_63 rfl
  · refine dn_aload_n C dX9_isDone_64 rfl 0 rfl rfl ?_
    refine dn_iload_n C dX9_isDone_65 rfl 2 rfl rfl ?_
    refine dn_callV_ih (As := [.int p3]) (st := []) C (ok_State_turnWay (cx_g C) p1 hp1 p3 σ τ) mt_X8_turnWay mv_X8_turnWay lk_X9_133 (by decide) hp1 rfl ⟨Nat.zero_le _, Nat.zero_le _⟩ (Nat.le_of_ble_eq_true rfl) dX9_isDone_66 rfl rfl (fun z12 s13 => ?_)
    exact dn_zret C dX9_isDone_69 rfl
def fn_House_read_L22  (a0 : Nat) (a1 : Nat) (k : hp_I → Option (hp_I)) : Nat → Int32 → hp_I → Option (hp_I)
  | 0, _, _ => none
  | fu + 1, x2, s0 =>
    if x2 ≤ (60 : Int32) then (
      Option.bind (fn_Tape_isOver a1 s0) fun z6 =>
      if z6 = 0 then (
        px_jn (fun (s7 : hp_I) =>
          Option.bind (fn_House_readClause a0 a1 s7) fun s9 =>
          px_let (x2 + 1) fun v2_10 =>
          fn_House_read_L22 a0 a1 k fu v2_10 s9
        ) fun j11 =>
          if x2 = (60 : Int32) then (
            Option.bind (fn_Tape_next a1 s0) fun z12 =>
            Option.bind (fn_Tape_fail a1 (3 : Int32) z12 s0) fun s14 =>
            j11 s14
          ) else (
            j11 s0
          )
      ) else (
        k s0
      )
    ) else (
      k s0
    )
def fn_House_read  (o : Nat) (p1 : Nat) (σ : hp_I) : Option (hp_I) :=
  px_let (hp_s σ o 0 (0 : Int32)) fun s1 =>
  px_let (hp_s s1 o 1 (0 : Int32)) fun s2 =>
  px_let (hp_s s2 o 2 (0 : Int32)) fun s3 =>
  px_let (hp_s s3 o 3 (0 : Int32)) fun s4 =>
  px_let (0 : Int32) fun v2_5 =>
  fn_House_read_L22 o p1
    (fun (s_15 : hp_I) =>
      some s_15
    )
    FU v2_5 s4
set_option maxHeartbeats 4000000 in
set_option maxRecDepth 100000 in
theorem pf_House_read_L22 {G : wd_G} {M : wd_M}  (C : cx_C G M RX3 cX3_read 3 6 none) (a0 : Nat) (ha0 : sh_kd a0 = 3) (a1 : Nat) (ha1 : sh_kd a1 = 10)  (τ : hp_L) (k : hp_I → Option (hp_I)) (hk : ∀ (s : hp_I), dn_D G M 3 0 0 (cl_M G M (ci_h τ)) 61 [] [] s τ (k s)) : ∀ (fu : Nat) (x2 : Int32) (s0 : hp_I), dn_D G M 3 0 0 (cl_M G M (ci_h τ)) 22 [(0, .ref (wd_b G + a0)), (1, .ref (wd_b G + a1)), (2, .int x2)] [] s0 τ (fn_House_read_L22 a0 a1 k fu x2 s0) := by
  intro fu
  induction fu with
  | zero => exact fun x2 s0 => dn_none
  | succ fu ih =>
    intro x2 s0
    unfold fn_House_read_L22
    refine dn_iload_n C dX3_read_22 rfl 2 rfl rfl ?_
    refine dn_bipush C dX3_read_23 ic_b_60 rfl ?_
    refine dn_icmp_gt (t := 61) C dX3_read_25 (by decide) rfl ?_ ?_
    · refine dn_aload_n C dX3_read_28 rfl 1 rfl rfl ?_
      refine dn_callV_i (As := []) (st := []) C (ok_Tape_isOver (cx_g C) a1 ha1 s0 τ) mt_X10_isOver mv_X10_isOver lk_X3_55 (by decide) ha1 rfl ⟨Nat.zero_le _, Nat.zero_le _⟩ (Nat.le_of_ble_eq_true rfl) dX3_read_29 rfl rfl (fun z6 => ?_)
      refine dn_if_ne (t := 61) C dX3_read_32 (by decide) rfl ?_ ?_
      · refine dn_iload_n C dX3_read_35 rfl 2 rfl rfl ?_
        refine dn_bipush C dX3_read_36 ic_b_60 rfl ?_
        refine dn_jn (fun z => ∀ (s7 : hp_I), dn_D G M 3 0 0 (cl_M G M (ci_h τ)) 50 [(0, .ref (wd_b G + a0)), (1, .ref (wd_b G + a1)), (2, .int x2)] [] s7 τ (z s7)) (fun s7 => ?_) (fun j11 hj11 => ?_)
        · refine dn_aload_n C dX3_read_50 rfl 0 rfl rfl ?_
          refine dn_aload_n C dX3_read_51 rfl 1 rfl rfl ?_
          refine dn_callV_h (As := [.ref (wd_b G + a1)]) (st := []) C (ok_House_readClause (cx_g C) a0 ha0 a1 ha1 s7 τ) mt_X3_readClause mv_X3_readClause lk_X3_69 (by decide) ha0 rfl ⟨Nat.zero_le _, Nat.zero_le _⟩ (Nat.le_of_ble_eq_true rfl) dX3_read_52 rfl rfl (fun s9 => ?_)
          refine dn_iinc (lv0 := [(0, .ref (wd_b G + a0)), (1, .ref (wd_b G + a1))]) (v := x2 + 1) C dX3_read_55 2 rfl rfl (by decide) rfl rfl (fun v2_10 => ?_)
          refine dn_goto (t := 22) C dX3_read_58 (by decide) ?_
          refine dn_pick [1, 2, 0] rfl ?_
          exact ih v2_10 s9
        · refine dn_icmp_ne (t := 50) C dX3_read_38 (by decide) rfl ?_ ?_
          · refine dn_aload_n C dX3_read_41 rfl 1 rfl rfl ?_
            refine dn_iconst C dX3_read_42 ic_i_3 rfl ?_
            refine dn_aload_n C dX3_read_43 rfl 1 rfl rfl ?_
            refine dn_callV_i (As := []) (st := [.int (3 : Int32), .ref (wd_b G + a1)]) C (ok_Tape_next (cx_g C) a1 ha1 s0 τ) mt_X10_next mv_X10_next lk_X3_61 (by decide) ha1 rfl ⟨Nat.zero_le _, Nat.zero_le _⟩ (Nat.le_of_ble_eq_true rfl) dX3_read_44 rfl rfl (fun z12 => ?_)
            refine dn_callV_h (As := [.int (3 : Int32), .int z12]) (st := []) C (ok_Tape_fail (cx_g C) a1 ha1 (3 : Int32) z12 s0 τ) mt_X10_fail mv_X10_fail lk_X3_65 (by decide) ha1 rfl ⟨Nat.zero_le _, Nat.zero_le _⟩ (Nat.le_of_ble_eq_true rfl) dX3_read_47 rfl rfl (fun s14 => ?_)
            exact hj11 s14
          · exact hj11 s0
      · refine dn_pick [] rfl ?_
        exact hk s0
    · refine dn_pick [] rfl ?_
      exact hk s0
set_option maxHeartbeats 4000000 in
set_option maxRecDepth 100000 in
theorem ok_House_read {G : wd_G} {l : Launch} (hN : gd_ok G)  (o : Nat) (ho : sh_kd o = 3) (p1 : Nat) (hp1 : sh_kd p1 = 10) (σ : hp_I) (τ : hp_L) : cl_C G l 6 yX3_read cX3_read 3 none [.ref (wd_b G + o), .ref (wd_b G + p1)] σ τ (ci_h τ) (fn_House_read o p1 σ) := by
  refine cl_of (lv0 := [(0, .ref (wd_b G + o)), (1, .ref (wd_b G + p1))]) (ci_h τ) (by decide) (Nat.le_of_ble_eq_true rfl) rfl hN (fun M hM C => ?_)
  have C : cx_C G M RX3 cX3_read 3 6 none := C
  unfold fn_House_read
  refine dn_aload_n C dX3_read_0 rfl 0 rfl rfl ?_
  refine dn_iconst C dX3_read_1 ic_i_0 rfl ?_
  refine dn_putI C fp_X3_36 ho dX3_read_2 rfl (fun s1 => ?_)
  refine dn_aload_n C dX3_read_5 rfl 0 rfl rfl ?_
  refine dn_iconst C dX3_read_6 ic_i_0 rfl ?_
  refine dn_putI C fp_X3_40 ho dX3_read_7 rfl (fun s2 => ?_)
  refine dn_aload_n C dX3_read_10 rfl 0 rfl rfl ?_
  refine dn_iconst C dX3_read_11 ic_i_0 rfl ?_
  refine dn_putI C fp_X3_43 ho dX3_read_12 rfl (fun s3 => ?_)
  refine dn_aload_n C dX3_read_15 rfl 0 rfl rfl ?_
  refine dn_iconst C dX3_read_16 ic_i_0 rfl ?_
  refine dn_putI C fp_X3_46 ho dX3_read_17 rfl (fun s4 => ?_)
  refine dn_iconst C dX3_read_20 ic_i_0 rfl ?_
  refine dn_istore_n (lv0 := [(0, .ref (wd_b G + o)), (1, .ref (wd_b G + p1))]) C dX3_read_21 rfl (by decide) rfl rfl (fun v2_5 => ?_)
  refine dn_pick [1, 2, 0] rfl ?_
  refine pf_House_read_L22  C  o ho p1 hp1  τ _ (fun s_15 => ?_) FU v2_5 s4
  exact dn_vret C dX3_read_61 rfl
def bd_Steps_readStep (r_Steps_readAgain : Nat → Nat → Nat → Int32 → Int32 → hp_I → Option (hp_I)) (o : Nat) (p1 : Nat) (p2 : Nat) (p3 : Int32) (σ : hp_I) : Option (hp_I) :=
  Option.bind (fn_Tape_next p1 σ) fun z1 =>
  px_let z1 fun v4_2 =>
  px_b2 (fn_Tape_takesWord p1 ww_hide σ) fun z4 s5 =>
  px_jn (fun (s6 : hp_I) =>
    Option.bind (fn_Tape_expect p1 (59 : Int32) s6) fun s8 =>
    some s8
  ) fun j9 =>
    if z4 = 0 then (
      px_b2 (fn_Tape_takesWord p1 ww_call s5) fun z17 s18 =>
      if z17 = 0 then (
        px_b2 (fn_Tape_takesWord p1 ww_feed s18) fun z26 s27 =>
        if z26 = 0 then (
          px_b2 (fn_Tape_takesWord p1 ww_join s27) fun z35 s36 =>
          if z35 = 0 then (
            px_b2 (fn_Tape_takesWord p1 ww_shut s36) fun z44 s45 =>
            if z44 = 0 then (
              px_b2 (fn_Tape_takesWord p1 ww_night s45) fun z51 s52 =>
              if z51 = 0 then (
                px_b2 (fn_Tape_takesWord p1 ww_again s52) fun z56 s57 =>
                if z56 = 0 then (
                  Option.bind (fn_Tape_fail p1 (1 : Int32) v4_2 s57) fun s61 =>
                  j9 s61
                ) else (
                  Option.bind (r_Steps_readAgain o p1 p2 v4_2 p3 s57) fun s59 =>
                  j9 s59
                )
              ) else (
                Option.bind (fn_Steps_put o (5 : Int32) (0 : Int32) (0 : Int32) s52) fun s54 =>
                j9 s54
              )
            ) else (
              px_b2 (fn_Tape_number p1 (0 : Int32) ((s45 p2 1) - (1 : Int32)) s45) fun z46 s47 =>
              Option.bind (fn_Steps_put o (4 : Int32) z46 (0 : Int32) s47) fun s49 =>
              j9 s49
            )
          ) else (
            px_b2 (fn_Tape_number p1 (0 : Int32) ((s36 p2 2) - (1 : Int32)) s36) fun z37 s38 =>
            px_b2 (fn_Tape_number p1 (0 : Int32) ((s38 p2 2) - (1 : Int32)) s38) fun z39 s40 =>
            Option.bind (fn_Steps_put o (3 : Int32) z37 z39 s40) fun s42 =>
            j9 s42
          )
        ) else (
          px_b2 (fn_Tape_number p1 (0 : Int32) ((s27 p2 2) - (1 : Int32)) s27) fun z28 s29 =>
          px_b2 (fn_Tape_number p1 (1 : Int32) (60 : Int32) s29) fun z30 s31 =>
          Option.bind (fn_Steps_put o (2 : Int32) z28 z30 s31) fun s33 =>
          j9 s33
        )
      ) else (
        px_b2 (fn_Tape_number p1 (0 : Int32) ((s18 p2 3) - (1 : Int32)) s18) fun z19 s20 =>
        px_b2 (fn_Tape_number p1 (0 : Int32) ((s20 p2 0) - (1 : Int32)) s20) fun z21 s22 =>
        Option.bind (fn_Steps_put o (1 : Int32) z19 z21 s22) fun s24 =>
        j9 s24
      )
    ) else (
      px_b2 (fn_Tape_number p1 (0 : Int32) ((s5 p2 2) - (1 : Int32)) s5) fun z10 s11 =>
      px_b2 (fn_Tape_number p1 (0 : Int32) ((s11 p2 0) - (1 : Int32)) s11) fun z12 s13 =>
      Option.bind (fn_Steps_put o (0 : Int32) z10 z12 s13) fun s15 =>
      j9 s15
    )
set_option maxHeartbeats 4000000 in
set_option maxRecDepth 100000 in
theorem ob_Steps_readStep {G : wd_G} {l : Launch} (hN : gd_ok G) (n0 : Nat) (hn0 : 5 ≤ n0) (r_Steps_readAgain : Nat → Nat → Nat → Int32 → Int32 → hp_I → Option (hp_I)) (hr_Steps_readAgain : ∀ (l : Launch) (o : Nat) (ho : sh_kd o = 9) (p1 : Nat) (hp1 : sh_kd p1 = 10) (p2 : Nat) (hp2 : sh_kd p2 = 3) (p3 : Int32) (p4 : Int32) (σ : hp_I) (τ : hp_L), cl_C G l n0 yX9_readAgain cX9_readAgain 7 none [.ref (wd_b G + o), .ref (wd_b G + p1), .ref (wd_b G + p2), .int p3, .int p4] σ τ (ci_h τ) (r_Steps_readAgain o p1 p2 p3 p4 σ)) (o : Nat) (ho : sh_kd o = 9) (p1 : Nat) (hp1 : sh_kd p1 = 10) (p2 : Nat) (hp2 : sh_kd p2 = 3) (p3 : Int32) (σ : hp_I) (τ : hp_L) : cl_C G l (n0 + 1) yX9_readStep cX9_readStep 5 none [.ref (wd_b G + o), .ref (wd_b G + p1), .ref (wd_b G + p2), .int p3] σ τ (ci_h τ) (bd_Steps_readStep r_Steps_readAgain o p1 p2 p3 σ) := by
  refine cl_of (lv0 := [(0, .ref (wd_b G + o)), (1, .ref (wd_b G + p1)), (2, .ref (wd_b G + p2)), (3, .int p3)]) (ci_h τ) (by decide) (Nat.le_of_ble_eq_true rfl) rfl hN (fun M hM C => ?_)
  have C : cx_C G M RX9 cX9_readStep 5 (n0 + 1) none := C
  unfold bd_Steps_readStep
  refine dn_aload_n C dX9_readStep_0 rfl 1 rfl rfl ?_
  refine dn_callV_i (As := []) (st := []) C (ok_Tape_next (cx_g C) p1 hp1 σ τ) mt_X10_next mv_X10_next lk_X9_38 (by omega) hp1 rfl ⟨Nat.zero_le _, Nat.zero_le _⟩ (Nat.le_of_ble_eq_true rfl) dX9_readStep_1 rfl rfl (fun z1 => ?_)
  refine dn_istore (lv0 := [(0, .ref (wd_b G + o)), (1, .ref (wd_b G + p1)), (2, .ref (wd_b G + p2)), (3, .int p3)]) C dX9_readStep_4 (by decide) rfl rfl (fun v4_2 => ?_)
  refine dn_aload_n C dX9_readStep_6 rfl 2 rfl rfl ?_
  obtain ⟨a3, hka3, hwa3⟩ := sc_X9_42 (cx_g C)
  refine dn_ldcS C hka3 dX9_readStep_7 rfl ?_
  refine dn_callV_ih (As := [.ref a3]) (st := []) C (ok_Tape_takesWord (cx_g C) p1 hp1 a3 ww_hide hwa3 σ τ) mt_X10_takesWord mv_X10_takesWord lk_X9_44 (by omega) hp1 rfl ⟨Nat.zero_le _, Nat.zero_le _⟩ (Nat.le_of_ble_eq_true rfl) dX9_readStep_9 rfl rfl (fun z4 s5 => ?_)
  refine dn_jn (fun z => ∀ (s6 : hp_I), dn_D G M 5 0 0 (cl_M G M (ci_h τ)) 234 [(1, .ref (wd_b G + p1))] [] s6 τ (z s6)) (fun s6 => ?_) (fun j9 hj9 => ?_)
  · refine dn_aload_n C dX9_readStep_234 rfl 0 rfl rfl ?_
    refine dn_bipush C dX9_readStep_235 ic_b_59 rfl ?_
    refine dn_callV_h (As := [.int (59 : Int32)]) (st := []) C (ok_Tape_expect (cx_g C) p1 hp1 (59 : Int32) s6 τ) mt_X10_expect mv_X10_expect lk_X9_90 (by omega) hp1 rfl ⟨Nat.zero_le _, Nat.zero_le _⟩ (Nat.le_of_ble_eq_true rfl) dX9_readStep_237 rfl rfl (fun s8 => ?_)
    exact dn_vret C dX9_readStep_240 rfl
  · refine dn_if_eq (t := 45) C dX9_readStep_12 (by decide) rfl ?_ ?_
    · refine dn_aload_n C dX9_readStep_45 rfl 2 rfl rfl ?_
      obtain ⟨a16, hka16, hwa16⟩ := sc_X9_64 (cx_g C)
      refine dn_ldcS C hka16 dX9_readStep_46 rfl ?_
      refine dn_callV_ih (As := [.ref a16]) (st := []) C (ok_Tape_takesWord (cx_g C) p1 hp1 a16 ww_call hwa16 s5 τ) mt_X10_takesWord mv_X10_takesWord lk_X9_44 (by omega) hp1 rfl ⟨Nat.zero_le _, Nat.zero_le _⟩ (Nat.le_of_ble_eq_true rfl) dX9_readStep_48 rfl rfl (fun z17 s18 => ?_)
      refine dn_if_eq (t := 84) C dX9_readStep_51 (by decide) rfl ?_ ?_
      · refine dn_aload_n C dX9_readStep_84 rfl 2 rfl rfl ?_
        obtain ⟨a25, hka25, hwa25⟩ := sc_X9_69 (cx_g C)
        refine dn_ldcS C hka25 dX9_readStep_85 rfl ?_
        refine dn_callV_ih (As := [.ref a25]) (st := []) C (ok_Tape_takesWord (cx_g C) p1 hp1 a25 ww_feed hwa25 s18 τ) mt_X10_takesWord mv_X10_takesWord lk_X9_44 (by omega) hp1 rfl ⟨Nat.zero_le _, Nat.zero_le _⟩ (Nat.le_of_ble_eq_true rfl) dX9_readStep_87 rfl rfl (fun z26 s27 => ?_)
        refine dn_if_eq (t := 119) C dX9_readStep_90 (by decide) rfl ?_ ?_
        · refine dn_aload_n C dX9_readStep_119 rfl 2 rfl rfl ?_
          obtain ⟨a34, hka34, hwa34⟩ := sc_X9_71 (cx_g C)
          refine dn_ldcS C hka34 dX9_readStep_120 rfl ?_
          refine dn_callV_ih (As := [.ref a34]) (st := []) C (ok_Tape_takesWord (cx_g C) p1 hp1 a34 ww_join hwa34 s27 τ) mt_X10_takesWord mv_X10_takesWord lk_X9_44 (by omega) hp1 rfl ⟨Nat.zero_le _, Nat.zero_le _⟩ (Nat.le_of_ble_eq_true rfl) dX9_readStep_122 rfl rfl (fun z35 s36 => ?_)
          refine dn_if_eq (t := 158) C dX9_readStep_125 (by decide) rfl ?_ ?_
          · refine dn_aload_n C dX9_readStep_158 rfl 2 rfl rfl ?_
            obtain ⟨a43, hka43, hwa43⟩ := sc_X9_73 (cx_g C)
            refine dn_ldcS C hka43 dX9_readStep_159 rfl ?_
            refine dn_callV_ih (As := [.ref a43]) (st := []) C (ok_Tape_takesWord (cx_g C) p1 hp1 a43 ww_shut hwa43 s36 τ) mt_X10_takesWord mv_X10_takesWord lk_X9_44 (by omega) hp1 rfl ⟨Nat.zero_le _, Nat.zero_le _⟩ (Nat.le_of_ble_eq_true rfl) dX9_readStep_161 rfl rfl (fun z44 s45 => ?_)
            refine dn_if_eq (t := 187) C dX9_readStep_164 (by decide) rfl ?_ ?_
            · refine dn_aload_n C dX9_readStep_187 rfl 2 rfl rfl ?_
              obtain ⟨a50, hka50, hwa50⟩ := sc_X9_78 (cx_g C)
              refine dn_ldcS C hka50 dX9_readStep_188 rfl ?_
              refine dn_callV_ih (As := [.ref a50]) (st := []) C (ok_Tape_takesWord (cx_g C) p1 hp1 a50 ww_night hwa50 s45 τ) mt_X10_takesWord mv_X10_takesWord lk_X9_44 (by omega) hp1 rfl ⟨Nat.zero_le _, Nat.zero_le _⟩ (Nat.le_of_ble_eq_true rfl) dX9_readStep_190 rfl rfl (fun z51 s52 => ?_)
              refine dn_if_eq (t := 206) C dX9_readStep_193 (by decide) rfl ?_ ?_
              · refine dn_aload_n C dX9_readStep_206 rfl 2 rfl rfl ?_
                obtain ⟨a55, hka55, hwa55⟩ := sc_X9_80 (cx_g C)
                refine dn_ldcS C hka55 dX9_readStep_207 rfl ?_
                refine dn_callV_ih (As := [.ref a55]) (st := []) C (ok_Tape_takesWord (cx_g C) p1 hp1 a55 ww_again hwa55 s52 τ) mt_X10_takesWord mv_X10_takesWord lk_X9_44 (by omega) hp1 rfl ⟨Nat.zero_le _, Nat.zero_le _⟩ (Nat.le_of_ble_eq_true rfl) dX9_readStep_209 rfl rfl (fun z56 s57 => ?_)
                refine dn_if_eq (t := 227) C dX9_readStep_212 (by decide) rfl ?_ ?_
                · refine dn_aload_n C dX9_readStep_227 rfl 2 rfl rfl ?_
                  refine dn_iconst C dX9_readStep_228 ic_i_1 rfl ?_
                  refine dn_iload C dX9_readStep_229 0 rfl rfl ?_
                  refine dn_callV_h (As := [.int (1 : Int32), .int v4_2]) (st := []) C (ok_Tape_fail (cx_g C) p1 hp1 (1 : Int32) v4_2 s57 τ) mt_X10_fail mv_X10_fail lk_X9_86 (by omega) hp1 rfl ⟨Nat.zero_le _, Nat.zero_le _⟩ (Nat.le_of_ble_eq_true rfl) dX9_readStep_231 rfl rfl (fun s61 => ?_)
                  refine dn_pick [2] rfl ?_
                  exact hj9 s61
                · refine dn_aload_n C dX9_readStep_215 rfl 1 rfl rfl ?_
                  refine dn_aload_n C dX9_readStep_216 rfl 2 rfl rfl ?_
                  refine dn_aload_n C dX9_readStep_217 rfl 3 rfl rfl ?_
                  refine dn_iload C dX9_readStep_218 0 rfl rfl ?_
                  refine dn_iload_n C dX9_readStep_220 rfl 4 rfl rfl ?_
                  refine dn_callV_h (As := [.ref (wd_b G + p1), .ref (wd_b G + p2), .int v4_2, .int p3]) (st := []) C (hr_Steps_readAgain (mx_L M) o ho p1 hp1 p2 hp2 v4_2 p3 s57 τ) mt_X9_readAgain mv_X9_readAgain lk_X9_82 (by omega) ho rfl ⟨Nat.zero_le _, Nat.zero_le _⟩ (Nat.le_of_ble_eq_true rfl) dX9_readStep_221 rfl rfl (fun s59 => ?_)
                  refine dn_goto (t := 234) C dX9_readStep_224 (by decide) ?_
                  refine dn_pick [2] rfl ?_
                  exact hj9 s59
              · refine dn_aload_n C dX9_readStep_196 rfl 1 rfl rfl ?_
                refine dn_iconst C dX9_readStep_197 ic_i_5 rfl ?_
                refine dn_iconst C dX9_readStep_198 ic_i_0 rfl ?_
                refine dn_iconst C dX9_readStep_199 ic_i_0 rfl ?_
                refine dn_callV_h (As := [.int (5 : Int32), .int (0 : Int32), .int (0 : Int32)]) (st := []) C (ok_Steps_put (cx_g C) o ho (5 : Int32) (0 : Int32) (0 : Int32) s52 τ) mt_X9_put mv_X9_put lk_X9_60 (by omega) ho rfl ⟨Nat.zero_le _, Nat.zero_le _⟩ (Nat.le_of_ble_eq_true rfl) dX9_readStep_200 rfl rfl (fun s54 => ?_)
                refine dn_goto (t := 234) C dX9_readStep_203 (by decide) ?_
                refine dn_pick [2] rfl ?_
                exact hj9 s54
            · refine dn_aload_n C dX9_readStep_167 rfl 1 rfl rfl ?_
              refine dn_iconst C dX9_readStep_168 ic_i_4 rfl ?_
              refine dn_aload_n C dX9_readStep_169 rfl 2 rfl rfl ?_
              refine dn_iconst C dX9_readStep_170 ic_i_0 rfl ?_
              refine dn_aload_n C dX9_readStep_171 rfl 3 rfl rfl ?_
              refine dn_getI C fd_X9_75 hp2 dX9_readStep_172 rfl ?_
              refine dn_iconst C dX9_readStep_175 ic_i_1 rfl ?_
              refine dn_isub C dX9_readStep_176 rfl ?_
              refine dn_callV_ih (As := [.int (0 : Int32), .int ((s45 p2 1) - (1 : Int32))]) (st := [.int (4 : Int32), .ref (wd_b G + o)]) C (ok_Tape_number (cx_g C) p1 hp1 (0 : Int32) ((s45 p2 1) - (1 : Int32)) s45 τ) mt_X10_number mv_X10_number lk_X9_53 (by omega) hp1 rfl ⟨Nat.zero_le _, Nat.zero_le _⟩ (Nat.le_of_ble_eq_true rfl) dX9_readStep_177 rfl rfl (fun z46 s47 => ?_)
              refine dn_iconst C dX9_readStep_180 ic_i_0 rfl ?_
              refine dn_callV_h (As := [.int (4 : Int32), .int z46, .int (0 : Int32)]) (st := []) C (ok_Steps_put (cx_g C) o ho (4 : Int32) z46 (0 : Int32) s47 τ) mt_X9_put mv_X9_put lk_X9_60 (by omega) ho rfl ⟨Nat.zero_le _, Nat.zero_le _⟩ (Nat.le_of_ble_eq_true rfl) dX9_readStep_181 rfl rfl (fun s49 => ?_)
              refine dn_goto (t := 234) C dX9_readStep_184 (by decide) ?_
              refine dn_pick [2] rfl ?_
              exact hj9 s49
          · refine dn_aload_n C dX9_readStep_128 rfl 1 rfl rfl ?_
            refine dn_iconst C dX9_readStep_129 ic_i_3 rfl ?_
            refine dn_aload_n C dX9_readStep_130 rfl 2 rfl rfl ?_
            refine dn_iconst C dX9_readStep_131 ic_i_0 rfl ?_
            refine dn_aload_n C dX9_readStep_132 rfl 3 rfl rfl ?_
            refine dn_getI C fd_X9_48 hp2 dX9_readStep_133 rfl ?_
            refine dn_iconst C dX9_readStep_136 ic_i_1 rfl ?_
            refine dn_isub C dX9_readStep_137 rfl ?_
            refine dn_callV_ih (As := [.int (0 : Int32), .int ((s36 p2 2) - (1 : Int32))]) (st := [.int (3 : Int32), .ref (wd_b G + o)]) C (ok_Tape_number (cx_g C) p1 hp1 (0 : Int32) ((s36 p2 2) - (1 : Int32)) s36 τ) mt_X10_number mv_X10_number lk_X9_53 (by omega) hp1 rfl ⟨Nat.zero_le _, Nat.zero_le _⟩ (Nat.le_of_ble_eq_true rfl) dX9_readStep_138 rfl rfl (fun z37 s38 => ?_)
            refine dn_aload_n C dX9_readStep_141 rfl 2 rfl rfl ?_
            refine dn_iconst C dX9_readStep_142 ic_i_0 rfl ?_
            refine dn_aload_n C dX9_readStep_143 rfl 3 rfl rfl ?_
            refine dn_getI C fd_X9_48 hp2 dX9_readStep_144 rfl ?_
            refine dn_iconst C dX9_readStep_147 ic_i_1 rfl ?_
            refine dn_isub C dX9_readStep_148 rfl ?_
            refine dn_callV_ih (As := [.int (0 : Int32), .int ((s38 p2 2) - (1 : Int32))]) (st := [.int z37, .int (3 : Int32), .ref (wd_b G + o)]) C (ok_Tape_number (cx_g C) p1 hp1 (0 : Int32) ((s38 p2 2) - (1 : Int32)) s38 τ) mt_X10_number mv_X10_number lk_X9_53 (by omega) hp1 rfl ⟨Nat.zero_le _, Nat.zero_le _⟩ (Nat.le_of_ble_eq_true rfl) dX9_readStep_149 rfl rfl (fun z39 s40 => ?_)
            refine dn_callV_h (As := [.int (3 : Int32), .int z37, .int z39]) (st := []) C (ok_Steps_put (cx_g C) o ho (3 : Int32) z37 z39 s40 τ) mt_X9_put mv_X9_put lk_X9_60 (by omega) ho rfl ⟨Nat.zero_le _, Nat.zero_le _⟩ (Nat.le_of_ble_eq_true rfl) dX9_readStep_152 rfl rfl (fun s42 => ?_)
            refine dn_goto (t := 234) C dX9_readStep_155 (by decide) ?_
            refine dn_pick [2] rfl ?_
            exact hj9 s42
        · refine dn_aload_n C dX9_readStep_93 rfl 1 rfl rfl ?_
          refine dn_iconst C dX9_readStep_94 ic_i_2 rfl ?_
          refine dn_aload_n C dX9_readStep_95 rfl 2 rfl rfl ?_
          refine dn_iconst C dX9_readStep_96 ic_i_0 rfl ?_
          refine dn_aload_n C dX9_readStep_97 rfl 3 rfl rfl ?_
          refine dn_getI C fd_X9_48 hp2 dX9_readStep_98 rfl ?_
          refine dn_iconst C dX9_readStep_101 ic_i_1 rfl ?_
          refine dn_isub C dX9_readStep_102 rfl ?_
          refine dn_callV_ih (As := [.int (0 : Int32), .int ((s27 p2 2) - (1 : Int32))]) (st := [.int (2 : Int32), .ref (wd_b G + o)]) C (ok_Tape_number (cx_g C) p1 hp1 (0 : Int32) ((s27 p2 2) - (1 : Int32)) s27 τ) mt_X10_number mv_X10_number lk_X9_53 (by omega) hp1 rfl ⟨Nat.zero_le _, Nat.zero_le _⟩ (Nat.le_of_ble_eq_true rfl) dX9_readStep_103 rfl rfl (fun z28 s29 => ?_)
          refine dn_aload_n C dX9_readStep_106 rfl 2 rfl rfl ?_
          refine dn_iconst C dX9_readStep_107 ic_i_1 rfl ?_
          refine dn_bipush C dX9_readStep_108 ic_b_60 rfl ?_
          refine dn_callV_ih (As := [.int (1 : Int32), .int (60 : Int32)]) (st := [.int z28, .int (2 : Int32), .ref (wd_b G + o)]) C (ok_Tape_number (cx_g C) p1 hp1 (1 : Int32) (60 : Int32) s29 τ) mt_X10_number mv_X10_number lk_X9_53 (by omega) hp1 rfl ⟨Nat.zero_le _, Nat.zero_le _⟩ (Nat.le_of_ble_eq_true rfl) dX9_readStep_110 rfl rfl (fun z30 s31 => ?_)
          refine dn_callV_h (As := [.int (2 : Int32), .int z28, .int z30]) (st := []) C (ok_Steps_put (cx_g C) o ho (2 : Int32) z28 z30 s31 τ) mt_X9_put mv_X9_put lk_X9_60 (by omega) ho rfl ⟨Nat.zero_le _, Nat.zero_le _⟩ (Nat.le_of_ble_eq_true rfl) dX9_readStep_113 rfl rfl (fun s33 => ?_)
          refine dn_goto (t := 234) C dX9_readStep_116 (by decide) ?_
          refine dn_pick [2] rfl ?_
          exact hj9 s33
      · refine dn_aload_n C dX9_readStep_54 rfl 1 rfl rfl ?_
        refine dn_iconst C dX9_readStep_55 ic_i_1 rfl ?_
        refine dn_aload_n C dX9_readStep_56 rfl 2 rfl rfl ?_
        refine dn_iconst C dX9_readStep_57 ic_i_0 rfl ?_
        refine dn_aload_n C dX9_readStep_58 rfl 3 rfl rfl ?_
        refine dn_getI C fd_X9_66 hp2 dX9_readStep_59 rfl ?_
        refine dn_iconst C dX9_readStep_62 ic_i_1 rfl ?_
        refine dn_isub C dX9_readStep_63 rfl ?_
        refine dn_callV_ih (As := [.int (0 : Int32), .int ((s18 p2 3) - (1 : Int32))]) (st := [.int (1 : Int32), .ref (wd_b G + o)]) C (ok_Tape_number (cx_g C) p1 hp1 (0 : Int32) ((s18 p2 3) - (1 : Int32)) s18 τ) mt_X10_number mv_X10_number lk_X9_53 (by omega) hp1 rfl ⟨Nat.zero_le _, Nat.zero_le _⟩ (Nat.le_of_ble_eq_true rfl) dX9_readStep_64 rfl rfl (fun z19 s20 => ?_)
        refine dn_aload_n C dX9_readStep_67 rfl 2 rfl rfl ?_
        refine dn_iconst C dX9_readStep_68 ic_i_0 rfl ?_
        refine dn_aload_n C dX9_readStep_69 rfl 3 rfl rfl ?_
        refine dn_getI C fd_X9_57 hp2 dX9_readStep_70 rfl ?_
        refine dn_iconst C dX9_readStep_73 ic_i_1 rfl ?_
        refine dn_isub C dX9_readStep_74 rfl ?_
        refine dn_callV_ih (As := [.int (0 : Int32), .int ((s20 p2 0) - (1 : Int32))]) (st := [.int z19, .int (1 : Int32), .ref (wd_b G + o)]) C (ok_Tape_number (cx_g C) p1 hp1 (0 : Int32) ((s20 p2 0) - (1 : Int32)) s20 τ) mt_X10_number mv_X10_number lk_X9_53 (by omega) hp1 rfl ⟨Nat.zero_le _, Nat.zero_le _⟩ (Nat.le_of_ble_eq_true rfl) dX9_readStep_75 rfl rfl (fun z21 s22 => ?_)
        refine dn_callV_h (As := [.int (1 : Int32), .int z19, .int z21]) (st := []) C (ok_Steps_put (cx_g C) o ho (1 : Int32) z19 z21 s22 τ) mt_X9_put mv_X9_put lk_X9_60 (by omega) ho rfl ⟨Nat.zero_le _, Nat.zero_le _⟩ (Nat.le_of_ble_eq_true rfl) dX9_readStep_78 rfl rfl (fun s24 => ?_)
        refine dn_goto (t := 234) C dX9_readStep_81 (by decide) ?_
        refine dn_pick [2] rfl ?_
        exact hj9 s24
    · refine dn_aload_n C dX9_readStep_15 rfl 1 rfl rfl ?_
      refine dn_iconst C dX9_readStep_16 ic_i_0 rfl ?_
      refine dn_aload_n C dX9_readStep_17 rfl 2 rfl rfl ?_
      refine dn_iconst C dX9_readStep_18 ic_i_0 rfl ?_
      refine dn_aload_n C dX9_readStep_19 rfl 3 rfl rfl ?_
      refine dn_getI C fd_X9_48 hp2 dX9_readStep_20 rfl ?_
      refine dn_iconst C dX9_readStep_23 ic_i_1 rfl ?_
      refine dn_isub C dX9_readStep_24 rfl ?_
      refine dn_callV_ih (As := [.int (0 : Int32), .int ((s5 p2 2) - (1 : Int32))]) (st := [.int (0 : Int32), .ref (wd_b G + o)]) C (ok_Tape_number (cx_g C) p1 hp1 (0 : Int32) ((s5 p2 2) - (1 : Int32)) s5 τ) mt_X10_number mv_X10_number lk_X9_53 (by omega) hp1 rfl ⟨Nat.zero_le _, Nat.zero_le _⟩ (Nat.le_of_ble_eq_true rfl) dX9_readStep_25 rfl rfl (fun z10 s11 => ?_)
      refine dn_aload_n C dX9_readStep_28 rfl 2 rfl rfl ?_
      refine dn_iconst C dX9_readStep_29 ic_i_0 rfl ?_
      refine dn_aload_n C dX9_readStep_30 rfl 3 rfl rfl ?_
      refine dn_getI C fd_X9_57 hp2 dX9_readStep_31 rfl ?_
      refine dn_iconst C dX9_readStep_34 ic_i_1 rfl ?_
      refine dn_isub C dX9_readStep_35 rfl ?_
      refine dn_callV_ih (As := [.int (0 : Int32), .int ((s11 p2 0) - (1 : Int32))]) (st := [.int z10, .int (0 : Int32), .ref (wd_b G + o)]) C (ok_Tape_number (cx_g C) p1 hp1 (0 : Int32) ((s11 p2 0) - (1 : Int32)) s11 τ) mt_X10_number mv_X10_number lk_X9_53 (by omega) hp1 rfl ⟨Nat.zero_le _, Nat.zero_le _⟩ (Nat.le_of_ble_eq_true rfl) dX9_readStep_36 rfl rfl (fun z12 s13 => ?_)
      refine dn_callV_h (As := [.int (0 : Int32), .int z10, .int z12]) (st := []) C (ok_Steps_put (cx_g C) o ho (0 : Int32) z10 z12 s13 τ) mt_X9_put mv_X9_put lk_X9_60 (by omega) ho rfl ⟨Nat.zero_le _, Nat.zero_le _⟩ (Nat.le_of_ble_eq_true rfl) dX9_readStep_39 rfl rfl (fun s15 => ?_)
      refine dn_goto (t := 234) C dX9_readStep_42 (by decide) ?_
      refine dn_pick [2] rfl ?_
      exact hj9 s15
def bd_Steps_readAgain_L43 (r_Steps_readStep : Nat → Nat → Nat → Int32 → hp_I → Option (hp_I)) (a0 : Nat) (a1 : Nat) (a2 : Nat) (a4 : Int32) (a5 : Int32) (k : hp_I → Option (hp_I)) : Nat → Int32 → hp_I → Option (hp_I)
  | 0, _, _ => none
  | fu + 1, x6, s0 =>
    if x6 < (150 : Int32) then (
      Option.bind (fn_Tape_isOver a1 s0) fun z11 =>
      if z11 = 0 then (
        Option.bind (fn_Tape_peek a1 s0) fun z12 =>
        if z12 = (93 : Int32) then (
          k s0
        ) else (
          Option.bind (r_Steps_readStep a0 a1 a2 (a4 + (1 : Int32)) s0) fun s14 =>
          px_let (x6 + 1) fun v6_15 =>
          bd_Steps_readAgain_L43 r_Steps_readStep a0 a1 a2 a4 a5 k fu v6_15 s14
        )
      ) else (
        k s0
      )
    ) else (
      k s0
    )
def bd_Steps_readAgain (r_Steps_readStep : Nat → Nat → Nat → Int32 → hp_I → Option (hp_I)) (o : Nat) (p1 : Nat) (p2 : Nat) (p3 : Int32) (p4 : Int32) (σ : hp_I) : Option (hp_I) :=
  if (6 : Int32) ≤ p4 then (
    Option.bind (fn_Tape_fail p1 (3 : Int32) p3 σ) fun s2 =>
    some s2
  ) else (
    px_let (σ o 4) fun v5_3 =>
    px_b2 (fn_Tape_number p1 (0 : Int32) (60 : Int32) σ) fun z4 s5 =>
    Option.bind (fn_Steps_put o (6 : Int32) z4 (0 : Int32) s5) fun s7 =>
    Option.bind (fn_Tape_expect p1 (91 : Int32) s7) fun s9 =>
    px_let (0 : Int32) fun v6_10 =>
    bd_Steps_readAgain_L43 r_Steps_readStep o p1 p2 p4 v5_3
      (fun (s_16 : hp_I) =>
        Option.bind (fn_Tape_expect p1 (93 : Int32) s_16) fun s18 =>
        px_jn (fun (s19 : hp_I) =>
          some s19
        ) fun j20 =>
          if v5_3 < (25 : Int32) then (
            Option.bind (px_ast s18 (sh_rf o 3) v5_3 (s18 o 4)) fun s21 =>
            j20 s21
          ) else (
            j20 s18
          )
      )
      FU v6_10 s9
  )
set_option maxHeartbeats 4000000 in
set_option maxRecDepth 100000 in
theorem pf_Steps_readAgain_L43 {G : wd_G} {M : wd_M} (n0 : Nat) (hn0 : 5 ≤ n0) (r_Steps_readStep : Nat → Nat → Nat → Int32 → hp_I → Option (hp_I)) (hr_Steps_readStep : ∀ (l : Launch) (o : Nat) (ho : sh_kd o = 9) (p1 : Nat) (hp1 : sh_kd p1 = 10) (p2 : Nat) (hp2 : sh_kd p2 = 3) (p3 : Int32) (σ : hp_I) (τ : hp_L), cl_C G l n0 yX9_readStep cX9_readStep 5 none [.ref (wd_b G + o), .ref (wd_b G + p1), .ref (wd_b G + p2), .int p3] σ τ (ci_h τ) (r_Steps_readStep o p1 p2 p3 σ)) (C : cx_C G M RX9 cX9_readAgain 7 (n0 + 1) none) (a0 : Nat) (ha0 : sh_kd a0 = 9) (a1 : Nat) (ha1 : sh_kd a1 = 10) (a2 : Nat) (ha2 : sh_kd a2 = 3) (a4 : Int32) (a5 : Int32)  (τ : hp_L) (k : hp_I → Option (hp_I)) (hk : ∀ (s : hp_I), dn_D G M 7 0 0 (cl_M G M (ci_h τ)) 83 [(0, .ref (wd_b G + a0)), (1, .ref (wd_b G + a1)), (5, .int a5)] [] s τ (k s)) : ∀ (fu : Nat) (x6 : Int32) (s0 : hp_I), dn_D G M 7 0 0 (cl_M G M (ci_h τ)) 43 [(0, .ref (wd_b G + a0)), (1, .ref (wd_b G + a1)), (2, .ref (wd_b G + a2)), (4, .int a4), (5, .int a5), (6, .int x6)] [] s0 τ (bd_Steps_readAgain_L43 r_Steps_readStep a0 a1 a2 a4 a5 k fu x6 s0) := by
  intro fu
  induction fu with
  | zero => exact fun x6 s0 => dn_none
  | succ fu ih =>
    intro x6 s0
    unfold bd_Steps_readAgain_L43
    refine dn_iload C dX9_readAgain_43 5 rfl rfl ?_
    refine dn_sipush C dX9_readAgain_45 ic_s_150 rfl ?_
    refine dn_icmp_ge (t := 83) C dX9_readAgain_48 (by decide) rfl ?_ ?_
    · refine dn_aload_n C dX9_readAgain_51 rfl 1 rfl rfl ?_
      refine dn_callV_i (As := []) (st := []) C (ok_Tape_isOver (cx_g C) a1 ha1 s0 τ) mt_X10_isOver mv_X10_isOver lk_X9_28 (by omega) ha1 rfl ⟨Nat.zero_le _, Nat.zero_le _⟩ (Nat.le_of_ble_eq_true rfl) dX9_readAgain_52 rfl rfl (fun z11 => ?_)
      refine dn_if_ne (t := 83) C dX9_readAgain_55 (by decide) rfl ?_ ?_
      · refine dn_aload_n C dX9_readAgain_58 rfl 1 rfl rfl ?_
        refine dn_callV_i (As := []) (st := []) C (ok_Tape_peek (cx_g C) a1 ha1 s0 τ) mt_X10_peek mv_X10_peek lk_X9_94 (by omega) ha1 rfl ⟨Nat.zero_le _, Nat.zero_le _⟩ (Nat.le_of_ble_eq_true rfl) dX9_readAgain_59 rfl rfl (fun z12 => ?_)
        refine dn_bipush C dX9_readAgain_62 ic_b_93 rfl ?_
        refine dn_icmp_eq (t := 83) C dX9_readAgain_64 (by decide) rfl ?_ ?_
        · refine dn_pick [0, 1, 4] rfl ?_
          exact hk s0
        · refine dn_aload_n C dX9_readAgain_67 rfl 0 rfl rfl ?_
          refine dn_aload_n C dX9_readAgain_68 rfl 1 rfl rfl ?_
          refine dn_aload_n C dX9_readAgain_69 rfl 2 rfl rfl ?_
          refine dn_iload C dX9_readAgain_70 3 rfl rfl ?_
          refine dn_iconst C dX9_readAgain_72 ic_i_1 rfl ?_
          refine dn_iadd C dX9_readAgain_73 rfl ?_
          refine dn_callV_h (As := [.ref (wd_b G + a1), .ref (wd_b G + a2), .int (a4 + (1 : Int32))]) (st := []) C (hr_Steps_readStep (mx_L M) a0 ha0 a1 ha1 a2 ha2 (a4 + (1 : Int32)) s0 τ) mt_X9_readStep mv_X9_readStep lk_X9_34 (by omega) ha0 rfl ⟨Nat.zero_le _, Nat.zero_le _⟩ (Nat.le_of_ble_eq_true rfl) dX9_readAgain_74 rfl rfl (fun s14 => ?_)
          refine dn_iinc (lv0 := [(0, .ref (wd_b G + a0)), (1, .ref (wd_b G + a1)), (2, .ref (wd_b G + a2)), (4, .int a4), (5, .int a5)]) (v := x6 + 1) C dX9_readAgain_77 5 rfl rfl (by decide) rfl rfl (fun v6_15 => ?_)
          refine dn_goto (t := 43) C dX9_readAgain_80 (by decide) ?_
          refine dn_pick [1, 2, 3, 4, 5, 0] rfl ?_
          exact ih v6_15 s14
      · refine dn_pick [0, 1, 4] rfl ?_
        exact hk s0
    · refine dn_pick [0, 1, 4] rfl ?_
      exact hk s0
set_option maxHeartbeats 4000000 in
set_option maxRecDepth 100000 in
theorem ob_Steps_readAgain {G : wd_G} {l : Launch} (hN : gd_ok G) (n0 : Nat) (hn0 : 5 ≤ n0) (r_Steps_readStep : Nat → Nat → Nat → Int32 → hp_I → Option (hp_I)) (hr_Steps_readStep : ∀ (l : Launch) (o : Nat) (ho : sh_kd o = 9) (p1 : Nat) (hp1 : sh_kd p1 = 10) (p2 : Nat) (hp2 : sh_kd p2 = 3) (p3 : Int32) (σ : hp_I) (τ : hp_L), cl_C G l n0 yX9_readStep cX9_readStep 5 none [.ref (wd_b G + o), .ref (wd_b G + p1), .ref (wd_b G + p2), .int p3] σ τ (ci_h τ) (r_Steps_readStep o p1 p2 p3 σ)) (o : Nat) (ho : sh_kd o = 9) (p1 : Nat) (hp1 : sh_kd p1 = 10) (p2 : Nat) (hp2 : sh_kd p2 = 3) (p3 : Int32) (p4 : Int32) (σ : hp_I) (τ : hp_L) : cl_C G l (n0 + 1) yX9_readAgain cX9_readAgain 7 none [.ref (wd_b G + o), .ref (wd_b G + p1), .ref (wd_b G + p2), .int p3, .int p4] σ τ (ci_h τ) (bd_Steps_readAgain r_Steps_readStep o p1 p2 p3 p4 σ) := by
  refine cl_of (lv0 := [(0, .ref (wd_b G + o)), (1, .ref (wd_b G + p1)), (2, .ref (wd_b G + p2)), (3, .int p3), (4, .int p4)]) (ci_h τ) (by decide) (Nat.le_of_ble_eq_true rfl) rfl hN (fun M hM C => ?_)
  have C : cx_C G M RX9 cX9_readAgain 7 (n0 + 1) none := C
  unfold bd_Steps_readAgain
  refine dn_iload C dX9_readAgain_0 4 rfl rfl ?_
  refine dn_bipush C dX9_readAgain_2 ic_b_6 rfl ?_
  refine dn_icmp_lt (t := 14) C dX9_readAgain_4 (by decide) rfl ?_ ?_
  · refine dn_aload_n C dX9_readAgain_7 rfl 1 rfl rfl ?_
    refine dn_iconst C dX9_readAgain_8 ic_i_3 rfl ?_
    refine dn_iload_n C dX9_readAgain_9 rfl 3 rfl rfl ?_
    refine dn_callV_h (As := [.int (3 : Int32), .int p3]) (st := []) C (ok_Tape_fail (cx_g C) p1 hp1 (3 : Int32) p3 σ τ) mt_X10_fail mv_X10_fail lk_X9_86 (by omega) hp1 rfl ⟨Nat.zero_le _, Nat.zero_le _⟩ (Nat.le_of_ble_eq_true rfl) dX9_readAgain_10 rfl rfl (fun s2 => ?_)
    exact dn_vret C dX9_readAgain_13 rfl
  · refine dn_aload_n C dX9_readAgain_14 rfl 0 rfl rfl ?_
    refine dn_getI C fd_X9_24 ho dX9_readAgain_15 rfl ?_
    refine dn_istore (lv0 := [(0, .ref (wd_b G + o)), (1, .ref (wd_b G + p1)), (2, .ref (wd_b G + p2)), (3, .int p3), (4, .int p4)]) C dX9_readAgain_18 (by decide) rfl rfl (fun v5_3 => ?_)
    refine dn_aload_n C dX9_readAgain_20 rfl 1 rfl rfl ?_
    refine dn_bipush C dX9_readAgain_21 ic_b_6 rfl ?_
    refine dn_aload_n C dX9_readAgain_23 rfl 2 rfl rfl ?_
    refine dn_iconst C dX9_readAgain_24 ic_i_0 rfl ?_
    refine dn_bipush C dX9_readAgain_25 ic_b_60 rfl ?_
    refine dn_callV_ih (As := [.int (0 : Int32), .int (60 : Int32)]) (st := [.int (6 : Int32), .ref (wd_b G + o)]) C (ok_Tape_number (cx_g C) p1 hp1 (0 : Int32) (60 : Int32) σ τ) mt_X10_number mv_X10_number lk_X9_53 (by omega) hp1 rfl ⟨Nat.zero_le _, Nat.zero_le _⟩ (Nat.le_of_ble_eq_true rfl) dX9_readAgain_27 rfl rfl (fun z4 s5 => ?_)
    refine dn_iconst C dX9_readAgain_30 ic_i_0 rfl ?_
    refine dn_callV_h (As := [.int (6 : Int32), .int z4, .int (0 : Int32)]) (st := []) C (ok_Steps_put (cx_g C) o ho (6 : Int32) z4 (0 : Int32) s5 τ) mt_X9_put mv_X9_put lk_X9_60 (by omega) ho rfl ⟨Nat.zero_le _, Nat.zero_le _⟩ (Nat.le_of_ble_eq_true rfl) dX9_readAgain_31 rfl rfl (fun s7 => ?_)
    refine dn_aload_n C dX9_readAgain_34 rfl 2 rfl rfl ?_
    refine dn_bipush C dX9_readAgain_35 ic_b_91 rfl ?_
    refine dn_callV_h (As := [.int (91 : Int32)]) (st := []) C (ok_Tape_expect (cx_g C) p1 hp1 (91 : Int32) s7 τ) mt_X10_expect mv_X10_expect lk_X9_90 (by omega) hp1 rfl ⟨Nat.zero_le _, Nat.zero_le _⟩ (Nat.le_of_ble_eq_true rfl) dX9_readAgain_37 rfl rfl (fun s9 => ?_)
    refine dn_iconst C dX9_readAgain_40 ic_i_0 rfl ?_
    refine dn_istore (lv0 := [(5, .int v5_3), (0, .ref (wd_b G + o)), (1, .ref (wd_b G + p1)), (2, .ref (wd_b G + p2)), (3, .int p3), (4, .int p4)]) C dX9_readAgain_41 (by decide) rfl rfl (fun v6_10 => ?_)
    refine dn_pick [2, 3, 4, 6, 1, 0] rfl ?_
    refine pf_Steps_readAgain_L43 n0 hn0 r_Steps_readStep hr_Steps_readStep C  o ho p1 hp1 p2 hp2 p4 v5_3  τ _ (fun s_16 => ?_) FU v6_10 s9
    refine dn_aload_n C dX9_readAgain_83 rfl 1 rfl rfl ?_
    refine dn_bipush C dX9_readAgain_84 ic_b_93 rfl ?_
    refine dn_callV_h (As := [.int (93 : Int32)]) (st := []) C (ok_Tape_expect (cx_g C) p1 hp1 (93 : Int32) s_16 τ) mt_X10_expect mv_X10_expect lk_X9_90 (by omega) hp1 rfl ⟨Nat.zero_le _, Nat.zero_le _⟩ (Nat.le_of_ble_eq_true rfl) dX9_readAgain_86 rfl rfl (fun s18 => ?_)
    refine dn_iload C dX9_readAgain_89 2 rfl rfl ?_
    refine dn_bipush C dX9_readAgain_91 ic_b_25 rfl ?_
    refine dn_jn (fun z => ∀ (s19 : hp_I), dn_D G M 7 0 0 (cl_M G M (ci_h τ)) 107 [] [] s19 τ (z s19)) (fun s19 => ?_) (fun j20 hj20 => ?_)
    · exact dn_vret C dX9_readAgain_107 rfl
    · refine dn_icmp_ge (t := 107) C dX9_readAgain_93 (by decide) rfl ?_ ?_
      · refine dn_aload_n C dX9_readAgain_96 rfl 0 rfl rfl ?_
        refine dn_getR C fd_X9_21 ho dX9_readAgain_97 rfl ?_
        refine dn_iload C dX9_readAgain_100 2 rfl rfl ?_
        refine dn_aload_n C dX9_readAgain_102 rfl 0 rfl rfl ?_
        refine dn_getI C fd_X9_24 ho dX9_readAgain_103 rfl ?_
        refine dn_iast C (kt_9_3 ho) dX9_readAgain_106 rfl (fun s21 => ?_)
        refine dn_pick [] rfl ?_
        exact hj20 s21
      · refine dn_pick [] rfl ?_
        exact hj20 s18
def gr_Steps_readStep : Nat → (Nat → Nat → Nat → Int32 → hp_I → Option (hp_I)) × (Nat → Nat → Nat → Int32 → Int32 → hp_I → Option (hp_I))
  | 0 => ((fun _ _ _ _ _ => none), (fun _ _ _ _ _ _ => none))
  | d + 1 => (bd_Steps_readStep (gr_Steps_readStep d).2, bd_Steps_readAgain (gr_Steps_readStep d).1)
def fn_Steps_readStep (o : Nat) (p1 : Nat) (p2 : Nat) (p3 : Int32) (σ : hp_I) : Option (hp_I) := (gr_Steps_readStep 64).1 o p1 p2 p3 σ
def fn_Steps_readAgain (o : Nat) (p1 : Nat) (p2 : Nat) (p3 : Int32) (p4 : Int32) (σ : hp_I) : Option (hp_I) := (gr_Steps_readStep 64).2 o p1 p2 p3 p4 σ
theorem og_Steps_readStep {G : wd_G} (hN : gd_ok G) : ∀ d : Nat, (∀ (l : Launch) (o : Nat) (ho : sh_kd o = 9) (p1 : Nat) (hp1 : sh_kd p1 = 10) (p2 : Nat) (hp2 : sh_kd p2 = 3) (p3 : Int32) (σ : hp_I) (τ : hp_L), cl_C G l (5 + d) yX9_readStep cX9_readStep 5 none [.ref (wd_b G + o), .ref (wd_b G + p1), .ref (wd_b G + p2), .int p3] σ τ (ci_h τ) ((gr_Steps_readStep d).1 o p1 p2 p3 σ)) ∧ (∀ (l : Launch) (o : Nat) (ho : sh_kd o = 9) (p1 : Nat) (hp1 : sh_kd p1 = 10) (p2 : Nat) (hp2 : sh_kd p2 = 3) (p3 : Int32) (p4 : Int32) (σ : hp_I) (τ : hp_L), cl_C G l (5 + d) yX9_readAgain cX9_readAgain 7 none [.ref (wd_b G + o), .ref (wd_b G + p1), .ref (wd_b G + p2), .int p3, .int p4] σ τ (ci_h τ) ((gr_Steps_readStep d).2 o p1 p2 p3 p4 σ)) := by
  intro d
  induction d with
  | zero => exact ⟨(fun l o ho p1 hp1 p2 hp2 p3 σ τ r hr => (nomatch (show none = some r from hr))), (fun l o ho p1 hp1 p2 hp2 p3 p4 σ τ r hr => (nomatch (show none = some r from hr)))⟩
  | succ d ih =>
    obtain ⟨h0, h1⟩ := ih
    exact ⟨fun l o ho p1 hp1 p2 hp2 p3 σ τ => ob_Steps_readStep hN (5 + d) (by omega) _ h1 o ho p1 hp1 p2 hp2 p3 σ τ, fun l o ho p1 hp1 p2 hp2 p3 p4 σ τ => ob_Steps_readAgain hN (5 + d) (by omega) _ h0 o ho p1 hp1 p2 hp2 p3 p4 σ τ⟩
theorem ok_Steps_readStep {G : wd_G} {l : Launch} (hN : gd_ok G) (o : Nat) (ho : sh_kd o = 9) (p1 : Nat) (hp1 : sh_kd p1 = 10) (p2 : Nat) (hp2 : sh_kd p2 = 3) (p3 : Int32) (σ : hp_I) (τ : hp_L) : cl_C G l 69 yX9_readStep cX9_readStep 5 none [.ref (wd_b G + o), .ref (wd_b G + p1), .ref (wd_b G + p2), .int p3] σ τ (ci_h τ) (fn_Steps_readStep o p1 p2 p3 σ) := (og_Steps_readStep hN 64).1 l o ho p1 hp1 p2 hp2 p3 σ τ
theorem ok_Steps_readAgain {G : wd_G} {l : Launch} (hN : gd_ok G) (o : Nat) (ho : sh_kd o = 9) (p1 : Nat) (hp1 : sh_kd p1 = 10) (p2 : Nat) (hp2 : sh_kd p2 = 3) (p3 : Int32) (p4 : Int32) (σ : hp_I) (τ : hp_L) : cl_C G l 69 yX9_readAgain cX9_readAgain 7 none [.ref (wd_b G + o), .ref (wd_b G + p1), .ref (wd_b G + p2), .int p3, .int p4] σ τ (ci_h τ) (fn_Steps_readAgain o p1 p2 p3 p4 σ) := (og_Steps_readStep hN 64).2 l o ho p1 hp1 p2 hp2 p3 p4 σ τ
def bd_Law_readSum_L8 (r_Law_readProduct : Nat → Nat → Int32 → hp_I → Option (hp_I)) (a0 : Nat) (a1 : Nat) (a2 : Int32) (k : hp_I → Option (hp_I)) : Nat → Int32 → hp_I → Option (hp_I)
  | 0, _, _ => none
  | fu + 1, x3, s0 =>
    if x3 < (150 : Int32) then (
      px_b2 (fn_Tape_takesSign a1 (43 : Int32) s0) fun z4 s5 =>
      px_jn (fun (t6 : Int32) (s7 : hp_I) =>
        px_let t6 fun v4_8 =>
        if v4_8 = (-1 : Int32) then (
          some s7
        ) else (
          Option.bind (r_Law_readProduct a0 a1 a2 s7) fun s10 =>
          Option.bind (fn_Law_put a0 v4_8 s10) fun s12 =>
          px_let (x3 + 1) fun v3_13 =>
          bd_Law_readSum_L8 r_Law_readProduct a0 a1 a2 k fu v3_13 s12
        )
      ) fun j14 =>
        if z4 = 0 then (
          px_b2 (fn_Tape_takesSign a1 (45 : Int32) s5) fun z15 s16 =>
          if z15 = 0 then (
            j14 (-1 : Int32) s16
          ) else (
            j14 (1011 : Int32) s16
          )
        ) else (
          j14 (1010 : Int32) s5
        )
    ) else (
      k s0
    )
def bd_Law_readSum (r_Law_readProduct : Nat → Nat → Int32 → hp_I → Option (hp_I)) (o : Nat) (p1 : Nat) (p2 : Int32) (σ : hp_I) : Option (hp_I) :=
  Option.bind (r_Law_readProduct o p1 p2 σ) fun s2 =>
  px_let (0 : Int32) fun v3_3 =>
  bd_Law_readSum_L8 r_Law_readProduct o p1 p2
    (fun (s_17 : hp_I) =>
      some s_17
    )
    FU v3_3 s2
set_option maxHeartbeats 4000000 in
set_option maxRecDepth 100000 in
theorem pf_Law_readSum_L8 {G : wd_G} {M : wd_M} (n0 : Nat) (hn0 : 6 ≤ n0) (r_Law_readProduct : Nat → Nat → Int32 → hp_I → Option (hp_I)) (hr_Law_readProduct : ∀ (l : Launch) (o : Nat) (ho : sh_kd o = 4) (p1 : Nat) (hp1 : sh_kd p1 = 10) (p2 : Int32) (σ : hp_I) (τ : hp_L), cl_C G l n0 yX4_readProduct cX4_readProduct 5 none [.ref (wd_b G + o), .ref (wd_b G + p1), .int p2] σ τ (ci_h τ) (r_Law_readProduct o p1 p2 σ)) (C : cx_C G M RX4 cX4_readSum 5 (n0 + 1) none) (a0 : Nat) (ha0 : sh_kd a0 = 4) (a1 : Nat) (ha1 : sh_kd a1 = 10) (a2 : Int32)  (τ : hp_L) (k : hp_I → Option (hp_I)) (hk : ∀ (s : hp_I), dn_D G M 5 0 0 (cl_M G M (ci_h τ)) 73 [] [] s τ (k s)) : ∀ (fu : Nat) (x3 : Int32) (s0 : hp_I), dn_D G M 5 0 0 (cl_M G M (ci_h τ)) 8 [(0, .ref (wd_b G + a0)), (1, .ref (wd_b G + a1)), (2, .int a2), (3, .int x3)] [] s0 τ (bd_Law_readSum_L8 r_Law_readProduct a0 a1 a2 k fu x3 s0) := by
  intro fu
  induction fu with
  | zero => exact fun x3 s0 => dn_none
  | succ fu ih =>
    intro x3 s0
    unfold bd_Law_readSum_L8
    refine dn_iload_n C dX4_readSum_8 rfl 3 rfl rfl ?_
    refine dn_sipush C dX4_readSum_9 ic_s_150 rfl ?_
    refine dn_icmp_ge (t := 73) C dX4_readSum_12 (by decide) rfl ?_ ?_
    · refine dn_aload_n C dX4_readSum_15 rfl 1 rfl rfl ?_
      refine dn_bipush C dX4_readSum_16 ic_b_43 rfl ?_
      refine dn_callV_ih (As := [.int (43 : Int32)]) (st := []) C (ok_Tape_takesSign (cx_g C) a1 ha1 (43 : Int32) s0 τ) mt_X10_takesSign mv_X10_takesSign lk_X4_61 (by omega) ha1 rfl ⟨Nat.zero_le _, Nat.zero_le _⟩ (Nat.le_of_ble_eq_true rfl) dX4_readSum_18 rfl rfl (fun z4 s5 => ?_)
      refine dn_jn (fun z => ∀ (t6 : Int32) (s7 : hp_I), dn_D G M 5 0 0 (cl_M G M (ci_h τ)) 46 [(0, .ref (wd_b G + a0)), (1, .ref (wd_b G + a1)), (2, .int a2), (3, .int x3)] [.int t6] s7 τ (z t6 s7)) (fun t6 s7 => ?_) (fun j14 hj14 => ?_)
      · refine dn_istore (lv0 := [(0, .ref (wd_b G + a0)), (1, .ref (wd_b G + a1)), (2, .int a2), (3, .int x3)]) C dX4_readSum_46 (by decide) rfl rfl (fun v4_8 => ?_)
        refine dn_iload C dX4_readSum_48 0 rfl rfl ?_
        refine dn_iconst C dX4_readSum_50 ic_i_m1 rfl ?_
        refine dn_icmp_ne (t := 55) C dX4_readSum_51 (by decide) rfl ?_ ?_
        · exact dn_vret C dX4_readSum_54 rfl
        · refine dn_aload_n C dX4_readSum_55 rfl 1 rfl rfl ?_
          refine dn_aload_n C dX4_readSum_56 rfl 2 rfl rfl ?_
          refine dn_iload_n C dX4_readSum_57 rfl 3 rfl rfl ?_
          refine dn_callV_h (As := [.ref (wd_b G + a1), .int a2]) (st := []) C (hr_Law_readProduct (mx_L M) a0 ha0 a1 ha1 a2 s7 τ) mt_X4_readProduct mv_X4_readProduct lk_X4_58 (by omega) ha0 rfl ⟨Nat.zero_le _, Nat.zero_le _⟩ (Nat.le_of_ble_eq_true rfl) dX4_readSum_58 rfl rfl (fun s10 => ?_)
          refine dn_aload_n C dX4_readSum_61 rfl 1 rfl rfl ?_
          refine dn_iload C dX4_readSum_62 0 rfl rfl ?_
          refine dn_callV_h (As := [.int v4_8]) (st := []) C (ok_Law_put (cx_g C) a0 ha0 v4_8 s10 τ) mt_X4_put mv_X4_put lk_X4_65 (by omega) ha0 rfl ⟨Nat.zero_le _, Nat.zero_le _⟩ (Nat.le_of_ble_eq_true rfl) dX4_readSum_64 rfl rfl (fun s12 => ?_)
          refine dn_iinc (lv0 := [(4, .int v4_8), (0, .ref (wd_b G + a0)), (1, .ref (wd_b G + a1)), (2, .int a2)]) (v := x3 + 1) C dX4_readSum_67 4 rfl rfl (by decide) rfl rfl (fun v3_13 => ?_)
          refine dn_goto (t := 8) C dX4_readSum_70 (by decide) ?_
          refine dn_pick [2, 3, 4, 0] rfl ?_
          exact ih v3_13 s12
      · refine dn_if_eq (t := 30) C dX4_readSum_21 (by decide) rfl ?_ ?_
        · refine dn_aload_n C dX4_readSum_30 rfl 1 rfl rfl ?_
          refine dn_bipush C dX4_readSum_31 ic_b_45 rfl ?_
          refine dn_callV_ih (As := [.int (45 : Int32)]) (st := []) C (ok_Tape_takesSign (cx_g C) a1 ha1 (45 : Int32) s5 τ) mt_X10_takesSign mv_X10_takesSign lk_X4_61 (by omega) ha1 rfl ⟨Nat.zero_le _, Nat.zero_le _⟩ (Nat.le_of_ble_eq_true rfl) dX4_readSum_33 rfl rfl (fun z15 s16 => ?_)
          refine dn_if_eq (t := 45) C dX4_readSum_36 (by decide) rfl ?_ ?_
          · refine dn_iconst C dX4_readSum_45 ic_i_m1 rfl ?_
            exact hj14 (-1 : Int32) s16
          · refine dn_sipush C dX4_readSum_39 ic_s_1011 rfl ?_
            refine dn_goto (t := 46) C dX4_readSum_42 (by decide) ?_
            exact hj14 (1011 : Int32) s16
        · refine dn_sipush C dX4_readSum_24 ic_s_1010 rfl ?_
          refine dn_goto (t := 46) C dX4_readSum_27 (by decide) ?_
          exact hj14 (1010 : Int32) s5
    · refine dn_pick [] rfl ?_
      exact hk s0
set_option maxHeartbeats 4000000 in
set_option maxRecDepth 100000 in
theorem ob_Law_readSum {G : wd_G} {l : Launch} (hN : gd_ok G) (n0 : Nat) (hn0 : 6 ≤ n0) (r_Law_readProduct : Nat → Nat → Int32 → hp_I → Option (hp_I)) (hr_Law_readProduct : ∀ (l : Launch) (o : Nat) (ho : sh_kd o = 4) (p1 : Nat) (hp1 : sh_kd p1 = 10) (p2 : Int32) (σ : hp_I) (τ : hp_L), cl_C G l n0 yX4_readProduct cX4_readProduct 5 none [.ref (wd_b G + o), .ref (wd_b G + p1), .int p2] σ τ (ci_h τ) (r_Law_readProduct o p1 p2 σ)) (o : Nat) (ho : sh_kd o = 4) (p1 : Nat) (hp1 : sh_kd p1 = 10) (p2 : Int32) (σ : hp_I) (τ : hp_L) : cl_C G l (n0 + 1) yX4_readSum cX4_readSum 5 none [.ref (wd_b G + o), .ref (wd_b G + p1), .int p2] σ τ (ci_h τ) (bd_Law_readSum r_Law_readProduct o p1 p2 σ) := by
  refine cl_of (lv0 := [(0, .ref (wd_b G + o)), (1, .ref (wd_b G + p1)), (2, .int p2)]) (ci_h τ) (by decide) (Nat.le_of_ble_eq_true rfl) rfl hN (fun M hM C => ?_)
  have C : cx_C G M RX4 cX4_readSum 5 (n0 + 1) none := C
  unfold bd_Law_readSum
  refine dn_aload_n C dX4_readSum_0 rfl 0 rfl rfl ?_
  refine dn_aload_n C dX4_readSum_1 rfl 1 rfl rfl ?_
  refine dn_iload_n C dX4_readSum_2 rfl 2 rfl rfl ?_
  refine dn_callV_h (As := [.ref (wd_b G + p1), .int p2]) (st := []) C (hr_Law_readProduct (mx_L M) o ho p1 hp1 p2 σ τ) mt_X4_readProduct mv_X4_readProduct lk_X4_58 (by omega) ho rfl ⟨Nat.zero_le _, Nat.zero_le _⟩ (Nat.le_of_ble_eq_true rfl) dX4_readSum_3 rfl rfl (fun s2 => ?_)
  refine dn_iconst C dX4_readSum_6 ic_i_0 rfl ?_
  refine dn_istore_n (lv0 := [(0, .ref (wd_b G + o)), (1, .ref (wd_b G + p1)), (2, .int p2)]) C dX4_readSum_7 rfl (by decide) rfl rfl (fun v3_3 => ?_)
  refine dn_pick [1, 2, 3, 0] rfl ?_
  refine pf_Law_readSum_L8 n0 hn0 r_Law_readProduct hr_Law_readProduct C  o ho p1 hp1 p2  τ _ (fun s_17 => ?_) FU v3_3 s2
  exact dn_vret C dX4_readSum_73 rfl
def bd_Law_readProduct_L8 (r_Law_readUnit : Nat → Nat → Int32 → hp_I → Option (hp_I)) (a0 : Nat) (a1 : Nat) (a2 : Int32) (k : hp_I → Option (hp_I)) : Nat → Int32 → hp_I → Option (hp_I)
  | 0, _, _ => none
  | fu + 1, x3, s0 =>
    if x3 < (150 : Int32) then (
      px_b2 (fn_Tape_takesSign a1 (42 : Int32) s0) fun z4 s5 =>
      px_jn (fun (t6 : Int32) (s7 : hp_I) =>
        px_let t6 fun v4_8 =>
        if v4_8 = (-1 : Int32) then (
          some s7
        ) else (
          Option.bind (r_Law_readUnit a0 a1 a2 s7) fun s10 =>
          Option.bind (fn_Law_put a0 v4_8 s10) fun s12 =>
          px_let (x3 + 1) fun v3_13 =>
          bd_Law_readProduct_L8 r_Law_readUnit a0 a1 a2 k fu v3_13 s12
        )
      ) fun j14 =>
        if z4 = 0 then (
          px_b2 (fn_Tape_takesSign a1 (47 : Int32) s5) fun z15 s16 =>
          if z15 = 0 then (
            px_b2 (fn_Tape_takesSign a1 (37 : Int32) s16) fun z17 s18 =>
            if z17 = 0 then (
              j14 (-1 : Int32) s18
            ) else (
              j14 (1014 : Int32) s18
            )
          ) else (
            j14 (1013 : Int32) s16
          )
        ) else (
          j14 (1012 : Int32) s5
        )
    ) else (
      k s0
    )
def bd_Law_readProduct (r_Law_readUnit : Nat → Nat → Int32 → hp_I → Option (hp_I)) (o : Nat) (p1 : Nat) (p2 : Int32) (σ : hp_I) : Option (hp_I) :=
  Option.bind (r_Law_readUnit o p1 p2 σ) fun s2 =>
  px_let (0 : Int32) fun v3_3 =>
  bd_Law_readProduct_L8 r_Law_readUnit o p1 p2
    (fun (s_19 : hp_I) =>
      some s_19
    )
    FU v3_3 s2
set_option maxHeartbeats 4000000 in
set_option maxRecDepth 100000 in
theorem pf_Law_readProduct_L8 {G : wd_G} {M : wd_M} (n0 : Nat) (hn0 : 6 ≤ n0) (r_Law_readUnit : Nat → Nat → Int32 → hp_I → Option (hp_I)) (hr_Law_readUnit : ∀ (l : Launch) (o : Nat) (ho : sh_kd o = 4) (p1 : Nat) (hp1 : sh_kd p1 = 10) (p2 : Int32) (σ : hp_I) (τ : hp_L), cl_C G l n0 yX4_readUnit cX4_readUnit 5 none [.ref (wd_b G + o), .ref (wd_b G + p1), .int p2] σ τ (ci_h τ) (r_Law_readUnit o p1 p2 σ)) (C : cx_C G M RX4 cX4_readProduct 5 (n0 + 1) none) (a0 : Nat) (ha0 : sh_kd a0 = 4) (a1 : Nat) (ha1 : sh_kd a1 = 10) (a2 : Int32)  (τ : hp_L) (k : hp_I → Option (hp_I)) (hk : ∀ (s : hp_I), dn_D G M 5 0 0 (cl_M G M (ci_h τ)) 88 [] [] s τ (k s)) : ∀ (fu : Nat) (x3 : Int32) (s0 : hp_I), dn_D G M 5 0 0 (cl_M G M (ci_h τ)) 8 [(0, .ref (wd_b G + a0)), (1, .ref (wd_b G + a1)), (2, .int a2), (3, .int x3)] [] s0 τ (bd_Law_readProduct_L8 r_Law_readUnit a0 a1 a2 k fu x3 s0) := by
  intro fu
  induction fu with
  | zero => exact fun x3 s0 => dn_none
  | succ fu ih =>
    intro x3 s0
    unfold bd_Law_readProduct_L8
    refine dn_iload_n C dX4_readProduct_8 rfl 3 rfl rfl ?_
    refine dn_sipush C dX4_readProduct_9 ic_s_150 rfl ?_
    refine dn_icmp_ge (t := 88) C dX4_readProduct_12 (by decide) rfl ?_ ?_
    · refine dn_aload_n C dX4_readProduct_15 rfl 1 rfl rfl ?_
      refine dn_bipush C dX4_readProduct_16 ic_b_42 rfl ?_
      refine dn_callV_ih (As := [.int (42 : Int32)]) (st := []) C (ok_Tape_takesSign (cx_g C) a1 ha1 (42 : Int32) s0 τ) mt_X10_takesSign mv_X10_takesSign lk_X4_61 (by omega) ha1 rfl ⟨Nat.zero_le _, Nat.zero_le _⟩ (Nat.le_of_ble_eq_true rfl) dX4_readProduct_18 rfl rfl (fun z4 s5 => ?_)
      refine dn_jn (fun z => ∀ (t6 : Int32) (s7 : hp_I), dn_D G M 5 0 0 (cl_M G M (ci_h τ)) 61 [(0, .ref (wd_b G + a0)), (1, .ref (wd_b G + a1)), (2, .int a2), (3, .int x3)] [.int t6] s7 τ (z t6 s7)) (fun t6 s7 => ?_) (fun j14 hj14 => ?_)
      · refine dn_istore (lv0 := [(0, .ref (wd_b G + a0)), (1, .ref (wd_b G + a1)), (2, .int a2), (3, .int x3)]) C dX4_readProduct_61 (by decide) rfl rfl (fun v4_8 => ?_)
        refine dn_iload C dX4_readProduct_63 0 rfl rfl ?_
        refine dn_iconst C dX4_readProduct_65 ic_i_m1 rfl ?_
        refine dn_icmp_ne (t := 70) C dX4_readProduct_66 (by decide) rfl ?_ ?_
        · exact dn_vret C dX4_readProduct_69 rfl
        · refine dn_aload_n C dX4_readProduct_70 rfl 1 rfl rfl ?_
          refine dn_aload_n C dX4_readProduct_71 rfl 2 rfl rfl ?_
          refine dn_iload_n C dX4_readProduct_72 rfl 3 rfl rfl ?_
          refine dn_callV_h (As := [.ref (wd_b G + a1), .int a2]) (st := []) C (hr_Law_readUnit (mx_L M) a0 ha0 a1 ha1 a2 s7 τ) mt_X4_readUnit mv_X4_readUnit lk_X4_69 (by omega) ha0 rfl ⟨Nat.zero_le _, Nat.zero_le _⟩ (Nat.le_of_ble_eq_true rfl) dX4_readProduct_73 rfl rfl (fun s10 => ?_)
          refine dn_aload_n C dX4_readProduct_76 rfl 1 rfl rfl ?_
          refine dn_iload C dX4_readProduct_77 0 rfl rfl ?_
          refine dn_callV_h (As := [.int v4_8]) (st := []) C (ok_Law_put (cx_g C) a0 ha0 v4_8 s10 τ) mt_X4_put mv_X4_put lk_X4_65 (by omega) ha0 rfl ⟨Nat.zero_le _, Nat.zero_le _⟩ (Nat.le_of_ble_eq_true rfl) dX4_readProduct_79 rfl rfl (fun s12 => ?_)
          refine dn_iinc (lv0 := [(4, .int v4_8), (0, .ref (wd_b G + a0)), (1, .ref (wd_b G + a1)), (2, .int a2)]) (v := x3 + 1) C dX4_readProduct_82 4 rfl rfl (by decide) rfl rfl (fun v3_13 => ?_)
          refine dn_goto (t := 8) C dX4_readProduct_85 (by decide) ?_
          refine dn_pick [2, 3, 4, 0] rfl ?_
          exact ih v3_13 s12
      · refine dn_if_eq (t := 30) C dX4_readProduct_21 (by decide) rfl ?_ ?_
        · refine dn_aload_n C dX4_readProduct_30 rfl 1 rfl rfl ?_
          refine dn_bipush C dX4_readProduct_31 ic_b_47 rfl ?_
          refine dn_callV_ih (As := [.int (47 : Int32)]) (st := []) C (ok_Tape_takesSign (cx_g C) a1 ha1 (47 : Int32) s5 τ) mt_X10_takesSign mv_X10_takesSign lk_X4_61 (by omega) ha1 rfl ⟨Nat.zero_le _, Nat.zero_le _⟩ (Nat.le_of_ble_eq_true rfl) dX4_readProduct_33 rfl rfl (fun z15 s16 => ?_)
          refine dn_if_eq (t := 45) C dX4_readProduct_36 (by decide) rfl ?_ ?_
          · refine dn_aload_n C dX4_readProduct_45 rfl 1 rfl rfl ?_
            refine dn_bipush C dX4_readProduct_46 ic_b_37 rfl ?_
            refine dn_callV_ih (As := [.int (37 : Int32)]) (st := []) C (ok_Tape_takesSign (cx_g C) a1 ha1 (37 : Int32) s16 τ) mt_X10_takesSign mv_X10_takesSign lk_X4_61 (by omega) ha1 rfl ⟨Nat.zero_le _, Nat.zero_le _⟩ (Nat.le_of_ble_eq_true rfl) dX4_readProduct_48 rfl rfl (fun z17 s18 => ?_)
            refine dn_if_eq (t := 60) C dX4_readProduct_51 (by decide) rfl ?_ ?_
            · refine dn_iconst C dX4_readProduct_60 ic_i_m1 rfl ?_
              exact hj14 (-1 : Int32) s18
            · refine dn_sipush C dX4_readProduct_54 ic_s_1014 rfl ?_
              refine dn_goto (t := 61) C dX4_readProduct_57 (by decide) ?_
              exact hj14 (1014 : Int32) s18
          · refine dn_sipush C dX4_readProduct_39 ic_s_1013 rfl ?_
            refine dn_goto (t := 61) C dX4_readProduct_42 (by decide) ?_
            exact hj14 (1013 : Int32) s16
        · refine dn_sipush C dX4_readProduct_24 ic_s_1012 rfl ?_
          refine dn_goto (t := 61) C dX4_readProduct_27 (by decide) ?_
          exact hj14 (1012 : Int32) s5
    · refine dn_pick [] rfl ?_
      exact hk s0
set_option maxHeartbeats 4000000 in
set_option maxRecDepth 100000 in
theorem ob_Law_readProduct {G : wd_G} {l : Launch} (hN : gd_ok G) (n0 : Nat) (hn0 : 6 ≤ n0) (r_Law_readUnit : Nat → Nat → Int32 → hp_I → Option (hp_I)) (hr_Law_readUnit : ∀ (l : Launch) (o : Nat) (ho : sh_kd o = 4) (p1 : Nat) (hp1 : sh_kd p1 = 10) (p2 : Int32) (σ : hp_I) (τ : hp_L), cl_C G l n0 yX4_readUnit cX4_readUnit 5 none [.ref (wd_b G + o), .ref (wd_b G + p1), .int p2] σ τ (ci_h τ) (r_Law_readUnit o p1 p2 σ)) (o : Nat) (ho : sh_kd o = 4) (p1 : Nat) (hp1 : sh_kd p1 = 10) (p2 : Int32) (σ : hp_I) (τ : hp_L) : cl_C G l (n0 + 1) yX4_readProduct cX4_readProduct 5 none [.ref (wd_b G + o), .ref (wd_b G + p1), .int p2] σ τ (ci_h τ) (bd_Law_readProduct r_Law_readUnit o p1 p2 σ) := by
  refine cl_of (lv0 := [(0, .ref (wd_b G + o)), (1, .ref (wd_b G + p1)), (2, .int p2)]) (ci_h τ) (by decide) (Nat.le_of_ble_eq_true rfl) rfl hN (fun M hM C => ?_)
  have C : cx_C G M RX4 cX4_readProduct 5 (n0 + 1) none := C
  unfold bd_Law_readProduct
  refine dn_aload_n C dX4_readProduct_0 rfl 0 rfl rfl ?_
  refine dn_aload_n C dX4_readProduct_1 rfl 1 rfl rfl ?_
  refine dn_iload_n C dX4_readProduct_2 rfl 2 rfl rfl ?_
  refine dn_callV_h (As := [.ref (wd_b G + p1), .int p2]) (st := []) C (hr_Law_readUnit (mx_L M) o ho p1 hp1 p2 σ τ) mt_X4_readUnit mv_X4_readUnit lk_X4_69 (by omega) ho rfl ⟨Nat.zero_le _, Nat.zero_le _⟩ (Nat.le_of_ble_eq_true rfl) dX4_readProduct_3 rfl rfl (fun s2 => ?_)
  refine dn_iconst C dX4_readProduct_6 ic_i_0 rfl ?_
  refine dn_istore_n (lv0 := [(0, .ref (wd_b G + o)), (1, .ref (wd_b G + p1)), (2, .int p2)]) C dX4_readProduct_7 rfl (by decide) rfl rfl (fun v3_3 => ?_)
  refine dn_pick [1, 2, 3, 0] rfl ?_
  refine pf_Law_readProduct_L8 n0 hn0 r_Law_readUnit hr_Law_readUnit C  o ho p1 hp1 p2  τ _ (fun s_19 => ?_) FU v3_3 s2
  exact dn_vret C dX4_readProduct_88 rfl
def bd_Law_readUnit (r_Law_readBracket : Nat → Nat → Int32 → Int32 → hp_I → Option (hp_I)) (r_Law_readPair : Nat → Nat → Int32 → Int32 → Int32 → hp_I → Option (hp_I)) (o : Nat) (p1 : Nat) (p2 : Int32) (σ : hp_I) : Option (hp_I) :=
  Option.bind (fn_Tape_next p1 σ) fun z1 =>
  px_let z1 fun v3_2 =>
  Option.bind (fn_Tape_numberIsNext p1 σ) fun z3 =>
  px_jn (fun (s4 : hp_I) =>
    some s4
  ) fun j5 =>
    if z3 = 0 then (
      px_b2 (fn_Tape_takesSign p1 (40 : Int32) σ) fun z10 s11 =>
      if z10 = 0 then (
        px_b2 (fn_Tape_takesWord p1 ww_least s11) fun z15 s16 =>
        if z15 = 0 then (
          px_b2 (fn_Tape_takesWord p1 ww_most s16) fun z20 s21 =>
          if z20 = 0 then (
            px_b2 (fn_Law_readVariable p1 s21) fun z24 s25 =>
            px_let z24 fun v4_26 =>
            if v4_26 = (-1 : Int32) then (
              Option.bind (fn_Tape_fail p1 (1 : Int32) v3_2 s25) fun s28 =>
              j5 s28
            ) else (
              Option.bind (fn_Law_put o ((1000 : Int32) + v4_26) s25) fun s30 =>
              j5 s30
            )
          ) else (
            Option.bind (r_Law_readPair o p1 v3_2 p2 (1016 : Int32) s21) fun s23 =>
            j5 s23
          )
        ) else (
          Option.bind (r_Law_readPair o p1 v3_2 p2 (1015 : Int32) s16) fun s18 =>
          j5 s18
        )
      ) else (
        Option.bind (r_Law_readBracket o p1 v3_2 p2 s11) fun s13 =>
        j5 s13
      )
    ) else (
      px_b2 (fn_Tape_number p1 (0 : Int32) (999 : Int32) σ) fun z6 s7 =>
      Option.bind (fn_Law_put o z6 s7) fun s9 =>
      j5 s9
    )
set_option maxHeartbeats 4000000 in
set_option maxRecDepth 100000 in
theorem ob_Law_readUnit {G : wd_G} {l : Launch} (hN : gd_ok G) (n0 : Nat) (hn0 : 6 ≤ n0) (r_Law_readBracket : Nat → Nat → Int32 → Int32 → hp_I → Option (hp_I)) (r_Law_readPair : Nat → Nat → Int32 → Int32 → Int32 → hp_I → Option (hp_I)) (hr_Law_readBracket : ∀ (l : Launch) (o : Nat) (ho : sh_kd o = 4) (p1 : Nat) (hp1 : sh_kd p1 = 10) (p2 : Int32) (p3 : Int32) (σ : hp_I) (τ : hp_L), cl_C G l n0 yX4_readBracket cX4_readBracket 4 none [.ref (wd_b G + o), .ref (wd_b G + p1), .int p2, .int p3] σ τ (ci_h τ) (r_Law_readBracket o p1 p2 p3 σ)) (hr_Law_readPair : ∀ (l : Launch) (o : Nat) (ho : sh_kd o = 4) (p1 : Nat) (hp1 : sh_kd p1 = 10) (p2 : Int32) (p3 : Int32) (p4 : Int32) (σ : hp_I) (τ : hp_L), cl_C G l n0 yX4_readPair cX4_readPair 5 none [.ref (wd_b G + o), .ref (wd_b G + p1), .int p2, .int p3, .int p4] σ τ (ci_h τ) (r_Law_readPair o p1 p2 p3 p4 σ)) (o : Nat) (ho : sh_kd o = 4) (p1 : Nat) (hp1 : sh_kd p1 = 10) (p2 : Int32) (σ : hp_I) (τ : hp_L) : cl_C G l (n0 + 1) yX4_readUnit cX4_readUnit 5 none [.ref (wd_b G + o), .ref (wd_b G + p1), .int p2] σ τ (ci_h τ) (bd_Law_readUnit r_Law_readBracket r_Law_readPair o p1 p2 σ) := by
  refine cl_of (lv0 := [(0, .ref (wd_b G + o)), (1, .ref (wd_b G + p1)), (2, .int p2)]) (ci_h τ) (by decide) (Nat.le_of_ble_eq_true rfl) rfl hN (fun M hM C => ?_)
  have C : cx_C G M RX4 cX4_readUnit 5 (n0 + 1) none := C
  unfold bd_Law_readUnit
  refine dn_aload_n C dX4_readUnit_0 rfl 1 rfl rfl ?_
  refine dn_callV_i (As := []) (st := []) C (ok_Tape_next (cx_g C) p1 hp1 σ τ) mt_X10_next mv_X10_next lk_X4_41 (by omega) hp1 rfl ⟨Nat.zero_le _, Nat.zero_le _⟩ (Nat.le_of_ble_eq_true rfl) dX4_readUnit_1 rfl rfl (fun z1 => ?_)
  refine dn_istore_n (lv0 := [(0, .ref (wd_b G + o)), (1, .ref (wd_b G + p1)), (2, .int p2)]) C dX4_readUnit_4 rfl (by decide) rfl rfl (fun v3_2 => ?_)
  refine dn_aload_n C dX4_readUnit_5 rfl 2 rfl rfl ?_
  refine dn_callV_i (As := []) (st := []) C (ok_Tape_numberIsNext (cx_g C) p1 hp1 σ τ) mt_X10_numberIsNext mv_X10_numberIsNext lk_X4_72 (by omega) hp1 rfl ⟨Nat.zero_le _, Nat.zero_le _⟩ (Nat.le_of_ble_eq_true rfl) dX4_readUnit_6 rfl rfl (fun z3 => ?_)
  refine dn_jn (fun z => ∀ (s4 : hp_I), dn_D G M 5 0 0 (cl_M G M (ci_h τ)) 121 [] [] s4 τ (z s4)) (fun s4 => ?_) (fun j5 hj5 => ?_)
  · exact dn_vret C dX4_readUnit_121 rfl
  · refine dn_if_eq (t := 27) C dX4_readUnit_9 (by decide) rfl ?_ ?_
    · refine dn_aload_n C dX4_readUnit_27 rfl 2 rfl rfl ?_
      refine dn_bipush C dX4_readUnit_28 ic_b_40 rfl ?_
      refine dn_callV_ih (As := [.int (40 : Int32)]) (st := []) C (ok_Tape_takesSign (cx_g C) p1 hp1 (40 : Int32) σ τ) mt_X10_takesSign mv_X10_takesSign lk_X4_61 (by omega) hp1 rfl ⟨Nat.zero_le _, Nat.zero_le _⟩ (Nat.le_of_ble_eq_true rfl) dX4_readUnit_30 rfl rfl (fun z10 s11 => ?_)
      refine dn_if_eq (t := 46) C dX4_readUnit_33 (by decide) rfl ?_ ?_
      · refine dn_aload_n C dX4_readUnit_46 rfl 2 rfl rfl ?_
        obtain ⟨a14, hka14, hwa14⟩ := sc_X4_83 (cx_g C)
        refine dn_ldcS C hka14 dX4_readUnit_47 rfl ?_
        refine dn_callV_ih (As := [.ref a14]) (st := []) C (ok_Tape_takesWord (cx_g C) p1 hp1 a14 ww_least hwa14 s11 τ) mt_X10_takesWord mv_X10_takesWord lk_X4_85 (by omega) hp1 rfl ⟨Nat.zero_le _, Nat.zero_le _⟩ (Nat.le_of_ble_eq_true rfl) dX4_readUnit_49 rfl rfl (fun z15 s16 => ?_)
        refine dn_if_eq (t := 68) C dX4_readUnit_52 (by decide) rfl ?_ ?_
        · refine dn_aload_n C dX4_readUnit_68 rfl 2 rfl rfl ?_
          obtain ⟨a19, hka19, hwa19⟩ := sc_X4_93 (cx_g C)
          refine dn_ldcS C hka19 dX4_readUnit_69 rfl ?_
          refine dn_callV_ih (As := [.ref a19]) (st := []) C (ok_Tape_takesWord (cx_g C) p1 hp1 a19 ww_most hwa19 s16 τ) mt_X10_takesWord mv_X10_takesWord lk_X4_85 (by omega) hp1 rfl ⟨Nat.zero_le _, Nat.zero_le _⟩ (Nat.le_of_ble_eq_true rfl) dX4_readUnit_71 rfl rfl (fun z20 s21 => ?_)
          refine dn_if_eq (t := 90) C dX4_readUnit_74 (by decide) rfl ?_ ?_
          · refine dn_aload_n C dX4_readUnit_90 rfl 2 rfl rfl ?_
            refine dn_callS_ih (As := [.ref (wd_b G + p1)]) (st := []) C (ok_Law_readVariable (cx_g C) p1 hp1 s21 τ) mt_X4_readVariable ms_X4_readVariable lk_X4_95 (by omega) rfl ⟨Nat.zero_le _, Nat.zero_le _⟩ (Nat.le_of_ble_eq_true rfl) dX4_readUnit_91 rfl rfl (fun z24 s25 => ?_)
            refine dn_istore (lv0 := [(3, .int v3_2), (0, .ref (wd_b G + o)), (1, .ref (wd_b G + p1)), (2, .int p2)]) C dX4_readUnit_94 (by decide) rfl rfl (fun v4_26 => ?_)
            refine dn_iload C dX4_readUnit_96 0 rfl rfl ?_
            refine dn_iconst C dX4_readUnit_98 ic_i_m1 rfl ?_
            refine dn_icmp_ne (t := 111) C dX4_readUnit_99 (by decide) rfl ?_ ?_
            · refine dn_aload_n C dX4_readUnit_102 rfl 3 rfl rfl ?_
              refine dn_iconst C dX4_readUnit_103 ic_i_1 rfl ?_
              refine dn_iload_n C dX4_readUnit_104 rfl 1 rfl rfl ?_
              refine dn_callV_h (As := [.int (1 : Int32), .int v3_2]) (st := []) C (ok_Tape_fail (cx_g C) p1 hp1 (1 : Int32) v3_2 s25 τ) mt_X10_fail mv_X10_fail lk_X4_45 (by omega) hp1 rfl ⟨Nat.zero_le _, Nat.zero_le _⟩ (Nat.le_of_ble_eq_true rfl) dX4_readUnit_105 rfl rfl (fun s28 => ?_)
              refine dn_goto (t := 121) C dX4_readUnit_108 (by decide) ?_
              refine dn_pick [] rfl ?_
              exact hj5 s28
            · refine dn_aload_n C dX4_readUnit_111 rfl 2 rfl rfl ?_
              refine dn_sipush C dX4_readUnit_112 ic_s_1000 rfl ?_
              refine dn_iload C dX4_readUnit_115 0 rfl rfl ?_
              refine dn_iadd C dX4_readUnit_117 rfl ?_
              refine dn_callV_h (As := [.int ((1000 : Int32) + v4_26)]) (st := []) C (ok_Law_put (cx_g C) o ho ((1000 : Int32) + v4_26) s25 τ) mt_X4_put mv_X4_put lk_X4_65 (by omega) ho rfl ⟨Nat.zero_le _, Nat.zero_le _⟩ (Nat.le_of_ble_eq_true rfl) dX4_readUnit_118 rfl rfl (fun s30 => ?_)
              refine dn_pick [] rfl ?_
              exact hj5 s30
          · refine dn_aload_n C dX4_readUnit_77 rfl 1 rfl rfl ?_
            refine dn_aload_n C dX4_readUnit_78 rfl 2 rfl rfl ?_
            refine dn_iload_n C dX4_readUnit_79 rfl 0 rfl rfl ?_
            refine dn_iload_n C dX4_readUnit_80 rfl 3 rfl rfl ?_
            refine dn_sipush C dX4_readUnit_81 ic_s_1016 rfl ?_
            refine dn_callV_h (As := [.ref (wd_b G + p1), .int v3_2, .int p2, .int (1016 : Int32)]) (st := []) C (hr_Law_readPair (mx_L M) o ho p1 hp1 v3_2 p2 (1016 : Int32) s21 τ) mt_X4_readPair mv_X4_readPair lk_X4_89 (by omega) ho rfl ⟨Nat.zero_le _, Nat.zero_le _⟩ (Nat.le_of_ble_eq_true rfl) dX4_readUnit_84 rfl rfl (fun s23 => ?_)
            refine dn_goto (t := 121) C dX4_readUnit_87 (by decide) ?_
            refine dn_pick [] rfl ?_
            exact hj5 s23
        · refine dn_aload_n C dX4_readUnit_55 rfl 1 rfl rfl ?_
          refine dn_aload_n C dX4_readUnit_56 rfl 2 rfl rfl ?_
          refine dn_iload_n C dX4_readUnit_57 rfl 0 rfl rfl ?_
          refine dn_iload_n C dX4_readUnit_58 rfl 3 rfl rfl ?_
          refine dn_sipush C dX4_readUnit_59 ic_s_1015 rfl ?_
          refine dn_callV_h (As := [.ref (wd_b G + p1), .int v3_2, .int p2, .int (1015 : Int32)]) (st := []) C (hr_Law_readPair (mx_L M) o ho p1 hp1 v3_2 p2 (1015 : Int32) s16 τ) mt_X4_readPair mv_X4_readPair lk_X4_89 (by omega) ho rfl ⟨Nat.zero_le _, Nat.zero_le _⟩ (Nat.le_of_ble_eq_true rfl) dX4_readUnit_62 rfl rfl (fun s18 => ?_)
          refine dn_goto (t := 121) C dX4_readUnit_65 (by decide) ?_
          refine dn_pick [] rfl ?_
          exact hj5 s18
      · refine dn_aload_n C dX4_readUnit_36 rfl 1 rfl rfl ?_
        refine dn_aload_n C dX4_readUnit_37 rfl 2 rfl rfl ?_
        refine dn_iload_n C dX4_readUnit_38 rfl 0 rfl rfl ?_
        refine dn_iload_n C dX4_readUnit_39 rfl 3 rfl rfl ?_
        refine dn_callV_h (As := [.ref (wd_b G + p1), .int v3_2, .int p2]) (st := []) C (hr_Law_readBracket (mx_L M) o ho p1 hp1 v3_2 p2 s11 τ) mt_X4_readBracket mv_X4_readBracket lk_X4_79 (by omega) ho rfl ⟨Nat.zero_le _, Nat.zero_le _⟩ (Nat.le_of_ble_eq_true rfl) dX4_readUnit_40 rfl rfl (fun s13 => ?_)
        refine dn_goto (t := 121) C dX4_readUnit_43 (by decide) ?_
        refine dn_pick [] rfl ?_
        exact hj5 s13
    · refine dn_aload_n C dX4_readUnit_12 rfl 1 rfl rfl ?_
      refine dn_aload_n C dX4_readUnit_13 rfl 2 rfl rfl ?_
      refine dn_iconst C dX4_readUnit_14 ic_i_0 rfl ?_
      refine dn_sipush C dX4_readUnit_15 ic_s_999 rfl ?_
      refine dn_callV_ih (As := [.int (0 : Int32), .int (999 : Int32)]) (st := [.ref (wd_b G + o)]) C (ok_Tape_number (cx_g C) p1 hp1 (0 : Int32) (999 : Int32) σ τ) mt_X10_number mv_X10_number lk_X4_75 (by omega) hp1 rfl ⟨Nat.zero_le _, Nat.zero_le _⟩ (Nat.le_of_ble_eq_true rfl) dX4_readUnit_18 rfl rfl (fun z6 s7 => ?_)
      refine dn_callV_h (As := [.int z6]) (st := []) C (ok_Law_put (cx_g C) o ho z6 s7 τ) mt_X4_put mv_X4_put lk_X4_65 (by omega) ho rfl ⟨Nat.zero_le _, Nat.zero_le _⟩ (Nat.le_of_ble_eq_true rfl) dX4_readUnit_21 rfl rfl (fun s9 => ?_)
      refine dn_goto (t := 121) C dX4_readUnit_24 (by decide) ?_
      refine dn_pick [] rfl ?_
      exact hj5 s9
def bd_Law_readBracket (r_Law_readSum : Nat → Nat → Int32 → hp_I → Option (hp_I)) (o : Nat) (p1 : Nat) (p2 : Int32) (p3 : Int32) (σ : hp_I) : Option (hp_I) :=
  if (6 : Int32) ≤ p3 then (
    Option.bind (fn_Tape_fail p1 (3 : Int32) p2 σ) fun s2 =>
    some s2
  ) else (
    Option.bind (r_Law_readSum o p1 (p3 + (1 : Int32)) σ) fun s4 =>
    Option.bind (fn_Tape_expect p1 (41 : Int32) s4) fun s6 =>
    some s6
  )
set_option maxHeartbeats 4000000 in
set_option maxRecDepth 100000 in
theorem ob_Law_readBracket {G : wd_G} {l : Launch} (hN : gd_ok G) (n0 : Nat) (hn0 : 6 ≤ n0) (r_Law_readSum : Nat → Nat → Int32 → hp_I → Option (hp_I)) (hr_Law_readSum : ∀ (l : Launch) (o : Nat) (ho : sh_kd o = 4) (p1 : Nat) (hp1 : sh_kd p1 = 10) (p2 : Int32) (σ : hp_I) (τ : hp_L), cl_C G l n0 yX4_readSum cX4_readSum 5 none [.ref (wd_b G + o), .ref (wd_b G + p1), .int p2] σ τ (ci_h τ) (r_Law_readSum o p1 p2 σ)) (o : Nat) (ho : sh_kd o = 4) (p1 : Nat) (hp1 : sh_kd p1 = 10) (p2 : Int32) (p3 : Int32) (σ : hp_I) (τ : hp_L) : cl_C G l (n0 + 1) yX4_readBracket cX4_readBracket 4 none [.ref (wd_b G + o), .ref (wd_b G + p1), .int p2, .int p3] σ τ (ci_h τ) (bd_Law_readBracket r_Law_readSum o p1 p2 p3 σ) := by
  refine cl_of (lv0 := [(0, .ref (wd_b G + o)), (1, .ref (wd_b G + p1)), (2, .int p2), (3, .int p3)]) (ci_h τ) (by decide) (Nat.le_of_ble_eq_true rfl) rfl hN (fun M hM C => ?_)
  have C : cx_C G M RX4 cX4_readBracket 4 (n0 + 1) none := C
  unfold bd_Law_readBracket
  refine dn_iload_n C dX4_readBracket_0 rfl 3 rfl rfl ?_
  refine dn_bipush C dX4_readBracket_1 ic_b_6 rfl ?_
  refine dn_icmp_lt (t := 13) C dX4_readBracket_3 (by decide) rfl ?_ ?_
  · refine dn_aload_n C dX4_readBracket_6 rfl 1 rfl rfl ?_
    refine dn_iconst C dX4_readBracket_7 ic_i_3 rfl ?_
    refine dn_iload_n C dX4_readBracket_8 rfl 2 rfl rfl ?_
    refine dn_callV_h (As := [.int (3 : Int32), .int p2]) (st := []) C (ok_Tape_fail (cx_g C) p1 hp1 (3 : Int32) p2 σ τ) mt_X10_fail mv_X10_fail lk_X4_45 (by omega) hp1 rfl ⟨Nat.zero_le _, Nat.zero_le _⟩ (Nat.le_of_ble_eq_true rfl) dX4_readBracket_9 rfl rfl (fun s2 => ?_)
    exact dn_vret C dX4_readBracket_12 rfl
  · refine dn_aload_n C dX4_readBracket_13 rfl 0 rfl rfl ?_
    refine dn_aload_n C dX4_readBracket_14 rfl 1 rfl rfl ?_
    refine dn_iload_n C dX4_readBracket_15 rfl 3 rfl rfl ?_
    refine dn_iconst C dX4_readBracket_16 ic_i_1 rfl ?_
    refine dn_iadd C dX4_readBracket_17 rfl ?_
    refine dn_callV_h (As := [.ref (wd_b G + p1), .int (p3 + (1 : Int32))]) (st := []) C (hr_Law_readSum (mx_L M) o ho p1 hp1 (p3 + (1 : Int32)) σ τ) mt_X4_readSum mv_X4_readSum lk_X4_31 (by omega) ho rfl ⟨Nat.zero_le _, Nat.zero_le _⟩ (Nat.le_of_ble_eq_true rfl) dX4_readBracket_18 rfl rfl (fun s4 => ?_)
    refine dn_aload_n C dX4_readBracket_21 rfl 1 rfl rfl ?_
    refine dn_bipush C dX4_readBracket_22 ic_b_41 rfl ?_
    refine dn_callV_h (As := [.int (41 : Int32)]) (st := []) C (ok_Tape_expect (cx_g C) p1 hp1 (41 : Int32) s4 τ) mt_X10_expect mv_X10_expect lk_X4_99 (by omega) hp1 rfl ⟨Nat.zero_le _, Nat.zero_le _⟩ (Nat.le_of_ble_eq_true rfl) dX4_readBracket_24 rfl rfl (fun s6 => ?_)
    exact dn_vret C dX4_readBracket_27 rfl
def bd_Law_readPair (r_Law_readSum : Nat → Nat → Int32 → hp_I → Option (hp_I)) (o : Nat) (p1 : Nat) (p2 : Int32) (p3 : Int32) (p4 : Int32) (σ : hp_I) : Option (hp_I) :=
  if (6 : Int32) ≤ p3 then (
    Option.bind (fn_Tape_fail p1 (3 : Int32) p2 σ) fun s2 =>
    some s2
  ) else (
    Option.bind (fn_Tape_expect p1 (91 : Int32) σ) fun s4 =>
    Option.bind (r_Law_readSum o p1 (p3 + (1 : Int32)) s4) fun s6 =>
    Option.bind (fn_Tape_expect p1 (44 : Int32) s6) fun s8 =>
    Option.bind (r_Law_readSum o p1 (p3 + (1 : Int32)) s8) fun s10 =>
    Option.bind (fn_Tape_expect p1 (93 : Int32) s10) fun s12 =>
    Option.bind (fn_Law_put o p4 s12) fun s14 =>
    some s14
  )
set_option maxHeartbeats 4000000 in
set_option maxRecDepth 100000 in
theorem ob_Law_readPair {G : wd_G} {l : Launch} (hN : gd_ok G) (n0 : Nat) (hn0 : 6 ≤ n0) (r_Law_readSum : Nat → Nat → Int32 → hp_I → Option (hp_I)) (hr_Law_readSum : ∀ (l : Launch) (o : Nat) (ho : sh_kd o = 4) (p1 : Nat) (hp1 : sh_kd p1 = 10) (p2 : Int32) (σ : hp_I) (τ : hp_L), cl_C G l n0 yX4_readSum cX4_readSum 5 none [.ref (wd_b G + o), .ref (wd_b G + p1), .int p2] σ τ (ci_h τ) (r_Law_readSum o p1 p2 σ)) (o : Nat) (ho : sh_kd o = 4) (p1 : Nat) (hp1 : sh_kd p1 = 10) (p2 : Int32) (p3 : Int32) (p4 : Int32) (σ : hp_I) (τ : hp_L) : cl_C G l (n0 + 1) yX4_readPair cX4_readPair 5 none [.ref (wd_b G + o), .ref (wd_b G + p1), .int p2, .int p3, .int p4] σ τ (ci_h τ) (bd_Law_readPair r_Law_readSum o p1 p2 p3 p4 σ) := by
  refine cl_of (lv0 := [(0, .ref (wd_b G + o)), (1, .ref (wd_b G + p1)), (2, .int p2), (3, .int p3), (4, .int p4)]) (ci_h τ) (by decide) (Nat.le_of_ble_eq_true rfl) rfl hN (fun M hM C => ?_)
  have C : cx_C G M RX4 cX4_readPair 5 (n0 + 1) none := C
  unfold bd_Law_readPair
  refine dn_iload_n C dX4_readPair_0 rfl 3 rfl rfl ?_
  refine dn_bipush C dX4_readPair_1 ic_b_6 rfl ?_
  refine dn_icmp_lt (t := 13) C dX4_readPair_3 (by decide) rfl ?_ ?_
  · refine dn_aload_n C dX4_readPair_6 rfl 1 rfl rfl ?_
    refine dn_iconst C dX4_readPair_7 ic_i_3 rfl ?_
    refine dn_iload_n C dX4_readPair_8 rfl 2 rfl rfl ?_
    refine dn_callV_h (As := [.int (3 : Int32), .int p2]) (st := []) C (ok_Tape_fail (cx_g C) p1 hp1 (3 : Int32) p2 σ τ) mt_X10_fail mv_X10_fail lk_X4_45 (by omega) hp1 rfl ⟨Nat.zero_le _, Nat.zero_le _⟩ (Nat.le_of_ble_eq_true rfl) dX4_readPair_9 rfl rfl (fun s2 => ?_)
    exact dn_vret C dX4_readPair_12 rfl
  · refine dn_aload_n C dX4_readPair_13 rfl 1 rfl rfl ?_
    refine dn_bipush C dX4_readPair_14 ic_b_91 rfl ?_
    refine dn_callV_h (As := [.int (91 : Int32)]) (st := []) C (ok_Tape_expect (cx_g C) p1 hp1 (91 : Int32) σ τ) mt_X10_expect mv_X10_expect lk_X4_99 (by omega) hp1 rfl ⟨Nat.zero_le _, Nat.zero_le _⟩ (Nat.le_of_ble_eq_true rfl) dX4_readPair_16 rfl rfl (fun s4 => ?_)
    refine dn_aload_n C dX4_readPair_19 rfl 0 rfl rfl ?_
    refine dn_aload_n C dX4_readPair_20 rfl 1 rfl rfl ?_
    refine dn_iload_n C dX4_readPair_21 rfl 3 rfl rfl ?_
    refine dn_iconst C dX4_readPair_22 ic_i_1 rfl ?_
    refine dn_iadd C dX4_readPair_23 rfl ?_
    refine dn_callV_h (As := [.ref (wd_b G + p1), .int (p3 + (1 : Int32))]) (st := []) C (hr_Law_readSum (mx_L M) o ho p1 hp1 (p3 + (1 : Int32)) s4 τ) mt_X4_readSum mv_X4_readSum lk_X4_31 (by omega) ho rfl ⟨Nat.zero_le _, Nat.zero_le _⟩ (Nat.le_of_ble_eq_true rfl) dX4_readPair_24 rfl rfl (fun s6 => ?_)
    refine dn_aload_n C dX4_readPair_27 rfl 1 rfl rfl ?_
    refine dn_bipush C dX4_readPair_28 ic_b_44 rfl ?_
    refine dn_callV_h (As := [.int (44 : Int32)]) (st := []) C (ok_Tape_expect (cx_g C) p1 hp1 (44 : Int32) s6 τ) mt_X10_expect mv_X10_expect lk_X4_99 (by omega) hp1 rfl ⟨Nat.zero_le _, Nat.zero_le _⟩ (Nat.le_of_ble_eq_true rfl) dX4_readPair_30 rfl rfl (fun s8 => ?_)
    refine dn_aload_n C dX4_readPair_33 rfl 0 rfl rfl ?_
    refine dn_aload_n C dX4_readPair_34 rfl 1 rfl rfl ?_
    refine dn_iload_n C dX4_readPair_35 rfl 3 rfl rfl ?_
    refine dn_iconst C dX4_readPair_36 ic_i_1 rfl ?_
    refine dn_iadd C dX4_readPair_37 rfl ?_
    refine dn_callV_h (As := [.ref (wd_b G + p1), .int (p3 + (1 : Int32))]) (st := []) C (hr_Law_readSum (mx_L M) o ho p1 hp1 (p3 + (1 : Int32)) s8 τ) mt_X4_readSum mv_X4_readSum lk_X4_31 (by omega) ho rfl ⟨Nat.zero_le _, Nat.zero_le _⟩ (Nat.le_of_ble_eq_true rfl) dX4_readPair_38 rfl rfl (fun s10 => ?_)
    refine dn_aload_n C dX4_readPair_41 rfl 1 rfl rfl ?_
    refine dn_bipush C dX4_readPair_42 ic_b_93 rfl ?_
    refine dn_callV_h (As := [.int (93 : Int32)]) (st := []) C (ok_Tape_expect (cx_g C) p1 hp1 (93 : Int32) s10 τ) mt_X10_expect mv_X10_expect lk_X4_99 (by omega) hp1 rfl ⟨Nat.zero_le _, Nat.zero_le _⟩ (Nat.le_of_ble_eq_true rfl) dX4_readPair_44 rfl rfl (fun s12 => ?_)
    refine dn_aload_n C dX4_readPair_47 rfl 0 rfl rfl ?_
    refine dn_iload C dX4_readPair_48 4 rfl rfl ?_
    refine dn_callV_h (As := [.int p4]) (st := []) C (ok_Law_put (cx_g C) o ho p4 s12 τ) mt_X4_put mv_X4_put lk_X4_65 (by omega) ho rfl ⟨Nat.zero_le _, Nat.zero_le _⟩ (Nat.le_of_ble_eq_true rfl) dX4_readPair_50 rfl rfl (fun s14 => ?_)
    exact dn_vret C dX4_readPair_53 rfl
def gr_Law_readSum : Nat → (Nat → Nat → Int32 → hp_I → Option (hp_I)) × (Nat → Nat → Int32 → hp_I → Option (hp_I)) × (Nat → Nat → Int32 → hp_I → Option (hp_I)) × (Nat → Nat → Int32 → Int32 → hp_I → Option (hp_I)) × (Nat → Nat → Int32 → Int32 → Int32 → hp_I → Option (hp_I))
  | 0 => ((fun _ _ _ _ => none), (fun _ _ _ _ => none), (fun _ _ _ _ => none), (fun _ _ _ _ _ => none), (fun _ _ _ _ _ _ => none))
  | d + 1 => (bd_Law_readSum (gr_Law_readSum d).2.1, bd_Law_readProduct (gr_Law_readSum d).2.2.1, bd_Law_readUnit (gr_Law_readSum d).2.2.2.1 (gr_Law_readSum d).2.2.2.2, bd_Law_readBracket (gr_Law_readSum d).1, bd_Law_readPair (gr_Law_readSum d).1)
def fn_Law_readSum (o : Nat) (p1 : Nat) (p2 : Int32) (σ : hp_I) : Option (hp_I) := (gr_Law_readSum 64).1 o p1 p2 σ
def fn_Law_readProduct (o : Nat) (p1 : Nat) (p2 : Int32) (σ : hp_I) : Option (hp_I) := (gr_Law_readSum 64).2.1 o p1 p2 σ
def fn_Law_readUnit (o : Nat) (p1 : Nat) (p2 : Int32) (σ : hp_I) : Option (hp_I) := (gr_Law_readSum 64).2.2.1 o p1 p2 σ
def fn_Law_readBracket (o : Nat) (p1 : Nat) (p2 : Int32) (p3 : Int32) (σ : hp_I) : Option (hp_I) := (gr_Law_readSum 64).2.2.2.1 o p1 p2 p3 σ
def fn_Law_readPair (o : Nat) (p1 : Nat) (p2 : Int32) (p3 : Int32) (p4 : Int32) (σ : hp_I) : Option (hp_I) := (gr_Law_readSum 64).2.2.2.2 o p1 p2 p3 p4 σ
theorem og_Law_readSum {G : wd_G} (hN : gd_ok G) : ∀ d : Nat, (∀ (l : Launch) (o : Nat) (ho : sh_kd o = 4) (p1 : Nat) (hp1 : sh_kd p1 = 10) (p2 : Int32) (σ : hp_I) (τ : hp_L), cl_C G l (6 + d) yX4_readSum cX4_readSum 5 none [.ref (wd_b G + o), .ref (wd_b G + p1), .int p2] σ τ (ci_h τ) ((gr_Law_readSum d).1 o p1 p2 σ)) ∧ (∀ (l : Launch) (o : Nat) (ho : sh_kd o = 4) (p1 : Nat) (hp1 : sh_kd p1 = 10) (p2 : Int32) (σ : hp_I) (τ : hp_L), cl_C G l (6 + d) yX4_readProduct cX4_readProduct 5 none [.ref (wd_b G + o), .ref (wd_b G + p1), .int p2] σ τ (ci_h τ) ((gr_Law_readSum d).2.1 o p1 p2 σ)) ∧ (∀ (l : Launch) (o : Nat) (ho : sh_kd o = 4) (p1 : Nat) (hp1 : sh_kd p1 = 10) (p2 : Int32) (σ : hp_I) (τ : hp_L), cl_C G l (6 + d) yX4_readUnit cX4_readUnit 5 none [.ref (wd_b G + o), .ref (wd_b G + p1), .int p2] σ τ (ci_h τ) ((gr_Law_readSum d).2.2.1 o p1 p2 σ)) ∧ (∀ (l : Launch) (o : Nat) (ho : sh_kd o = 4) (p1 : Nat) (hp1 : sh_kd p1 = 10) (p2 : Int32) (p3 : Int32) (σ : hp_I) (τ : hp_L), cl_C G l (6 + d) yX4_readBracket cX4_readBracket 4 none [.ref (wd_b G + o), .ref (wd_b G + p1), .int p2, .int p3] σ τ (ci_h τ) ((gr_Law_readSum d).2.2.2.1 o p1 p2 p3 σ)) ∧ (∀ (l : Launch) (o : Nat) (ho : sh_kd o = 4) (p1 : Nat) (hp1 : sh_kd p1 = 10) (p2 : Int32) (p3 : Int32) (p4 : Int32) (σ : hp_I) (τ : hp_L), cl_C G l (6 + d) yX4_readPair cX4_readPair 5 none [.ref (wd_b G + o), .ref (wd_b G + p1), .int p2, .int p3, .int p4] σ τ (ci_h τ) ((gr_Law_readSum d).2.2.2.2 o p1 p2 p3 p4 σ)) := by
  intro d
  induction d with
  | zero => exact ⟨(fun l o ho p1 hp1 p2 σ τ r hr => (nomatch (show none = some r from hr))), (fun l o ho p1 hp1 p2 σ τ r hr => (nomatch (show none = some r from hr))), (fun l o ho p1 hp1 p2 σ τ r hr => (nomatch (show none = some r from hr))), (fun l o ho p1 hp1 p2 p3 σ τ r hr => (nomatch (show none = some r from hr))), (fun l o ho p1 hp1 p2 p3 p4 σ τ r hr => (nomatch (show none = some r from hr)))⟩
  | succ d ih =>
    obtain ⟨h0, h1, h2, h3, h4⟩ := ih
    exact ⟨fun l o ho p1 hp1 p2 σ τ => ob_Law_readSum hN (6 + d) (by omega) _ h1 o ho p1 hp1 p2 σ τ, fun l o ho p1 hp1 p2 σ τ => ob_Law_readProduct hN (6 + d) (by omega) _ h2 o ho p1 hp1 p2 σ τ, fun l o ho p1 hp1 p2 σ τ => ob_Law_readUnit hN (6 + d) (by omega) _ _ h3 h4 o ho p1 hp1 p2 σ τ, fun l o ho p1 hp1 p2 p3 σ τ => ob_Law_readBracket hN (6 + d) (by omega) _ h0 o ho p1 hp1 p2 p3 σ τ, fun l o ho p1 hp1 p2 p3 p4 σ τ => ob_Law_readPair hN (6 + d) (by omega) _ h0 o ho p1 hp1 p2 p3 p4 σ τ⟩
theorem ok_Law_readSum {G : wd_G} {l : Launch} (hN : gd_ok G) (o : Nat) (ho : sh_kd o = 4) (p1 : Nat) (hp1 : sh_kd p1 = 10) (p2 : Int32) (σ : hp_I) (τ : hp_L) : cl_C G l 70 yX4_readSum cX4_readSum 5 none [.ref (wd_b G + o), .ref (wd_b G + p1), .int p2] σ τ (ci_h τ) (fn_Law_readSum o p1 p2 σ) := (og_Law_readSum hN 64).1 l o ho p1 hp1 p2 σ τ
theorem ok_Law_readProduct {G : wd_G} {l : Launch} (hN : gd_ok G) (o : Nat) (ho : sh_kd o = 4) (p1 : Nat) (hp1 : sh_kd p1 = 10) (p2 : Int32) (σ : hp_I) (τ : hp_L) : cl_C G l 70 yX4_readProduct cX4_readProduct 5 none [.ref (wd_b G + o), .ref (wd_b G + p1), .int p2] σ τ (ci_h τ) (fn_Law_readProduct o p1 p2 σ) := (og_Law_readSum hN 64).2.1 l o ho p1 hp1 p2 σ τ
theorem ok_Law_readUnit {G : wd_G} {l : Launch} (hN : gd_ok G) (o : Nat) (ho : sh_kd o = 4) (p1 : Nat) (hp1 : sh_kd p1 = 10) (p2 : Int32) (σ : hp_I) (τ : hp_L) : cl_C G l 70 yX4_readUnit cX4_readUnit 5 none [.ref (wd_b G + o), .ref (wd_b G + p1), .int p2] σ τ (ci_h τ) (fn_Law_readUnit o p1 p2 σ) := (og_Law_readSum hN 64).2.2.1 l o ho p1 hp1 p2 σ τ
theorem ok_Law_readBracket {G : wd_G} {l : Launch} (hN : gd_ok G) (o : Nat) (ho : sh_kd o = 4) (p1 : Nat) (hp1 : sh_kd p1 = 10) (p2 : Int32) (p3 : Int32) (σ : hp_I) (τ : hp_L) : cl_C G l 70 yX4_readBracket cX4_readBracket 4 none [.ref (wd_b G + o), .ref (wd_b G + p1), .int p2, .int p3] σ τ (ci_h τ) (fn_Law_readBracket o p1 p2 p3 σ) := (og_Law_readSum hN 64).2.2.2.1 l o ho p1 hp1 p2 p3 σ τ
theorem ok_Law_readPair {G : wd_G} {l : Launch} (hN : gd_ok G) (o : Nat) (ho : sh_kd o = 4) (p1 : Nat) (hp1 : sh_kd p1 = 10) (p2 : Int32) (p3 : Int32) (p4 : Int32) (σ : hp_I) (τ : hp_L) : cl_C G l 70 yX4_readPair cX4_readPair 5 none [.ref (wd_b G + o), .ref (wd_b G + p1), .int p2, .int p3, .int p4] σ τ (ci_h τ) (fn_Law_readPair o p1 p2 p3 p4 σ) := (og_Law_readSum hN 64).2.2.2.2 l o ho p1 hp1 p2 p3 p4 σ τ
def fn_Steps_read_L7  (a0 : Nat) (a1 : Nat) (a2 : Nat) (k : hp_I → Option (hp_I)) : Nat → Int32 → hp_I → Option (hp_I)
  | 0, _, _ => none
  | fu + 1, x3, s0 =>
    if x3 < (150 : Int32) then (
      Option.bind (fn_Tape_isOver a1 s0) fun z3 =>
      if z3 = 0 then (
        Option.bind (fn_Steps_readStep a0 a1 a2 (0 : Int32) s0) fun s5 =>
        px_let (x3 + 1) fun v3_6 =>
        fn_Steps_read_L7 a0 a1 a2 k fu v3_6 s5
      ) else (
        k s0
      )
    ) else (
      k s0
    )
def fn_Steps_read  (o : Nat) (p1 : Nat) (p2 : Nat) (σ : hp_I) : Option (hp_I) :=
  px_let (hp_s σ o 4 (0 : Int32)) fun s1 =>
  px_let (0 : Int32) fun v3_2 =>
  fn_Steps_read_L7 o p1 p2
    (fun (s_7 : hp_I) =>
      some s_7
    )
    FU v3_2 s1
set_option maxHeartbeats 4000000 in
set_option maxRecDepth 100000 in
theorem pf_Steps_read_L7 {G : wd_G} {M : wd_M}  (C : cx_C G M RX9 cX9_read 4 70 none) (a0 : Nat) (ha0 : sh_kd a0 = 9) (a1 : Nat) (ha1 : sh_kd a1 = 10) (a2 : Nat) (ha2 : sh_kd a2 = 3)  (τ : hp_L) (k : hp_I → Option (hp_I)) (hk : ∀ (s : hp_I), dn_D G M 4 0 0 (cl_M G M (ci_h τ)) 34 [] [] s τ (k s)) : ∀ (fu : Nat) (x3 : Int32) (s0 : hp_I), dn_D G M 4 0 0 (cl_M G M (ci_h τ)) 7 [(0, .ref (wd_b G + a0)), (1, .ref (wd_b G + a1)), (2, .ref (wd_b G + a2)), (3, .int x3)] [] s0 τ (fn_Steps_read_L7 a0 a1 a2 k fu x3 s0) := by
  intro fu
  induction fu with
  | zero => exact fun x3 s0 => dn_none
  | succ fu ih =>
    intro x3 s0
    unfold fn_Steps_read_L7
    refine dn_iload_n C dX9_read_7 rfl 3 rfl rfl ?_
    refine dn_sipush C dX9_read_8 ic_s_150 rfl ?_
    refine dn_icmp_ge (t := 34) C dX9_read_11 (by decide) rfl ?_ ?_
    · refine dn_aload_n C dX9_read_14 rfl 1 rfl rfl ?_
      refine dn_callV_i (As := []) (st := []) C (ok_Tape_isOver (cx_g C) a1 ha1 s0 τ) mt_X10_isOver mv_X10_isOver lk_X9_28 (by decide) ha1 rfl ⟨Nat.zero_le _, Nat.zero_le _⟩ (Nat.le_of_ble_eq_true rfl) dX9_read_15 rfl rfl (fun z3 => ?_)
      refine dn_if_ne (t := 34) C dX9_read_18 (by decide) rfl ?_ ?_
      · refine dn_aload_n C dX9_read_21 rfl 0 rfl rfl ?_
        refine dn_aload_n C dX9_read_22 rfl 1 rfl rfl ?_
        refine dn_aload_n C dX9_read_23 rfl 2 rfl rfl ?_
        refine dn_iconst C dX9_read_24 ic_i_0 rfl ?_
        refine dn_callV_h (As := [.ref (wd_b G + a1), .ref (wd_b G + a2), .int (0 : Int32)]) (st := []) C (ok_Steps_readStep (cx_g C) a0 ha0 a1 ha1 a2 ha2 (0 : Int32) s0 τ) mt_X9_readStep mv_X9_readStep lk_X9_34 (by decide) ha0 rfl ⟨Nat.zero_le _, Nat.zero_le _⟩ (Nat.le_of_ble_eq_true rfl) dX9_read_25 rfl rfl (fun s5 => ?_)
        refine dn_iinc (lv0 := [(0, .ref (wd_b G + a0)), (1, .ref (wd_b G + a1)), (2, .ref (wd_b G + a2))]) (v := x3 + 1) C dX9_read_28 3 rfl rfl (by decide) rfl rfl (fun v3_6 => ?_)
        refine dn_goto (t := 7) C dX9_read_31 (by decide) ?_
        refine dn_pick [1, 2, 3, 0] rfl ?_
        exact ih v3_6 s5
      · refine dn_pick [] rfl ?_
        exact hk s0
    · refine dn_pick [] rfl ?_
      exact hk s0
set_option maxHeartbeats 4000000 in
set_option maxRecDepth 100000 in
theorem ok_Steps_read {G : wd_G} {l : Launch} (hN : gd_ok G)  (o : Nat) (ho : sh_kd o = 9) (p1 : Nat) (hp1 : sh_kd p1 = 10) (p2 : Nat) (hp2 : sh_kd p2 = 3) (σ : hp_I) (τ : hp_L) : cl_C G l 70 yX9_read cX9_read 4 none [.ref (wd_b G + o), .ref (wd_b G + p1), .ref (wd_b G + p2)] σ τ (ci_h τ) (fn_Steps_read o p1 p2 σ) := by
  refine cl_of (lv0 := [(0, .ref (wd_b G + o)), (1, .ref (wd_b G + p1)), (2, .ref (wd_b G + p2))]) (ci_h τ) (by decide) (Nat.le_of_ble_eq_true rfl) rfl hN (fun M hM C => ?_)
  have C : cx_C G M RX9 cX9_read 4 70 none := C
  unfold fn_Steps_read
  refine dn_aload_n C dX9_read_0 rfl 0 rfl rfl ?_
  refine dn_iconst C dX9_read_1 ic_i_0 rfl ?_
  refine dn_putI C fp_X9_24 ho dX9_read_2 rfl (fun s1 => ?_)
  refine dn_iconst C dX9_read_5 ic_i_0 rfl ?_
  refine dn_istore_n (lv0 := [(0, .ref (wd_b G + o)), (1, .ref (wd_b G + p1)), (2, .ref (wd_b G + p2))]) C dX9_read_6 rfl (by decide) rfl rfl (fun v3_2 => ?_)
  refine dn_pick [1, 2, 3, 0] rfl ?_
  refine pf_Steps_read_L7  C  o ho p1 hp1 p2 hp2  τ _ (fun s_7 => ?_) FU v3_2 s1
  exact dn_vret C dX9_read_34 rfl
def bd_Steps_run_L3 (r_Steps_repeatBody : Nat → Nat → Int32 → Int32 → hp_I → Option (hp_I)) (a0 : Nat) (a1 : Nat) (a3 : Int32) (a4 : Int32) (k : hp_I → Option (hp_I)) : Nat → Int32 → hp_I → Option (hp_I)
  | 0, _, _ => none
  | fu + 1, x5, s0 =>
    if x5 < a3 then (
      if (s0 a0 5) < (200 : Int32) then (
        px_let (hp_s s0 a0 5 ((s0 a0 5) + (1 : Int32))) fun s2 =>
        Option.bind (px_ald s2 (sh_rf a0 0) x5) fun z3 =>
        px_jn (fun (s4 : hp_I) =>
          Option.bind (px_ald s4 (sh_rf a0 3) x5) fun z5 =>
          px_let z5 fun v5_6 =>
          bd_Steps_run_L3 r_Steps_repeatBody a0 a1 a3 a4 k fu v5_6 s4
        ) fun j7 =>
          if z3 = (6 : Int32) then (
            Option.bind (r_Steps_repeatBody a0 a1 x5 a4 s2) fun s9 =>
            j7 s9
          ) else (
            Option.bind (px_ald s2 (sh_rf a0 0) x5) fun z10 =>
            Option.bind (px_ald s2 (sh_rf a0 1) x5) fun z11 =>
            Option.bind (px_ald s2 (sh_rf a0 2) x5) fun z12 =>
            px_b2 (fn_Steps_isDone a1 z10 z11 z12 s2) fun z13 s14 =>
            if z13 = 0 then (
              px_let (hp_s s14 a0 7 ((s14 a0 7) + (1 : Int32))) fun s16 =>
              j7 s16
            ) else (
              px_let (hp_s s14 a0 6 ((s14 a0 6) + (1 : Int32))) fun s15 =>
              j7 s15
            )
          )
      ) else (
        k s0
      )
    ) else (
      k s0
    )
def bd_Steps_run (r_Steps_repeatBody : Nat → Nat → Int32 → Int32 → hp_I → Option (hp_I)) (o : Nat) (p1 : Nat) (p2 : Int32) (p3 : Int32) (p4 : Int32) (σ : hp_I) : Option (hp_I) :=
  px_let p2 fun v5_1 =>
  bd_Steps_run_L3 r_Steps_repeatBody o p1 p3 p4
    (fun (s_17 : hp_I) =>
      some s_17
    )
    FU v5_1 σ
set_option maxHeartbeats 4000000 in
set_option maxRecDepth 100000 in
theorem pf_Steps_run_L3 {G : wd_G} {M : wd_M} (n0 : Nat) (hn0 : 6 ≤ n0) (r_Steps_repeatBody : Nat → Nat → Int32 → Int32 → hp_I → Option (hp_I)) (hr_Steps_repeatBody : ∀ (l : Launch) (o : Nat) (ho : sh_kd o = 9) (p1 : Nat) (hp1 : sh_kd p1 = 8) (p2 : Int32) (p3 : Int32) (σ : hp_I) (τ : hp_L), cl_C G l n0 yX9_repeatBody cX9_repeatBody 5 none [.ref (wd_b G + o), .ref (wd_b G + p1), .int p2, .int p3] σ τ (ci_h τ) (r_Steps_repeatBody o p1 p2 p3 σ)) (C : cx_C G M RX9 cX9_run 6 (n0 + 1) none) (a0 : Nat) (ha0 : sh_kd a0 = 9) (a1 : Nat) (ha1 : sh_kd a1 = 8) (a3 : Int32) (a4 : Int32)  (τ : hp_L) (k : hp_I → Option (hp_I)) (hk : ∀ (s : hp_I), dn_D G M 6 0 0 (cl_M G M (ci_h τ)) 116 [] [] s τ (k s)) : ∀ (fu : Nat) (x5 : Int32) (s0 : hp_I), dn_D G M 6 0 0 (cl_M G M (ci_h τ)) 3 [(0, .ref (wd_b G + a0)), (1, .ref (wd_b G + a1)), (3, .int a3), (4, .int a4), (5, .int x5)] [] s0 τ (bd_Steps_run_L3 r_Steps_repeatBody a0 a1 a3 a4 k fu x5 s0) := by
  intro fu
  induction fu with
  | zero => exact fun x5 s0 => dn_none
  | succ fu ih =>
    intro x5 s0
    unfold bd_Steps_run_L3
    refine dn_iload C dX9_run_3 4 rfl rfl ?_
    refine dn_iload_n C dX9_run_5 rfl 2 rfl rfl ?_
    refine dn_icmp_ge (t := 116) C dX9_run_6 (by decide) rfl ?_ ?_
    · refine dn_aload_n C dX9_run_9 rfl 0 rfl rfl ?_
      refine dn_getI C fd_X9_97 ha0 dX9_run_10 rfl ?_
      refine dn_sipush C dX9_run_13 ic_s_200 rfl ?_
      refine dn_icmp_ge (t := 116) C dX9_run_16 (by decide) rfl ?_ ?_
      · refine dn_aload_n C dX9_run_19 rfl 0 rfl rfl ?_
        refine dn_dup C dX9_run_20 rfl rfl ?_
        refine dn_getI C fd_X9_97 ha0 dX9_run_21 rfl ?_
        refine dn_iconst C dX9_run_24 ic_i_1 rfl ?_
        refine dn_iadd C dX9_run_25 rfl ?_
        refine dn_putI C fp_X9_97 ha0 dX9_run_26 rfl (fun s2 => ?_)
        refine dn_aload_n C dX9_run_29 rfl 0 rfl rfl ?_
        refine dn_getR C fd_X9_11 ha0 dX9_run_30 rfl ?_
        refine dn_iload C dX9_run_33 4 rfl rfl ?_
        refine dn_iald C (kt_9_0 ha0) dX9_run_35 rfl (fun z3 => ?_)
        refine dn_bipush C dX9_run_36 ic_b_6 rfl ?_
        refine dn_jn (fun z => ∀ (s4 : hp_I), dn_D G M 6 0 0 (cl_M G M (ci_h τ)) 104 [(0, .ref (wd_b G + a0)), (1, .ref (wd_b G + a1)), (3, .int a3), (4, .int a4), (5, .int x5)] [] s4 τ (z s4)) (fun s4 => ?_) (fun j7 hj7 => ?_)
        · refine dn_aload_n C dX9_run_104 rfl 0 rfl rfl ?_
          refine dn_getR C fd_X9_21 ha0 dX9_run_105 rfl ?_
          refine dn_iload C dX9_run_108 4 rfl rfl ?_
          refine dn_iald C (kt_9_3 ha0) dX9_run_110 rfl (fun z5 => ?_)
          refine dn_istore (lv0 := [(0, .ref (wd_b G + a0)), (1, .ref (wd_b G + a1)), (3, .int a3), (4, .int a4)]) C dX9_run_111 (by decide) rfl rfl (fun v5_6 => ?_)
          refine dn_goto (t := 3) C dX9_run_113 (by decide) ?_
          refine dn_pick [1, 2, 3, 4, 0] rfl ?_
          exact ih v5_6 s4
        · refine dn_icmp_ne (t := 53) C dX9_run_38 (by decide) rfl ?_ ?_
          · refine dn_aload_n C dX9_run_41 rfl 0 rfl rfl ?_
            refine dn_aload_n C dX9_run_42 rfl 1 rfl rfl ?_
            refine dn_iload C dX9_run_43 4 rfl rfl ?_
            refine dn_iload C dX9_run_45 3 rfl rfl ?_
            refine dn_callV_h (As := [.ref (wd_b G + a1), .int x5, .int a4]) (st := []) C (hr_Steps_repeatBody (mx_L M) a0 ha0 a1 ha1 x5 a4 s2 τ) mt_X9_repeatBody mv_X9_repeatBody lk_X9_106 (by omega) ha0 rfl ⟨Nat.zero_le _, Nat.zero_le _⟩ (Nat.le_of_ble_eq_true rfl) dX9_run_47 rfl rfl (fun s9 => ?_)
            refine dn_goto (t := 104) C dX9_run_50 (by decide) ?_
            exact hj7 s9
          · refine dn_aload_n C dX9_run_53 rfl 1 rfl rfl ?_
            refine dn_aload_n C dX9_run_54 rfl 0 rfl rfl ?_
            refine dn_getR C fd_X9_11 ha0 dX9_run_55 rfl ?_
            refine dn_iload C dX9_run_58 4 rfl rfl ?_
            refine dn_iald C (kt_9_0 ha0) dX9_run_60 rfl (fun z10 => ?_)
            refine dn_aload_n C dX9_run_61 rfl 0 rfl rfl ?_
            refine dn_getR C fd_X9_15 ha0 dX9_run_62 rfl ?_
            refine dn_iload C dX9_run_65 4 rfl rfl ?_
            refine dn_iald C (kt_9_1 ha0) dX9_run_67 rfl (fun z11 => ?_)
            refine dn_aload_n C dX9_run_68 rfl 0 rfl rfl ?_
            refine dn_getR C fd_X9_18 ha0 dX9_run_69 rfl ?_
            refine dn_iload C dX9_run_72 4 rfl rfl ?_
            refine dn_iald C (kt_9_2 ha0) dX9_run_74 rfl (fun z12 => ?_)
            refine dn_callS_ih (As := [.ref (wd_b G + a1), .int z10, .int z11, .int z12]) (st := []) C (ok_Steps_isDone (cx_g C) a1 ha1 z10 z11 z12 s2 τ) mt_X9_isDone ms_X9_isDone lk_X9_110 (by omega) rfl ⟨Nat.zero_le _, Nat.zero_le _⟩ (Nat.le_of_ble_eq_true rfl) dX9_run_75 rfl rfl (fun z13 s14 => ?_)
            refine dn_if_eq (t := 94) C dX9_run_78 (by decide) rfl ?_ ?_
            · refine dn_aload_n C dX9_run_94 rfl 0 rfl rfl ?_
              refine dn_dup C dX9_run_95 rfl rfl ?_
              refine dn_getI C fd_X9_103 ha0 dX9_run_96 rfl ?_
              refine dn_iconst C dX9_run_99 ic_i_1 rfl ?_
              refine dn_iadd C dX9_run_100 rfl ?_
              refine dn_putI C fp_X9_103 ha0 dX9_run_101 rfl (fun s16 => ?_)
              exact hj7 s16
            · refine dn_aload_n C dX9_run_81 rfl 0 rfl rfl ?_
              refine dn_dup C dX9_run_82 rfl rfl ?_
              refine dn_getI C fd_X9_100 ha0 dX9_run_83 rfl ?_
              refine dn_iconst C dX9_run_86 ic_i_1 rfl ?_
              refine dn_iadd C dX9_run_87 rfl ?_
              refine dn_putI C fp_X9_100 ha0 dX9_run_88 rfl (fun s15 => ?_)
              refine dn_goto (t := 104) C dX9_run_91 (by decide) ?_
              exact hj7 s15
      · refine dn_pick [] rfl ?_
        exact hk s0
    · refine dn_pick [] rfl ?_
      exact hk s0
set_option maxHeartbeats 4000000 in
set_option maxRecDepth 100000 in
theorem ob_Steps_run {G : wd_G} {l : Launch} (hN : gd_ok G) (n0 : Nat) (hn0 : 6 ≤ n0) (r_Steps_repeatBody : Nat → Nat → Int32 → Int32 → hp_I → Option (hp_I)) (hr_Steps_repeatBody : ∀ (l : Launch) (o : Nat) (ho : sh_kd o = 9) (p1 : Nat) (hp1 : sh_kd p1 = 8) (p2 : Int32) (p3 : Int32) (σ : hp_I) (τ : hp_L), cl_C G l n0 yX9_repeatBody cX9_repeatBody 5 none [.ref (wd_b G + o), .ref (wd_b G + p1), .int p2, .int p3] σ τ (ci_h τ) (r_Steps_repeatBody o p1 p2 p3 σ)) (o : Nat) (ho : sh_kd o = 9) (p1 : Nat) (hp1 : sh_kd p1 = 8) (p2 : Int32) (p3 : Int32) (p4 : Int32) (σ : hp_I) (τ : hp_L) : cl_C G l (n0 + 1) yX9_run cX9_run 6 none [.ref (wd_b G + o), .ref (wd_b G + p1), .int p2, .int p3, .int p4] σ τ (ci_h τ) (bd_Steps_run r_Steps_repeatBody o p1 p2 p3 p4 σ) := by
  refine cl_of (lv0 := [(0, .ref (wd_b G + o)), (1, .ref (wd_b G + p1)), (2, .int p2), (3, .int p3), (4, .int p4)]) (ci_h τ) (by decide) (Nat.le_of_ble_eq_true rfl) rfl hN (fun M hM C => ?_)
  have C : cx_C G M RX9 cX9_run 6 (n0 + 1) none := C
  unfold bd_Steps_run
  refine dn_iload_n C dX9_run_0 rfl 2 rfl rfl ?_
  refine dn_istore (lv0 := [(0, .ref (wd_b G + o)), (1, .ref (wd_b G + p1)), (2, .int p2), (3, .int p3), (4, .int p4)]) C dX9_run_1 (by decide) rfl rfl (fun v5_1 => ?_)
  refine dn_pick [1, 2, 4, 5, 0] rfl ?_
  refine pf_Steps_run_L3 n0 hn0 r_Steps_repeatBody hr_Steps_repeatBody C  o ho p1 hp1 p3 p4  τ _ (fun s_17 => ?_) FU v5_1 σ
  exact dn_vret C dX9_run_116 rfl
def bd_Steps_repeatBody_L10 (r_Steps_run : Nat → Nat → Int32 → Int32 → Int32 → hp_I → Option (hp_I)) (a0 : Nat) (a1 : Nat) (a2 : Int32) (a3 : Int32) (k : hp_I → Option (hp_I)) : Nat → Int32 → hp_I → Option (hp_I)
  | 0, _, _ => none
  | fu + 1, x4, s0 =>
    Option.bind (px_ald s0 (sh_rf a0 1) a2) fun z2 =>
    if x4 < z2 then (
      if (s0 a0 5) < (200 : Int32) then (
        Option.bind (px_ald s0 (sh_rf a0 3) a2) fun z3 =>
        Option.bind (r_Steps_run a0 a1 (a2 + (1 : Int32)) z3 (a3 + (1 : Int32)) s0) fun s5 =>
        px_let (x4 + 1) fun v4_6 =>
        bd_Steps_repeatBody_L10 r_Steps_run a0 a1 a2 a3 k fu v4_6 s5
      ) else (
        k s0
      )
    ) else (
      k s0
    )
def bd_Steps_repeatBody (r_Steps_run : Nat → Nat → Int32 → Int32 → Int32 → hp_I → Option (hp_I)) (o : Nat) (p1 : Nat) (p2 : Int32) (p3 : Int32) (σ : hp_I) : Option (hp_I) :=
  if (6 : Int32) ≤ p3 then (
    some σ
  ) else (
    px_let (0 : Int32) fun v4_1 =>
    bd_Steps_repeatBody_L10 r_Steps_run o p1 p2 p3
      (fun (s_7 : hp_I) =>
        some s_7
      )
      FU v4_1 σ
  )
set_option maxHeartbeats 4000000 in
set_option maxRecDepth 100000 in
theorem pf_Steps_repeatBody_L10 {G : wd_G} {M : wd_M} (n0 : Nat) (hn0 : 6 ≤ n0) (r_Steps_run : Nat → Nat → Int32 → Int32 → Int32 → hp_I → Option (hp_I)) (hr_Steps_run : ∀ (l : Launch) (o : Nat) (ho : sh_kd o = 9) (p1 : Nat) (hp1 : sh_kd p1 = 8) (p2 : Int32) (p3 : Int32) (p4 : Int32) (σ : hp_I) (τ : hp_L), cl_C G l n0 yX9_run cX9_run 6 none [.ref (wd_b G + o), .ref (wd_b G + p1), .int p2, .int p3, .int p4] σ τ (ci_h τ) (r_Steps_run o p1 p2 p3 p4 σ)) (C : cx_C G M RX9 cX9_repeatBody 5 (n0 + 1) none) (a0 : Nat) (ha0 : sh_kd a0 = 9) (a1 : Nat) (ha1 : sh_kd a1 = 8) (a2 : Int32) (a3 : Int32)  (τ : hp_L) (k : hp_I → Option (hp_I)) (hk : ∀ (s : hp_I), dn_D G M 5 0 0 (cl_M G M (ci_h τ)) 54 [] [] s τ (k s)) : ∀ (fu : Nat) (x4 : Int32) (s0 : hp_I), dn_D G M 5 0 0 (cl_M G M (ci_h τ)) 10 [(0, .ref (wd_b G + a0)), (1, .ref (wd_b G + a1)), (2, .int a2), (3, .int a3), (4, .int x4)] [] s0 τ (bd_Steps_repeatBody_L10 r_Steps_run a0 a1 a2 a3 k fu x4 s0) := by
  intro fu
  induction fu with
  | zero => exact fun x4 s0 => dn_none
  | succ fu ih =>
    intro x4 s0
    unfold bd_Steps_repeatBody_L10
    refine dn_iload C dX9_repeatBody_10 4 rfl rfl ?_
    refine dn_aload_n C dX9_repeatBody_12 rfl 0 rfl rfl ?_
    refine dn_getR C fd_X9_15 ha0 dX9_repeatBody_13 rfl ?_
    refine dn_iload_n C dX9_repeatBody_16 rfl 2 rfl rfl ?_
    refine dn_iald C (kt_9_1 ha0) dX9_repeatBody_17 rfl (fun z2 => ?_)
    refine dn_icmp_ge (t := 54) C dX9_repeatBody_18 (by decide) rfl ?_ ?_
    · refine dn_aload_n C dX9_repeatBody_21 rfl 0 rfl rfl ?_
      refine dn_getI C fd_X9_97 ha0 dX9_repeatBody_22 rfl ?_
      refine dn_sipush C dX9_repeatBody_25 ic_s_200 rfl ?_
      refine dn_icmp_ge (t := 54) C dX9_repeatBody_28 (by decide) rfl ?_ ?_
      · refine dn_aload_n C dX9_repeatBody_31 rfl 0 rfl rfl ?_
        refine dn_aload_n C dX9_repeatBody_32 rfl 1 rfl rfl ?_
        refine dn_iload_n C dX9_repeatBody_33 rfl 2 rfl rfl ?_
        refine dn_iconst C dX9_repeatBody_34 ic_i_1 rfl ?_
        refine dn_iadd C dX9_repeatBody_35 rfl ?_
        refine dn_aload_n C dX9_repeatBody_36 rfl 0 rfl rfl ?_
        refine dn_getR C fd_X9_21 ha0 dX9_repeatBody_37 rfl ?_
        refine dn_iload_n C dX9_repeatBody_40 rfl 2 rfl rfl ?_
        refine dn_iald C (kt_9_3 ha0) dX9_repeatBody_41 rfl (fun z3 => ?_)
        refine dn_iload_n C dX9_repeatBody_42 rfl 3 rfl rfl ?_
        refine dn_iconst C dX9_repeatBody_43 ic_i_1 rfl ?_
        refine dn_iadd C dX9_repeatBody_44 rfl ?_
        refine dn_callV_h (As := [.ref (wd_b G + a1), .int (a2 + (1 : Int32)), .int z3, .int (a3 + (1 : Int32))]) (st := []) C (hr_Steps_run (mx_L M) a0 ha0 a1 ha1 (a2 + (1 : Int32)) z3 (a3 + (1 : Int32)) s0 τ) mt_X9_run mv_X9_run lk_X9_114 (by omega) ha0 rfl ⟨Nat.zero_le _, Nat.zero_le _⟩ (Nat.le_of_ble_eq_true rfl) dX9_repeatBody_45 rfl rfl (fun s5 => ?_)
        refine dn_iinc (lv0 := [(0, .ref (wd_b G + a0)), (1, .ref (wd_b G + a1)), (2, .int a2), (3, .int a3)]) (v := x4 + 1) C dX9_repeatBody_48 4 rfl rfl (by decide) rfl rfl (fun v4_6 => ?_)
        refine dn_goto (t := 10) C dX9_repeatBody_51 (by decide) ?_
        refine dn_pick [1, 2, 3, 4, 0] rfl ?_
        exact ih v4_6 s5
      · refine dn_pick [] rfl ?_
        exact hk s0
    · refine dn_pick [] rfl ?_
      exact hk s0
set_option maxHeartbeats 4000000 in
set_option maxRecDepth 100000 in
theorem ob_Steps_repeatBody {G : wd_G} {l : Launch} (hN : gd_ok G) (n0 : Nat) (hn0 : 6 ≤ n0) (r_Steps_run : Nat → Nat → Int32 → Int32 → Int32 → hp_I → Option (hp_I)) (hr_Steps_run : ∀ (l : Launch) (o : Nat) (ho : sh_kd o = 9) (p1 : Nat) (hp1 : sh_kd p1 = 8) (p2 : Int32) (p3 : Int32) (p4 : Int32) (σ : hp_I) (τ : hp_L), cl_C G l n0 yX9_run cX9_run 6 none [.ref (wd_b G + o), .ref (wd_b G + p1), .int p2, .int p3, .int p4] σ τ (ci_h τ) (r_Steps_run o p1 p2 p3 p4 σ)) (o : Nat) (ho : sh_kd o = 9) (p1 : Nat) (hp1 : sh_kd p1 = 8) (p2 : Int32) (p3 : Int32) (σ : hp_I) (τ : hp_L) : cl_C G l (n0 + 1) yX9_repeatBody cX9_repeatBody 5 none [.ref (wd_b G + o), .ref (wd_b G + p1), .int p2, .int p3] σ τ (ci_h τ) (bd_Steps_repeatBody r_Steps_run o p1 p2 p3 σ) := by
  refine cl_of (lv0 := [(0, .ref (wd_b G + o)), (1, .ref (wd_b G + p1)), (2, .int p2), (3, .int p3)]) (ci_h τ) (by decide) (Nat.le_of_ble_eq_true rfl) rfl hN (fun M hM C => ?_)
  have C : cx_C G M RX9 cX9_repeatBody 5 (n0 + 1) none := C
  unfold bd_Steps_repeatBody
  refine dn_iload_n C dX9_repeatBody_0 rfl 3 rfl rfl ?_
  refine dn_bipush C dX9_repeatBody_1 ic_b_6 rfl ?_
  refine dn_icmp_lt (t := 7) C dX9_repeatBody_3 (by decide) rfl ?_ ?_
  · exact dn_vret C dX9_repeatBody_6 rfl
  · refine dn_iconst C dX9_repeatBody_7 ic_i_0 rfl ?_
    refine dn_istore (lv0 := [(0, .ref (wd_b G + o)), (1, .ref (wd_b G + p1)), (2, .int p2), (3, .int p3)]) C dX9_repeatBody_8 (by decide) rfl rfl (fun v4_1 => ?_)
    refine dn_pick [1, 2, 3, 4, 0] rfl ?_
    refine pf_Steps_repeatBody_L10 n0 hn0 r_Steps_run hr_Steps_run C  o ho p1 hp1 p2 p3  τ _ (fun s_7 => ?_) FU v4_1 σ
    exact dn_vret C dX9_repeatBody_54 rfl
def gr_Steps_run : Nat → (Nat → Nat → Int32 → Int32 → Int32 → hp_I → Option (hp_I)) × (Nat → Nat → Int32 → Int32 → hp_I → Option (hp_I))
  | 0 => ((fun _ _ _ _ _ _ => none), (fun _ _ _ _ _ => none))
  | d + 1 => (bd_Steps_run (gr_Steps_run d).2, bd_Steps_repeatBody (gr_Steps_run d).1)
def fn_Steps_run (o : Nat) (p1 : Nat) (p2 : Int32) (p3 : Int32) (p4 : Int32) (σ : hp_I) : Option (hp_I) := (gr_Steps_run 64).1 o p1 p2 p3 p4 σ
def fn_Steps_repeatBody (o : Nat) (p1 : Nat) (p2 : Int32) (p3 : Int32) (σ : hp_I) : Option (hp_I) := (gr_Steps_run 64).2 o p1 p2 p3 σ
theorem og_Steps_run {G : wd_G} (hN : gd_ok G) : ∀ d : Nat, (∀ (l : Launch) (o : Nat) (ho : sh_kd o = 9) (p1 : Nat) (hp1 : sh_kd p1 = 8) (p2 : Int32) (p3 : Int32) (p4 : Int32) (σ : hp_I) (τ : hp_L), cl_C G l (6 + d) yX9_run cX9_run 6 none [.ref (wd_b G + o), .ref (wd_b G + p1), .int p2, .int p3, .int p4] σ τ (ci_h τ) ((gr_Steps_run d).1 o p1 p2 p3 p4 σ)) ∧ (∀ (l : Launch) (o : Nat) (ho : sh_kd o = 9) (p1 : Nat) (hp1 : sh_kd p1 = 8) (p2 : Int32) (p3 : Int32) (σ : hp_I) (τ : hp_L), cl_C G l (6 + d) yX9_repeatBody cX9_repeatBody 5 none [.ref (wd_b G + o), .ref (wd_b G + p1), .int p2, .int p3] σ τ (ci_h τ) ((gr_Steps_run d).2 o p1 p2 p3 σ)) := by
  intro d
  induction d with
  | zero => exact ⟨(fun l o ho p1 hp1 p2 p3 p4 σ τ r hr => (nomatch (show none = some r from hr))), (fun l o ho p1 hp1 p2 p3 σ τ r hr => (nomatch (show none = some r from hr)))⟩
  | succ d ih =>
    obtain ⟨h0, h1⟩ := ih
    exact ⟨fun l o ho p1 hp1 p2 p3 p4 σ τ => ob_Steps_run hN (6 + d) (by omega) _ h1 o ho p1 hp1 p2 p3 p4 σ τ, fun l o ho p1 hp1 p2 p3 σ τ => ob_Steps_repeatBody hN (6 + d) (by omega) _ h0 o ho p1 hp1 p2 p3 σ τ⟩
theorem ok_Steps_run {G : wd_G} {l : Launch} (hN : gd_ok G) (o : Nat) (ho : sh_kd o = 9) (p1 : Nat) (hp1 : sh_kd p1 = 8) (p2 : Int32) (p3 : Int32) (p4 : Int32) (σ : hp_I) (τ : hp_L) : cl_C G l 70 yX9_run cX9_run 6 none [.ref (wd_b G + o), .ref (wd_b G + p1), .int p2, .int p3, .int p4] σ τ (ci_h τ) (fn_Steps_run o p1 p2 p3 p4 σ) := (og_Steps_run hN 64).1 l o ho p1 hp1 p2 p3 p4 σ τ
theorem ok_Steps_repeatBody {G : wd_G} {l : Launch} (hN : gd_ok G) (o : Nat) (ho : sh_kd o = 9) (p1 : Nat) (hp1 : sh_kd p1 = 8) (p2 : Int32) (p3 : Int32) (σ : hp_I) (τ : hp_L) : cl_C G l 70 yX9_repeatBody cX9_repeatBody 5 none [.ref (wd_b G + o), .ref (wd_b G + p1), .int p2, .int p3] σ τ (ci_h τ) (fn_Steps_repeatBody o p1 p2 p3 σ) := (og_Steps_run hN 64).2 l o ho p1 hp1 p2 p3 σ τ
def fn_Law_read  (o : Nat) (p1 : Nat) (σ : hp_I) : Option (hp_I) :=
  px_let (hp_s σ o 3 (0 : Int32)) fun s1 =>
  Option.bind (fn_Law_readSum o p1 (0 : Int32) s1) fun s3 =>
  Option.bind (fn_Tape_isOver p1 s3) fun z4 =>
  px_jn (fun (s5 : hp_I) =>
    Option.bind (fn_Tape_failed p1 s5) fun z6 =>
    px_jn (fun (s7 : hp_I) =>
      some s7
    ) fun j8 =>
      if z6 = 0 then (
        Option.bind (px_cpy s5 (sh_rf o 2) (0 : Int32) (sh_rf o 0) (0 : Int32) (s5 o 3)) fun s9 =>
        px_let (hp_s s9 o 1 (s9 o 3)) fun s10 =>
        j8 s10
      ) else (
        j8 s5
      )
  ) fun j11 =>
    if z4 = 0 then (
      Option.bind (fn_Tape_next p1 s3) fun z12 =>
      Option.bind (fn_Tape_fail p1 (1 : Int32) z12 s3) fun s14 =>
      j11 s14
    ) else (
      j11 s3
    )
set_option maxHeartbeats 4000000 in
set_option maxRecDepth 100000 in
theorem ok_Law_read {G : wd_G} {l : Launch} (hN : gd_ok G)  (o : Nat) (ho : sh_kd o = 4) (p1 : Nat) (hp1 : sh_kd p1 = 10) (σ : hp_I) (τ : hp_L) : cl_C G l 71 yX4_read cX4_read 2 none [.ref (wd_b G + o), .ref (wd_b G + p1)] σ τ (ci_h τ) (fn_Law_read o p1 σ) := by
  refine cl_of (lv0 := [(0, .ref (wd_b G + o)), (1, .ref (wd_b G + p1))]) (ci_h τ) (by decide) (Nat.le_of_ble_eq_true rfl) rfl hN (fun M hM C => ?_)
  have C : cx_C G M RX4 cX4_read 2 71 none := C
  unfold fn_Law_read
  refine dn_aload_n C dX4_read_0 rfl 0 rfl rfl ?_
  refine dn_iconst C dX4_read_1 ic_i_0 rfl ?_
  refine dn_putI C fp_X4_28 ho dX4_read_2 rfl (fun s1 => ?_)
  refine dn_aload_n C dX4_read_5 rfl 0 rfl rfl ?_
  refine dn_aload_n C dX4_read_6 rfl 1 rfl rfl ?_
  refine dn_iconst C dX4_read_7 ic_i_0 rfl ?_
  refine dn_callV_h (As := [.ref (wd_b G + p1), .int (0 : Int32)]) (st := []) C (ok_Law_readSum (cx_g C) o ho p1 hp1 (0 : Int32) s1 τ) mt_X4_readSum mv_X4_readSum lk_X4_31 (by decide) ho rfl ⟨Nat.zero_le _, Nat.zero_le _⟩ (Nat.le_of_ble_eq_true rfl) dX4_read_8 rfl rfl (fun s3 => ?_)
  refine dn_aload_n C dX4_read_11 rfl 1 rfl rfl ?_
  refine dn_callV_i (As := []) (st := []) C (ok_Tape_isOver (cx_g C) p1 hp1 s3 τ) mt_X10_isOver mv_X10_isOver lk_X4_35 (by decide) hp1 rfl ⟨Nat.zero_le _, Nat.zero_le _⟩ (Nat.le_of_ble_eq_true rfl) dX4_read_12 rfl rfl (fun z4 => ?_)
  refine dn_jn (fun z => ∀ (s5 : hp_I), dn_D G M 2 0 0 (cl_M G M (ci_h τ)) 27 [(0, .ref (wd_b G + o)), (1, .ref (wd_b G + p1))] [] s5 τ (z s5)) (fun s5 => ?_) (fun j11 hj11 => ?_)
  · refine dn_aload_n C dX4_read_27 rfl 1 rfl rfl ?_
    refine dn_callV_i (As := []) (st := []) C (ok_Tape_failed (cx_g C) p1 hp1 s5 τ) mt_X10_failed mv_X10_failed lk_X4_49 (by decide) hp1 rfl ⟨Nat.zero_le _, Nat.zero_le _⟩ (Nat.le_of_ble_eq_true rfl) dX4_read_28 rfl rfl (fun z6 => ?_)
    refine dn_jn (fun z => ∀ (s7 : hp_I), dn_D G M 2 0 0 (cl_M G M (ci_h τ)) 59 [] [] s7 τ (z s7)) (fun s7 => ?_) (fun j8 hj8 => ?_)
    · exact dn_vret C dX4_read_59 rfl
    · refine dn_if_ne (t := 59) C dX4_read_31 (by decide) rfl ?_ ?_
      · refine dn_aload_n C dX4_read_34 rfl 0 rfl rfl ?_
        refine dn_getR C fd_X4_15 ho dX4_read_35 rfl ?_
        refine dn_iconst C dX4_read_38 ic_i_0 rfl ?_
        refine dn_aload_n C dX4_read_39 rfl 0 rfl rfl ?_
        refine dn_getR C fd_X4_9 ho dX4_read_40 rfl ?_
        refine dn_iconst C dX4_read_43 ic_i_0 rfl ?_
        refine dn_aload_n C dX4_read_44 rfl 0 rfl rfl ?_
        refine dn_getI C fd_X4_28 ho dX4_read_45 rfl ?_
        refine dn_acopy C ac_all lk_X4_52 (by decide) (kt_4_2 ho) (kt_4_0 ho) (Nat.le_of_ble_eq_true rfl) dX4_read_48 rfl (fun s9 => ?_)
        refine dn_aload_n C dX4_read_51 rfl 0 rfl rfl ?_
        refine dn_aload_n C dX4_read_52 rfl 0 rfl rfl ?_
        refine dn_getI C fd_X4_28 ho dX4_read_53 rfl ?_
        refine dn_putI C fp_X4_24 ho dX4_read_56 rfl (fun s10 => ?_)
        refine dn_pick [] rfl ?_
        exact hj8 s10
      · refine dn_pick [] rfl ?_
        exact hj8 s5
  · refine dn_if_ne (t := 27) C dX4_read_15 (by decide) rfl ?_ ?_
    · refine dn_aload_n C dX4_read_18 rfl 1 rfl rfl ?_
      refine dn_iconst C dX4_read_19 ic_i_1 rfl ?_
      refine dn_aload_n C dX4_read_20 rfl 1 rfl rfl ?_
      refine dn_callV_i (As := []) (st := [.int (1 : Int32), .ref (wd_b G + p1)]) C (ok_Tape_next (cx_g C) p1 hp1 s3 τ) mt_X10_next mv_X10_next lk_X4_41 (by decide) hp1 rfl ⟨Nat.zero_le _, Nat.zero_le _⟩ (Nat.le_of_ble_eq_true rfl) dX4_read_21 rfl rfl (fun z12 => ?_)
      refine dn_callV_h (As := [.int (1 : Int32), .int z12]) (st := []) C (ok_Tape_fail (cx_g C) p1 hp1 (1 : Int32) z12 s3 τ) mt_X10_fail mv_X10_fail lk_X4_45 (by decide) hp1 rfl ⟨Nat.zero_le _, Nat.zero_le _⟩ (Nat.le_of_ble_eq_true rfl) dX4_read_24 rfl rfl (fun s14 => ?_)
      exact hj11 s14
    · exact hj11 s3
