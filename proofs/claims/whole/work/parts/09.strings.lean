theorem fs_J0_38 : Cond.fieldLink RJ0 38 "java/lang/String" "COMPACT_STRINGS" "Z" ∈ gw_tbl := gw_in (gt_3 (List.mem_of_getElem? (i := 222) rfl)) rfl
theorem fs_J0_1053 : Cond.fieldLink RJ0 1053 "jdk/internal/util/Preconditions" "SIOOBE_FORMATTER" "Ljava/util/function/BiFunction;" ∈ gw_tbl := gw_in (gt_4 (List.mem_of_getElem? (i := 2) rfl)) rfl
theorem fs_J0_9 : Cond.fieldLink RJ0 9 "java/lang/String" "value" "[B" ∈ gw_tbl := gw_in (gt_9 (List.mem_of_getElem? (i := 118) rfl)) rfl
theorem fs_J0_15 : Cond.fieldLink RJ0 15 "java/lang/String" "coder" "B" ∈ gw_tbl := gw_in (gt_9 (List.mem_of_getElem? (i := 119) rfl)) rfl
theorem lk_J0_335 : Cond.methodLink RJ0 335 yJ0_coder_7d493 ∈ gw_tbl := gw_in (gt_3 (List.mem_of_getElem? (i := 218) rfl)) rfl
theorem lk_J0_492 : Cond.methodLink RJ0 492 yJ0_isLatin1_aae02 ∈ gw_tbl := gw_in (gt_3 (List.mem_of_getElem? (i := 232) rfl)) rfl
theorem lk_J0_495 : Cond.methodLink RJ0 495 yJ1_charAt_3b067 ∈ gw_tbl := gw_in (gt_3 (List.mem_of_getElem? (i := 236) rfl)) rfl
theorem lk_J1_9 : Cond.methodLink RJ1 9 yJ0_checkIndex_df160 ∈ gw_tbl := gw_in (gt_3 (List.mem_of_getElem? (i := 239) rfl)) rfl
theorem lk_J0_1059 : Cond.methodLink RJ0 1059 yJ3_checkIndex_8e157 ∈ gw_tbl := gw_in (gt_4 (List.mem_of_getElem? (i := 4) rfl)) rfl
theorem mt_J0_length_8abf5 : mt_ok yJ0_length_8abf5 cJ0_length_8abf5 1 (some .int) 0 := ⟨gw_in (gt_3 (List.mem_of_getElem? (i := 217) rfl)) rfl, gw_in (gt_1 (List.mem_of_getElem? (i := 19) rfl)) rfl, by decide +kernel, by decide⟩
theorem mo_J0_length_8abf5 : Cond.instanceMethod yJ0_length_8abf5 ∈ gw_tbl ∧ Cond.selects yJ0_length_8abf5.cls yJ0_length_8abf5 yJ0_length_8abf5 ∈ gw_tbl := ⟨gw_in (gt_3 (List.mem_of_getElem? (i := 215) rfl)) rfl, gw_in (gt_3 (List.mem_of_getElem? (i := 216) rfl)) rfl⟩
theorem mt_J0_charAt_5068e : mt_ok yJ0_charAt_5068e cJ0_charAt_5068e 2 (some .char) 1 := ⟨gw_in (gt_3 (List.mem_of_getElem? (i := 231) rfl)) rfl, gw_in (gt_1 (List.mem_of_getElem? (i := 19) rfl)) rfl, by decide +kernel, by decide⟩
theorem mo_J0_charAt_5068e : Cond.instanceMethod yJ0_charAt_5068e ∈ gw_tbl ∧ Cond.selects yJ0_charAt_5068e.cls yJ0_charAt_5068e yJ0_charAt_5068e ∈ gw_tbl := ⟨gw_in (gt_3 (List.mem_of_getElem? (i := 229) rfl)) rfl, gw_in (gt_3 (List.mem_of_getElem? (i := 230) rfl)) rfl⟩
theorem mt_J0_coder_7d493 : mt_ok yJ0_coder_7d493 cJ0_coder_7d493 1 (some .byte) 0 := ⟨gw_in (gt_3 (List.mem_of_getElem? (i := 221) rfl)) rfl, gw_in (gt_1 (List.mem_of_getElem? (i := 19) rfl)) rfl, by decide +kernel, by decide⟩
theorem mo_J0_coder_7d493 : Cond.instanceMethod yJ0_coder_7d493 ∈ gw_tbl ∧ Cond.selects yJ0_coder_7d493.cls yJ0_coder_7d493 yJ0_coder_7d493 ∈ gw_tbl := ⟨gw_in (gt_3 (List.mem_of_getElem? (i := 219) rfl)) rfl, gw_in (gt_3 (List.mem_of_getElem? (i := 220) rfl)) rfl⟩
theorem mt_J0_isLatin1_aae02 : mt_ok yJ0_isLatin1_aae02 cJ0_isLatin1_aae02 1 (some .boolean) 0 := ⟨gw_in (gt_3 (List.mem_of_getElem? (i := 235) rfl)) rfl, gw_in (gt_1 (List.mem_of_getElem? (i := 19) rfl)) rfl, by decide +kernel, by decide⟩
theorem mo_J0_isLatin1_aae02 : Cond.instanceMethod yJ0_isLatin1_aae02 ∈ gw_tbl ∧ Cond.selects yJ0_isLatin1_aae02.cls yJ0_isLatin1_aae02 yJ0_isLatin1_aae02 ∈ gw_tbl := ⟨gw_in (gt_3 (List.mem_of_getElem? (i := 233) rfl)) rfl, gw_in (gt_3 (List.mem_of_getElem? (i := 234) rfl)) rfl⟩
theorem mt_J0_checkIndex_df160 : mt_ok yJ0_checkIndex_df160 cJ0_checkIndex_df160 2 none 2 := ⟨gw_in (gt_4 (List.mem_of_getElem? (i := 1) rfl)) rfl, gw_in (gt_1 (List.mem_of_getElem? (i := 19) rfl)) rfl, by decide +kernel, by decide⟩
theorem ms_J0_checkIndex_df160 : Cond.static yJ0_checkIndex_df160 ∈ gw_tbl := gw_in (gt_4 (List.mem_of_getElem? (i := 0) rfl)) rfl
theorem mt_J1_charAt_3b067 : mt_ok yJ1_charAt_3b067 cJ1_charAt_3b067 2 (some .char) 2 := ⟨gw_in (gt_3 (List.mem_of_getElem? (i := 238) rfl)) rfl, gw_in (gt_1 (List.mem_of_getElem? (i := 20) rfl)) rfl, by decide +kernel, by decide⟩
theorem ms_J1_charAt_3b067 : Cond.static yJ1_charAt_3b067 ∈ gw_tbl := gw_in (gt_3 (List.mem_of_getElem? (i := 237) rfl)) rfl
theorem mt_J3_checkIndex_8e157 : mt_ok yJ3_checkIndex_8e157 cJ3_checkIndex_8e157 3 (some .int) 3 := ⟨gw_in (gt_4 (List.mem_of_getElem? (i := 6) rfl)) rfl, gw_in (gt_1 (List.mem_of_getElem? (i := 21) rfl)) rfl, by decide +kernel, by decide⟩
theorem ms_J3_checkIndex_8e157 : Cond.static yJ3_checkIndex_8e157 ∈ gw_tbl := gw_in (gt_4 (List.mem_of_getElem? (i := 5) rfl)) rfl
theorem sz_compact {G : wd_G} (hG : gd_ok G) : va_Z "java/lang/String" "COMPACT_STRINGS" "Z" (.int 1) (wd_A G) G.1 G.1.heap := by
  obtain ⟨-, a0, h1, h2⟩ := hG
  have hs := flat_of_before _ h2
  exact va_Zof (args := a0) (h1 _ (gt_3 (List.mem_of_getElem? (i := 223) rfl))) (h1 _ (gt_1 (List.mem_of_getElem? (i := 19) rfl))) (va_eqt (hs (Cond.eq (.static "java/lang/String" "COMPACT_STRINGS" "Z") (.int 1)) (by decide +kernel))) (fun a h => Nat.not_le.mpr h)
theorem sz_sioobe {G : wd_G} (hG : gd_ok G) : va_Zq "jdk/internal/util/Preconditions" "SIOOBE_FORMATTER" "Ljava/util/function/BiFunction;" (wd_A G) G.1 G.1.heap := by
  obtain ⟨-, a0, h1, h2⟩ := hG
  have hs := flat_of_before _ h2
  exact va_Zqof (args := a0) (h1 _ (gt_4 (List.mem_of_getElem? (i := 3) rfl))) (h1 _ (gt_1 (List.mem_of_getElem? (i := 21) rfl))) (hs (Cond.isRef (.static "jdk/internal/util/Preconditions" "SIOOBE_FORMATTER" "Ljava/util/function/BiFunction;")) (by decide +kernel)) (fun a h => Nat.not_le.mpr h)
theorem sx_nar (b : Int32) : narrow .char (.int (sx_c b)) = .int (sx_c b) := by
  unfold sx_c
  simp only [narrow]
  have h : ∀ x : UInt32, x % 65536 % 65536 = x % 65536 := fun x => UInt32.toNat_inj.mp (by simp)
  simp [h]
theorem ok_S_coder {G : wd_G} {l : Launch} (hN : gd_ok G) (a : Nat) (w : List Int32) (hw : sx_at G a w) (σ : hp_I) (τ : hp_L) : cl_C G l 0 yJ0_coder_7d493 cJ0_coder_7d493 1 (some .byte) [.ref a] σ τ (ci_i σ τ) (some (0 : Int32)) := by
  refine cl_of (lv0 := [(0, .ref a)]) (ci_i σ τ) (by decide) (Nat.le_of_ble_eq_true rfl) rfl hN (fun M hM C => ?_)
  have C : cx_C G M RJ0 cJ0_coder_7d493 1 0 (some .byte) := C
  obtain ⟨hl, v, h1, h2, h3, h4⟩ := hw
  refine dn_gets C (sz_compact (cx_g C)) fs_J0_38 dJ0_coder_7d493_0 rfl ?_
  refine dn_ex (ex2 := if (1 : Int32) = 0 then none else some 0) rfl ?_
  refine dn_if_eq (t := 13) C dJ0_coder_7d493_3 (by decide) rfl dn_none ?_
  refine dn_aload_n C dJ0_coder_7d493_6 rfl 0 rfl rfl ?_
  refine dn_ofld C h2 fs_J0_15 dJ0_coder_7d493_7 rfl ?_
  refine dn_goto (t := 14) C dJ0_coder_7d493_10 (by decide) ?_
  exact dn_nret C (by decide) dJ0_coder_7d493_14 rfl
theorem ok_S_isLatin1 {G : wd_G} {l : Launch} (hN : gd_ok G) (a : Nat) (w : List Int32) (hw : sx_at G a w) (σ : hp_I) (τ : hp_L) : cl_C G l 0 yJ0_isLatin1_aae02 cJ0_isLatin1_aae02 1 (some .boolean) [.ref a] σ τ (ci_i σ τ) (some (1 : Int32)) := by
  refine cl_of (lv0 := [(0, .ref a)]) (ci_i σ τ) (by decide) (Nat.le_of_ble_eq_true rfl) rfl hN (fun M hM C => ?_)
  have C : cx_C G M RJ0 cJ0_isLatin1_aae02 1 0 (some .boolean) := C
  obtain ⟨hl, v, h1, h2, h3, h4⟩ := hw
  refine dn_gets C (sz_compact (cx_g C)) fs_J0_38 dJ0_isLatin1_aae02_0 rfl ?_
  refine dn_ex (ex2 := if (1 : Int32) = 0 then none else (if (0 : Int32) = 0 then some 1 else none)) rfl ?_
  refine dn_if_eq (t := 17) C dJ0_isLatin1_aae02_3 (by decide) rfl dn_none ?_
  refine dn_aload_n C dJ0_isLatin1_aae02_6 rfl 0 rfl rfl ?_
  refine dn_ofld C h2 fs_J0_15 dJ0_isLatin1_aae02_7 rfl ?_
  refine dn_if_ne (t := 17) C dJ0_isLatin1_aae02_10 (by decide) rfl ?_ dn_none
  refine dn_iconst C dJ0_isLatin1_aae02_13 ic_i_1 rfl ?_
  refine dn_goto (t := 18) C dJ0_isLatin1_aae02_14 (by decide) ?_
  exact dn_nret C (by decide) dJ0_isLatin1_aae02_18 rfl
theorem ok_S_length {G : wd_G} {l : Launch} (hN : gd_ok G) (a : Nat) (w : List Int32) (hw : sx_at G a w) (σ : hp_I) (τ : hp_L) : cl_C G l 1 yJ0_length_8abf5 cJ0_length_8abf5 1 (some .int) [.ref a] σ τ (ci_i σ τ) (some (sx_len w)) := by
  refine cl_of (lv0 := [(0, .ref a)]) (ci_i σ τ) (by decide) (Nat.le_of_ble_eq_true rfl) rfl hN (fun M hM C => ?_)
  have C : cx_C G M RJ0 cJ0_length_8abf5 1 1 (some .int) := C
  obtain ⟨hl, v, h1, h2, h3, h4⟩ := id hw
  refine dn_aload_n C dJ0_length_8abf5_0 rfl 0 rfl rfl ?_
  refine dn_ofld C h3 fs_J0_9 dJ0_length_8abf5_1 rfl ?_
  refine dn_tlen C h4 dJ0_length_8abf5_4 rfl ?_
  refine dn_aload_n C dJ0_length_8abf5_5 rfl 0 rfl rfl ?_
  refine dn_ex (ex2 := Option.bind (some (0 : Int32)) fun z => some (Int32.ofNat w.length >>> (z &&& 31))) rfl ?_
  refine dn_callO (As := []) (st := [.int (Int32.ofNat w.length)]) C (ok_S_coder (cx_g C) a w hw σ τ) mt_J0_coder_7d493 mo_J0_coder_7d493 lk_J0_335 (by decide) h1 rfl ⟨Nat.zero_le _, Nat.zero_le _⟩ (Nat.le_of_ble_eq_true rfl) dJ0_length_8abf5_6 rfl rfl (fun z => ?_)
  show dn_D G M 1 0 0 _ 9 _ [.int z, .int (Int32.ofNat w.length)] σ τ _
  refine dn_ishr C dJ0_length_8abf5_9 rfl ?_
  exact dn_iret C dJ0_length_8abf5_10 rfl
theorem ok_P_checkIndex {G : wd_G} {l : Launch} (hN : gd_ok G) (i m : Int32) (v : Value) (hv : v = .null ∨ ∃ t, v = .ref t) (σ : hp_I) (τ : hp_L) : cl_C G l 0 yJ3_checkIndex_8e157 cJ3_checkIndex_8e157 3 (some .int) [.int i, .int m, v] σ τ (ci_i σ τ) (sx_ci i m) := by
  have hc : v.category = 1 := by rcases hv with rfl | ⟨t, rfl⟩ <;> rfl
  refine cl_of (lv0 := [(0, .int i), (1, .int m), (2, v)]) (ci_i σ τ) (by decide) (by rcases hv with rfl | ⟨t, rfl⟩ <;> exact Nat.le_of_ble_eq_true rfl) rfl hN (fun M hM C => ?_)
  have C : cx_C G M RJ3 cJ3_checkIndex_8e157 3 0 (some .int) := C
  unfold sx_ci
  refine dn_iload_n C dJ3_checkIndex_8e157_0 rfl 0 rfl rfl ?_
  refine dn_if_lt (t := 9) C dJ3_checkIndex_8e157_1 (by decide) rfl ?_ dn_none
  refine dn_iload_n C dJ3_checkIndex_8e157_4 rfl 0 rfl rfl ?_
  refine dn_iload_n C dJ3_checkIndex_8e157_5 rfl 1 rfl rfl ?_
  refine dn_ex (ex2 := if m ≤ i then none else some i) (by by_cases h : i < m <;> simp [h]) ?_
  refine dn_icmp_lt (t := 16) C dJ3_checkIndex_8e157_6 (by decide) rfl dn_none ?_
  refine dn_iload_n C dJ3_checkIndex_8e157_16 rfl 0 rfl rfl ?_
  exact dn_iret C dJ3_checkIndex_8e157_17 rfl
def ci_v (σ : hp_I) (τ : hp_L) : Int32 → Option Value × hp_I × hp_L := fun _ => (none, σ, τ)
theorem ok_S_checkIndex {G : wd_G} {l : Launch} (hN : gd_ok G) (i m : Int32) (σ : hp_I) (τ : hp_L) : cl_C G l 1 yJ0_checkIndex_df160 cJ0_checkIndex_df160 2 none [.int i, .int m] σ τ (ci_v σ τ) (sx_ci i m) := by
  refine cl_of (lv0 := [(0, .int i), (1, .int m)]) (ci_v σ τ) (by decide) (Nat.le_of_ble_eq_true rfl) rfl hN (fun M hM C => ?_)
  have C : cx_C G M RJ0 cJ0_checkIndex_df160 2 1 none := C
  refine dn_iload_n C dJ0_checkIndex_df160_0 rfl 0 rfl rfl ?_
  refine dn_iload_n C dJ0_checkIndex_df160_1 rfl 1 rfl rfl ?_
  refine dn_ex (ex2 := Option.bind (sx_ci i m) some) (by cases sx_ci i m <;> rfl) ?_
  rcases sz_sioobe (cx_g C) with hz | ⟨t, hz⟩
  · refine dn_gets C hz fs_J0_1053 dJ0_checkIndex_df160_2 rfl ?_
    refine dn_callS_i (As := [.int i, .int m, .null]) (st := []) C (ok_P_checkIndex (cx_g C) i m .null (Or.inl rfl) σ τ) mt_J3_checkIndex_8e157 ms_J3_checkIndex_8e157 lk_J0_1059 (by decide) rfl ⟨Nat.zero_le _, Nat.zero_le _⟩ (Nat.le_of_ble_eq_true rfl) dJ0_checkIndex_df160_5 rfl rfl (fun z => ?_)
    refine dn_pop C dJ0_checkIndex_df160_8 rfl rfl ?_
    exact dn_vret C dJ0_checkIndex_df160_9 rfl
  · refine dn_gets C hz fs_J0_1053 dJ0_checkIndex_df160_2 rfl ?_
    refine dn_callS_i (As := [.int i, .int m, .ref t]) (st := []) C (ok_P_checkIndex (cx_g C) i m (.ref t) (Or.inr ⟨t, rfl⟩) σ τ) mt_J3_checkIndex_8e157 ms_J3_checkIndex_8e157 lk_J0_1059 (by decide) rfl ⟨Nat.zero_le _, Nat.zero_le _⟩ (Nat.le_of_ble_eq_true rfl) dJ0_checkIndex_df160_5 rfl rfl (fun z => ?_)
    refine dn_pop C dJ0_checkIndex_df160_8 rfl rfl ?_
    exact dn_vret C dJ0_checkIndex_df160_9 rfl
theorem sx_in {i : Int32} {w : List Int32} (hw : w.length < 2 ^ 31) (h : px_in i w.length = true) : sx_ci i (Int32.ofNat w.length) = some i := by
  obtain ⟨j, hj, rfl⟩ := vp_in_of (px_in_vp h) hw
  show (if 0 ≤ nI j then (if nI j < nI w.length then some (nI j) else none) else none) = some (nI j)
  rw [if_pos (nI_pos' (by omega)), if_pos (nI_lt hj hw)]
theorem ok_S_lat {G : wd_G} {l : Launch} (hN : gd_ok G) (v : Nat) (w : List Int32) (hl : w.length < 2 ^ 31) (h4 : va_T .byte v w.length (fun j => .int (w.getD j 0)) (wd_A G) G.1 G.1.heap) (i : Int32) (σ : hp_I) (τ : hp_L) : cl_C G l 2 yJ1_charAt_3b067 cJ1_charAt_3b067 2 (some .char) [.ref v, .int i] σ τ (ci_i σ τ) (sx_chr w i) := by
  unfold sx_chr
  by_cases hi : px_in i w.length = true
  · rw [if_pos hi]
    refine cl_of (lv0 := [(0, .ref v), (1, .int i)]) (ci_i σ τ) (by decide) (Nat.le_of_ble_eq_true rfl) rfl hN (fun M hM C => ?_)
    have C : cx_C G M RJ1 cJ1_charAt_3b067 2 2 (some .char) := C
    refine dn_iload_n C dJ1_charAt_3b067_0 rfl 1 rfl rfl ?_
    refine dn_aload_n C dJ1_charAt_3b067_1 rfl 0 rfl rfl ?_
    refine dn_tlen C h4 dJ1_charAt_3b067_2 rfl ?_
    refine dn_ex (ex2 := Option.bind (sx_ci i (Int32.ofNat w.length)) fun _ => some (sx_c (w.getD i.toNatClampNeg 0))) (by rw [sx_in hl hi]; rfl) ?_
    refine dn_callS (As := [.int i, .int (Int32.ofNat w.length)]) (st := []) C (ok_S_checkIndex (cx_g C) i (Int32.ofNat w.length) σ τ) mt_J0_checkIndex_df160 ms_J0_checkIndex_df160 lk_J1_9 (by decide) rfl ⟨Nat.zero_le _, Nat.zero_le _⟩ (Nat.le_of_ble_eq_true rfl) dJ1_charAt_3b067_3 rfl rfl (fun z => ?_)
    show dn_D G M 2 0 0 _ 6 _ [] σ τ _
    refine dn_aload_n C dJ1_charAt_3b067_6 rfl 0 rfl rfl ?_
    refine dn_iload_n C dJ1_charAt_3b067_7 rfl 1 rfl rfl ?_
    refine dn_tb C h4 (px_in_vp hi) dJ1_charAt_3b067_8 rfl ?_
    refine dn_sipush C dJ1_charAt_3b067_9 ic_s_255 rfl ?_
    refine dn_iand C dJ1_charAt_3b067_12 rfl ?_
    refine dn_i2c C dJ1_charAt_3b067_13 rfl ?_
    exact dn_nret C (sx_nar _) dJ1_charAt_3b067_14 rfl
  · rw [if_neg hi]
    intro r hr
    cases hr
theorem ok_S_charAt {G : wd_G} {l : Launch} (hN : gd_ok G) (a : Nat) (w : List Int32) (hw : sx_at G a w) (i : Int32) (σ : hp_I) (τ : hp_L) : cl_C G l 3 yJ0_charAt_5068e cJ0_charAt_5068e 2 (some .char) [.ref a, .int i] σ τ (ci_i σ τ) (sx_chr w i) := by
  obtain ⟨hl, v, h1, h2, h3, h4⟩ := id hw
  unfold sx_chr
  by_cases hi : px_in i w.length = true
  · rw [if_pos hi]
    refine cl_of (lv0 := [(0, .ref a), (1, .int i)]) (ci_i σ τ) (by decide) (Nat.le_of_ble_eq_true rfl) rfl hN (fun M hM C => ?_)
    have C : cx_C G M RJ0 cJ0_charAt_5068e 2 3 (some .char) := C
    refine dn_aload_n C dJ0_charAt_5068e_0 rfl 0 rfl rfl ?_
    refine dn_ex (ex2 := Option.bind (some (1 : Int32)) fun z => if z = 0 then none else Option.bind (sx_chr w i) some) (by unfold sx_chr; rw [if_pos hi]; rfl) ?_
    refine dn_callO (As := []) (st := []) C (ok_S_isLatin1 (cx_g C) a w hw σ τ) mt_J0_isLatin1_aae02 mo_J0_isLatin1_aae02 lk_J0_492 (by decide) h1 rfl ⟨Nat.zero_le _, Nat.zero_le _⟩ (Nat.le_of_ble_eq_true rfl) dJ0_charAt_5068e_1 rfl rfl (fun z => ?_)
    show dn_D G M 2 0 0 _ 4 _ [.int z] σ τ _
    refine dn_if_eq (t := 16) C dJ0_charAt_5068e_4 (by decide) rfl dn_none ?_
    refine dn_aload_n C dJ0_charAt_5068e_7 rfl 0 rfl rfl ?_
    refine dn_ofld C h3 fs_J0_9 dJ0_charAt_5068e_8 rfl ?_
    refine dn_iload_n C dJ0_charAt_5068e_11 rfl 1 rfl rfl ?_
    rw [show (Option.bind (sx_chr w i) some) = Option.bind (sx_chr w i) (fun z => some z) from rfl]
    refine dn_ex (ex2 := Option.bind (some (sx_c (w.getD i.toNatClampNeg 0))) (fun _ => some (sx_c (w.getD i.toNatClampNeg 0)))) (by unfold sx_chr; rw [if_pos hi]; rfl) ?_
    have hK : cl_C G (mx_L M) 2 yJ1_charAt_3b067 cJ1_charAt_3b067 2 (some .char) [.ref v, .int i] σ τ (ci_i σ τ) (some (sx_c (w.getD i.toNatClampNeg 0))) := by
      have := ok_S_lat (l := mx_L M) (cx_g C) v w hl h4 i σ τ
      unfold sx_chr at this
      rw [if_pos hi] at this
      exact this
    intro r hr H locs ls hP hS hl2
    have hr2 : some (sx_c (w.getD i.toNatClampNeg 0)) = some r := hr
    refine dn_callS_i (f := fun z => if z = sx_c (w.getD i.toNatClampNeg 0) then some z else none) (As := [.ref v, .int i]) (st := []) C hK mt_J1_charAt_3b067 ms_J1_charAt_3b067 lk_J0_495 (by decide) rfl ⟨Nat.zero_le _, Nat.zero_le _⟩ (Nat.le_of_ble_eq_true rfl) dJ0_charAt_5068e_12 rfl rfl (fun z => ?_) r (by show (if _ = _ then _ else _) = _; rw [if_pos rfl]; exact hr2) H locs ls hP hS hl2
    by_cases hz : z = sx_c (w.getD i.toNatClampNeg 0)
    · rw [if_pos hz]
      exact dn_nret C (by rw [hz]; exact sx_nar _) dJ0_charAt_5068e_15 rfl
    · rw [if_neg hz]; exact dn_none
  · rw [if_neg hi]
    intro r hr
    cases hr
section SX2
variable {G : wd_G} {M : wd_M} {own : String} {cc : ByteArray} {nL n cells slots : Nat} {ret : Option FieldType} {ρ : Type} {Q : ρ → State → Prop} {pc q : Nat} {lv : List (Nat × Value)} {st : List Value} {σ : hp_I} {τ : hp_L} {ex : Option ρ}
theorem dn_slen {a idx : Nat} {w : List Int32} (C : cx_C G M own cc nL n ret) (hw : sx_at G a w) (hlk : Cond.methodLink own idx yJ0_length_8abf5 ∈ gw_tbl) (hn : 1 < n) (hcs : cells ≤ (mx_R M).cells ∧ slots ≤ (mx_R M).slots) (hcat : (st.map fun v => v.category).sum ≤ 8) (hd : decode cc pc = .ok (.invokevirtual idx, 3)) (hq : pc + 3 = q) (k : dn_D G M nL cells slots Q q lv (.int (sx_len w) :: st) σ τ ex) : dn_D G M nL cells slots Q pc lv (.ref a :: st) σ τ ex := by
  intro r hr H locs ls hP hS hl
  refine dn_callO (f := fun z => if z = sx_len w then ex else none) (As := []) (st := st) C (ok_S_length (cx_g C) a w hw σ τ) mt_J0_length_8abf5 mo_J0_length_8abf5 hlk hn hw.2.choose_spec.1 rfl hcs hcat hd rfl hq (fun z => ?_) r (by show (if _ = _ then _ else _) = _; rw [if_pos rfl]; exact hr) H locs ls hP hS hl
  show dn_D G M nL cells slots Q q lv (.int z :: st) σ τ _
  by_cases hz : z = sx_len w
  · rw [if_pos hz, hz]; exact k
  · rw [if_neg hz]; exact dn_none
theorem dn_schr {a idx : Nat} {w : List Int32} {i : Int32} {f : Int32 → Option ρ} (C : cx_C G M own cc nL n ret) (hw : sx_at G a w) (hlk : Cond.methodLink own idx yJ0_charAt_5068e ∈ gw_tbl) (hn : 3 < n) (hcs : cells ≤ (mx_R M).cells ∧ slots ≤ (mx_R M).slots) (hcat : (st.map fun v => v.category).sum ≤ 8) (hd : decode cc pc = .ok (.invokevirtual idx, 3)) (hq : pc + 3 = q) (k : ∀ z, dn_D G M nL cells slots Q q lv (.int z :: st) σ τ (f z)) : dn_D G M nL cells slots Q pc lv (.int i :: .ref a :: st) σ τ (Option.bind (sx_chr w i) f) := by
  refine dn_callO (As := [.int i]) (st := st) C (ok_S_charAt (cx_g C) a w hw i σ τ) mt_J0_charAt_5068e mo_J0_charAt_5068e hlk hn hw.2.choose_spec.1 rfl hcs hcat hd rfl hq (fun z => ?_)
  exact k z
end SX2
def ww_t27 : List Int32 := [97, 32, 110, 117, 109, 98, 101, 114, 32, 111, 117, 116, 115, 105, 100, 101, 32, 105, 116, 115, 32, 98, 111, 117, 110, 100, 115]
theorem sc_X11_384 {G : wd_G} (hG : gd_ok G) : ∃ a : Nat, vk_R RX11 384 "a number outside its bounds" a G.1 ∧ sx_at G a ww_t27 := by
  obtain ⟨-, a0, h1, h2⟩ := hG
  have hs := flat_of_before _ h2
  obtain ⟨adK, adV, ⟨hS, -⟩, he⟩ := vk_Sof (args := a0) (s := G.1) (N := 1) (tm := fun _ => (.string "IdeaMousers" 384)) (len := [27]) (byt := [ww_t27]) (A := wd_A G) (by decide) (fun _ _ => hs _ (by decide +kernel)) (fun _ _ => hs _ (by decide +kernel)) (fun _ _ => hs _ (by decide +kernel))
    (fun i hi => by have e : i = 0 := by omega
                    subst e; exact hs (Cond.eq (.length (.field (.string "IdeaMousers" 384) "java/lang/String" "value" "[B")) (.int 27)) (by decide +kernel))
    (fun i hi j hj => by
      have e : i = 0 := by omega
      subst e
      have hj : j < 27 := hj
      match j, hj with
      | 0, _ => exact hs (Cond.eq (.elem (.field (.string "IdeaMousers" 384) "java/lang/String" "value" "[B") (.int 0)) (.int 97)) (by decide +kernel)
      | 1, _ => exact hs (Cond.eq (.elem (.field (.string "IdeaMousers" 384) "java/lang/String" "value" "[B") (.int 1)) (.int 32)) (by decide +kernel)
      | 2, _ => exact hs (Cond.eq (.elem (.field (.string "IdeaMousers" 384) "java/lang/String" "value" "[B") (.int 2)) (.int 110)) (by decide +kernel)
      | 3, _ => exact hs (Cond.eq (.elem (.field (.string "IdeaMousers" 384) "java/lang/String" "value" "[B") (.int 3)) (.int 117)) (by decide +kernel)
      | 4, _ => exact hs (Cond.eq (.elem (.field (.string "IdeaMousers" 384) "java/lang/String" "value" "[B") (.int 4)) (.int 109)) (by decide +kernel)
      | 5, _ => exact hs (Cond.eq (.elem (.field (.string "IdeaMousers" 384) "java/lang/String" "value" "[B") (.int 5)) (.int 98)) (by decide +kernel)
      | 6, _ => exact hs (Cond.eq (.elem (.field (.string "IdeaMousers" 384) "java/lang/String" "value" "[B") (.int 6)) (.int 101)) (by decide +kernel)
      | 7, _ => exact hs (Cond.eq (.elem (.field (.string "IdeaMousers" 384) "java/lang/String" "value" "[B") (.int 7)) (.int 114)) (by decide +kernel)
      | 8, _ => exact hs (Cond.eq (.elem (.field (.string "IdeaMousers" 384) "java/lang/String" "value" "[B") (.int 8)) (.int 32)) (by decide +kernel)
      | 9, _ => exact hs (Cond.eq (.elem (.field (.string "IdeaMousers" 384) "java/lang/String" "value" "[B") (.int 9)) (.int 111)) (by decide +kernel)
      | 10, _ => exact hs (Cond.eq (.elem (.field (.string "IdeaMousers" 384) "java/lang/String" "value" "[B") (.int 10)) (.int 117)) (by decide +kernel)
      | 11, _ => exact hs (Cond.eq (.elem (.field (.string "IdeaMousers" 384) "java/lang/String" "value" "[B") (.int 11)) (.int 116)) (by decide +kernel)
      | 12, _ => exact hs (Cond.eq (.elem (.field (.string "IdeaMousers" 384) "java/lang/String" "value" "[B") (.int 12)) (.int 115)) (by decide +kernel)
      | 13, _ => exact hs (Cond.eq (.elem (.field (.string "IdeaMousers" 384) "java/lang/String" "value" "[B") (.int 13)) (.int 105)) (by decide +kernel)
      | 14, _ => exact hs (Cond.eq (.elem (.field (.string "IdeaMousers" 384) "java/lang/String" "value" "[B") (.int 14)) (.int 100)) (by decide +kernel)
      | 15, _ => exact hs (Cond.eq (.elem (.field (.string "IdeaMousers" 384) "java/lang/String" "value" "[B") (.int 15)) (.int 101)) (by decide +kernel)
      | 16, _ => exact hs (Cond.eq (.elem (.field (.string "IdeaMousers" 384) "java/lang/String" "value" "[B") (.int 16)) (.int 32)) (by decide +kernel)
      | 17, _ => exact hs (Cond.eq (.elem (.field (.string "IdeaMousers" 384) "java/lang/String" "value" "[B") (.int 17)) (.int 105)) (by decide +kernel)
      | 18, _ => exact hs (Cond.eq (.elem (.field (.string "IdeaMousers" 384) "java/lang/String" "value" "[B") (.int 18)) (.int 116)) (by decide +kernel)
      | 19, _ => exact hs (Cond.eq (.elem (.field (.string "IdeaMousers" 384) "java/lang/String" "value" "[B") (.int 19)) (.int 115)) (by decide +kernel)
      | 20, _ => exact hs (Cond.eq (.elem (.field (.string "IdeaMousers" 384) "java/lang/String" "value" "[B") (.int 20)) (.int 32)) (by decide +kernel)
      | 21, _ => exact hs (Cond.eq (.elem (.field (.string "IdeaMousers" 384) "java/lang/String" "value" "[B") (.int 21)) (.int 98)) (by decide +kernel)
      | 22, _ => exact hs (Cond.eq (.elem (.field (.string "IdeaMousers" 384) "java/lang/String" "value" "[B") (.int 22)) (.int 111)) (by decide +kernel)
      | 23, _ => exact hs (Cond.eq (.elem (.field (.string "IdeaMousers" 384) "java/lang/String" "value" "[B") (.int 23)) (.int 117)) (by decide +kernel)
      | 24, _ => exact hs (Cond.eq (.elem (.field (.string "IdeaMousers" 384) "java/lang/String" "value" "[B") (.int 24)) (.int 110)) (by decide +kernel)
      | 25, _ => exact hs (Cond.eq (.elem (.field (.string "IdeaMousers" 384) "java/lang/String" "value" "[B") (.int 25)) (.int 100)) (by decide +kernel)
      | 26, _ => exact hs (Cond.eq (.elem (.field (.string "IdeaMousers" 384) "java/lang/String" "value" "[B") (.int 26)) (.int 115)) (by decide +kernel)
      | j + 27, hj => exact absurd hj (by omega))
    (fun i j h1 h2 h3 => absurd (show i = j by omega) h3) (fun a h => Nat.not_le.mpr h)
  obtain ⟨q1, q2, q3, q4⟩ := hS 0 (by decide)
  exact ⟨adK 0, vk_R.of (h1 _ (gt_3 (List.mem_of_getElem? (i := 153) rfl))) (he 0 (by decide)) , by decide, adV 0, q1, q2, q3, q4⟩
def ww_room : List Int32 := [114, 111, 111, 109]
theorem sc_X3_73 {G : wd_G} (hG : gd_ok G) : ∃ a : Nat, vk_R RX3 73 "room" a G.1 ∧ sx_at G a ww_room := by
  obtain ⟨-, a0, h1, h2⟩ := hG
  have hs := flat_of_before _ h2
  obtain ⟨adK, adV, ⟨hS, -⟩, he⟩ := vk_Sof (args := a0) (s := G.1) (N := 1) (tm := fun _ => (.string "IdeaMousers$House" 73)) (len := [4]) (byt := [ww_room]) (A := wd_A G) (by decide) (fun _ _ => hs _ (by decide +kernel)) (fun _ _ => hs _ (by decide +kernel)) (fun _ _ => hs _ (by decide +kernel))
    (fun i hi => by have e : i = 0 := by omega
                    subst e; exact hs (Cond.eq (.length (.field (.string "IdeaMousers$House" 73) "java/lang/String" "value" "[B")) (.int 4)) (by decide +kernel))
    (fun i hi j hj => by
      have e : i = 0 := by omega
      subst e
      have hj : j < 4 := hj
      match j, hj with
      | 0, _ => exact hs (Cond.eq (.elem (.field (.string "IdeaMousers$House" 73) "java/lang/String" "value" "[B") (.int 0)) (.int 114)) (by decide +kernel)
      | 1, _ => exact hs (Cond.eq (.elem (.field (.string "IdeaMousers$House" 73) "java/lang/String" "value" "[B") (.int 1)) (.int 111)) (by decide +kernel)
      | 2, _ => exact hs (Cond.eq (.elem (.field (.string "IdeaMousers$House" 73) "java/lang/String" "value" "[B") (.int 2)) (.int 111)) (by decide +kernel)
      | 3, _ => exact hs (Cond.eq (.elem (.field (.string "IdeaMousers$House" 73) "java/lang/String" "value" "[B") (.int 3)) (.int 109)) (by decide +kernel)
      | j + 4, hj => exact absurd hj (by omega))
    (fun i j h1 h2 h3 => absurd (show i = j by omega) h3) (fun a h => Nat.not_le.mpr h)
  obtain ⟨q1, q2, q3, q4⟩ := hS 0 (by decide)
  exact ⟨adK 0, vk_R.of (h1 _ (gt_3 (List.mem_of_getElem? (i := 209) rfl))) (he 0 (by decide)) , by decide, adV 0, q1, q2, q3, q4⟩
def ww_way : List Int32 := [119, 97, 121]
theorem sc_X3_83 {G : wd_G} (hG : gd_ok G) : ∃ a : Nat, vk_R RX3 83 "way" a G.1 ∧ sx_at G a ww_way := by
  obtain ⟨-, a0, h1, h2⟩ := hG
  have hs := flat_of_before _ h2
  obtain ⟨adK, adV, ⟨hS, -⟩, he⟩ := vk_Sof (args := a0) (s := G.1) (N := 1) (tm := fun _ => (.string "IdeaMousers$House" 83)) (len := [3]) (byt := [ww_way]) (A := wd_A G) (by decide) (fun _ _ => hs _ (by decide +kernel)) (fun _ _ => hs _ (by decide +kernel)) (fun _ _ => hs _ (by decide +kernel))
    (fun i hi => by have e : i = 0 := by omega
                    subst e; exact hs (Cond.eq (.length (.field (.string "IdeaMousers$House" 83) "java/lang/String" "value" "[B")) (.int 3)) (by decide +kernel))
    (fun i hi j hj => by
      have e : i = 0 := by omega
      subst e
      have hj : j < 3 := hj
      match j, hj with
      | 0, _ => exact hs (Cond.eq (.elem (.field (.string "IdeaMousers$House" 83) "java/lang/String" "value" "[B") (.int 0)) (.int 119)) (by decide +kernel)
      | 1, _ => exact hs (Cond.eq (.elem (.field (.string "IdeaMousers$House" 83) "java/lang/String" "value" "[B") (.int 1)) (.int 97)) (by decide +kernel)
      | 2, _ => exact hs (Cond.eq (.elem (.field (.string "IdeaMousers$House" 83) "java/lang/String" "value" "[B") (.int 2)) (.int 121)) (by decide +kernel)
      | j + 3, hj => exact absurd hj (by omega))
    (fun i j h1 h2 h3 => absurd (show i = j by omega) h3) (fun a h => Nat.not_le.mpr h)
  obtain ⟨q1, q2, q3, q4⟩ := hS 0 (by decide)
  exact ⟨adK 0, vk_R.of (h1 _ (gt_4 (List.mem_of_getElem? (i := 40) rfl))) (he 0 (by decide)) , by decide, adV 0, q1, q2, q3, q4⟩
def ww_scheme : List Int32 := [115, 99, 104, 101, 109, 101]
theorem sc_X3_88 {G : wd_G} (hG : gd_ok G) : ∃ a : Nat, vk_R RX3 88 "scheme" a G.1 ∧ sx_at G a ww_scheme := by
  obtain ⟨-, a0, h1, h2⟩ := hG
  have hs := flat_of_before _ h2
  obtain ⟨adK, adV, ⟨hS, -⟩, he⟩ := vk_Sof (args := a0) (s := G.1) (N := 1) (tm := fun _ => (.string "IdeaMousers$House" 88)) (len := [6]) (byt := [ww_scheme]) (A := wd_A G) (by decide) (fun _ _ => hs _ (by decide +kernel)) (fun _ _ => hs _ (by decide +kernel)) (fun _ _ => hs _ (by decide +kernel))
    (fun i hi => by have e : i = 0 := by omega
                    subst e; exact hs (Cond.eq (.length (.field (.string "IdeaMousers$House" 88) "java/lang/String" "value" "[B")) (.int 6)) (by decide +kernel))
    (fun i hi j hj => by
      have e : i = 0 := by omega
      subst e
      have hj : j < 6 := hj
      match j, hj with
      | 0, _ => exact hs (Cond.eq (.elem (.field (.string "IdeaMousers$House" 88) "java/lang/String" "value" "[B") (.int 0)) (.int 115)) (by decide +kernel)
      | 1, _ => exact hs (Cond.eq (.elem (.field (.string "IdeaMousers$House" 88) "java/lang/String" "value" "[B") (.int 1)) (.int 99)) (by decide +kernel)
      | 2, _ => exact hs (Cond.eq (.elem (.field (.string "IdeaMousers$House" 88) "java/lang/String" "value" "[B") (.int 2)) (.int 104)) (by decide +kernel)
      | 3, _ => exact hs (Cond.eq (.elem (.field (.string "IdeaMousers$House" 88) "java/lang/String" "value" "[B") (.int 3)) (.int 101)) (by decide +kernel)
      | 4, _ => exact hs (Cond.eq (.elem (.field (.string "IdeaMousers$House" 88) "java/lang/String" "value" "[B") (.int 4)) (.int 109)) (by decide +kernel)
      | 5, _ => exact hs (Cond.eq (.elem (.field (.string "IdeaMousers$House" 88) "java/lang/String" "value" "[B") (.int 5)) (.int 101)) (by decide +kernel)
      | j + 6, hj => exact absurd hj (by omega))
    (fun i j h1 h2 h3 => absurd (show i = j by omega) h3) (fun a h => Nat.not_le.mpr h)
  obtain ⟨q1, q2, q3, q4⟩ := hS 0 (by decide)
  exact ⟨adK 0, vk_R.of (h1 _ (gt_4 (List.mem_of_getElem? (i := 49) rfl))) (he 0 (by decide)) , by decide, adV 0, q1, q2, q3, q4⟩
theorem sc_X4_115 {G : wd_G} (hG : gd_ok G) : ∃ a : Nat, vk_R RX4 115 "scheme" a G.1 ∧ sx_at G a ww_scheme := by
  obtain ⟨-, a0, h1, h2⟩ := hG
  have hs := flat_of_before _ h2
  obtain ⟨adK, adV, ⟨hS, -⟩, he⟩ := vk_Sof (args := a0) (s := G.1) (N := 1) (tm := fun _ => (.string "IdeaMousers$Law" 115)) (len := [6]) (byt := [ww_scheme]) (A := wd_A G) (by decide) (fun _ _ => hs _ (by decide +kernel)) (fun _ _ => hs _ (by decide +kernel)) (fun _ _ => hs _ (by decide +kernel))
    (fun i hi => by have e : i = 0 := by omega
                    subst e; exact hs (Cond.eq (.length (.field (.string "IdeaMousers$Law" 115) "java/lang/String" "value" "[B")) (.int 6)) (by decide +kernel))
    (fun i hi j hj => by
      have e : i = 0 := by omega
      subst e
      have hj : j < 6 := hj
      match j, hj with
      | 0, _ => exact hs (Cond.eq (.elem (.field (.string "IdeaMousers$Law" 115) "java/lang/String" "value" "[B") (.int 0)) (.int 115)) (by decide +kernel)
      | 1, _ => exact hs (Cond.eq (.elem (.field (.string "IdeaMousers$Law" 115) "java/lang/String" "value" "[B") (.int 1)) (.int 99)) (by decide +kernel)
      | 2, _ => exact hs (Cond.eq (.elem (.field (.string "IdeaMousers$Law" 115) "java/lang/String" "value" "[B") (.int 2)) (.int 104)) (by decide +kernel)
      | 3, _ => exact hs (Cond.eq (.elem (.field (.string "IdeaMousers$Law" 115) "java/lang/String" "value" "[B") (.int 3)) (.int 101)) (by decide +kernel)
      | 4, _ => exact hs (Cond.eq (.elem (.field (.string "IdeaMousers$Law" 115) "java/lang/String" "value" "[B") (.int 4)) (.int 109)) (by decide +kernel)
      | 5, _ => exact hs (Cond.eq (.elem (.field (.string "IdeaMousers$Law" 115) "java/lang/String" "value" "[B") (.int 5)) (.int 101)) (by decide +kernel)
      | j + 6, hj => exact absurd hj (by omega))
    (fun i j h1 h2 h3 => absurd (show i = j by omega) h3) (fun a h => Nat.not_le.mpr h)
  obtain ⟨q1, q2, q3, q4⟩ := hS 0 (by decide)
  exact ⟨adK 0, vk_R.of (h1 _ (gt_4 (List.mem_of_getElem? (i := 157) rfl))) (he 0 (by decide)) , by decide, adV 0, q1, q2, q3, q4⟩
def ww_cat : List Int32 := [99, 97, 116]
theorem sc_X3_93 {G : wd_G} (hG : gd_ok G) : ∃ a : Nat, vk_R RX3 93 "cat" a G.1 ∧ sx_at G a ww_cat := by
  obtain ⟨-, a0, h1, h2⟩ := hG
  have hs := flat_of_before _ h2
  obtain ⟨adK, adV, ⟨hS, -⟩, he⟩ := vk_Sof (args := a0) (s := G.1) (N := 1) (tm := fun _ => (.string "IdeaMousers$House" 93)) (len := [3]) (byt := [ww_cat]) (A := wd_A G) (by decide) (fun _ _ => hs _ (by decide +kernel)) (fun _ _ => hs _ (by decide +kernel)) (fun _ _ => hs _ (by decide +kernel))
    (fun i hi => by have e : i = 0 := by omega
                    subst e; exact hs (Cond.eq (.length (.field (.string "IdeaMousers$House" 93) "java/lang/String" "value" "[B")) (.int 3)) (by decide +kernel))
    (fun i hi j hj => by
      have e : i = 0 := by omega
      subst e
      have hj : j < 3 := hj
      match j, hj with
      | 0, _ => exact hs (Cond.eq (.elem (.field (.string "IdeaMousers$House" 93) "java/lang/String" "value" "[B") (.int 0)) (.int 99)) (by decide +kernel)
      | 1, _ => exact hs (Cond.eq (.elem (.field (.string "IdeaMousers$House" 93) "java/lang/String" "value" "[B") (.int 1)) (.int 97)) (by decide +kernel)
      | 2, _ => exact hs (Cond.eq (.elem (.field (.string "IdeaMousers$House" 93) "java/lang/String" "value" "[B") (.int 2)) (.int 116)) (by decide +kernel)
      | j + 3, hj => exact absurd hj (by omega))
    (fun i j h1 h2 h3 => absurd (show i = j by omega) h3) (fun a h => Nat.not_le.mpr h)
  obtain ⟨q1, q2, q3, q4⟩ := hS 0 (by decide)
  exact ⟨adK 0, vk_R.of (h1 _ (gt_4 (List.mem_of_getElem? (i := 54) rfl))) (he 0 (by decide)) , by decide, adV 0, q1, q2, q3, q4⟩
def ww_least : List Int32 := [108, 101, 97, 115, 116]
theorem sc_X4_83 {G : wd_G} (hG : gd_ok G) : ∃ a : Nat, vk_R RX4 83 "least" a G.1 ∧ sx_at G a ww_least := by
  obtain ⟨-, a0, h1, h2⟩ := hG
  have hs := flat_of_before _ h2
  obtain ⟨adK, adV, ⟨hS, -⟩, he⟩ := vk_Sof (args := a0) (s := G.1) (N := 1) (tm := fun _ => (.string "IdeaMousers$Law" 83)) (len := [5]) (byt := [ww_least]) (A := wd_A G) (by decide) (fun _ _ => hs _ (by decide +kernel)) (fun _ _ => hs _ (by decide +kernel)) (fun _ _ => hs _ (by decide +kernel))
    (fun i hi => by have e : i = 0 := by omega
                    subst e; exact hs (Cond.eq (.length (.field (.string "IdeaMousers$Law" 83) "java/lang/String" "value" "[B")) (.int 5)) (by decide +kernel))
    (fun i hi j hj => by
      have e : i = 0 := by omega
      subst e
      have hj : j < 5 := hj
      match j, hj with
      | 0, _ => exact hs (Cond.eq (.elem (.field (.string "IdeaMousers$Law" 83) "java/lang/String" "value" "[B") (.int 0)) (.int 108)) (by decide +kernel)
      | 1, _ => exact hs (Cond.eq (.elem (.field (.string "IdeaMousers$Law" 83) "java/lang/String" "value" "[B") (.int 1)) (.int 101)) (by decide +kernel)
      | 2, _ => exact hs (Cond.eq (.elem (.field (.string "IdeaMousers$Law" 83) "java/lang/String" "value" "[B") (.int 2)) (.int 97)) (by decide +kernel)
      | 3, _ => exact hs (Cond.eq (.elem (.field (.string "IdeaMousers$Law" 83) "java/lang/String" "value" "[B") (.int 3)) (.int 115)) (by decide +kernel)
      | 4, _ => exact hs (Cond.eq (.elem (.field (.string "IdeaMousers$Law" 83) "java/lang/String" "value" "[B") (.int 4)) (.int 116)) (by decide +kernel)
      | j + 5, hj => exact absurd hj (by omega))
    (fun i j h1 h2 h3 => absurd (show i = j by omega) h3) (fun a h => Nat.not_le.mpr h)
  obtain ⟨q1, q2, q3, q4⟩ := hS 0 (by decide)
  exact ⟨adK 0, vk_R.of (h1 _ (gt_4 (List.mem_of_getElem? (i := 141) rfl))) (he 0 (by decide)) , by decide, adV 0, q1, q2, q3, q4⟩
def ww_most : List Int32 := [109, 111, 115, 116]
theorem sc_X4_93 {G : wd_G} (hG : gd_ok G) : ∃ a : Nat, vk_R RX4 93 "most" a G.1 ∧ sx_at G a ww_most := by
  obtain ⟨-, a0, h1, h2⟩ := hG
  have hs := flat_of_before _ h2
  obtain ⟨adK, adV, ⟨hS, -⟩, he⟩ := vk_Sof (args := a0) (s := G.1) (N := 1) (tm := fun _ => (.string "IdeaMousers$Law" 93)) (len := [4]) (byt := [ww_most]) (A := wd_A G) (by decide) (fun _ _ => hs _ (by decide +kernel)) (fun _ _ => hs _ (by decide +kernel)) (fun _ _ => hs _ (by decide +kernel))
    (fun i hi => by have e : i = 0 := by omega
                    subst e; exact hs (Cond.eq (.length (.field (.string "IdeaMousers$Law" 93) "java/lang/String" "value" "[B")) (.int 4)) (by decide +kernel))
    (fun i hi j hj => by
      have e : i = 0 := by omega
      subst e
      have hj : j < 4 := hj
      match j, hj with
      | 0, _ => exact hs (Cond.eq (.elem (.field (.string "IdeaMousers$Law" 93) "java/lang/String" "value" "[B") (.int 0)) (.int 109)) (by decide +kernel)
      | 1, _ => exact hs (Cond.eq (.elem (.field (.string "IdeaMousers$Law" 93) "java/lang/String" "value" "[B") (.int 1)) (.int 111)) (by decide +kernel)
      | 2, _ => exact hs (Cond.eq (.elem (.field (.string "IdeaMousers$Law" 93) "java/lang/String" "value" "[B") (.int 2)) (.int 115)) (by decide +kernel)
      | 3, _ => exact hs (Cond.eq (.elem (.field (.string "IdeaMousers$Law" 93) "java/lang/String" "value" "[B") (.int 3)) (.int 116)) (by decide +kernel)
      | j + 4, hj => exact absurd hj (by omega))
    (fun i j h1 h2 h3 => absurd (show i = j by omega) h3) (fun a h => Nat.not_le.mpr h)
  obtain ⟨q1, q2, q3, q4⟩ := hS 0 (by decide)
  exact ⟨adK 0, vk_R.of (h1 _ (gt_4 (List.mem_of_getElem? (i := 147) rfl))) (he 0 (by decide)) , by decide, adV 0, q1, q2, q3, q4⟩
def ww_size : List Int32 := [115, 105, 122, 101]
theorem sc_X4_103 {G : wd_G} (hG : gd_ok G) : ∃ a : Nat, vk_R RX4 103 "size" a G.1 ∧ sx_at G a ww_size := by
  obtain ⟨-, a0, h1, h2⟩ := hG
  have hs := flat_of_before _ h2
  obtain ⟨adK, adV, ⟨hS, -⟩, he⟩ := vk_Sof (args := a0) (s := G.1) (N := 1) (tm := fun _ => (.string "IdeaMousers$Law" 103)) (len := [4]) (byt := [ww_size]) (A := wd_A G) (by decide) (fun _ _ => hs _ (by decide +kernel)) (fun _ _ => hs _ (by decide +kernel)) (fun _ _ => hs _ (by decide +kernel))
    (fun i hi => by have e : i = 0 := by omega
                    subst e; exact hs (Cond.eq (.length (.field (.string "IdeaMousers$Law" 103) "java/lang/String" "value" "[B")) (.int 4)) (by decide +kernel))
    (fun i hi j hj => by
      have e : i = 0 := by omega
      subst e
      have hj : j < 4 := hj
      match j, hj with
      | 0, _ => exact hs (Cond.eq (.elem (.field (.string "IdeaMousers$Law" 103) "java/lang/String" "value" "[B") (.int 0)) (.int 115)) (by decide +kernel)
      | 1, _ => exact hs (Cond.eq (.elem (.field (.string "IdeaMousers$Law" 103) "java/lang/String" "value" "[B") (.int 1)) (.int 105)) (by decide +kernel)
      | 2, _ => exact hs (Cond.eq (.elem (.field (.string "IdeaMousers$Law" 103) "java/lang/String" "value" "[B") (.int 2)) (.int 122)) (by decide +kernel)
      | 3, _ => exact hs (Cond.eq (.elem (.field (.string "IdeaMousers$Law" 103) "java/lang/String" "value" "[B") (.int 3)) (.int 101)) (by decide +kernel)
      | j + 4, hj => exact absurd hj (by omega))
    (fun i j h1 h2 h3 => absurd (show i = j by omega) h3) (fun a h => Nat.not_le.mpr h)
  obtain ⟨q1, q2, q3, q4⟩ := hS 0 (by decide)
  exact ⟨adK 0, vk_R.of (h1 _ (gt_4 (List.mem_of_getElem? (i := 151) rfl))) (he 0 (by decide)) , by decide, adV 0, q1, q2, q3, q4⟩
def ww_grow : List Int32 := [103, 114, 111, 119]
theorem sc_X4_105 {G : wd_G} (hG : gd_ok G) : ∃ a : Nat, vk_R RX4 105 "grow" a G.1 ∧ sx_at G a ww_grow := by
  obtain ⟨-, a0, h1, h2⟩ := hG
  have hs := flat_of_before _ h2
  obtain ⟨adK, adV, ⟨hS, -⟩, he⟩ := vk_Sof (args := a0) (s := G.1) (N := 1) (tm := fun _ => (.string "IdeaMousers$Law" 105)) (len := [4]) (byt := [ww_grow]) (A := wd_A G) (by decide) (fun _ _ => hs _ (by decide +kernel)) (fun _ _ => hs _ (by decide +kernel)) (fun _ _ => hs _ (by decide +kernel))
    (fun i hi => by have e : i = 0 := by omega
                    subst e; exact hs (Cond.eq (.length (.field (.string "IdeaMousers$Law" 105) "java/lang/String" "value" "[B")) (.int 4)) (by decide +kernel))
    (fun i hi j hj => by
      have e : i = 0 := by omega
      subst e
      have hj : j < 4 := hj
      match j, hj with
      | 0, _ => exact hs (Cond.eq (.elem (.field (.string "IdeaMousers$Law" 105) "java/lang/String" "value" "[B") (.int 0)) (.int 103)) (by decide +kernel)
      | 1, _ => exact hs (Cond.eq (.elem (.field (.string "IdeaMousers$Law" 105) "java/lang/String" "value" "[B") (.int 1)) (.int 114)) (by decide +kernel)
      | 2, _ => exact hs (Cond.eq (.elem (.field (.string "IdeaMousers$Law" 105) "java/lang/String" "value" "[B") (.int 2)) (.int 111)) (by decide +kernel)
      | 3, _ => exact hs (Cond.eq (.elem (.field (.string "IdeaMousers$Law" 105) "java/lang/String" "value" "[B") (.int 3)) (.int 119)) (by decide +kernel)
      | j + 4, hj => exact absurd hj (by omega))
    (fun i j h1 h2 h3 => absurd (show i = j by omega) h3) (fun a h => Nat.not_le.mpr h)
  obtain ⟨q1, q2, q3, q4⟩ := hS 0 (by decide)
  exact ⟨adK 0, vk_R.of (h1 _ (gt_4 (List.mem_of_getElem? (i := 152) rfl))) (he 0 (by decide)) , by decide, adV 0, q1, q2, q3, q4⟩
def ww_hide : List Int32 := [104, 105, 100, 101]
theorem sc_X4_107 {G : wd_G} (hG : gd_ok G) : ∃ a : Nat, vk_R RX4 107 "hide" a G.1 ∧ sx_at G a ww_hide := by
  obtain ⟨-, a0, h1, h2⟩ := hG
  have hs := flat_of_before _ h2
  obtain ⟨adK, adV, ⟨hS, -⟩, he⟩ := vk_Sof (args := a0) (s := G.1) (N := 1) (tm := fun _ => (.string "IdeaMousers$Law" 107)) (len := [4]) (byt := [ww_hide]) (A := wd_A G) (by decide) (fun _ _ => hs _ (by decide +kernel)) (fun _ _ => hs _ (by decide +kernel)) (fun _ _ => hs _ (by decide +kernel))
    (fun i hi => by have e : i = 0 := by omega
                    subst e; exact hs (Cond.eq (.length (.field (.string "IdeaMousers$Law" 107) "java/lang/String" "value" "[B")) (.int 4)) (by decide +kernel))
    (fun i hi j hj => by
      have e : i = 0 := by omega
      subst e
      have hj : j < 4 := hj
      match j, hj with
      | 0, _ => exact hs (Cond.eq (.elem (.field (.string "IdeaMousers$Law" 107) "java/lang/String" "value" "[B") (.int 0)) (.int 104)) (by decide +kernel)
      | 1, _ => exact hs (Cond.eq (.elem (.field (.string "IdeaMousers$Law" 107) "java/lang/String" "value" "[B") (.int 1)) (.int 105)) (by decide +kernel)
      | 2, _ => exact hs (Cond.eq (.elem (.field (.string "IdeaMousers$Law" 107) "java/lang/String" "value" "[B") (.int 2)) (.int 100)) (by decide +kernel)
      | 3, _ => exact hs (Cond.eq (.elem (.field (.string "IdeaMousers$Law" 107) "java/lang/String" "value" "[B") (.int 3)) (.int 101)) (by decide +kernel)
      | j + 4, hj => exact absurd hj (by omega))
    (fun i j h1 h2 h3 => absurd (show i = j by omega) h3) (fun a h => Nat.not_le.mpr h)
  obtain ⟨q1, q2, q3, q4⟩ := hS 0 (by decide)
  exact ⟨adK 0, vk_R.of (h1 _ (gt_4 (List.mem_of_getElem? (i := 153) rfl))) (he 0 (by decide)) , by decide, adV 0, q1, q2, q3, q4⟩
theorem sc_X9_42 {G : wd_G} (hG : gd_ok G) : ∃ a : Nat, vk_R RX9 42 "hide" a G.1 ∧ sx_at G a ww_hide := by
  obtain ⟨-, a0, h1, h2⟩ := hG
  have hs := flat_of_before _ h2
  obtain ⟨adK, adV, ⟨hS, -⟩, he⟩ := vk_Sof (args := a0) (s := G.1) (N := 1) (tm := fun _ => (.string "IdeaMousers$Steps" 42)) (len := [4]) (byt := [ww_hide]) (A := wd_A G) (by decide) (fun _ _ => hs _ (by decide +kernel)) (fun _ _ => hs _ (by decide +kernel)) (fun _ _ => hs _ (by decide +kernel))
    (fun i hi => by have e : i = 0 := by omega
                    subst e; exact hs (Cond.eq (.length (.field (.string "IdeaMousers$Steps" 42) "java/lang/String" "value" "[B")) (.int 4)) (by decide +kernel))
    (fun i hi j hj => by
      have e : i = 0 := by omega
      subst e
      have hj : j < 4 := hj
      match j, hj with
      | 0, _ => exact hs (Cond.eq (.elem (.field (.string "IdeaMousers$Steps" 42) "java/lang/String" "value" "[B") (.int 0)) (.int 104)) (by decide +kernel)
      | 1, _ => exact hs (Cond.eq (.elem (.field (.string "IdeaMousers$Steps" 42) "java/lang/String" "value" "[B") (.int 1)) (.int 105)) (by decide +kernel)
      | 2, _ => exact hs (Cond.eq (.elem (.field (.string "IdeaMousers$Steps" 42) "java/lang/String" "value" "[B") (.int 2)) (.int 100)) (by decide +kernel)
      | 3, _ => exact hs (Cond.eq (.elem (.field (.string "IdeaMousers$Steps" 42) "java/lang/String" "value" "[B") (.int 3)) (.int 101)) (by decide +kernel)
      | j + 4, hj => exact absurd hj (by omega))
    (fun i j h1 h2 h3 => absurd (show i = j by omega) h3) (fun a h => Nat.not_le.mpr h)
  obtain ⟨q1, q2, q3, q4⟩ := hS 0 (by decide)
  exact ⟨adK 0, vk_R.of (h1 _ (gt_4 (List.mem_of_getElem? (i := 182) rfl))) (he 0 (by decide)) , by decide, adV 0, q1, q2, q3, q4⟩
def ww_cats : List Int32 := [99, 97, 116, 115]
theorem sc_X4_109 {G : wd_G} (hG : gd_ok G) : ∃ a : Nat, vk_R RX4 109 "cats" a G.1 ∧ sx_at G a ww_cats := by
  obtain ⟨-, a0, h1, h2⟩ := hG
  have hs := flat_of_before _ h2
  obtain ⟨adK, adV, ⟨hS, -⟩, he⟩ := vk_Sof (args := a0) (s := G.1) (N := 1) (tm := fun _ => (.string "IdeaMousers$Law" 109)) (len := [4]) (byt := [ww_cats]) (A := wd_A G) (by decide) (fun _ _ => hs _ (by decide +kernel)) (fun _ _ => hs _ (by decide +kernel)) (fun _ _ => hs _ (by decide +kernel))
    (fun i hi => by have e : i = 0 := by omega
                    subst e; exact hs (Cond.eq (.length (.field (.string "IdeaMousers$Law" 109) "java/lang/String" "value" "[B")) (.int 4)) (by decide +kernel))
    (fun i hi j hj => by
      have e : i = 0 := by omega
      subst e
      have hj : j < 4 := hj
      match j, hj with
      | 0, _ => exact hs (Cond.eq (.elem (.field (.string "IdeaMousers$Law" 109) "java/lang/String" "value" "[B") (.int 0)) (.int 99)) (by decide +kernel)
      | 1, _ => exact hs (Cond.eq (.elem (.field (.string "IdeaMousers$Law" 109) "java/lang/String" "value" "[B") (.int 1)) (.int 97)) (by decide +kernel)
      | 2, _ => exact hs (Cond.eq (.elem (.field (.string "IdeaMousers$Law" 109) "java/lang/String" "value" "[B") (.int 2)) (.int 116)) (by decide +kernel)
      | 3, _ => exact hs (Cond.eq (.elem (.field (.string "IdeaMousers$Law" 109) "java/lang/String" "value" "[B") (.int 3)) (.int 115)) (by decide +kernel)
      | j + 4, hj => exact absurd hj (by omega))
    (fun i j h1 h2 h3 => absurd (show i = j by omega) h3) (fun a h => Nat.not_le.mpr h)
  obtain ⟨q1, q2, q3, q4⟩ := hS 0 (by decide)
  exact ⟨adK 0, vk_R.of (h1 _ (gt_4 (List.mem_of_getElem? (i := 154) rfl))) (he 0 (by decide)) , by decide, adV 0, q1, q2, q3, q4⟩
def ww_night : List Int32 := [110, 105, 103, 104, 116]
theorem sc_X4_111 {G : wd_G} (hG : gd_ok G) : ∃ a : Nat, vk_R RX4 111 "night" a G.1 ∧ sx_at G a ww_night := by
  obtain ⟨-, a0, h1, h2⟩ := hG
  have hs := flat_of_before _ h2
  obtain ⟨adK, adV, ⟨hS, -⟩, he⟩ := vk_Sof (args := a0) (s := G.1) (N := 1) (tm := fun _ => (.string "IdeaMousers$Law" 111)) (len := [5]) (byt := [ww_night]) (A := wd_A G) (by decide) (fun _ _ => hs _ (by decide +kernel)) (fun _ _ => hs _ (by decide +kernel)) (fun _ _ => hs _ (by decide +kernel))
    (fun i hi => by have e : i = 0 := by omega
                    subst e; exact hs (Cond.eq (.length (.field (.string "IdeaMousers$Law" 111) "java/lang/String" "value" "[B")) (.int 5)) (by decide +kernel))
    (fun i hi j hj => by
      have e : i = 0 := by omega
      subst e
      have hj : j < 5 := hj
      match j, hj with
      | 0, _ => exact hs (Cond.eq (.elem (.field (.string "IdeaMousers$Law" 111) "java/lang/String" "value" "[B") (.int 0)) (.int 110)) (by decide +kernel)
      | 1, _ => exact hs (Cond.eq (.elem (.field (.string "IdeaMousers$Law" 111) "java/lang/String" "value" "[B") (.int 1)) (.int 105)) (by decide +kernel)
      | 2, _ => exact hs (Cond.eq (.elem (.field (.string "IdeaMousers$Law" 111) "java/lang/String" "value" "[B") (.int 2)) (.int 103)) (by decide +kernel)
      | 3, _ => exact hs (Cond.eq (.elem (.field (.string "IdeaMousers$Law" 111) "java/lang/String" "value" "[B") (.int 3)) (.int 104)) (by decide +kernel)
      | 4, _ => exact hs (Cond.eq (.elem (.field (.string "IdeaMousers$Law" 111) "java/lang/String" "value" "[B") (.int 4)) (.int 116)) (by decide +kernel)
      | j + 5, hj => exact absurd hj (by omega))
    (fun i j h1 h2 h3 => absurd (show i = j by omega) h3) (fun a h => Nat.not_le.mpr h)
  obtain ⟨q1, q2, q3, q4⟩ := hS 0 (by decide)
  exact ⟨adK 0, vk_R.of (h1 _ (gt_4 (List.mem_of_getElem? (i := 155) rfl))) (he 0 (by decide)) , by decide, adV 0, q1, q2, q3, q4⟩
theorem sc_X9_78 {G : wd_G} (hG : gd_ok G) : ∃ a : Nat, vk_R RX9 78 "night" a G.1 ∧ sx_at G a ww_night := by
  obtain ⟨-, a0, h1, h2⟩ := hG
  have hs := flat_of_before _ h2
  obtain ⟨adK, adV, ⟨hS, -⟩, he⟩ := vk_Sof (args := a0) (s := G.1) (N := 1) (tm := fun _ => (.string "IdeaMousers$Steps" 78)) (len := [5]) (byt := [ww_night]) (A := wd_A G) (by decide) (fun _ _ => hs _ (by decide +kernel)) (fun _ _ => hs _ (by decide +kernel)) (fun _ _ => hs _ (by decide +kernel))
    (fun i hi => by have e : i = 0 := by omega
                    subst e; exact hs (Cond.eq (.length (.field (.string "IdeaMousers$Steps" 78) "java/lang/String" "value" "[B")) (.int 5)) (by decide +kernel))
    (fun i hi j hj => by
      have e : i = 0 := by omega
      subst e
      have hj : j < 5 := hj
      match j, hj with
      | 0, _ => exact hs (Cond.eq (.elem (.field (.string "IdeaMousers$Steps" 78) "java/lang/String" "value" "[B") (.int 0)) (.int 110)) (by decide +kernel)
      | 1, _ => exact hs (Cond.eq (.elem (.field (.string "IdeaMousers$Steps" 78) "java/lang/String" "value" "[B") (.int 1)) (.int 105)) (by decide +kernel)
      | 2, _ => exact hs (Cond.eq (.elem (.field (.string "IdeaMousers$Steps" 78) "java/lang/String" "value" "[B") (.int 2)) (.int 103)) (by decide +kernel)
      | 3, _ => exact hs (Cond.eq (.elem (.field (.string "IdeaMousers$Steps" 78) "java/lang/String" "value" "[B") (.int 3)) (.int 104)) (by decide +kernel)
      | 4, _ => exact hs (Cond.eq (.elem (.field (.string "IdeaMousers$Steps" 78) "java/lang/String" "value" "[B") (.int 4)) (.int 116)) (by decide +kernel)
      | j + 5, hj => exact absurd hj (by omega))
    (fun i j h1 h2 h3 => absurd (show i = j by omega) h3) (fun a h => Nat.not_le.mpr h)
  obtain ⟨q1, q2, q3, q4⟩ := hS 0 (by decide)
  exact ⟨adK 0, vk_R.of (h1 _ (gt_4 (List.mem_of_getElem? (i := 193) rfl))) (he 0 (by decide)) , by decide, adV 0, q1, q2, q3, q4⟩
def ww_mat : List Int32 := [109, 97, 116]
theorem sc_X4_113 {G : wd_G} (hG : gd_ok G) : ∃ a : Nat, vk_R RX4 113 "mat" a G.1 ∧ sx_at G a ww_mat := by
  obtain ⟨-, a0, h1, h2⟩ := hG
  have hs := flat_of_before _ h2
  obtain ⟨adK, adV, ⟨hS, -⟩, he⟩ := vk_Sof (args := a0) (s := G.1) (N := 1) (tm := fun _ => (.string "IdeaMousers$Law" 113)) (len := [3]) (byt := [ww_mat]) (A := wd_A G) (by decide) (fun _ _ => hs _ (by decide +kernel)) (fun _ _ => hs _ (by decide +kernel)) (fun _ _ => hs _ (by decide +kernel))
    (fun i hi => by have e : i = 0 := by omega
                    subst e; exact hs (Cond.eq (.length (.field (.string "IdeaMousers$Law" 113) "java/lang/String" "value" "[B")) (.int 3)) (by decide +kernel))
    (fun i hi j hj => by
      have e : i = 0 := by omega
      subst e
      have hj : j < 3 := hj
      match j, hj with
      | 0, _ => exact hs (Cond.eq (.elem (.field (.string "IdeaMousers$Law" 113) "java/lang/String" "value" "[B") (.int 0)) (.int 109)) (by decide +kernel)
      | 1, _ => exact hs (Cond.eq (.elem (.field (.string "IdeaMousers$Law" 113) "java/lang/String" "value" "[B") (.int 1)) (.int 97)) (by decide +kernel)
      | 2, _ => exact hs (Cond.eq (.elem (.field (.string "IdeaMousers$Law" 113) "java/lang/String" "value" "[B") (.int 2)) (.int 116)) (by decide +kernel)
      | j + 3, hj => exact absurd hj (by omega))
    (fun i j h1 h2 h3 => absurd (show i = j by omega) h3) (fun a h => Nat.not_le.mpr h)
  obtain ⟨q1, q2, q3, q4⟩ := hS 0 (by decide)
  exact ⟨adK 0, vk_R.of (h1 _ (gt_4 (List.mem_of_getElem? (i := 156) rfl))) (he 0 (by decide)) , by decide, adV 0, q1, q2, q3, q4⟩
def ww_call : List Int32 := [99, 97, 108, 108]
theorem sc_X9_64 {G : wd_G} (hG : gd_ok G) : ∃ a : Nat, vk_R RX9 64 "call" a G.1 ∧ sx_at G a ww_call := by
  obtain ⟨-, a0, h1, h2⟩ := hG
  have hs := flat_of_before _ h2
  obtain ⟨adK, adV, ⟨hS, -⟩, he⟩ := vk_Sof (args := a0) (s := G.1) (N := 1) (tm := fun _ => (.string "IdeaMousers$Steps" 64)) (len := [4]) (byt := [ww_call]) (A := wd_A G) (by decide) (fun _ _ => hs _ (by decide +kernel)) (fun _ _ => hs _ (by decide +kernel)) (fun _ _ => hs _ (by decide +kernel))
    (fun i hi => by have e : i = 0 := by omega
                    subst e; exact hs (Cond.eq (.length (.field (.string "IdeaMousers$Steps" 64) "java/lang/String" "value" "[B")) (.int 4)) (by decide +kernel))
    (fun i hi j hj => by
      have e : i = 0 := by omega
      subst e
      have hj : j < 4 := hj
      match j, hj with
      | 0, _ => exact hs (Cond.eq (.elem (.field (.string "IdeaMousers$Steps" 64) "java/lang/String" "value" "[B") (.int 0)) (.int 99)) (by decide +kernel)
      | 1, _ => exact hs (Cond.eq (.elem (.field (.string "IdeaMousers$Steps" 64) "java/lang/String" "value" "[B") (.int 1)) (.int 97)) (by decide +kernel)
      | 2, _ => exact hs (Cond.eq (.elem (.field (.string "IdeaMousers$Steps" 64) "java/lang/String" "value" "[B") (.int 2)) (.int 108)) (by decide +kernel)
      | 3, _ => exact hs (Cond.eq (.elem (.field (.string "IdeaMousers$Steps" 64) "java/lang/String" "value" "[B") (.int 3)) (.int 108)) (by decide +kernel)
      | j + 4, hj => exact absurd hj (by omega))
    (fun i j h1 h2 h3 => absurd (show i = j by omega) h3) (fun a h => Nat.not_le.mpr h)
  obtain ⟨q1, q2, q3, q4⟩ := hS 0 (by decide)
  exact ⟨adK 0, vk_R.of (h1 _ (gt_4 (List.mem_of_getElem? (i := 189) rfl))) (he 0 (by decide)) , by decide, adV 0, q1, q2, q3, q4⟩
def ww_feed : List Int32 := [102, 101, 101, 100]
theorem sc_X9_69 {G : wd_G} (hG : gd_ok G) : ∃ a : Nat, vk_R RX9 69 "feed" a G.1 ∧ sx_at G a ww_feed := by
  obtain ⟨-, a0, h1, h2⟩ := hG
  have hs := flat_of_before _ h2
  obtain ⟨adK, adV, ⟨hS, -⟩, he⟩ := vk_Sof (args := a0) (s := G.1) (N := 1) (tm := fun _ => (.string "IdeaMousers$Steps" 69)) (len := [4]) (byt := [ww_feed]) (A := wd_A G) (by decide) (fun _ _ => hs _ (by decide +kernel)) (fun _ _ => hs _ (by decide +kernel)) (fun _ _ => hs _ (by decide +kernel))
    (fun i hi => by have e : i = 0 := by omega
                    subst e; exact hs (Cond.eq (.length (.field (.string "IdeaMousers$Steps" 69) "java/lang/String" "value" "[B")) (.int 4)) (by decide +kernel))
    (fun i hi j hj => by
      have e : i = 0 := by omega
      subst e
      have hj : j < 4 := hj
      match j, hj with
      | 0, _ => exact hs (Cond.eq (.elem (.field (.string "IdeaMousers$Steps" 69) "java/lang/String" "value" "[B") (.int 0)) (.int 102)) (by decide +kernel)
      | 1, _ => exact hs (Cond.eq (.elem (.field (.string "IdeaMousers$Steps" 69) "java/lang/String" "value" "[B") (.int 1)) (.int 101)) (by decide +kernel)
      | 2, _ => exact hs (Cond.eq (.elem (.field (.string "IdeaMousers$Steps" 69) "java/lang/String" "value" "[B") (.int 2)) (.int 101)) (by decide +kernel)
      | 3, _ => exact hs (Cond.eq (.elem (.field (.string "IdeaMousers$Steps" 69) "java/lang/String" "value" "[B") (.int 3)) (.int 100)) (by decide +kernel)
      | j + 4, hj => exact absurd hj (by omega))
    (fun i j h1 h2 h3 => absurd (show i = j by omega) h3) (fun a h => Nat.not_le.mpr h)
  obtain ⟨q1, q2, q3, q4⟩ := hS 0 (by decide)
  exact ⟨adK 0, vk_R.of (h1 _ (gt_4 (List.mem_of_getElem? (i := 190) rfl))) (he 0 (by decide)) , by decide, adV 0, q1, q2, q3, q4⟩
def ww_join : List Int32 := [106, 111, 105, 110]
theorem sc_X9_71 {G : wd_G} (hG : gd_ok G) : ∃ a : Nat, vk_R RX9 71 "join" a G.1 ∧ sx_at G a ww_join := by
  obtain ⟨-, a0, h1, h2⟩ := hG
  have hs := flat_of_before _ h2
  obtain ⟨adK, adV, ⟨hS, -⟩, he⟩ := vk_Sof (args := a0) (s := G.1) (N := 1) (tm := fun _ => (.string "IdeaMousers$Steps" 71)) (len := [4]) (byt := [ww_join]) (A := wd_A G) (by decide) (fun _ _ => hs _ (by decide +kernel)) (fun _ _ => hs _ (by decide +kernel)) (fun _ _ => hs _ (by decide +kernel))
    (fun i hi => by have e : i = 0 := by omega
                    subst e; exact hs (Cond.eq (.length (.field (.string "IdeaMousers$Steps" 71) "java/lang/String" "value" "[B")) (.int 4)) (by decide +kernel))
    (fun i hi j hj => by
      have e : i = 0 := by omega
      subst e
      have hj : j < 4 := hj
      match j, hj with
      | 0, _ => exact hs (Cond.eq (.elem (.field (.string "IdeaMousers$Steps" 71) "java/lang/String" "value" "[B") (.int 0)) (.int 106)) (by decide +kernel)
      | 1, _ => exact hs (Cond.eq (.elem (.field (.string "IdeaMousers$Steps" 71) "java/lang/String" "value" "[B") (.int 1)) (.int 111)) (by decide +kernel)
      | 2, _ => exact hs (Cond.eq (.elem (.field (.string "IdeaMousers$Steps" 71) "java/lang/String" "value" "[B") (.int 2)) (.int 105)) (by decide +kernel)
      | 3, _ => exact hs (Cond.eq (.elem (.field (.string "IdeaMousers$Steps" 71) "java/lang/String" "value" "[B") (.int 3)) (.int 110)) (by decide +kernel)
      | j + 4, hj => exact absurd hj (by omega))
    (fun i j h1 h2 h3 => absurd (show i = j by omega) h3) (fun a h => Nat.not_le.mpr h)
  obtain ⟨q1, q2, q3, q4⟩ := hS 0 (by decide)
  exact ⟨adK 0, vk_R.of (h1 _ (gt_4 (List.mem_of_getElem? (i := 191) rfl))) (he 0 (by decide)) , by decide, adV 0, q1, q2, q3, q4⟩
def ww_shut : List Int32 := [115, 104, 117, 116]
theorem sc_X9_73 {G : wd_G} (hG : gd_ok G) : ∃ a : Nat, vk_R RX9 73 "shut" a G.1 ∧ sx_at G a ww_shut := by
  obtain ⟨-, a0, h1, h2⟩ := hG
  have hs := flat_of_before _ h2
  obtain ⟨adK, adV, ⟨hS, -⟩, he⟩ := vk_Sof (args := a0) (s := G.1) (N := 1) (tm := fun _ => (.string "IdeaMousers$Steps" 73)) (len := [4]) (byt := [ww_shut]) (A := wd_A G) (by decide) (fun _ _ => hs _ (by decide +kernel)) (fun _ _ => hs _ (by decide +kernel)) (fun _ _ => hs _ (by decide +kernel))
    (fun i hi => by have e : i = 0 := by omega
                    subst e; exact hs (Cond.eq (.length (.field (.string "IdeaMousers$Steps" 73) "java/lang/String" "value" "[B")) (.int 4)) (by decide +kernel))
    (fun i hi j hj => by
      have e : i = 0 := by omega
      subst e
      have hj : j < 4 := hj
      match j, hj with
      | 0, _ => exact hs (Cond.eq (.elem (.field (.string "IdeaMousers$Steps" 73) "java/lang/String" "value" "[B") (.int 0)) (.int 115)) (by decide +kernel)
      | 1, _ => exact hs (Cond.eq (.elem (.field (.string "IdeaMousers$Steps" 73) "java/lang/String" "value" "[B") (.int 1)) (.int 104)) (by decide +kernel)
      | 2, _ => exact hs (Cond.eq (.elem (.field (.string "IdeaMousers$Steps" 73) "java/lang/String" "value" "[B") (.int 2)) (.int 117)) (by decide +kernel)
      | 3, _ => exact hs (Cond.eq (.elem (.field (.string "IdeaMousers$Steps" 73) "java/lang/String" "value" "[B") (.int 3)) (.int 116)) (by decide +kernel)
      | j + 4, hj => exact absurd hj (by omega))
    (fun i j h1 h2 h3 => absurd (show i = j by omega) h3) (fun a h => Nat.not_le.mpr h)
  obtain ⟨q1, q2, q3, q4⟩ := hS 0 (by decide)
  exact ⟨adK 0, vk_R.of (h1 _ (gt_4 (List.mem_of_getElem? (i := 192) rfl))) (he 0 (by decide)) , by decide, adV 0, q1, q2, q3, q4⟩
def ww_again : List Int32 := [97, 103, 97, 105, 110]
theorem sc_X9_80 {G : wd_G} (hG : gd_ok G) : ∃ a : Nat, vk_R RX9 80 "again" a G.1 ∧ sx_at G a ww_again := by
  obtain ⟨-, a0, h1, h2⟩ := hG
  have hs := flat_of_before _ h2
  obtain ⟨adK, adV, ⟨hS, -⟩, he⟩ := vk_Sof (args := a0) (s := G.1) (N := 1) (tm := fun _ => (.string "IdeaMousers$Steps" 80)) (len := [5]) (byt := [ww_again]) (A := wd_A G) (by decide) (fun _ _ => hs _ (by decide +kernel)) (fun _ _ => hs _ (by decide +kernel)) (fun _ _ => hs _ (by decide +kernel))
    (fun i hi => by have e : i = 0 := by omega
                    subst e; exact hs (Cond.eq (.length (.field (.string "IdeaMousers$Steps" 80) "java/lang/String" "value" "[B")) (.int 5)) (by decide +kernel))
    (fun i hi j hj => by
      have e : i = 0 := by omega
      subst e
      have hj : j < 5 := hj
      match j, hj with
      | 0, _ => exact hs (Cond.eq (.elem (.field (.string "IdeaMousers$Steps" 80) "java/lang/String" "value" "[B") (.int 0)) (.int 97)) (by decide +kernel)
      | 1, _ => exact hs (Cond.eq (.elem (.field (.string "IdeaMousers$Steps" 80) "java/lang/String" "value" "[B") (.int 1)) (.int 103)) (by decide +kernel)
      | 2, _ => exact hs (Cond.eq (.elem (.field (.string "IdeaMousers$Steps" 80) "java/lang/String" "value" "[B") (.int 2)) (.int 97)) (by decide +kernel)
      | 3, _ => exact hs (Cond.eq (.elem (.field (.string "IdeaMousers$Steps" 80) "java/lang/String" "value" "[B") (.int 3)) (.int 105)) (by decide +kernel)
      | 4, _ => exact hs (Cond.eq (.elem (.field (.string "IdeaMousers$Steps" 80) "java/lang/String" "value" "[B") (.int 4)) (.int 110)) (by decide +kernel)
      | j + 5, hj => exact absurd hj (by omega))
    (fun i j h1 h2 h3 => absurd (show i = j by omega) h3) (fun a h => Nat.not_le.mpr h)
  obtain ⟨q1, q2, q3, q4⟩ := hS 0 (by decide)
  exact ⟨adK 0, vk_R.of (h1 _ (gt_4 (List.mem_of_getElem? (i := 194) rfl))) (he 0 (by decide)) , by decide, adV 0, q1, q2, q3, q4⟩
def ww_t32 : List Int32 := [110, 111, 32, 115, 117, 99, 104, 32, 114, 111, 111, 109, 44, 32, 119, 97, 121, 44, 32, 115, 99, 104, 101, 109, 101, 32, 111, 114, 32, 99, 97, 116]
theorem sc_X11_377 {G : wd_G} (hG : gd_ok G) : ∃ a : Nat, vk_R RX11 377 "no such room, way, scheme or cat" a G.1 ∧ sx_at G a ww_t32 := by
  obtain ⟨-, a0, h1, h2⟩ := hG
  have hs := flat_of_before _ h2
  obtain ⟨adK, adV, ⟨hS, -⟩, he⟩ := vk_Sof (args := a0) (s := G.1) (N := 1) (tm := fun _ => (.string "IdeaMousers" 377)) (len := [32]) (byt := [ww_t32]) (A := wd_A G) (by decide) (fun _ _ => hs _ (by decide +kernel)) (fun _ _ => hs _ (by decide +kernel)) (fun _ _ => hs _ (by decide +kernel))
    (fun i hi => by have e : i = 0 := by omega
                    subst e; exact hs (Cond.eq (.length (.field (.string "IdeaMousers" 377) "java/lang/String" "value" "[B")) (.int 32)) (by decide +kernel))
    (fun i hi j hj => by
      have e : i = 0 := by omega
      subst e
      have hj : j < 32 := hj
      match j, hj with
      | 0, _ => exact hs (Cond.eq (.elem (.field (.string "IdeaMousers" 377) "java/lang/String" "value" "[B") (.int 0)) (.int 110)) (by decide +kernel)
      | 1, _ => exact hs (Cond.eq (.elem (.field (.string "IdeaMousers" 377) "java/lang/String" "value" "[B") (.int 1)) (.int 111)) (by decide +kernel)
      | 2, _ => exact hs (Cond.eq (.elem (.field (.string "IdeaMousers" 377) "java/lang/String" "value" "[B") (.int 2)) (.int 32)) (by decide +kernel)
      | 3, _ => exact hs (Cond.eq (.elem (.field (.string "IdeaMousers" 377) "java/lang/String" "value" "[B") (.int 3)) (.int 115)) (by decide +kernel)
      | 4, _ => exact hs (Cond.eq (.elem (.field (.string "IdeaMousers" 377) "java/lang/String" "value" "[B") (.int 4)) (.int 117)) (by decide +kernel)
      | 5, _ => exact hs (Cond.eq (.elem (.field (.string "IdeaMousers" 377) "java/lang/String" "value" "[B") (.int 5)) (.int 99)) (by decide +kernel)
      | 6, _ => exact hs (Cond.eq (.elem (.field (.string "IdeaMousers" 377) "java/lang/String" "value" "[B") (.int 6)) (.int 104)) (by decide +kernel)
      | 7, _ => exact hs (Cond.eq (.elem (.field (.string "IdeaMousers" 377) "java/lang/String" "value" "[B") (.int 7)) (.int 32)) (by decide +kernel)
      | 8, _ => exact hs (Cond.eq (.elem (.field (.string "IdeaMousers" 377) "java/lang/String" "value" "[B") (.int 8)) (.int 114)) (by decide +kernel)
      | 9, _ => exact hs (Cond.eq (.elem (.field (.string "IdeaMousers" 377) "java/lang/String" "value" "[B") (.int 9)) (.int 111)) (by decide +kernel)
      | 10, _ => exact hs (Cond.eq (.elem (.field (.string "IdeaMousers" 377) "java/lang/String" "value" "[B") (.int 10)) (.int 111)) (by decide +kernel)
      | 11, _ => exact hs (Cond.eq (.elem (.field (.string "IdeaMousers" 377) "java/lang/String" "value" "[B") (.int 11)) (.int 109)) (by decide +kernel)
      | 12, _ => exact hs (Cond.eq (.elem (.field (.string "IdeaMousers" 377) "java/lang/String" "value" "[B") (.int 12)) (.int 44)) (by decide +kernel)
      | 13, _ => exact hs (Cond.eq (.elem (.field (.string "IdeaMousers" 377) "java/lang/String" "value" "[B") (.int 13)) (.int 32)) (by decide +kernel)
      | 14, _ => exact hs (Cond.eq (.elem (.field (.string "IdeaMousers" 377) "java/lang/String" "value" "[B") (.int 14)) (.int 119)) (by decide +kernel)
      | 15, _ => exact hs (Cond.eq (.elem (.field (.string "IdeaMousers" 377) "java/lang/String" "value" "[B") (.int 15)) (.int 97)) (by decide +kernel)
      | 16, _ => exact hs (Cond.eq (.elem (.field (.string "IdeaMousers" 377) "java/lang/String" "value" "[B") (.int 16)) (.int 121)) (by decide +kernel)
      | 17, _ => exact hs (Cond.eq (.elem (.field (.string "IdeaMousers" 377) "java/lang/String" "value" "[B") (.int 17)) (.int 44)) (by decide +kernel)
      | 18, _ => exact hs (Cond.eq (.elem (.field (.string "IdeaMousers" 377) "java/lang/String" "value" "[B") (.int 18)) (.int 32)) (by decide +kernel)
      | 19, _ => exact hs (Cond.eq (.elem (.field (.string "IdeaMousers" 377) "java/lang/String" "value" "[B") (.int 19)) (.int 115)) (by decide +kernel)
      | 20, _ => exact hs (Cond.eq (.elem (.field (.string "IdeaMousers" 377) "java/lang/String" "value" "[B") (.int 20)) (.int 99)) (by decide +kernel)
      | 21, _ => exact hs (Cond.eq (.elem (.field (.string "IdeaMousers" 377) "java/lang/String" "value" "[B") (.int 21)) (.int 104)) (by decide +kernel)
      | 22, _ => exact hs (Cond.eq (.elem (.field (.string "IdeaMousers" 377) "java/lang/String" "value" "[B") (.int 22)) (.int 101)) (by decide +kernel)
      | 23, _ => exact hs (Cond.eq (.elem (.field (.string "IdeaMousers" 377) "java/lang/String" "value" "[B") (.int 23)) (.int 109)) (by decide +kernel)
      | 24, _ => exact hs (Cond.eq (.elem (.field (.string "IdeaMousers" 377) "java/lang/String" "value" "[B") (.int 24)) (.int 101)) (by decide +kernel)
      | 25, _ => exact hs (Cond.eq (.elem (.field (.string "IdeaMousers" 377) "java/lang/String" "value" "[B") (.int 25)) (.int 32)) (by decide +kernel)
      | 26, _ => exact hs (Cond.eq (.elem (.field (.string "IdeaMousers" 377) "java/lang/String" "value" "[B") (.int 26)) (.int 111)) (by decide +kernel)
      | 27, _ => exact hs (Cond.eq (.elem (.field (.string "IdeaMousers" 377) "java/lang/String" "value" "[B") (.int 27)) (.int 114)) (by decide +kernel)
      | 28, _ => exact hs (Cond.eq (.elem (.field (.string "IdeaMousers" 377) "java/lang/String" "value" "[B") (.int 28)) (.int 32)) (by decide +kernel)
      | 29, _ => exact hs (Cond.eq (.elem (.field (.string "IdeaMousers" 377) "java/lang/String" "value" "[B") (.int 29)) (.int 99)) (by decide +kernel)
      | 30, _ => exact hs (Cond.eq (.elem (.field (.string "IdeaMousers" 377) "java/lang/String" "value" "[B") (.int 30)) (.int 97)) (by decide +kernel)
      | 31, _ => exact hs (Cond.eq (.elem (.field (.string "IdeaMousers" 377) "java/lang/String" "value" "[B") (.int 31)) (.int 116)) (by decide +kernel)
      | j + 32, hj => exact absurd hj (by omega))
    (fun i j h1 h2 h3 => absurd (show i = j by omega) h3) (fun a h => Nat.not_le.mpr h)
  obtain ⟨q1, q2, q3, q4⟩ := hS 0 (by decide)
  exact ⟨adK 0, vk_R.of (h1 _ (gt_5 (List.mem_of_getElem? (i := 75) rfl))) (he 0 (by decide)) , by decide, adV 0, q1, q2, q3, q4⟩
theorem th_IAE : th_ok RX11 1 382 386 := ⟨gw_in (gt_3 (List.mem_of_getElem? (i := 113) rfl)) rfl, gw_in (gt_1 (List.mem_of_getElem? (i := 18) rfl)) rfl, by decide +kernel, by decide +kernel, by decide +kernel⟩
theorem tz_NSE : tz_ok RX11 0 375 379 13 prog_30_method_4_code := ⟨gw_in (gt_5 (List.mem_of_getElem? (i := 66) rfl)) rfl, gw_in (gt_1 (List.mem_of_getElem? (i := 25) rfl)) rfl, by decide +kernel, by decide +kernel, by decide +kernel, by decide +kernel, by decide +kernel, by decide +kernel, by decide +kernel⟩
theorem th_all {G : wd_G} (hG : gd_ok G) : th_Z G := by
  obtain ⟨-, a0, h1, h2⟩ := hG
  have hs := flat_of_before _ h2
  exact ⟨vx_Zqof (args := a0) (h1 _ (gt_3 (List.mem_of_getElem? (i := 140) rfl))) (h1 _ (gt_1 (List.mem_of_getElem? (i := 15) rfl))) (hs (Cond.isRef (.static "java/lang/Throwable" "UNASSIGNED_STACK" "[Ljava/lang/StackTraceElement;")) (by decide +kernel)) (fun a h => Nat.not_le.mpr h), vx_Zqof (args := a0) (h1 _ (gt_3 (List.mem_of_getElem? (i := 142) rfl))) (h1 _ (gt_1 (List.mem_of_getElem? (i := 15) rfl))) (hs (Cond.isRef (.static "java/lang/Throwable" "SUPPRESSED_SENTINEL" "Ljava/util/List;")) (by decide +kernel)) (fun a h => Nat.not_le.mpr h)⟩
