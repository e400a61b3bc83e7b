/-! THE LAW'S OWN LOOP -/
def px_sld (L : Nat) (xs : Nat → Int32) (i : Int32) : Option Int32 := if px_in i L = true then some (xs i.toNatClampNeg) else none
/-- the script, as the law finds it -/
def sx_scr (G : wd_G) (M : wd_M) (b0 L : Nat) (xs : Nat → Int32) : Prop := va_X b0 L xs (mx_S M) (mx_S M).heap ∧ b0 < (mx_S M).heap.size ∧ ¬ wd_A G b0
/-- the room of the law; its answers; no stack traces -/
def lm_X (G : wd_G) (M : wd_M) : Prop := mx_R M = room_1 ∧ (mx_L M).stackTraces = false ∧ 601 < G.2.1
def ql_Q (Q1 : State → Prop) : Int32 → State → Prop := fun r t => r = 1 → Q1 t
section LM
variable {G : wd_G} {M : wd_M} {own : String} {cc : ByteArray} {nL n cells slots : Nat} {ret : Option FieldType} {ρ : Type} {Q : ρ → State → Prop} {pc q : Nat} {lv : List (Nat × Value)} {st : List Value} {σ : hp_I} {τ : hp_L} {b0 L : Nat} {xs : Nat → Int32}
theorem dn_sald {i : Int32} {f : Int32 → Option ρ} (C : cx_C G M own cc nL n ret) (hs : sx_scr G M b0 L xs) (hd : decode cc pc = .ok (.iaload, 1)) (hq : pc + 1 = q) (k : ∀ z : Int32, dn_D G M nL cells slots Q q lv (.int z :: st) σ τ (f z)) : dn_D G M nL cells slots Q pc lv (.int i :: .ref b0 :: st) σ τ (Option.bind (px_sld L xs i) f) := by
  subst hq
  intro r hr H locs ls hP hS hl
  by_cases hy : px_in i L = true
  · rw [px_sld, if_pos hy] at hr
    exact va_sld (cx_x C) (cx_b C) hs.1 hs.2.1 hs.2.2 hS (px_in_vp hy) hd (k _ r hr H locs ls hP hS hl)
  · rw [px_sld, if_neg hy] at hr; cases hr
theorem dn_slenA {ex : Option ρ} (C : cx_C G M own cc nL n ret) (hs : sx_scr G M b0 L xs) (hd : decode cc pc = .ok (.arraylength, 1)) (hq : pc + 1 = q) (k : dn_D G M nL cells slots Q q lv (.int (Int32.ofNat L) :: st) σ τ ex) : dn_D G M nL cells slots Q pc lv (.ref b0 :: st) σ τ ex := by
  subst hq
  exact fun r hr H locs ls hP hS hl => va_slen (cx_x C) (cx_b C) hs.1 hs.2.1 hs.2.2 hS hd (k r hr H locs ls hP hS hl)
theorem dn_fin0 {Q1 : State → Prop} : dn_D G M nL cells slots (ql_Q Q1) pc lv st σ τ (some (0 : Int32)) := by
  intro r hr H locs ls hP hS hl
  cases hr
  intro T hT X
  exact ⟨_, Steps.refl _, fun h => absurd h (by decide)⟩
theorem lm_c (X : lm_X G M) (h1 : cells + 8 ≤ 601024) (h2 : slots + 48 ≤ 7293034) (u : Nat) (hu : u ≤ 8) : cells + u ≤ (mx_R M).cells ∧ slots + 6 * u ≤ (mx_R M).slots := by
  rw [X.1]
  show cells + u ≤ 601024 ∧ slots + 6 * u ≤ 7293034
  omega
end LM
theorem k0_11 : sh_kd 0 = 11 := by decide +kernel
theorem k52_12 : sh_kd 52 = 12 := by decide +kernel
def lc_0 (L : Nat) (xs : Nat → Int32) (j : hp_I → hp_L → Option Int32) (i : Int32) (s0 : hp_I) (u0 : hp_L) : Option Int32 :=
  Option.bind (px_sld L xs (i + (1 : Int32))) fun z1 =>
  Option.bind (px_sld L xs (i + (2 : Int32))) fun z2 =>
  Option.bind (px_sld L xs (i + (3 : Int32))) fun z3 =>
  Option.bind (px_sld L xs (i + (4 : Int32))) fun z4 =>
  Option.bind (px_sld L xs (i + (5 : Int32))) fun z5 =>
  px_b2 (fn_X_feed 0 z1 z2 z3 z4 z5 s0) fun z6 s7 =>
  Option.bind (px_sld L xs (i + (1 : Int32))) fun z8 =>
  Option.bind (px_sld L xs (i + (2 : Int32))) fun z9 =>
  Option.bind (px_sld L xs (i + (3 : Int32))) fun z10 =>
  Option.bind (px_sld L xs (i + (4 : Int32))) fun z11 =>
  Option.bind (px_sld L xs (i + (5 : Int32))) fun z12 =>
  px_b2 (fn_M_feed 52 z8 z9 z10 z11 z12 s7) fun z13 s14 =>
  if z6 = z13 then (
    j s14 u0
  ) else (
    some (0 : Int32)
  )
set_option maxHeartbeats 4000000 in
set_option maxRecDepth 100000 in
theorem lp_0 {G : wd_G} {M : wd_M} {b0 L : Nat} {xs : Nat → Int32} {Q1 : State → Prop} {c sl : Nat} {i : Int32} {j : hp_I → hp_L → Option Int32} (C : cx_C G M RL code 8 80 (some .boolean)) (X : lm_X G M) (hs : sx_scr G M b0 L xs) (hc1 : c + 8 ≤ 601024) (hc2 : sl + 48 ≤ 7293034) (hj : ∀ (s : hp_I) (u : hp_L), dn_D G M 8 (c + 8) (sl + 48) (ql_Q Q1) 2595 [(0, .ref b0), (1, .ref (wd_b G + 0)), (2, .ref (wd_b G + 52)), (3, .ref (wd_b G + 601)), (4, .int i)] [] s u (j s u)) (s0 : hp_I) (u0 : hp_L) : dn_D G M 8 c sl (ql_Q Q1) 224 [(0, .ref b0), (1, .ref (wd_b G + 0)), (2, .ref (wd_b G + 52)), (3, .ref (wd_b G + 601)), (4, .int i)] [] s0 u0 (lc_0 L xs j i s0 u0) := by
  unfold lc_0
  refine dn_aload_n C dL_law__224 rfl 1 rfl rfl ?_
  refine dn_aload_n C dL_law__225 rfl 0 rfl rfl ?_
  refine dn_iload C dL_law__226 4 rfl rfl ?_
  refine dn_iconst C dL_law__228 ic_i_1 rfl ?_
  refine dn_iadd C dL_law__229 rfl ?_
  refine dn_sald C hs dL_law__230 rfl (fun z1 => ?_)
  refine dn_aload_n C dL_law__231 rfl 0 rfl rfl ?_
  refine dn_iload C dL_law__232 4 rfl rfl ?_
  refine dn_iconst C dL_law__234 ic_i_2 rfl ?_
  refine dn_iadd C dL_law__235 rfl ?_
  refine dn_sald C hs dL_law__236 rfl (fun z2 => ?_)
  refine dn_aload_n C dL_law__237 rfl 0 rfl rfl ?_
  refine dn_iload C dL_law__238 4 rfl rfl ?_
  refine dn_iconst C dL_law__240 ic_i_3 rfl ?_
  refine dn_iadd C dL_law__241 rfl ?_
  refine dn_sald C hs dL_law__242 rfl (fun z3 => ?_)
  refine dn_aload_n C dL_law__243 rfl 0 rfl rfl ?_
  refine dn_iload C dL_law__244 4 rfl rfl ?_
  refine dn_iconst C dL_law__246 ic_i_4 rfl ?_
  refine dn_iadd C dL_law__247 rfl ?_
  refine dn_sald C hs dL_law__248 rfl (fun z4 => ?_)
  refine dn_aload_n C dL_law__249 rfl 0 rfl rfl ?_
  refine dn_iload C dL_law__250 4 rfl rfl ?_
  refine dn_iconst C dL_law__252 ic_i_5 rfl ?_
  refine dn_iadd C dL_law__253 rfl ?_
  refine dn_sald C hs dL_law__254 rfl (fun z5 => ?_)
  refine dn_callV_ih (As := [.int z1, .int z2, .int z3, .int z4, .int z5]) (st := []) C (ok_X_feed (cx_g C) 0 k0_11 z1 z2 z3 z4 z5 s0 u0) mt_X11_feed mv_X11_feed lk_L_120 (by decide) k0_11 rfl (lm_c X hc1 hc2 0 (by decide)) (Nat.le_of_ble_eq_true rfl) dL_law__255 rfl rfl (fun z6 s7 => ?_)
  refine dn_aload_n C dL_law__258 rfl 2 rfl rfl ?_
  refine dn_aload_n C dL_law__259 rfl 0 rfl rfl ?_
  refine dn_iload C dL_law__260 4 rfl rfl ?_
  refine dn_iconst C dL_law__262 ic_i_1 rfl ?_
  refine dn_iadd C dL_law__263 rfl ?_
  refine dn_sald C hs dL_law__264 rfl (fun z8 => ?_)
  refine dn_aload_n C dL_law__265 rfl 0 rfl rfl ?_
  refine dn_iload C dL_law__266 4 rfl rfl ?_
  refine dn_iconst C dL_law__268 ic_i_2 rfl ?_
  refine dn_iadd C dL_law__269 rfl ?_
  refine dn_sald C hs dL_law__270 rfl (fun z9 => ?_)
  refine dn_aload_n C dL_law__271 rfl 0 rfl rfl ?_
  refine dn_iload C dL_law__272 4 rfl rfl ?_
  refine dn_iconst C dL_law__274 ic_i_3 rfl ?_
  refine dn_iadd C dL_law__275 rfl ?_
  refine dn_sald C hs dL_law__276 rfl (fun z10 => ?_)
  refine dn_aload_n C dL_law__277 rfl 0 rfl rfl ?_
  refine dn_iload C dL_law__278 4 rfl rfl ?_
  refine dn_iconst C dL_law__280 ic_i_4 rfl ?_
  refine dn_iadd C dL_law__281 rfl ?_
  refine dn_sald C hs dL_law__282 rfl (fun z11 => ?_)
  refine dn_aload_n C dL_law__283 rfl 0 rfl rfl ?_
  refine dn_iload C dL_law__284 4 rfl rfl ?_
  refine dn_iconst C dL_law__286 ic_i_5 rfl ?_
  refine dn_iadd C dL_law__287 rfl ?_
  refine dn_sald C hs dL_law__288 rfl (fun z12 => ?_)
  refine dn_callV_ih (As := [.int z8, .int z9, .int z10, .int z11, .int z12]) (st := [.int z6]) C (ok_M_feed (cx_g C) 52 k52_12 z8 z9 z10 z11 z12 s7 u0) mt_X12_feed mv_X12_feed lk_L_124 (by decide) k52_12 rfl (lm_c X hc1 hc2 0 (by decide)) (Nat.le_of_ble_eq_true rfl) dL_law__289 rfl rfl (fun z13 s14 => ?_)
  refine dn_icmp_eq (t := 2595) C dL_law__292 (by decide) rfl ?_ ?_
  · exact dn_wid (by omega) (by omega) (hj s14 u0)
  · refine dn_iconst C dL_law__295 ic_i_0 rfl ?_
    exact dn_fin0
def lc_1 (L : Nat) (xs : Nat → Int32) (j : hp_I → hp_L → Option Int32) (i : Int32) (s0 : hp_I) (u0 : hp_L) : Option Int32 :=
  Option.bind (px_sld L xs (i + (1 : Int32))) fun z15 =>
  px_b3 (fn_L_house 0 z15 s0 u0) fun z16 s17 u18 =>
  px_let z16 fun v19 =>
  Option.bind (px_sld L xs (i + (1 : Int32))) fun z20 =>
  px_b2 (fn_M_house 52 z20 s17) fun z21 s22 =>
  px_let z21 fun v23 =>
  Option.bind (fn_M_thrown 52 s22) fun z24 =>
  if z24 = v19 then (
    if v19 = 0 then (
      Option.bind (px_lld u18 601 (0 : Int32)) fun z25 =>
      if (lg_cmp z25 v23.toInt64) = 0 then (
        j s22 u18
      ) else (
        some (0 : Int32)
      )
    ) else (
      j s22 u18
    )
  ) else (
    some (0 : Int32)
  )
set_option maxHeartbeats 4000000 in
set_option maxRecDepth 100000 in
theorem lp_1 {G : wd_G} {M : wd_M} {b0 L : Nat} {xs : Nat → Int32} {Q1 : State → Prop} {c sl : Nat} {i : Int32} {j : hp_I → hp_L → Option Int32} (C : cx_C G M RL code 8 80 (some .boolean)) (X : lm_X G M) (hs : sx_scr G M b0 L xs) (hc1 : c + 8 ≤ 601024) (hc2 : sl + 48 ≤ 7293034) (hj : ∀ (s : hp_I) (u : hp_L), dn_D G M 8 (c + 8) (sl + 48) (ql_Q Q1) 2595 [(0, .ref b0), (1, .ref (wd_b G + 0)), (2, .ref (wd_b G + 52)), (3, .ref (wd_b G + 601)), (4, .int i)] [] s u (j s u)) (s0 : hp_I) (u0 : hp_L) : dn_D G M 8 c sl (ql_Q Q1) 297 [(0, .ref b0), (1, .ref (wd_b G + 0)), (2, .ref (wd_b G + 52)), (3, .ref (wd_b G + 601)), (4, .int i)] [] s0 u0 (lc_1 L xs j i s0 u0) := by
  unfold lc_1
  refine dn_aload_n C dL_law__297 rfl 1 rfl rfl ?_
  refine dn_aload_n C dL_law__298 rfl 0 rfl rfl ?_
  refine dn_iload C dL_law__299 4 rfl rfl ?_
  refine dn_iconst C dL_law__301 ic_i_1 rfl ?_
  refine dn_iadd C dL_law__302 rfl ?_
  refine dn_sald C hs dL_law__303 rfl (fun z15 => ?_)
  refine dn_aload_n C dL_law__304 rfl 3 rfl rfl ?_
  refine dn_callW (As := [.ref (wd_b G + 0), .int z15, .ref (wd_b G + 601)]) (st := []) C (okw_L_house (cx_g C) X.2.2 X.2.1 0 k0_11 z15 s0 u0) mw_L_house msw_L_house lk_L_125 (by decide) rfl (lm_c X hc1 hc2 1 (by decide)) (Nat.le_of_ble_eq_true rfl) dL_law__305 rfl rfl (fun z16 s17 u18 => ?_)
  refine dn_istore (lv0 := [(0, .ref b0), (1, .ref (wd_b G + 0)), (2, .ref (wd_b G + 52)), (3, .ref (wd_b G + 601)), (4, .int i)]) C dL_law__308 (by decide) rfl rfl (fun v19 => ?_)
  refine dn_aload_n C dL_law__310 rfl 3 rfl rfl ?_
  refine dn_aload_n C dL_law__311 rfl 1 rfl rfl ?_
  refine dn_iload C dL_law__312 5 rfl rfl ?_
  refine dn_iconst C dL_law__314 ic_i_1 rfl ?_
  refine dn_iadd C dL_law__315 rfl ?_
  refine dn_sald C hs dL_law__316 rfl (fun z20 => ?_)
  refine dn_callV_ih (As := [.int z20]) (st := []) C (ok_M_house (cx_g C) 52 k52_12 z20 s17 u18) mt_X12_house mv_X12_house lk_L_130 (by decide) k52_12 rfl (lm_c X hc1 hc2 1 (by decide)) (Nat.le_of_ble_eq_true rfl) dL_law__317 rfl rfl (fun z21 s22 => ?_)
  refine dn_istore (lv0 := [(5, .int v19), (0, .ref b0), (1, .ref (wd_b G + 0)), (2, .ref (wd_b G + 52)), (3, .ref (wd_b G + 601)), (4, .int i)]) C dL_law__320 (by decide) rfl rfl (fun v23 => ?_)
  refine dn_aload_n C dL_law__322 rfl 4 rfl rfl ?_
  refine dn_callV_i (As := []) (st := []) C (ok_M_thrown (cx_g C) 52 k52_12 s22 u18) mt_X12_thrown mv_X12_thrown lk_L_131 (by decide) k52_12 rfl (lm_c X hc1 hc2 1 (by decide)) (Nat.le_of_ble_eq_true rfl) dL_law__323 rfl rfl (fun z24 => ?_)
  refine dn_iload C dL_law__326 1 rfl rfl ?_
  refine dn_icmp_eq (t := 333) C dL_law__328 (by decide) rfl ?_ ?_
  · refine dn_iload C dL_law__333 1 rfl rfl ?_
    refine dn_if_ne (t := 350) C dL_law__335 (by decide) rfl ?_ ?_
    · refine dn_aload_n C dL_law__338 rfl 5 rfl rfl ?_
      refine dn_iconst C dL_law__339 ic_i_0 rfl ?_
      refine dn_lald C sh_601 X.2.2 dL_law__340 rfl (fun z25 => ?_)
      refine dn_iload C dL_law__341 0 rfl rfl ?_
      refine dn_i2l C dL_law__343 rfl ?_
      refine dn_lcmp C dL_law__344 rfl ?_
      refine dn_if_eq (t := 350) C dL_law__345 (by decide) rfl ?_ ?_
      · refine dn_goto (t := 2595) C dL_law__350 (by decide) ?_
        refine dn_pick [2, 3, 4, 5, 6] rfl ?_
        exact dn_wid (by omega) (by omega) (hj s22 u18)
      · refine dn_iconst C dL_law__348 ic_i_0 rfl ?_
        exact dn_fin0
    · refine dn_goto (t := 2595) C dL_law__350 (by decide) ?_
      refine dn_pick [2, 3, 4, 5, 6] rfl ?_
      exact dn_wid (by omega) (by omega) (hj s22 u18)
  · refine dn_iconst C dL_law__331 ic_i_0 rfl ?_
    exact dn_fin0
def lc_2 (L : Nat) (xs : Nat → Int32) (j : hp_I → hp_L → Option Int32) (i : Int32) (s0 : hp_I) (u0 : hp_L) : Option Int32 :=
  Option.bind (px_sld L xs (i + (1 : Int32))) fun z26 =>
  px_b3 (fn_L_law 0 z26 s0 u0) fun z27 s28 u29 =>
  px_let z27 fun v30 =>
  Option.bind (px_sld L xs (i + (1 : Int32))) fun z31 =>
  px_b2 (fn_M_law 52 z31 s28) fun z32 s33 =>
  px_let z32 fun v34 =>
  Option.bind (fn_M_thrown 52 s33) fun z35 =>
  if z35 = v30 then (
    if v30 = 0 then (
      Option.bind (px_lld u29 601 (0 : Int32)) fun z36 =>
      if (lg_cmp z36 v34.toInt64) = 0 then (
        j s33 u29
      ) else (
        some (0 : Int32)
      )
    ) else (
      j s33 u29
    )
  ) else (
    some (0 : Int32)
  )
set_option maxHeartbeats 4000000 in
set_option maxRecDepth 100000 in
theorem lp_2 {G : wd_G} {M : wd_M} {b0 L : Nat} {xs : Nat → Int32} {Q1 : State → Prop} {c sl : Nat} {i : Int32} {j : hp_I → hp_L → Option Int32} (C : cx_C G M RL code 8 80 (some .boolean)) (X : lm_X G M) (hs : sx_scr G M b0 L xs) (hc1 : c + 8 ≤ 601024) (hc2 : sl + 48 ≤ 7293034) (hj : ∀ (s : hp_I) (u : hp_L), dn_D G M 8 (c + 8) (sl + 48) (ql_Q Q1) 2595 [(0, .ref b0), (1, .ref (wd_b G + 0)), (2, .ref (wd_b G + 52)), (3, .ref (wd_b G + 601)), (4, .int i)] [] s u (j s u)) (s0 : hp_I) (u0 : hp_L) : dn_D G M 8 c sl (ql_Q Q1) 353 [(0, .ref b0), (1, .ref (wd_b G + 0)), (2, .ref (wd_b G + 52)), (3, .ref (wd_b G + 601)), (4, .int i)] [] s0 u0 (lc_2 L xs j i s0 u0) := by
  unfold lc_2
  refine dn_aload_n C dL_law__353 rfl 1 rfl rfl ?_
  refine dn_aload_n C dL_law__354 rfl 0 rfl rfl ?_
  refine dn_iload C dL_law__355 4 rfl rfl ?_
  refine dn_iconst C dL_law__357 ic_i_1 rfl ?_
  refine dn_iadd C dL_law__358 rfl ?_
  refine dn_sald C hs dL_law__359 rfl (fun z26 => ?_)
  refine dn_aload_n C dL_law__360 rfl 3 rfl rfl ?_
  refine dn_callW (As := [.ref (wd_b G + 0), .int z26, .ref (wd_b G + 601)]) (st := []) C (okw_L_law (cx_g C) X.2.2 X.2.1 0 k0_11 z26 s0 u0) mw_L_law msw_L_law lk_L_135 (by decide) rfl (lm_c X hc1 hc2 1 (by decide)) (Nat.le_of_ble_eq_true rfl) dL_law__361 rfl rfl (fun z27 s28 u29 => ?_)
  refine dn_istore (lv0 := [(0, .ref b0), (1, .ref (wd_b G + 0)), (2, .ref (wd_b G + 52)), (3, .ref (wd_b G + 601)), (4, .int i)]) C dL_law__364 (by decide) rfl rfl (fun v30 => ?_)
  refine dn_aload_n C dL_law__366 rfl 3 rfl rfl ?_
  refine dn_aload_n C dL_law__367 rfl 1 rfl rfl ?_
  refine dn_iload C dL_law__368 5 rfl rfl ?_
  refine dn_iconst C dL_law__370 ic_i_1 rfl ?_
  refine dn_iadd C dL_law__371 rfl ?_
  refine dn_sald C hs dL_law__372 rfl (fun z31 => ?_)
  refine dn_callV_ih (As := [.int z31]) (st := []) C (ok_M_law (cx_g C) 52 k52_12 z31 s28 u29) mt_X12_law mv_X12_law lk_L_137 (by decide) k52_12 rfl (lm_c X hc1 hc2 1 (by decide)) (Nat.le_of_ble_eq_true rfl) dL_law__373 rfl rfl (fun z32 s33 => ?_)
  refine dn_istore (lv0 := [(5, .int v30), (0, .ref b0), (1, .ref (wd_b G + 0)), (2, .ref (wd_b G + 52)), (3, .ref (wd_b G + 601)), (4, .int i)]) C dL_law__376 (by decide) rfl rfl (fun v34 => ?_)
  refine dn_aload_n C dL_law__378 rfl 4 rfl rfl ?_
  refine dn_callV_i (As := []) (st := []) C (ok_M_thrown (cx_g C) 52 k52_12 s33 u29) mt_X12_thrown mv_X12_thrown lk_L_131 (by decide) k52_12 rfl (lm_c X hc1 hc2 1 (by decide)) (Nat.le_of_ble_eq_true rfl) dL_law__379 rfl rfl (fun z35 => ?_)
  refine dn_iload C dL_law__382 1 rfl rfl ?_
  refine dn_icmp_eq (t := 389) C dL_law__384 (by decide) rfl ?_ ?_
  · refine dn_iload C dL_law__389 1 rfl rfl ?_
    refine dn_if_ne (t := 406) C dL_law__391 (by decide) rfl ?_ ?_
    · refine dn_aload_n C dL_law__394 rfl 5 rfl rfl ?_
      refine dn_iconst C dL_law__395 ic_i_0 rfl ?_
      refine dn_lald C sh_601 X.2.2 dL_law__396 rfl (fun z36 => ?_)
      refine dn_iload C dL_law__397 0 rfl rfl ?_
      refine dn_i2l C dL_law__399 rfl ?_
      refine dn_lcmp C dL_law__400 rfl ?_
      refine dn_if_eq (t := 406) C dL_law__401 (by decide) rfl ?_ ?_
      · refine dn_goto (t := 2595) C dL_law__406 (by decide) ?_
        refine dn_pick [2, 3, 4, 5, 6] rfl ?_
        exact dn_wid (by omega) (by omega) (hj s33 u29)
      · refine dn_iconst C dL_law__404 ic_i_0 rfl ?_
        exact dn_fin0
    · refine dn_goto (t := 2595) C dL_law__406 (by decide) ?_
      refine dn_pick [2, 3, 4, 5, 6] rfl ?_
      exact dn_wid (by omega) (by omega) (hj s33 u29)
  · refine dn_iconst C dL_law__387 ic_i_0 rfl ?_
    exact dn_fin0
def lc_3 (L : Nat) (xs : Nat → Int32) (j : hp_I → hp_L → Option Int32) (i : Int32) (s0 : hp_I) (u0 : hp_L) : Option Int32 :=
  Option.bind (px_sld L xs (i + (1 : Int32))) fun z37 =>
  px_b3 (fn_L_work 0 z37 s0 u0) fun z38 s39 u40 =>
  px_let z38 fun v41 =>
  Option.bind (px_sld L xs (i + (1 : Int32))) fun z42 =>
  px_b2 (fn_M_work 52 z42 s39) fun z43 s44 =>
  px_let z43 fun v45 =>
  Option.bind (fn_M_thrown 52 s44) fun z46 =>
  if z46 = v41 then (
    if v41 = 0 then (
      Option.bind (px_lld u40 601 (0 : Int32)) fun z47 =>
      if (lg_cmp z47 v45.toInt64) = 0 then (
        j s44 u40
      ) else (
        some (0 : Int32)
      )
    ) else (
      j s44 u40
    )
  ) else (
    some (0 : Int32)
  )
set_option maxHeartbeats 4000000 in
set_option maxRecDepth 100000 in
theorem lp_3 {G : wd_G} {M : wd_M} {b0 L : Nat} {xs : Nat → Int32} {Q1 : State → Prop} {c sl : Nat} {i : Int32} {j : hp_I → hp_L → Option Int32} (C : cx_C G M RL code 8 80 (some .boolean)) (X : lm_X G M) (hs : sx_scr G M b0 L xs) (hc1 : c + 8 ≤ 601024) (hc2 : sl + 48 ≤ 7293034) (hj : ∀ (s : hp_I) (u : hp_L), dn_D G M 8 (c + 8) (sl + 48) (ql_Q Q1) 2595 [(0, .ref b0), (1, .ref (wd_b G + 0)), (2, .ref (wd_b G + 52)), (3, .ref (wd_b G + 601)), (4, .int i)] [] s u (j s u)) (s0 : hp_I) (u0 : hp_L) : dn_D G M 8 c sl (ql_Q Q1) 409 [(0, .ref b0), (1, .ref (wd_b G + 0)), (2, .ref (wd_b G + 52)), (3, .ref (wd_b G + 601)), (4, .int i)] [] s0 u0 (lc_3 L xs j i s0 u0) := by
  unfold lc_3
  refine dn_aload_n C dL_law__409 rfl 1 rfl rfl ?_
  refine dn_aload_n C dL_law__410 rfl 0 rfl rfl ?_
  refine dn_iload C dL_law__411 4 rfl rfl ?_
  refine dn_iconst C dL_law__413 ic_i_1 rfl ?_
  refine dn_iadd C dL_law__414 rfl ?_
  refine dn_sald C hs dL_law__415 rfl (fun z37 => ?_)
  refine dn_aload_n C dL_law__416 rfl 3 rfl rfl ?_
  refine dn_callW (As := [.ref (wd_b G + 0), .int z37, .ref (wd_b G + 601)]) (st := []) C (okw_L_work (cx_g C) X.2.2 X.2.1 0 k0_11 z37 s0 u0) mw_L_work msw_L_work lk_L_138 (by decide) rfl (lm_c X hc1 hc2 1 (by decide)) (Nat.le_of_ble_eq_true rfl) dL_law__417 rfl rfl (fun z38 s39 u40 => ?_)
  refine dn_istore (lv0 := [(0, .ref b0), (1, .ref (wd_b G + 0)), (2, .ref (wd_b G + 52)), (3, .ref (wd_b G + 601)), (4, .int i)]) C dL_law__420 (by decide) rfl rfl (fun v41 => ?_)
  refine dn_aload_n C dL_law__422 rfl 3 rfl rfl ?_
  refine dn_aload_n C dL_law__423 rfl 1 rfl rfl ?_
  refine dn_iload C dL_law__424 5 rfl rfl ?_
  refine dn_iconst C dL_law__426 ic_i_1 rfl ?_
  refine dn_iadd C dL_law__427 rfl ?_
  refine dn_sald C hs dL_law__428 rfl (fun z42 => ?_)
  refine dn_callV_ih (As := [.int z42]) (st := []) C (ok_M_work (cx_g C) 52 k52_12 z42 s39 u40) mt_X12_work mv_X12_work lk_L_140 (by decide) k52_12 rfl (lm_c X hc1 hc2 1 (by decide)) (Nat.le_of_ble_eq_true rfl) dL_law__429 rfl rfl (fun z43 s44 => ?_)
  refine dn_istore (lv0 := [(5, .int v41), (0, .ref b0), (1, .ref (wd_b G + 0)), (2, .ref (wd_b G + 52)), (3, .ref (wd_b G + 601)), (4, .int i)]) C dL_law__432 (by decide) rfl rfl (fun v45 => ?_)
  refine dn_aload_n C dL_law__434 rfl 4 rfl rfl ?_
  refine dn_callV_i (As := []) (st := []) C (ok_M_thrown (cx_g C) 52 k52_12 s44 u40) mt_X12_thrown mv_X12_thrown lk_L_131 (by decide) k52_12 rfl (lm_c X hc1 hc2 1 (by decide)) (Nat.le_of_ble_eq_true rfl) dL_law__435 rfl rfl (fun z46 => ?_)
  refine dn_iload C dL_law__438 1 rfl rfl ?_
  refine dn_icmp_eq (t := 445) C dL_law__440 (by decide) rfl ?_ ?_
  · refine dn_iload C dL_law__445 1 rfl rfl ?_
    refine dn_if_ne (t := 462) C dL_law__447 (by decide) rfl ?_ ?_
    · refine dn_aload_n C dL_law__450 rfl 5 rfl rfl ?_
      refine dn_iconst C dL_law__451 ic_i_0 rfl ?_
      refine dn_lald C sh_601 X.2.2 dL_law__452 rfl (fun z47 => ?_)
      refine dn_iload C dL_law__453 0 rfl rfl ?_
      refine dn_i2l C dL_law__455 rfl ?_
      refine dn_lcmp C dL_law__456 rfl ?_
      refine dn_if_eq (t := 462) C dL_law__457 (by decide) rfl ?_ ?_
      · refine dn_goto (t := 2595) C dL_law__462 (by decide) ?_
        refine dn_pick [2, 3, 4, 5, 6] rfl ?_
        exact dn_wid (by omega) (by omega) (hj s44 u40)
      · refine dn_iconst C dL_law__460 ic_i_0 rfl ?_
        exact dn_fin0
    · refine dn_goto (t := 2595) C dL_law__462 (by decide) ?_
      refine dn_pick [2, 3, 4, 5, 6] rfl ?_
      exact dn_wid (by omega) (by omega) (hj s44 u40)
  · refine dn_iconst C dL_law__443 ic_i_0 rfl ?_
    exact dn_fin0
def lc_4 (L : Nat) (xs : Nat → Int32) (j : hp_I → hp_L → Option Int32) (i : Int32) (s0 : hp_I) (u0 : hp_L) : Option Int32 :=
  Option.bind (px_sld L xs (i + (1 : Int32))) fun z48 =>
  px_b3 (fn_L_book 0 z48 s0 u0) fun z49 s50 u51 =>
  px_let z49 fun v52 =>
  Option.bind (px_sld L xs (i + (1 : Int32))) fun z53 =>
  px_b2 (fn_M_book 52 z53 s50) fun z54 s55 =>
  px_let z54 fun v56 =>
  Option.bind (fn_M_thrown 52 s55) fun z57 =>
  if z57 = v52 then (
    if v52 = 0 then (
      Option.bind (px_lld u51 601 (0 : Int32)) fun z58 =>
      if (lg_cmp z58 v56.toInt64) = 0 then (
        j s55 u51
      ) else (
        some (0 : Int32)
      )
    ) else (
      j s55 u51
    )
  ) else (
    some (0 : Int32)
  )
set_option maxHeartbeats 4000000 in
set_option maxRecDepth 100000 in
theorem lp_4 {G : wd_G} {M : wd_M} {b0 L : Nat} {xs : Nat → Int32} {Q1 : State → Prop} {c sl : Nat} {i : Int32} {j : hp_I → hp_L → Option Int32} (C : cx_C G M RL code 8 80 (some .boolean)) (X : lm_X G M) (hs : sx_scr G M b0 L xs) (hc1 : c + 8 ≤ 601024) (hc2 : sl + 48 ≤ 7293034) (hj : ∀ (s : hp_I) (u : hp_L), dn_D G M 8 (c + 8) (sl + 48) (ql_Q Q1) 2595 [(0, .ref b0), (1, .ref (wd_b G + 0)), (2, .ref (wd_b G + 52)), (3, .ref (wd_b G + 601)), (4, .int i)] [] s u (j s u)) (s0 : hp_I) (u0 : hp_L) : dn_D G M 8 c sl (ql_Q Q1) 465 [(0, .ref b0), (1, .ref (wd_b G + 0)), (2, .ref (wd_b G + 52)), (3, .ref (wd_b G + 601)), (4, .int i)] [] s0 u0 (lc_4 L xs j i s0 u0) := by
  unfold lc_4
  refine dn_aload_n C dL_law__465 rfl 1 rfl rfl ?_
  refine dn_aload_n C dL_law__466 rfl 0 rfl rfl ?_
  refine dn_iload C dL_law__467 4 rfl rfl ?_
  refine dn_iconst C dL_law__469 ic_i_1 rfl ?_
  refine dn_iadd C dL_law__470 rfl ?_
  refine dn_sald C hs dL_law__471 rfl (fun z48 => ?_)
  refine dn_aload_n C dL_law__472 rfl 3 rfl rfl ?_
  refine dn_callW (As := [.ref (wd_b G + 0), .int z48, .ref (wd_b G + 601)]) (st := []) C (okw_L_book (cx_g C) X.2.2 X.2.1 0 k0_11 z48 s0 u0) mw_L_book msw_L_book lk_L_141 (by decide) rfl (lm_c X hc1 hc2 1 (by decide)) (Nat.le_of_ble_eq_true rfl) dL_law__473 rfl rfl (fun z49 s50 u51 => ?_)
  refine dn_istore (lv0 := [(0, .ref b0), (1, .ref (wd_b G + 0)), (2, .ref (wd_b G + 52)), (3, .ref (wd_b G + 601)), (4, .int i)]) C dL_law__476 (by decide) rfl rfl (fun v52 => ?_)
  refine dn_aload_n C dL_law__478 rfl 3 rfl rfl ?_
  refine dn_aload_n C dL_law__479 rfl 1 rfl rfl ?_
  refine dn_iload C dL_law__480 5 rfl rfl ?_
  refine dn_iconst C dL_law__482 ic_i_1 rfl ?_
  refine dn_iadd C dL_law__483 rfl ?_
  refine dn_sald C hs dL_law__484 rfl (fun z53 => ?_)
  refine dn_callV_ih (As := [.int z53]) (st := []) C (ok_M_book (cx_g C) 52 k52_12 z53 s50 u51) mt_X12_book mv_X12_book lk_L_143 (by decide) k52_12 rfl (lm_c X hc1 hc2 1 (by decide)) (Nat.le_of_ble_eq_true rfl) dL_law__485 rfl rfl (fun z54 s55 => ?_)
  refine dn_istore (lv0 := [(5, .int v52), (0, .ref b0), (1, .ref (wd_b G + 0)), (2, .ref (wd_b G + 52)), (3, .ref (wd_b G + 601)), (4, .int i)]) C dL_law__488 (by decide) rfl rfl (fun v56 => ?_)
  refine dn_aload_n C dL_law__490 rfl 4 rfl rfl ?_
  refine dn_callV_i (As := []) (st := []) C (ok_M_thrown (cx_g C) 52 k52_12 s55 u51) mt_X12_thrown mv_X12_thrown lk_L_131 (by decide) k52_12 rfl (lm_c X hc1 hc2 1 (by decide)) (Nat.le_of_ble_eq_true rfl) dL_law__491 rfl rfl (fun z57 => ?_)
  refine dn_iload C dL_law__494 1 rfl rfl ?_
  refine dn_icmp_eq (t := 501) C dL_law__496 (by decide) rfl ?_ ?_
  · refine dn_iload C dL_law__501 1 rfl rfl ?_
    refine dn_if_ne (t := 518) C dL_law__503 (by decide) rfl ?_ ?_
    · refine dn_aload_n C dL_law__506 rfl 5 rfl rfl ?_
      refine dn_iconst C dL_law__507 ic_i_0 rfl ?_
      refine dn_lald C sh_601 X.2.2 dL_law__508 rfl (fun z58 => ?_)
      refine dn_iload C dL_law__509 0 rfl rfl ?_
      refine dn_i2l C dL_law__511 rfl ?_
      refine dn_lcmp C dL_law__512 rfl ?_
      refine dn_if_eq (t := 518) C dL_law__513 (by decide) rfl ?_ ?_
      · refine dn_goto (t := 2595) C dL_law__518 (by decide) ?_
        refine dn_pick [2, 3, 4, 5, 6] rfl ?_
        exact dn_wid (by omega) (by omega) (hj s55 u51)
      · refine dn_iconst C dL_law__516 ic_i_0 rfl ?_
        exact dn_fin0
    · refine dn_goto (t := 2595) C dL_law__518 (by decide) ?_
      refine dn_pick [2, 3, 4, 5, 6] rfl ?_
      exact dn_wid (by omega) (by omega) (hj s55 u51)
  · refine dn_iconst C dL_law__499 ic_i_0 rfl ?_
    exact dn_fin0
def lc_5 (L : Nat) (xs : Nat → Int32) (j : hp_I → hp_L → Option Int32) (i : Int32) (s0 : hp_I) (u0 : hp_L) : Option Int32 :=
  Option.bind (fn_X_fault 0 s0) fun z59 =>
  px_b2 (fn_M_fault 52 s0) fun z60 s61 =>
  if z59 = z60 then (
    j s61 u0
  ) else (
    some (0 : Int32)
  )
set_option maxHeartbeats 4000000 in
set_option maxRecDepth 100000 in
theorem lp_5 {G : wd_G} {M : wd_M} {b0 L : Nat} {xs : Nat → Int32} {Q1 : State → Prop} {c sl : Nat} {i : Int32} {j : hp_I → hp_L → Option Int32} (C : cx_C G M RL code 8 80 (some .boolean)) (X : lm_X G M) (hs : sx_scr G M b0 L xs) (hc1 : c + 8 ≤ 601024) (hc2 : sl + 48 ≤ 7293034) (hj : ∀ (s : hp_I) (u : hp_L), dn_D G M 8 (c + 8) (sl + 48) (ql_Q Q1) 2595 [(0, .ref b0), (1, .ref (wd_b G + 0)), (2, .ref (wd_b G + 52)), (3, .ref (wd_b G + 601)), (4, .int i)] [] s u (j s u)) (s0 : hp_I) (u0 : hp_L) : dn_D G M 8 c sl (ql_Q Q1) 521 [(0, .ref b0), (1, .ref (wd_b G + 0)), (2, .ref (wd_b G + 52)), (3, .ref (wd_b G + 601)), (4, .int i)] [] s0 u0 (lc_5 L xs j i s0 u0) := by
  unfold lc_5
  refine dn_aload_n C dL_law__521 rfl 1 rfl rfl ?_
  refine dn_callV_i (As := []) (st := []) C (ok_X_fault (cx_g C) 0 k0_11 s0 u0) mt_X11_fault mv_X11_fault lk_L_144 (by decide) k0_11 rfl (lm_c X hc1 hc2 0 (by decide)) (Nat.le_of_ble_eq_true rfl) dL_law__522 rfl rfl (fun z59 => ?_)
  refine dn_aload_n C dL_law__525 rfl 2 rfl rfl ?_
  refine dn_callV_ih (As := []) (st := [.int z59]) C (ok_M_fault (cx_g C) 52 k52_12 s0 u0) mt_X12_fault mv_X12_fault lk_L_147 (by decide) k52_12 rfl (lm_c X hc1 hc2 0 (by decide)) (Nat.le_of_ble_eq_true rfl) dL_law__526 rfl rfl (fun z60 s61 => ?_)
  refine dn_icmp_eq (t := 2595) C dL_law__529 (by decide) rfl ?_ ?_
  · exact dn_wid (by omega) (by omega) (hj s61 u0)
  · refine dn_iconst C dL_law__532 ic_i_0 rfl ?_
    exact dn_fin0
def lc_6 (L : Nat) (xs : Nat → Int32) (j : hp_I → hp_L → Option Int32) (i : Int32) (s0 : hp_I) (u0 : hp_L) : Option Int32 :=
  px_b2 (fn_X_undo 0 s0) fun z62 s63 =>
  px_b2 (fn_M_undo 52 s63) fun z64 s65 =>
  if z62 = z64 then (
    j s65 u0
  ) else (
    some (0 : Int32)
  )
set_option maxHeartbeats 4000000 in
set_option maxRecDepth 100000 in
theorem lp_6 {G : wd_G} {M : wd_M} {b0 L : Nat} {xs : Nat → Int32} {Q1 : State → Prop} {c sl : Nat} {i : Int32} {j : hp_I → hp_L → Option Int32} (C : cx_C G M RL code 8 80 (some .boolean)) (X : lm_X G M) (hs : sx_scr G M b0 L xs) (hc1 : c + 8 ≤ 601024) (hc2 : sl + 48 ≤ 7293034) (hj : ∀ (s : hp_I) (u : hp_L), dn_D G M 8 (c + 8) (sl + 48) (ql_Q Q1) 2595 [(0, .ref b0), (1, .ref (wd_b G + 0)), (2, .ref (wd_b G + 52)), (3, .ref (wd_b G + 601)), (4, .int i)] [] s u (j s u)) (s0 : hp_I) (u0 : hp_L) : dn_D G M 8 c sl (ql_Q Q1) 534 [(0, .ref b0), (1, .ref (wd_b G + 0)), (2, .ref (wd_b G + 52)), (3, .ref (wd_b G + 601)), (4, .int i)] [] s0 u0 (lc_6 L xs j i s0 u0) := by
  unfold lc_6
  refine dn_aload_n C dL_law__534 rfl 1 rfl rfl ?_
  refine dn_callV_ih (As := []) (st := []) C (ok_X_undo (cx_g C) 0 k0_11 s0 u0) mt_X11_undo mv_X11_undo lk_L_148 (by decide) k0_11 rfl (lm_c X hc1 hc2 0 (by decide)) (Nat.le_of_ble_eq_true rfl) dL_law__535 rfl rfl (fun z62 s63 => ?_)
  refine dn_aload_n C dL_law__538 rfl 2 rfl rfl ?_
  refine dn_callV_ih (As := []) (st := [.int z62]) C (ok_M_undo (cx_g C) 52 k52_12 s63 u0) mt_X12_undo mv_X12_undo lk_L_151 (by decide) k52_12 rfl (lm_c X hc1 hc2 0 (by decide)) (Nat.le_of_ble_eq_true rfl) dL_law__539 rfl rfl (fun z64 s65 => ?_)
  refine dn_icmp_eq (t := 2595) C dL_law__542 (by decide) rfl ?_ ?_
  · exact dn_wid (by omega) (by omega) (hj s65 u0)
  · refine dn_iconst C dL_law__545 ic_i_0 rfl ?_
    exact dn_fin0
def lc_7 (L : Nat) (xs : Nat → Int32) (j : hp_I → hp_L → Option Int32) (i : Int32) (s0 : hp_I) (u0 : hp_L) : Option Int32 :=
  Option.bind (px_sld L xs (i + (1 : Int32))) fun z66 =>
  px_b3 (fn_L_told 0 z66 s0 u0) fun z67 s68 u69 =>
  px_let z67 fun v70 =>
  Option.bind (px_sld L xs (i + (1 : Int32))) fun z71 =>
  px_b2 (fn_M_told 52 z71 s68) fun z72 s73 =>
  px_let z72 fun v74 =>
  Option.bind (fn_M_thrown 52 s73) fun z75 =>
  if z75 = v70 then (
    if v70 = 0 then (
      Option.bind (px_lld u69 601 (0 : Int32)) fun z76 =>
      if (lg_cmp z76 v74.toInt64) = 0 then (
        j s73 u69
      ) else (
        some (0 : Int32)
      )
    ) else (
      j s73 u69
    )
  ) else (
    some (0 : Int32)
  )
set_option maxHeartbeats 4000000 in
set_option maxRecDepth 100000 in
theorem lp_7 {G : wd_G} {M : wd_M} {b0 L : Nat} {xs : Nat → Int32} {Q1 : State → Prop} {c sl : Nat} {i : Int32} {j : hp_I → hp_L → Option Int32} (C : cx_C G M RL code 8 80 (some .boolean)) (X : lm_X G M) (hs : sx_scr G M b0 L xs) (hc1 : c + 8 ≤ 601024) (hc2 : sl + 48 ≤ 7293034) (hj : ∀ (s : hp_I) (u : hp_L), dn_D G M 8 (c + 8) (sl + 48) (ql_Q Q1) 2595 [(0, .ref b0), (1, .ref (wd_b G + 0)), (2, .ref (wd_b G + 52)), (3, .ref (wd_b G + 601)), (4, .int i)] [] s u (j s u)) (s0 : hp_I) (u0 : hp_L) : dn_D G M 8 c sl (ql_Q Q1) 547 [(0, .ref b0), (1, .ref (wd_b G + 0)), (2, .ref (wd_b G + 52)), (3, .ref (wd_b G + 601)), (4, .int i)] [] s0 u0 (lc_7 L xs j i s0 u0) := by
  unfold lc_7
  refine dn_aload_n C dL_law__547 rfl 1 rfl rfl ?_
  refine dn_aload_n C dL_law__548 rfl 0 rfl rfl ?_
  refine dn_iload C dL_law__549 4 rfl rfl ?_
  refine dn_iconst C dL_law__551 ic_i_1 rfl ?_
  refine dn_iadd C dL_law__552 rfl ?_
  refine dn_sald C hs dL_law__553 rfl (fun z66 => ?_)
  refine dn_aload_n C dL_law__554 rfl 3 rfl rfl ?_
  refine dn_callW (As := [.ref (wd_b G + 0), .int z66, .ref (wd_b G + 601)]) (st := []) C (okw_L_told (cx_g C) X.2.2 X.2.1 0 k0_11 z66 s0 u0) mw_L_told msw_L_told lk_L_152 (by decide) rfl (lm_c X hc1 hc2 1 (by decide)) (Nat.le_of_ble_eq_true rfl) dL_law__555 rfl rfl (fun z67 s68 u69 => ?_)
  refine dn_istore (lv0 := [(0, .ref b0), (1, .ref (wd_b G + 0)), (2, .ref (wd_b G + 52)), (3, .ref (wd_b G + 601)), (4, .int i)]) C dL_law__558 (by decide) rfl rfl (fun v70 => ?_)
  refine dn_aload_n C dL_law__560 rfl 3 rfl rfl ?_
  refine dn_aload_n C dL_law__561 rfl 1 rfl rfl ?_
  refine dn_iload C dL_law__562 5 rfl rfl ?_
  refine dn_iconst C dL_law__564 ic_i_1 rfl ?_
  refine dn_iadd C dL_law__565 rfl ?_
  refine dn_sald C hs dL_law__566 rfl (fun z71 => ?_)
  refine dn_callV_ih (As := [.int z71]) (st := []) C (ok_M_told (cx_g C) 52 k52_12 z71 s68 u69) mt_X12_told mv_X12_told lk_L_154 (by decide) k52_12 rfl (lm_c X hc1 hc2 1 (by decide)) (Nat.le_of_ble_eq_true rfl) dL_law__567 rfl rfl (fun z72 s73 => ?_)
  refine dn_istore (lv0 := [(5, .int v70), (0, .ref b0), (1, .ref (wd_b G + 0)), (2, .ref (wd_b G + 52)), (3, .ref (wd_b G + 601)), (4, .int i)]) C dL_law__570 (by decide) rfl rfl (fun v74 => ?_)
  refine dn_aload_n C dL_law__572 rfl 4 rfl rfl ?_
  refine dn_callV_i (As := []) (st := []) C (ok_M_thrown (cx_g C) 52 k52_12 s73 u69) mt_X12_thrown mv_X12_thrown lk_L_131 (by decide) k52_12 rfl (lm_c X hc1 hc2 1 (by decide)) (Nat.le_of_ble_eq_true rfl) dL_law__573 rfl rfl (fun z75 => ?_)
  refine dn_iload C dL_law__576 1 rfl rfl ?_
  refine dn_icmp_eq (t := 583) C dL_law__578 (by decide) rfl ?_ ?_
  · refine dn_iload C dL_law__583 1 rfl rfl ?_
    refine dn_if_ne (t := 600) C dL_law__585 (by decide) rfl ?_ ?_
    · refine dn_aload_n C dL_law__588 rfl 5 rfl rfl ?_
      refine dn_iconst C dL_law__589 ic_i_0 rfl ?_
      refine dn_lald C sh_601 X.2.2 dL_law__590 rfl (fun z76 => ?_)
      refine dn_iload C dL_law__591 0 rfl rfl ?_
      refine dn_i2l C dL_law__593 rfl ?_
      refine dn_lcmp C dL_law__594 rfl ?_
      refine dn_if_eq (t := 600) C dL_law__595 (by decide) rfl ?_ ?_
      · refine dn_goto (t := 2595) C dL_law__600 (by decide) ?_
        refine dn_pick [2, 3, 4, 5, 6] rfl ?_
        exact dn_wid (by omega) (by omega) (hj s73 u69)
      · refine dn_iconst C dL_law__598 ic_i_0 rfl ?_
        exact dn_fin0
    · refine dn_goto (t := 2595) C dL_law__600 (by decide) ?_
      refine dn_pick [2, 3, 4, 5, 6] rfl ?_
      exact dn_wid (by omega) (by omega) (hj s73 u69)
  · refine dn_iconst C dL_law__581 ic_i_0 rfl ?_
    exact dn_fin0
def lc_8 (L : Nat) (xs : Nat → Int32) (j : hp_I → hp_L → Option Int32) (i : Int32) (s0 : hp_I) (u0 : hp_L) : Option Int32 :=
  Option.bind (px_sld L xs (i + (1 : Int32))) fun z77 =>
  Option.bind (px_sld L xs (i + (2 : Int32))) fun z78 =>
  px_b3 (fn_L_room 0 z77 z78 s0 u0) fun z79 s80 u81 =>
  px_let z79 fun v82 =>
  Option.bind (px_sld L xs (i + (1 : Int32))) fun z83 =>
  Option.bind (px_sld L xs (i + (2 : Int32))) fun z84 =>
  px_b2 (fn_M_room 52 z83 z84 s80) fun z85 s86 =>
  px_let z85 fun v87 =>
  Option.bind (fn_M_thrown 52 s86) fun z88 =>
  if z88 = v82 then (
    if v82 = 0 then (
      Option.bind (px_lld u81 601 (0 : Int32)) fun z89 =>
      if (lg_cmp z89 v87.toInt64) = 0 then (
        j s86 u81
      ) else (
        some (0 : Int32)
      )
    ) else (
      j s86 u81
    )
  ) else (
    some (0 : Int32)
  )
set_option maxHeartbeats 4000000 in
set_option maxRecDepth 100000 in
theorem lp_8 {G : wd_G} {M : wd_M} {b0 L : Nat} {xs : Nat → Int32} {Q1 : State → Prop} {c sl : Nat} {i : Int32} {j : hp_I → hp_L → Option Int32} (C : cx_C G M RL code 8 80 (some .boolean)) (X : lm_X G M) (hs : sx_scr G M b0 L xs) (hc1 : c + 8 ≤ 601024) (hc2 : sl + 48 ≤ 7293034) (hj : ∀ (s : hp_I) (u : hp_L), dn_D G M 8 (c + 8) (sl + 48) (ql_Q Q1) 2595 [(0, .ref b0), (1, .ref (wd_b G + 0)), (2, .ref (wd_b G + 52)), (3, .ref (wd_b G + 601)), (4, .int i)] [] s u (j s u)) (s0 : hp_I) (u0 : hp_L) : dn_D G M 8 c sl (ql_Q Q1) 603 [(0, .ref b0), (1, .ref (wd_b G + 0)), (2, .ref (wd_b G + 52)), (3, .ref (wd_b G + 601)), (4, .int i)] [] s0 u0 (lc_8 L xs j i s0 u0) := by
  unfold lc_8
  refine dn_aload_n C dL_law__603 rfl 1 rfl rfl ?_
  refine dn_aload_n C dL_law__604 rfl 0 rfl rfl ?_
  refine dn_iload C dL_law__605 4 rfl rfl ?_
  refine dn_iconst C dL_law__607 ic_i_1 rfl ?_
  refine dn_iadd C dL_law__608 rfl ?_
  refine dn_sald C hs dL_law__609 rfl (fun z77 => ?_)
  refine dn_aload_n C dL_law__610 rfl 0 rfl rfl ?_
  refine dn_iload C dL_law__611 4 rfl rfl ?_
  refine dn_iconst C dL_law__613 ic_i_2 rfl ?_
  refine dn_iadd C dL_law__614 rfl ?_
  refine dn_sald C hs dL_law__615 rfl (fun z78 => ?_)
  refine dn_aload_n C dL_law__616 rfl 3 rfl rfl ?_
  refine dn_callW (As := [.ref (wd_b G + 0), .int z77, .int z78, .ref (wd_b G + 601)]) (st := []) C (okw_L_room (cx_g C) X.2.2 X.2.1 0 k0_11 z77 z78 s0 u0) mw_L_room msw_L_room lk_L_155 (by decide) rfl (lm_c X hc1 hc2 2 (by decide)) (Nat.le_of_ble_eq_true rfl) dL_law__617 rfl rfl (fun z79 s80 u81 => ?_)
  refine dn_istore (lv0 := [(0, .ref b0), (1, .ref (wd_b G + 0)), (2, .ref (wd_b G + 52)), (3, .ref (wd_b G + 601)), (4, .int i)]) C dL_law__620 (by decide) rfl rfl (fun v82 => ?_)
  refine dn_aload_n C dL_law__622 rfl 3 rfl rfl ?_
  refine dn_aload_n C dL_law__623 rfl 1 rfl rfl ?_
  refine dn_iload C dL_law__624 5 rfl rfl ?_
  refine dn_iconst C dL_law__626 ic_i_1 rfl ?_
  refine dn_iadd C dL_law__627 rfl ?_
  refine dn_sald C hs dL_law__628 rfl (fun z83 => ?_)
  refine dn_aload_n C dL_law__629 rfl 1 rfl rfl ?_
  refine dn_iload C dL_law__630 5 rfl rfl ?_
  refine dn_iconst C dL_law__632 ic_i_2 rfl ?_
  refine dn_iadd C dL_law__633 rfl ?_
  refine dn_sald C hs dL_law__634 rfl (fun z84 => ?_)
  refine dn_callV_ih (As := [.int z83, .int z84]) (st := []) C (ok_M_room (cx_g C) 52 k52_12 z83 z84 s80 u81) mt_X12_room mv_X12_room lk_L_158 (by decide) k52_12 rfl (lm_c X hc1 hc2 2 (by decide)) (Nat.le_of_ble_eq_true rfl) dL_law__635 rfl rfl (fun z85 s86 => ?_)
  refine dn_istore (lv0 := [(5, .int v82), (0, .ref b0), (1, .ref (wd_b G + 0)), (2, .ref (wd_b G + 52)), (3, .ref (wd_b G + 601)), (4, .int i)]) C dL_law__638 (by decide) rfl rfl (fun v87 => ?_)
  refine dn_aload_n C dL_law__640 rfl 4 rfl rfl ?_
  refine dn_callV_i (As := []) (st := []) C (ok_M_thrown (cx_g C) 52 k52_12 s86 u81) mt_X12_thrown mv_X12_thrown lk_L_131 (by decide) k52_12 rfl (lm_c X hc1 hc2 2 (by decide)) (Nat.le_of_ble_eq_true rfl) dL_law__641 rfl rfl (fun z88 => ?_)
  refine dn_iload C dL_law__644 1 rfl rfl ?_
  refine dn_icmp_eq (t := 651) C dL_law__646 (by decide) rfl ?_ ?_
  · refine dn_iload C dL_law__651 1 rfl rfl ?_
    refine dn_if_ne (t := 668) C dL_law__653 (by decide) rfl ?_ ?_
    · refine dn_aload_n C dL_law__656 rfl 5 rfl rfl ?_
      refine dn_iconst C dL_law__657 ic_i_0 rfl ?_
      refine dn_lald C sh_601 X.2.2 dL_law__658 rfl (fun z89 => ?_)
      refine dn_iload C dL_law__659 0 rfl rfl ?_
      refine dn_i2l C dL_law__661 rfl ?_
      refine dn_lcmp C dL_law__662 rfl ?_
      refine dn_if_eq (t := 668) C dL_law__663 (by decide) rfl ?_ ?_
      · refine dn_goto (t := 2595) C dL_law__668 (by decide) ?_
        refine dn_pick [2, 3, 4, 5, 6] rfl ?_
        exact dn_wid (by omega) (by omega) (hj s86 u81)
      · refine dn_iconst C dL_law__666 ic_i_0 rfl ?_
        exact dn_fin0
    · refine dn_goto (t := 2595) C dL_law__668 (by decide) ?_
      refine dn_pick [2, 3, 4, 5, 6] rfl ?_
      exact dn_wid (by omega) (by omega) (hj s86 u81)
  · refine dn_iconst C dL_law__649 ic_i_0 rfl ?_
    exact dn_fin0
def lc_9 (L : Nat) (xs : Nat → Int32) (j : hp_I → hp_L → Option Int32) (i : Int32) (s0 : hp_I) (u0 : hp_L) : Option Int32 :=
  Option.bind (px_sld L xs (i + (1 : Int32))) fun z90 =>
  Option.bind (px_sld L xs (i + (2 : Int32))) fun z91 =>
  px_b3 (fn_L_way 0 z90 z91 s0 u0) fun z92 s93 u94 =>
  px_let z92 fun v95 =>
  Option.bind (px_sld L xs (i + (1 : Int32))) fun z96 =>
  Option.bind (px_sld L xs (i + (2 : Int32))) fun z97 =>
  px_b2 (fn_M_way 52 z96 z97 s93) fun z98 s99 =>
  px_let z98 fun v100 =>
  Option.bind (fn_M_thrown 52 s99) fun z101 =>
  if z101 = v95 then (
    if v95 = 0 then (
      Option.bind (px_lld u94 601 (0 : Int32)) fun z102 =>
      if (lg_cmp z102 v100.toInt64) = 0 then (
        j s99 u94
      ) else (
        some (0 : Int32)
      )
    ) else (
      j s99 u94
    )
  ) else (
    some (0 : Int32)
  )
set_option maxHeartbeats 4000000 in
set_option maxRecDepth 100000 in
theorem lp_9 {G : wd_G} {M : wd_M} {b0 L : Nat} {xs : Nat → Int32} {Q1 : State → Prop} {c sl : Nat} {i : Int32} {j : hp_I → hp_L → Option Int32} (C : cx_C G M RL code 8 80 (some .boolean)) (X : lm_X G M) (hs : sx_scr G M b0 L xs) (hc1 : c + 8 ≤ 601024) (hc2 : sl + 48 ≤ 7293034) (hj : ∀ (s : hp_I) (u : hp_L), dn_D G M 8 (c + 8) (sl + 48) (ql_Q Q1) 2595 [(0, .ref b0), (1, .ref (wd_b G + 0)), (2, .ref (wd_b G + 52)), (3, .ref (wd_b G + 601)), (4, .int i)] [] s u (j s u)) (s0 : hp_I) (u0 : hp_L) : dn_D G M 8 c sl (ql_Q Q1) 671 [(0, .ref b0), (1, .ref (wd_b G + 0)), (2, .ref (wd_b G + 52)), (3, .ref (wd_b G + 601)), (4, .int i)] [] s0 u0 (lc_9 L xs j i s0 u0) := by
  unfold lc_9
  refine dn_aload_n C dL_law__671 rfl 1 rfl rfl ?_
  refine dn_aload_n C dL_law__672 rfl 0 rfl rfl ?_
  refine dn_iload C dL_law__673 4 rfl rfl ?_
  refine dn_iconst C dL_law__675 ic_i_1 rfl ?_
  refine dn_iadd C dL_law__676 rfl ?_
  refine dn_sald C hs dL_law__677 rfl (fun z90 => ?_)
  refine dn_aload_n C dL_law__678 rfl 0 rfl rfl ?_
  refine dn_iload C dL_law__679 4 rfl rfl ?_
  refine dn_iconst C dL_law__681 ic_i_2 rfl ?_
  refine dn_iadd C dL_law__682 rfl ?_
  refine dn_sald C hs dL_law__683 rfl (fun z91 => ?_)
  refine dn_aload_n C dL_law__684 rfl 3 rfl rfl ?_
  refine dn_callW (As := [.ref (wd_b G + 0), .int z90, .int z91, .ref (wd_b G + 601)]) (st := []) C (okw_L_way (cx_g C) X.2.2 X.2.1 0 k0_11 z90 z91 s0 u0) mw_L_way msw_L_way lk_L_159 (by decide) rfl (lm_c X hc1 hc2 2 (by decide)) (Nat.le_of_ble_eq_true rfl) dL_law__685 rfl rfl (fun z92 s93 u94 => ?_)
  refine dn_istore (lv0 := [(0, .ref b0), (1, .ref (wd_b G + 0)), (2, .ref (wd_b G + 52)), (3, .ref (wd_b G + 601)), (4, .int i)]) C dL_law__688 (by decide) rfl rfl (fun v95 => ?_)
  refine dn_aload_n C dL_law__690 rfl 3 rfl rfl ?_
  refine dn_aload_n C dL_law__691 rfl 1 rfl rfl ?_
  refine dn_iload C dL_law__692 5 rfl rfl ?_
  refine dn_iconst C dL_law__694 ic_i_1 rfl ?_
  refine dn_iadd C dL_law__695 rfl ?_
  refine dn_sald C hs dL_law__696 rfl (fun z96 => ?_)
  refine dn_aload_n C dL_law__697 rfl 1 rfl rfl ?_
  refine dn_iload C dL_law__698 5 rfl rfl ?_
  refine dn_iconst C dL_law__700 ic_i_2 rfl ?_
  refine dn_iadd C dL_law__701 rfl ?_
  refine dn_sald C hs dL_law__702 rfl (fun z97 => ?_)
  refine dn_callV_ih (As := [.int z96, .int z97]) (st := []) C (ok_M_way (cx_g C) 52 k52_12 z96 z97 s93 u94) mt_X12_way mv_X12_way lk_L_161 (by decide) k52_12 rfl (lm_c X hc1 hc2 2 (by decide)) (Nat.le_of_ble_eq_true rfl) dL_law__703 rfl rfl (fun z98 s99 => ?_)
  refine dn_istore (lv0 := [(5, .int v95), (0, .ref b0), (1, .ref (wd_b G + 0)), (2, .ref (wd_b G + 52)), (3, .ref (wd_b G + 601)), (4, .int i)]) C dL_law__706 (by decide) rfl rfl (fun v100 => ?_)
  refine dn_aload_n C dL_law__708 rfl 4 rfl rfl ?_
  refine dn_callV_i (As := []) (st := []) C (ok_M_thrown (cx_g C) 52 k52_12 s99 u94) mt_X12_thrown mv_X12_thrown lk_L_131 (by decide) k52_12 rfl (lm_c X hc1 hc2 2 (by decide)) (Nat.le_of_ble_eq_true rfl) dL_law__709 rfl rfl (fun z101 => ?_)
  refine dn_iload C dL_law__712 1 rfl rfl ?_
  refine dn_icmp_eq (t := 719) C dL_law__714 (by decide) rfl ?_ ?_
  · refine dn_iload C dL_law__719 1 rfl rfl ?_
    refine dn_if_ne (t := 736) C dL_law__721 (by decide) rfl ?_ ?_
    · refine dn_aload_n C dL_law__724 rfl 5 rfl rfl ?_
      refine dn_iconst C dL_law__725 ic_i_0 rfl ?_
      refine dn_lald C sh_601 X.2.2 dL_law__726 rfl (fun z102 => ?_)
      refine dn_iload C dL_law__727 0 rfl rfl ?_
      refine dn_i2l C dL_law__729 rfl ?_
      refine dn_lcmp C dL_law__730 rfl ?_
      refine dn_if_eq (t := 736) C dL_law__731 (by decide) rfl ?_ ?_
      · refine dn_goto (t := 2595) C dL_law__736 (by decide) ?_
        refine dn_pick [2, 3, 4, 5, 6] rfl ?_
        exact dn_wid (by omega) (by omega) (hj s99 u94)
      · refine dn_iconst C dL_law__734 ic_i_0 rfl ?_
        exact dn_fin0
    · refine dn_goto (t := 2595) C dL_law__736 (by decide) ?_
      refine dn_pick [2, 3, 4, 5, 6] rfl ?_
      exact dn_wid (by omega) (by omega) (hj s99 u94)
  · refine dn_iconst C dL_law__717 ic_i_0 rfl ?_
    exact dn_fin0
def lc_10 (L : Nat) (xs : Nat → Int32) (j : hp_I → hp_L → Option Int32) (i : Int32) (s0 : hp_I) (u0 : hp_L) : Option Int32 :=
  Option.bind (px_sld L xs (i + (1 : Int32))) fun z103 =>
  Option.bind (px_sld L xs (i + (2 : Int32))) fun z104 =>
  px_b3 (fn_L_scheme 0 z103 z104 s0 u0) fun z105 s106 u107 =>
  px_let z105 fun v108 =>
  Option.bind (px_sld L xs (i + (1 : Int32))) fun z109 =>
  Option.bind (px_sld L xs (i + (2 : Int32))) fun z110 =>
  px_b2 (fn_M_scheme 52 z109 z110 s106) fun z111 s112 =>
  px_let z111 fun v113 =>
  Option.bind (fn_M_thrown 52 s112) fun z114 =>
  if z114 = v108 then (
    if v108 = 0 then (
      Option.bind (px_lld u107 601 (0 : Int32)) fun z115 =>
      if (lg_cmp z115 v113.toInt64) = 0 then (
        j s112 u107
      ) else (
        some (0 : Int32)
      )
    ) else (
      j s112 u107
    )
  ) else (
    some (0 : Int32)
  )
set_option maxHeartbeats 4000000 in
set_option maxRecDepth 100000 in
theorem lp_10 {G : wd_G} {M : wd_M} {b0 L : Nat} {xs : Nat → Int32} {Q1 : State → Prop} {c sl : Nat} {i : Int32} {j : hp_I → hp_L → Option Int32} (C : cx_C G M RL code 8 80 (some .boolean)) (X : lm_X G M) (hs : sx_scr G M b0 L xs) (hc1 : c + 8 ≤ 601024) (hc2 : sl + 48 ≤ 7293034) (hj : ∀ (s : hp_I) (u : hp_L), dn_D G M 8 (c + 8) (sl + 48) (ql_Q Q1) 2595 [(0, .ref b0), (1, .ref (wd_b G + 0)), (2, .ref (wd_b G + 52)), (3, .ref (wd_b G + 601)), (4, .int i)] [] s u (j s u)) (s0 : hp_I) (u0 : hp_L) : dn_D G M 8 c sl (ql_Q Q1) 739 [(0, .ref b0), (1, .ref (wd_b G + 0)), (2, .ref (wd_b G + 52)), (3, .ref (wd_b G + 601)), (4, .int i)] [] s0 u0 (lc_10 L xs j i s0 u0) := by
  unfold lc_10
  refine dn_aload_n C dL_law__739 rfl 1 rfl rfl ?_
  refine dn_aload_n C dL_law__740 rfl 0 rfl rfl ?_
  refine dn_iload C dL_law__741 4 rfl rfl ?_
  refine dn_iconst C dL_law__743 ic_i_1 rfl ?_
  refine dn_iadd C dL_law__744 rfl ?_
  refine dn_sald C hs dL_law__745 rfl (fun z103 => ?_)
  refine dn_aload_n C dL_law__746 rfl 0 rfl rfl ?_
  refine dn_iload C dL_law__747 4 rfl rfl ?_
  refine dn_iconst C dL_law__749 ic_i_2 rfl ?_
  refine dn_iadd C dL_law__750 rfl ?_
  refine dn_sald C hs dL_law__751 rfl (fun z104 => ?_)
  refine dn_aload_n C dL_law__752 rfl 3 rfl rfl ?_
  refine dn_callW (As := [.ref (wd_b G + 0), .int z103, .int z104, .ref (wd_b G + 601)]) (st := []) C (okw_L_scheme (cx_g C) X.2.2 X.2.1 0 k0_11 z103 z104 s0 u0) mw_L_scheme msw_L_scheme lk_L_162 (by decide) rfl (lm_c X hc1 hc2 2 (by decide)) (Nat.le_of_ble_eq_true rfl) dL_law__753 rfl rfl (fun z105 s106 u107 => ?_)
  refine dn_istore (lv0 := [(0, .ref b0), (1, .ref (wd_b G + 0)), (2, .ref (wd_b G + 52)), (3, .ref (wd_b G + 601)), (4, .int i)]) C dL_law__756 (by decide) rfl rfl (fun v108 => ?_)
  refine dn_aload_n C dL_law__758 rfl 3 rfl rfl ?_
  refine dn_aload_n C dL_law__759 rfl 1 rfl rfl ?_
  refine dn_iload C dL_law__760 5 rfl rfl ?_
  refine dn_iconst C dL_law__762 ic_i_1 rfl ?_
  refine dn_iadd C dL_law__763 rfl ?_
  refine dn_sald C hs dL_law__764 rfl (fun z109 => ?_)
  refine dn_aload_n C dL_law__765 rfl 1 rfl rfl ?_
  refine dn_iload C dL_law__766 5 rfl rfl ?_
  refine dn_iconst C dL_law__768 ic_i_2 rfl ?_
  refine dn_iadd C dL_law__769 rfl ?_
  refine dn_sald C hs dL_law__770 rfl (fun z110 => ?_)
  refine dn_callV_ih (As := [.int z109, .int z110]) (st := []) C (ok_M_scheme (cx_g C) 52 k52_12 z109 z110 s106 u107) mt_X12_scheme mv_X12_scheme lk_L_164 (by decide) k52_12 rfl (lm_c X hc1 hc2 2 (by decide)) (Nat.le_of_ble_eq_true rfl) dL_law__771 rfl rfl (fun z111 s112 => ?_)
  refine dn_istore (lv0 := [(5, .int v108), (0, .ref b0), (1, .ref (wd_b G + 0)), (2, .ref (wd_b G + 52)), (3, .ref (wd_b G + 601)), (4, .int i)]) C dL_law__774 (by decide) rfl rfl (fun v113 => ?_)
  refine dn_aload_n C dL_law__776 rfl 4 rfl rfl ?_
  refine dn_callV_i (As := []) (st := []) C (ok_M_thrown (cx_g C) 52 k52_12 s112 u107) mt_X12_thrown mv_X12_thrown lk_L_131 (by decide) k52_12 rfl (lm_c X hc1 hc2 2 (by decide)) (Nat.le_of_ble_eq_true rfl) dL_law__777 rfl rfl (fun z114 => ?_)
  refine dn_iload C dL_law__780 1 rfl rfl ?_
  refine dn_icmp_eq (t := 787) C dL_law__782 (by decide) rfl ?_ ?_
  · refine dn_iload C dL_law__787 1 rfl rfl ?_
    refine dn_if_ne (t := 804) C dL_law__789 (by decide) rfl ?_ ?_
    · refine dn_aload_n C dL_law__792 rfl 5 rfl rfl ?_
      refine dn_iconst C dL_law__793 ic_i_0 rfl ?_
      refine dn_lald C sh_601 X.2.2 dL_law__794 rfl (fun z115 => ?_)
      refine dn_iload C dL_law__795 0 rfl rfl ?_
      refine dn_i2l C dL_law__797 rfl ?_
      refine dn_lcmp C dL_law__798 rfl ?_
      refine dn_if_eq (t := 804) C dL_law__799 (by decide) rfl ?_ ?_
      · refine dn_goto (t := 2595) C dL_law__804 (by decide) ?_
        refine dn_pick [2, 3, 4, 5, 6] rfl ?_
        exact dn_wid (by omega) (by omega) (hj s112 u107)
      · refine dn_iconst C dL_law__802 ic_i_0 rfl ?_
        exact dn_fin0
    · refine dn_goto (t := 2595) C dL_law__804 (by decide) ?_
      refine dn_pick [2, 3, 4, 5, 6] rfl ?_
      exact dn_wid (by omega) (by omega) (hj s112 u107)
  · refine dn_iconst C dL_law__785 ic_i_0 rfl ?_
    exact dn_fin0
def lc_11 (L : Nat) (xs : Nat → Int32) (j : hp_I → hp_L → Option Int32) (i : Int32) (s0 : hp_I) (u0 : hp_L) : Option Int32 :=
  Option.bind (px_sld L xs (i + (1 : Int32))) fun z116 =>
  Option.bind (px_sld L xs (i + (2 : Int32))) fun z117 =>
  px_b3 (fn_L_cat 0 z116 z117 s0 u0) fun z118 s119 u120 =>
  px_let z118 fun v121 =>
  Option.bind (px_sld L xs (i + (1 : Int32))) fun z122 =>
  Option.bind (px_sld L xs (i + (2 : Int32))) fun z123 =>
  px_b2 (fn_M_cat 52 z122 z123 s119) fun z124 s125 =>
  px_let z124 fun v126 =>
  Option.bind (fn_M_thrown 52 s125) fun z127 =>
  if z127 = v121 then (
    if v121 = 0 then (
      Option.bind (px_lld u120 601 (0 : Int32)) fun z128 =>
      if (lg_cmp z128 v126.toInt64) = 0 then (
        j s125 u120
      ) else (
        some (0 : Int32)
      )
    ) else (
      j s125 u120
    )
  ) else (
    some (0 : Int32)
  )
set_option maxHeartbeats 4000000 in
set_option maxRecDepth 100000 in
theorem lp_11 {G : wd_G} {M : wd_M} {b0 L : Nat} {xs : Nat → Int32} {Q1 : State → Prop} {c sl : Nat} {i : Int32} {j : hp_I → hp_L → Option Int32} (C : cx_C G M RL code 8 80 (some .boolean)) (X : lm_X G M) (hs : sx_scr G M b0 L xs) (hc1 : c + 8 ≤ 601024) (hc2 : sl + 48 ≤ 7293034) (hj : ∀ (s : hp_I) (u : hp_L), dn_D G M 8 (c + 8) (sl + 48) (ql_Q Q1) 2595 [(0, .ref b0), (1, .ref (wd_b G + 0)), (2, .ref (wd_b G + 52)), (3, .ref (wd_b G + 601)), (4, .int i)] [] s u (j s u)) (s0 : hp_I) (u0 : hp_L) : dn_D G M 8 c sl (ql_Q Q1) 807 [(0, .ref b0), (1, .ref (wd_b G + 0)), (2, .ref (wd_b G + 52)), (3, .ref (wd_b G + 601)), (4, .int i)] [] s0 u0 (lc_11 L xs j i s0 u0) := by
  unfold lc_11
  refine dn_aload_n C dL_law__807 rfl 1 rfl rfl ?_
  refine dn_aload_n C dL_law__808 rfl 0 rfl rfl ?_
  refine dn_iload C dL_law__809 4 rfl rfl ?_
  refine dn_iconst C dL_law__811 ic_i_1 rfl ?_
  refine dn_iadd C dL_law__812 rfl ?_
  refine dn_sald C hs dL_law__813 rfl (fun z116 => ?_)
  refine dn_aload_n C dL_law__814 rfl 0 rfl rfl ?_
  refine dn_iload C dL_law__815 4 rfl rfl ?_
  refine dn_iconst C dL_law__817 ic_i_2 rfl ?_
  refine dn_iadd C dL_law__818 rfl ?_
  refine dn_sald C hs dL_law__819 rfl (fun z117 => ?_)
  refine dn_aload_n C dL_law__820 rfl 3 rfl rfl ?_
  refine dn_callW (As := [.ref (wd_b G + 0), .int z116, .int z117, .ref (wd_b G + 601)]) (st := []) C (okw_L_cat (cx_g C) X.2.2 X.2.1 0 k0_11 z116 z117 s0 u0) mw_L_cat msw_L_cat lk_L_165 (by decide) rfl (lm_c X hc1 hc2 2 (by decide)) (Nat.le_of_ble_eq_true rfl) dL_law__821 rfl rfl (fun z118 s119 u120 => ?_)
  refine dn_istore (lv0 := [(0, .ref b0), (1, .ref (wd_b G + 0)), (2, .ref (wd_b G + 52)), (3, .ref (wd_b G + 601)), (4, .int i)]) C dL_law__824 (by decide) rfl rfl (fun v121 => ?_)
  refine dn_aload_n C dL_law__826 rfl 3 rfl rfl ?_
  refine dn_aload_n C dL_law__827 rfl 1 rfl rfl ?_
  refine dn_iload C dL_law__828 5 rfl rfl ?_
  refine dn_iconst C dL_law__830 ic_i_1 rfl ?_
  refine dn_iadd C dL_law__831 rfl ?_
  refine dn_sald C hs dL_law__832 rfl (fun z122 => ?_)
  refine dn_aload_n C dL_law__833 rfl 1 rfl rfl ?_
  refine dn_iload C dL_law__834 5 rfl rfl ?_
  refine dn_iconst C dL_law__836 ic_i_2 rfl ?_
  refine dn_iadd C dL_law__837 rfl ?_
  refine dn_sald C hs dL_law__838 rfl (fun z123 => ?_)
  refine dn_callV_ih (As := [.int z122, .int z123]) (st := []) C (ok_M_cat (cx_g C) 52 k52_12 z122 z123 s119 u120) mt_X12_cat mv_X12_cat lk_L_167 (by decide) k52_12 rfl (lm_c X hc1 hc2 2 (by decide)) (Nat.le_of_ble_eq_true rfl) dL_law__839 rfl rfl (fun z124 s125 => ?_)
  refine dn_istore (lv0 := [(5, .int v121), (0, .ref b0), (1, .ref (wd_b G + 0)), (2, .ref (wd_b G + 52)), (3, .ref (wd_b G + 601)), (4, .int i)]) C dL_law__842 (by decide) rfl rfl (fun v126 => ?_)
  refine dn_aload_n C dL_law__844 rfl 4 rfl rfl ?_
  refine dn_callV_i (As := []) (st := []) C (ok_M_thrown (cx_g C) 52 k52_12 s125 u120) mt_X12_thrown mv_X12_thrown lk_L_131 (by decide) k52_12 rfl (lm_c X hc1 hc2 2 (by decide)) (Nat.le_of_ble_eq_true rfl) dL_law__845 rfl rfl (fun z127 => ?_)
  refine dn_iload C dL_law__848 1 rfl rfl ?_
  refine dn_icmp_eq (t := 855) C dL_law__850 (by decide) rfl ?_ ?_
  · refine dn_iload C dL_law__855 1 rfl rfl ?_
    refine dn_if_ne (t := 872) C dL_law__857 (by decide) rfl ?_ ?_
    · refine dn_aload_n C dL_law__860 rfl 5 rfl rfl ?_
      refine dn_iconst C dL_law__861 ic_i_0 rfl ?_
      refine dn_lald C sh_601 X.2.2 dL_law__862 rfl (fun z128 => ?_)
      refine dn_iload C dL_law__863 0 rfl rfl ?_
      refine dn_i2l C dL_law__865 rfl ?_
      refine dn_lcmp C dL_law__866 rfl ?_
      refine dn_if_eq (t := 872) C dL_law__867 (by decide) rfl ?_ ?_
      · refine dn_goto (t := 2595) C dL_law__872 (by decide) ?_
        refine dn_pick [2, 3, 4, 5, 6] rfl ?_
        exact dn_wid (by omega) (by omega) (hj s125 u120)
      · refine dn_iconst C dL_law__870 ic_i_0 rfl ?_
        exact dn_fin0
    · refine dn_goto (t := 2595) C dL_law__872 (by decide) ?_
      refine dn_pick [2, 3, 4, 5, 6] rfl ?_
      exact dn_wid (by omega) (by omega) (hj s125 u120)
  · refine dn_iconst C dL_law__853 ic_i_0 rfl ?_
    exact dn_fin0
def lc_12 (L : Nat) (xs : Nat → Int32) (j : hp_I → hp_L → Option Int32) (i : Int32) (s0 : hp_I) (u0 : hp_L) : Option Int32 :=
  Option.bind (px_sld L xs (i + (1 : Int32))) fun z129 =>
  px_b3 (fn_L_more 0 z129 s0 u0) fun z130 s131 u132 =>
  px_let z130 fun v133 =>
  Option.bind (px_sld L xs (i + (1 : Int32))) fun z134 =>
  px_b2 (fn_M_more 52 z134 s131) fun z135 s136 =>
  px_let z135 fun v137 =>
  Option.bind (fn_M_thrown 52 s136) fun z138 =>
  if z138 = v133 then (
    if v133 = 0 then (
      Option.bind (px_lld u132 601 (0 : Int32)) fun z139 =>
      if (lg_cmp z139 v137.toInt64) = 0 then (
        j s136 u132
      ) else (
        some (0 : Int32)
      )
    ) else (
      j s136 u132
    )
  ) else (
    some (0 : Int32)
  )
set_option maxHeartbeats 4000000 in
set_option maxRecDepth 100000 in
theorem lp_12 {G : wd_G} {M : wd_M} {b0 L : Nat} {xs : Nat → Int32} {Q1 : State → Prop} {c sl : Nat} {i : Int32} {j : hp_I → hp_L → Option Int32} (C : cx_C G M RL code 8 80 (some .boolean)) (X : lm_X G M) (hs : sx_scr G M b0 L xs) (hc1 : c + 8 ≤ 601024) (hc2 : sl + 48 ≤ 7293034) (hj : ∀ (s : hp_I) (u : hp_L), dn_D G M 8 (c + 8) (sl + 48) (ql_Q Q1) 2595 [(0, .ref b0), (1, .ref (wd_b G + 0)), (2, .ref (wd_b G + 52)), (3, .ref (wd_b G + 601)), (4, .int i)] [] s u (j s u)) (s0 : hp_I) (u0 : hp_L) : dn_D G M 8 c sl (ql_Q Q1) 875 [(0, .ref b0), (1, .ref (wd_b G + 0)), (2, .ref (wd_b G + 52)), (3, .ref (wd_b G + 601)), (4, .int i)] [] s0 u0 (lc_12 L xs j i s0 u0) := by
  unfold lc_12
  refine dn_aload_n C dL_law__875 rfl 1 rfl rfl ?_
  refine dn_aload_n C dL_law__876 rfl 0 rfl rfl ?_
  refine dn_iload C dL_law__877 4 rfl rfl ?_
  refine dn_iconst C dL_law__879 ic_i_1 rfl ?_
  refine dn_iadd C dL_law__880 rfl ?_
  refine dn_sald C hs dL_law__881 rfl (fun z129 => ?_)
  refine dn_aload_n C dL_law__882 rfl 3 rfl rfl ?_
  refine dn_callW (As := [.ref (wd_b G + 0), .int z129, .ref (wd_b G + 601)]) (st := []) C (okw_L_more (cx_g C) X.2.2 X.2.1 0 k0_11 z129 s0 u0) mw_L_more msw_L_more lk_L_168 (by decide) rfl (lm_c X hc1 hc2 1 (by decide)) (Nat.le_of_ble_eq_true rfl) dL_law__883 rfl rfl (fun z130 s131 u132 => ?_)
  refine dn_istore (lv0 := [(0, .ref b0), (1, .ref (wd_b G + 0)), (2, .ref (wd_b G + 52)), (3, .ref (wd_b G + 601)), (4, .int i)]) C dL_law__886 (by decide) rfl rfl (fun v133 => ?_)
  refine dn_aload_n C dL_law__888 rfl 3 rfl rfl ?_
  refine dn_aload_n C dL_law__889 rfl 1 rfl rfl ?_
  refine dn_iload C dL_law__890 5 rfl rfl ?_
  refine dn_iconst C dL_law__892 ic_i_1 rfl ?_
  refine dn_iadd C dL_law__893 rfl ?_
  refine dn_sald C hs dL_law__894 rfl (fun z134 => ?_)
  refine dn_callV_ih (As := [.int z134]) (st := []) C (ok_M_more (cx_g C) 52 k52_12 z134 s131 u132) mt_X12_more mv_X12_more lk_L_170 (by decide) k52_12 rfl (lm_c X hc1 hc2 1 (by decide)) (Nat.le_of_ble_eq_true rfl) dL_law__895 rfl rfl (fun z135 s136 => ?_)
  refine dn_istore (lv0 := [(5, .int v133), (0, .ref b0), (1, .ref (wd_b G + 0)), (2, .ref (wd_b G + 52)), (3, .ref (wd_b G + 601)), (4, .int i)]) C dL_law__898 (by decide) rfl rfl (fun v137 => ?_)
  refine dn_aload_n C dL_law__900 rfl 4 rfl rfl ?_
  refine dn_callV_i (As := []) (st := []) C (ok_M_thrown (cx_g C) 52 k52_12 s136 u132) mt_X12_thrown mv_X12_thrown lk_L_131 (by decide) k52_12 rfl (lm_c X hc1 hc2 1 (by decide)) (Nat.le_of_ble_eq_true rfl) dL_law__901 rfl rfl (fun z138 => ?_)
  refine dn_iload C dL_law__904 1 rfl rfl ?_
  refine dn_icmp_eq (t := 911) C dL_law__906 (by decide) rfl ?_ ?_
  · refine dn_iload C dL_law__911 1 rfl rfl ?_
    refine dn_if_ne (t := 928) C dL_law__913 (by decide) rfl ?_ ?_
    · refine dn_aload_n C dL_law__916 rfl 5 rfl rfl ?_
      refine dn_iconst C dL_law__917 ic_i_0 rfl ?_
      refine dn_lald C sh_601 X.2.2 dL_law__918 rfl (fun z139 => ?_)
      refine dn_iload C dL_law__919 0 rfl rfl ?_
      refine dn_i2l C dL_law__921 rfl ?_
      refine dn_lcmp C dL_law__922 rfl ?_
      refine dn_if_eq (t := 928) C dL_law__923 (by decide) rfl ?_ ?_
      · refine dn_goto (t := 2595) C dL_law__928 (by decide) ?_
        refine dn_pick [2, 3, 4, 5, 6] rfl ?_
        exact dn_wid (by omega) (by omega) (hj s136 u132)
      · refine dn_iconst C dL_law__926 ic_i_0 rfl ?_
        exact dn_fin0
    · refine dn_goto (t := 2595) C dL_law__928 (by decide) ?_
      refine dn_pick [2, 3, 4, 5, 6] rfl ?_
      exact dn_wid (by omega) (by omega) (hj s136 u132)
  · refine dn_iconst C dL_law__909 ic_i_0 rfl ?_
    exact dn_fin0
def lc_13 (L : Nat) (xs : Nat → Int32) (j : hp_I → hp_L → Option Int32) (i : Int32) (s0 : hp_I) (u0 : hp_L) : Option Int32 :=
  Option.bind (px_sld L xs (i + (1 : Int32))) fun z140 =>
  Option.bind (px_sld L xs (i + (2 : Int32))) fun z141 =>
  Option.bind (px_sld L xs (i + (3 : Int32))) fun z142 =>
  Option.bind (px_sld L xs (i + (4 : Int32))) fun z143 =>
  Option.bind (px_sld L xs (i + (5 : Int32))) fun z144 =>
  Option.bind (px_sld L xs (i + (6 : Int32))) fun z145 =>
  Option.bind (px_sld L xs (i + (7 : Int32))) fun z146 =>
  px_b3 (fn_L_would 0 z140 z141 z142 z143 z144 z145 z146 s0 u0) fun z147 s148 u149 =>
  px_let z147 fun v150 =>
  Option.bind (px_sld L xs (i + (1 : Int32))) fun z151 =>
  Option.bind (px_sld L xs (i + (2 : Int32))) fun z152 =>
  Option.bind (px_sld L xs (i + (3 : Int32))) fun z153 =>
  Option.bind (px_sld L xs (i + (4 : Int32))) fun z154 =>
  Option.bind (px_sld L xs (i + (5 : Int32))) fun z155 =>
  Option.bind (px_sld L xs (i + (6 : Int32))) fun z156 =>
  Option.bind (px_sld L xs (i + (7 : Int32))) fun z157 =>
  px_b2 (fn_M_would 52 z151 z152 z153 z154 z155 z156 z157 s148) fun z158 s159 =>
  px_let z158 fun v160 =>
  Option.bind (fn_M_thrown 52 s159) fun z161 =>
  if z161 = v150 then (
    if v150 = 0 then (
      Option.bind (px_lld u149 601 (0 : Int32)) fun z162 =>
      if (lg_cmp z162 v160.toInt64) = 0 then (
        j s159 u149
      ) else (
        some (0 : Int32)
      )
    ) else (
      j s159 u149
    )
  ) else (
    some (0 : Int32)
  )
set_option maxHeartbeats 4000000 in
set_option maxRecDepth 100000 in
theorem lp_13 {G : wd_G} {M : wd_M} {b0 L : Nat} {xs : Nat → Int32} {Q1 : State → Prop} {c sl : Nat} {i : Int32} {j : hp_I → hp_L → Option Int32} (C : cx_C G M RL code 8 80 (some .boolean)) (X : lm_X G M) (hs : sx_scr G M b0 L xs) (hc1 : c + 8 ≤ 601024) (hc2 : sl + 48 ≤ 7293034) (hj : ∀ (s : hp_I) (u : hp_L), dn_D G M 8 (c + 8) (sl + 48) (ql_Q Q1) 2595 [(0, .ref b0), (1, .ref (wd_b G + 0)), (2, .ref (wd_b G + 52)), (3, .ref (wd_b G + 601)), (4, .int i)] [] s u (j s u)) (s0 : hp_I) (u0 : hp_L) : dn_D G M 8 c sl (ql_Q Q1) 931 [(0, .ref b0), (1, .ref (wd_b G + 0)), (2, .ref (wd_b G + 52)), (3, .ref (wd_b G + 601)), (4, .int i)] [] s0 u0 (lc_13 L xs j i s0 u0) := by
  unfold lc_13
  refine dn_aload_n C dL_law__931 rfl 1 rfl rfl ?_
  refine dn_aload_n C dL_law__932 rfl 0 rfl rfl ?_
  refine dn_iload C dL_law__933 4 rfl rfl ?_
  refine dn_iconst C dL_law__935 ic_i_1 rfl ?_
  refine dn_iadd C dL_law__936 rfl ?_
  refine dn_sald C hs dL_law__937 rfl (fun z140 => ?_)
  refine dn_aload_n C dL_law__938 rfl 0 rfl rfl ?_
  refine dn_iload C dL_law__939 4 rfl rfl ?_
  refine dn_iconst C dL_law__941 ic_i_2 rfl ?_
  refine dn_iadd C dL_law__942 rfl ?_
  refine dn_sald C hs dL_law__943 rfl (fun z141 => ?_)
  refine dn_aload_n C dL_law__944 rfl 0 rfl rfl ?_
  refine dn_iload C dL_law__945 4 rfl rfl ?_
  refine dn_iconst C dL_law__947 ic_i_3 rfl ?_
  refine dn_iadd C dL_law__948 rfl ?_
  refine dn_sald C hs dL_law__949 rfl (fun z142 => ?_)
  refine dn_aload_n C dL_law__950 rfl 0 rfl rfl ?_
  refine dn_iload C dL_law__951 4 rfl rfl ?_
  refine dn_iconst C dL_law__953 ic_i_4 rfl ?_
  refine dn_iadd C dL_law__954 rfl ?_
  refine dn_sald C hs dL_law__955 rfl (fun z143 => ?_)
  refine dn_aload_n C dL_law__956 rfl 0 rfl rfl ?_
  refine dn_iload C dL_law__957 4 rfl rfl ?_
  refine dn_iconst C dL_law__959 ic_i_5 rfl ?_
  refine dn_iadd C dL_law__960 rfl ?_
  refine dn_sald C hs dL_law__961 rfl (fun z144 => ?_)
  refine dn_aload_n C dL_law__962 rfl 0 rfl rfl ?_
  refine dn_iload C dL_law__963 4 rfl rfl ?_
  refine dn_bipush C dL_law__965 ic_b_6 rfl ?_
  refine dn_iadd C dL_law__967 rfl ?_
  refine dn_sald C hs dL_law__968 rfl (fun z145 => ?_)
  refine dn_aload_n C dL_law__969 rfl 0 rfl rfl ?_
  refine dn_iload C dL_law__970 4 rfl rfl ?_
  refine dn_bipush C dL_law__972 ic_b_7 rfl ?_
  refine dn_iadd C dL_law__974 rfl ?_
  refine dn_sald C hs dL_law__975 rfl (fun z146 => ?_)
  refine dn_aload_n C dL_law__976 rfl 3 rfl rfl ?_
  refine dn_callW (As := [.ref (wd_b G + 0), .int z140, .int z141, .int z142, .int z143, .int z144, .int z145, .int z146, .ref (wd_b G + 601)]) (st := []) C (okw_L_would (cx_g C) X.2.2 X.2.1 0 k0_11 z140 z141 z142 z143 z144 z145 z146 s0 u0) mw_L_would msw_L_would lk_L_171 (by decide) rfl (lm_c X hc1 hc2 7 (by decide)) (Nat.le_of_ble_eq_true rfl) dL_law__977 rfl rfl (fun z147 s148 u149 => ?_)
  refine dn_istore (lv0 := [(0, .ref b0), (1, .ref (wd_b G + 0)), (2, .ref (wd_b G + 52)), (3, .ref (wd_b G + 601)), (4, .int i)]) C dL_law__980 (by decide) rfl rfl (fun v150 => ?_)
  refine dn_aload_n C dL_law__982 rfl 3 rfl rfl ?_
  refine dn_aload_n C dL_law__983 rfl 1 rfl rfl ?_
  refine dn_iload C dL_law__984 5 rfl rfl ?_
  refine dn_iconst C dL_law__986 ic_i_1 rfl ?_
  refine dn_iadd C dL_law__987 rfl ?_
  refine dn_sald C hs dL_law__988 rfl (fun z151 => ?_)
  refine dn_aload_n C dL_law__989 rfl 1 rfl rfl ?_
  refine dn_iload C dL_law__990 5 rfl rfl ?_
  refine dn_iconst C dL_law__992 ic_i_2 rfl ?_
  refine dn_iadd C dL_law__993 rfl ?_
  refine dn_sald C hs dL_law__994 rfl (fun z152 => ?_)
  refine dn_aload_n C dL_law__995 rfl 1 rfl rfl ?_
  refine dn_iload C dL_law__996 5 rfl rfl ?_
  refine dn_iconst C dL_law__998 ic_i_3 rfl ?_
  refine dn_iadd C dL_law__999 rfl ?_
  refine dn_sald C hs dL_law__1000 rfl (fun z153 => ?_)
  refine dn_aload_n C dL_law__1001 rfl 1 rfl rfl ?_
  refine dn_iload C dL_law__1002 5 rfl rfl ?_
  refine dn_iconst C dL_law__1004 ic_i_4 rfl ?_
  refine dn_iadd C dL_law__1005 rfl ?_
  refine dn_sald C hs dL_law__1006 rfl (fun z154 => ?_)
  refine dn_aload_n C dL_law__1007 rfl 1 rfl rfl ?_
  refine dn_iload C dL_law__1008 5 rfl rfl ?_
  refine dn_iconst C dL_law__1010 ic_i_5 rfl ?_
  refine dn_iadd C dL_law__1011 rfl ?_
  refine dn_sald C hs dL_law__1012 rfl (fun z155 => ?_)
  refine dn_aload_n C dL_law__1013 rfl 1 rfl rfl ?_
  refine dn_iload C dL_law__1014 5 rfl rfl ?_
  refine dn_bipush C dL_law__1016 ic_b_6 rfl ?_
  refine dn_iadd C dL_law__1018 rfl ?_
  refine dn_sald C hs dL_law__1019 rfl (fun z156 => ?_)
  refine dn_aload_n C dL_law__1020 rfl 1 rfl rfl ?_
  refine dn_iload C dL_law__1021 5 rfl rfl ?_
  refine dn_bipush C dL_law__1023 ic_b_7 rfl ?_
  refine dn_iadd C dL_law__1025 rfl ?_
  refine dn_sald C hs dL_law__1026 rfl (fun z157 => ?_)
  refine dn_callV_ih (As := [.int z151, .int z152, .int z153, .int z154, .int z155, .int z156, .int z157]) (st := []) C (ok_M_would (cx_g C) 52 k52_12 z151 z152 z153 z154 z155 z156 z157 s148 u149) mt_X12_would mv_X12_would lk_L_174 (by decide) k52_12 rfl (lm_c X hc1 hc2 7 (by decide)) (Nat.le_of_ble_eq_true rfl) dL_law__1027 rfl rfl (fun z158 s159 => ?_)
  refine dn_istore (lv0 := [(5, .int v150), (0, .ref b0), (1, .ref (wd_b G + 0)), (2, .ref (wd_b G + 52)), (3, .ref (wd_b G + 601)), (4, .int i)]) C dL_law__1030 (by decide) rfl rfl (fun v160 => ?_)
  refine dn_aload_n C dL_law__1032 rfl 4 rfl rfl ?_
  refine dn_callV_i (As := []) (st := []) C (ok_M_thrown (cx_g C) 52 k52_12 s159 u149) mt_X12_thrown mv_X12_thrown lk_L_131 (by decide) k52_12 rfl (lm_c X hc1 hc2 7 (by decide)) (Nat.le_of_ble_eq_true rfl) dL_law__1033 rfl rfl (fun z161 => ?_)
  refine dn_iload C dL_law__1036 1 rfl rfl ?_
  refine dn_icmp_eq (t := 1043) C dL_law__1038 (by decide) rfl ?_ ?_
  · refine dn_iload C dL_law__1043 1 rfl rfl ?_
    refine dn_if_ne (t := 1060) C dL_law__1045 (by decide) rfl ?_ ?_
    · refine dn_aload_n C dL_law__1048 rfl 5 rfl rfl ?_
      refine dn_iconst C dL_law__1049 ic_i_0 rfl ?_
      refine dn_lald C sh_601 X.2.2 dL_law__1050 rfl (fun z162 => ?_)
      refine dn_iload C dL_law__1051 0 rfl rfl ?_
      refine dn_i2l C dL_law__1053 rfl ?_
      refine dn_lcmp C dL_law__1054 rfl ?_
      refine dn_if_eq (t := 1060) C dL_law__1055 (by decide) rfl ?_ ?_
      · refine dn_goto (t := 2595) C dL_law__1060 (by decide) ?_
        refine dn_pick [2, 3, 4, 5, 6] rfl ?_
        exact dn_wid (by omega) (by omega) (hj s159 u149)
      · refine dn_iconst C dL_law__1058 ic_i_0 rfl ?_
        exact dn_fin0
    · refine dn_goto (t := 2595) C dL_law__1060 (by decide) ?_
      refine dn_pick [2, 3, 4, 5, 6] rfl ?_
      exact dn_wid (by omega) (by omega) (hj s159 u149)
  · refine dn_iconst C dL_law__1041 ic_i_0 rfl ?_
    exact dn_fin0
def lc_14 (L : Nat) (xs : Nat → Int32) (j : hp_I → hp_L → Option Int32) (i : Int32) (s0 : hp_I) (u0 : hp_L) : Option Int32 :=
  Option.bind (px_sld L xs (i + (1 : Int32))) fun z163 =>
  Option.bind (px_sld L xs (i + (2 : Int32))) fun z164 =>
  px_b3 (fn_L_ahead 0 z163 z164 s0 u0) fun z165 s166 u167 =>
  px_let z165 fun v168 =>
  Option.bind (px_sld L xs (i + (1 : Int32))) fun z169 =>
  Option.bind (px_sld L xs (i + (2 : Int32))) fun z170 =>
  px_b2 (fn_M_ahead 52 z169 z170 s166) fun z171 s172 =>
  px_let z171 fun v173 =>
  Option.bind (fn_M_thrown 52 s172) fun z174 =>
  if z174 = v168 then (
    if v168 = 0 then (
      Option.bind (px_lld u167 601 (0 : Int32)) fun z175 =>
      if (lg_cmp z175 v173.toInt64) = 0 then (
        j s172 u167
      ) else (
        some (0 : Int32)
      )
    ) else (
      j s172 u167
    )
  ) else (
    some (0 : Int32)
  )
set_option maxHeartbeats 4000000 in
set_option maxRecDepth 100000 in
theorem lp_14 {G : wd_G} {M : wd_M} {b0 L : Nat} {xs : Nat → Int32} {Q1 : State → Prop} {c sl : Nat} {i : Int32} {j : hp_I → hp_L → Option Int32} (C : cx_C G M RL code 8 80 (some .boolean)) (X : lm_X G M) (hs : sx_scr G M b0 L xs) (hc1 : c + 8 ≤ 601024) (hc2 : sl + 48 ≤ 7293034) (hj : ∀ (s : hp_I) (u : hp_L), dn_D G M 8 (c + 8) (sl + 48) (ql_Q Q1) 2595 [(0, .ref b0), (1, .ref (wd_b G + 0)), (2, .ref (wd_b G + 52)), (3, .ref (wd_b G + 601)), (4, .int i)] [] s u (j s u)) (s0 : hp_I) (u0 : hp_L) : dn_D G M 8 c sl (ql_Q Q1) 1063 [(0, .ref b0), (1, .ref (wd_b G + 0)), (2, .ref (wd_b G + 52)), (3, .ref (wd_b G + 601)), (4, .int i)] [] s0 u0 (lc_14 L xs j i s0 u0) := by
  unfold lc_14
  refine dn_aload_n C dL_law__1063 rfl 1 rfl rfl ?_
  refine dn_aload_n C dL_law__1064 rfl 0 rfl rfl ?_
  refine dn_iload C dL_law__1065 4 rfl rfl ?_
  refine dn_iconst C dL_law__1067 ic_i_1 rfl ?_
  refine dn_iadd C dL_law__1068 rfl ?_
  refine dn_sald C hs dL_law__1069 rfl (fun z163 => ?_)
  refine dn_aload_n C dL_law__1070 rfl 0 rfl rfl ?_
  refine dn_iload C dL_law__1071 4 rfl rfl ?_
  refine dn_iconst C dL_law__1073 ic_i_2 rfl ?_
  refine dn_iadd C dL_law__1074 rfl ?_
  refine dn_sald C hs dL_law__1075 rfl (fun z164 => ?_)
  refine dn_aload_n C dL_law__1076 rfl 3 rfl rfl ?_
  refine dn_callW (As := [.ref (wd_b G + 0), .int z163, .int z164, .ref (wd_b G + 601)]) (st := []) C (okw_L_ahead (cx_g C) X.2.2 X.2.1 0 k0_11 z163 z164 s0 u0) mw_L_ahead msw_L_ahead lk_L_175 (by decide) rfl (lm_c X hc1 hc2 2 (by decide)) (Nat.le_of_ble_eq_true rfl) dL_law__1077 rfl rfl (fun z165 s166 u167 => ?_)
  refine dn_istore (lv0 := [(0, .ref b0), (1, .ref (wd_b G + 0)), (2, .ref (wd_b G + 52)), (3, .ref (wd_b G + 601)), (4, .int i)]) C dL_law__1080 (by decide) rfl rfl (fun v168 => ?_)
  refine dn_aload_n C dL_law__1082 rfl 3 rfl rfl ?_
  refine dn_aload_n C dL_law__1083 rfl 1 rfl rfl ?_
  refine dn_iload C dL_law__1084 5 rfl rfl ?_
  refine dn_iconst C dL_law__1086 ic_i_1 rfl ?_
  refine dn_iadd C dL_law__1087 rfl ?_
  refine dn_sald C hs dL_law__1088 rfl (fun z169 => ?_)
  refine dn_aload_n C dL_law__1089 rfl 1 rfl rfl ?_
  refine dn_iload C dL_law__1090 5 rfl rfl ?_
  refine dn_iconst C dL_law__1092 ic_i_2 rfl ?_
  refine dn_iadd C dL_law__1093 rfl ?_
  refine dn_sald C hs dL_law__1094 rfl (fun z170 => ?_)
  refine dn_callV_ih (As := [.int z169, .int z170]) (st := []) C (ok_M_ahead (cx_g C) 52 k52_12 z169 z170 s166 u167) mt_X12_ahead mv_X12_ahead lk_L_177 (by decide) k52_12 rfl (lm_c X hc1 hc2 2 (by decide)) (Nat.le_of_ble_eq_true rfl) dL_law__1095 rfl rfl (fun z171 s172 => ?_)
  refine dn_istore (lv0 := [(5, .int v168), (0, .ref b0), (1, .ref (wd_b G + 0)), (2, .ref (wd_b G + 52)), (3, .ref (wd_b G + 601)), (4, .int i)]) C dL_law__1098 (by decide) rfl rfl (fun v173 => ?_)
  refine dn_aload_n C dL_law__1100 rfl 4 rfl rfl ?_
  refine dn_callV_i (As := []) (st := []) C (ok_M_thrown (cx_g C) 52 k52_12 s172 u167) mt_X12_thrown mv_X12_thrown lk_L_131 (by decide) k52_12 rfl (lm_c X hc1 hc2 2 (by decide)) (Nat.le_of_ble_eq_true rfl) dL_law__1101 rfl rfl (fun z174 => ?_)
  refine dn_iload C dL_law__1104 1 rfl rfl ?_
  refine dn_icmp_eq (t := 1111) C dL_law__1106 (by decide) rfl ?_ ?_
  · refine dn_iload C dL_law__1111 1 rfl rfl ?_
    refine dn_if_ne (t := 1128) C dL_law__1113 (by decide) rfl ?_ ?_
    · refine dn_aload_n C dL_law__1116 rfl 5 rfl rfl ?_
      refine dn_iconst C dL_law__1117 ic_i_0 rfl ?_
      refine dn_lald C sh_601 X.2.2 dL_law__1118 rfl (fun z175 => ?_)
      refine dn_iload C dL_law__1119 0 rfl rfl ?_
      refine dn_i2l C dL_law__1121 rfl ?_
      refine dn_lcmp C dL_law__1122 rfl ?_
      refine dn_if_eq (t := 1128) C dL_law__1123 (by decide) rfl ?_ ?_
      · refine dn_goto (t := 2595) C dL_law__1128 (by decide) ?_
        refine dn_pick [2, 3, 4, 5, 6] rfl ?_
        exact dn_wid (by omega) (by omega) (hj s172 u167)
      · refine dn_iconst C dL_law__1126 ic_i_0 rfl ?_
        exact dn_fin0
    · refine dn_goto (t := 2595) C dL_law__1128 (by decide) ?_
      refine dn_pick [2, 3, 4, 5, 6] rfl ?_
      exact dn_wid (by omega) (by omega) (hj s172 u167)
  · refine dn_iconst C dL_law__1109 ic_i_0 rfl ?_
    exact dn_fin0
def lc_15 (L : Nat) (xs : Nat → Int32) (j : hp_I → hp_L → Option Int32) (i : Int32) (s0 : hp_I) (u0 : hp_L) : Option Int32 :=
  Option.bind (px_sld L xs (i + (1 : Int32))) fun z176 =>
  Option.bind (px_sld L xs (i + (2 : Int32))) fun z177 =>
  px_b3 (fn_L_far 0 z176 z177 s0 u0) fun z178 s179 u180 =>
  px_let z178 fun v181 =>
  Option.bind (px_sld L xs (i + (1 : Int32))) fun z182 =>
  Option.bind (px_sld L xs (i + (2 : Int32))) fun z183 =>
  px_b2 (fn_M_far 52 z182 z183 s179) fun z184 s185 =>
  px_let z184 fun v186 =>
  Option.bind (fn_M_thrown 52 s185) fun z187 =>
  if z187 = v181 then (
    if v181 = 0 then (
      Option.bind (px_lld u180 601 (0 : Int32)) fun z188 =>
      if (lg_cmp z188 v186.toInt64) = 0 then (
        j s185 u180
      ) else (
        some (0 : Int32)
      )
    ) else (
      j s185 u180
    )
  ) else (
    some (0 : Int32)
  )
set_option maxHeartbeats 4000000 in
set_option maxRecDepth 100000 in
theorem lp_15 {G : wd_G} {M : wd_M} {b0 L : Nat} {xs : Nat → Int32} {Q1 : State → Prop} {c sl : Nat} {i : Int32} {j : hp_I → hp_L → Option Int32} (C : cx_C G M RL code 8 80 (some .boolean)) (X : lm_X G M) (hs : sx_scr G M b0 L xs) (hc1 : c + 8 ≤ 601024) (hc2 : sl + 48 ≤ 7293034) (hj : ∀ (s : hp_I) (u : hp_L), dn_D G M 8 (c + 8) (sl + 48) (ql_Q Q1) 2595 [(0, .ref b0), (1, .ref (wd_b G + 0)), (2, .ref (wd_b G + 52)), (3, .ref (wd_b G + 601)), (4, .int i)] [] s u (j s u)) (s0 : hp_I) (u0 : hp_L) : dn_D G M 8 c sl (ql_Q Q1) 1131 [(0, .ref b0), (1, .ref (wd_b G + 0)), (2, .ref (wd_b G + 52)), (3, .ref (wd_b G + 601)), (4, .int i)] [] s0 u0 (lc_15 L xs j i s0 u0) := by
  unfold lc_15
  refine dn_aload_n C dL_law__1131 rfl 1 rfl rfl ?_
  refine dn_aload_n C dL_law__1132 rfl 0 rfl rfl ?_
  refine dn_iload C dL_law__1133 4 rfl rfl ?_
  refine dn_iconst C dL_law__1135 ic_i_1 rfl ?_
  refine dn_iadd C dL_law__1136 rfl ?_
  refine dn_sald C hs dL_law__1137 rfl (fun z176 => ?_)
  refine dn_aload_n C dL_law__1138 rfl 0 rfl rfl ?_
  refine dn_iload C dL_law__1139 4 rfl rfl ?_
  refine dn_iconst C dL_law__1141 ic_i_2 rfl ?_
  refine dn_iadd C dL_law__1142 rfl ?_
  refine dn_sald C hs dL_law__1143 rfl (fun z177 => ?_)
  refine dn_aload_n C dL_law__1144 rfl 3 rfl rfl ?_
  refine dn_callW (As := [.ref (wd_b G + 0), .int z176, .int z177, .ref (wd_b G + 601)]) (st := []) C (okw_L_far (cx_g C) X.2.2 X.2.1 0 k0_11 z176 z177 s0 u0) mw_L_far msw_L_far lk_L_178 (by decide) rfl (lm_c X hc1 hc2 2 (by decide)) (Nat.le_of_ble_eq_true rfl) dL_law__1145 rfl rfl (fun z178 s179 u180 => ?_)
  refine dn_istore (lv0 := [(0, .ref b0), (1, .ref (wd_b G + 0)), (2, .ref (wd_b G + 52)), (3, .ref (wd_b G + 601)), (4, .int i)]) C dL_law__1148 (by decide) rfl rfl (fun v181 => ?_)
  refine dn_aload_n C dL_law__1150 rfl 3 rfl rfl ?_
  refine dn_aload_n C dL_law__1151 rfl 1 rfl rfl ?_
  refine dn_iload C dL_law__1152 5 rfl rfl ?_
  refine dn_iconst C dL_law__1154 ic_i_1 rfl ?_
  refine dn_iadd C dL_law__1155 rfl ?_
  refine dn_sald C hs dL_law__1156 rfl (fun z182 => ?_)
  refine dn_aload_n C dL_law__1157 rfl 1 rfl rfl ?_
  refine dn_iload C dL_law__1158 5 rfl rfl ?_
  refine dn_iconst C dL_law__1160 ic_i_2 rfl ?_
  refine dn_iadd C dL_law__1161 rfl ?_
  refine dn_sald C hs dL_law__1162 rfl (fun z183 => ?_)
  refine dn_callV_ih (As := [.int z182, .int z183]) (st := []) C (ok_M_far (cx_g C) 52 k52_12 z182 z183 s179 u180) mt_X12_far mv_X12_far lk_L_180 (by decide) k52_12 rfl (lm_c X hc1 hc2 2 (by decide)) (Nat.le_of_ble_eq_true rfl) dL_law__1163 rfl rfl (fun z184 s185 => ?_)
  refine dn_istore (lv0 := [(5, .int v181), (0, .ref b0), (1, .ref (wd_b G + 0)), (2, .ref (wd_b G + 52)), (3, .ref (wd_b G + 601)), (4, .int i)]) C dL_law__1166 (by decide) rfl rfl (fun v186 => ?_)
  refine dn_aload_n C dL_law__1168 rfl 4 rfl rfl ?_
  refine dn_callV_i (As := []) (st := []) C (ok_M_thrown (cx_g C) 52 k52_12 s185 u180) mt_X12_thrown mv_X12_thrown lk_L_131 (by decide) k52_12 rfl (lm_c X hc1 hc2 2 (by decide)) (Nat.le_of_ble_eq_true rfl) dL_law__1169 rfl rfl (fun z187 => ?_)
  refine dn_iload C dL_law__1172 1 rfl rfl ?_
  refine dn_icmp_eq (t := 1179) C dL_law__1174 (by decide) rfl ?_ ?_
  · refine dn_iload C dL_law__1179 1 rfl rfl ?_
    refine dn_if_ne (t := 1196) C dL_law__1181 (by decide) rfl ?_ ?_
    · refine dn_aload_n C dL_law__1184 rfl 5 rfl rfl ?_
      refine dn_iconst C dL_law__1185 ic_i_0 rfl ?_
      refine dn_lald C sh_601 X.2.2 dL_law__1186 rfl (fun z188 => ?_)
      refine dn_iload C dL_law__1187 0 rfl rfl ?_
      refine dn_i2l C dL_law__1189 rfl ?_
      refine dn_lcmp C dL_law__1190 rfl ?_
      refine dn_if_eq (t := 1196) C dL_law__1191 (by decide) rfl ?_ ?_
      · refine dn_goto (t := 2595) C dL_law__1196 (by decide) ?_
        refine dn_pick [2, 3, 4, 5, 6] rfl ?_
        exact dn_wid (by omega) (by omega) (hj s185 u180)
      · refine dn_iconst C dL_law__1194 ic_i_0 rfl ?_
        exact dn_fin0
    · refine dn_goto (t := 2595) C dL_law__1196 (by decide) ?_
      refine dn_pick [2, 3, 4, 5, 6] rfl ?_
      exact dn_wid (by omega) (by omega) (hj s185 u180)
  · refine dn_iconst C dL_law__1177 ic_i_0 rfl ?_
    exact dn_fin0
def lc_16 (L : Nat) (xs : Nat → Int32) (j : hp_I → hp_L → Option Int32) (i : Int32) (s0 : hp_I) (u0 : hp_L) : Option Int32 :=
  Option.bind (px_sld L xs (i + (1 : Int32))) fun z189 =>
  px_b3 (fn_L_lasts 0 z189 s0 u0) fun z190 s191 u192 =>
  px_let z190 fun v193 =>
  Option.bind (px_sld L xs (i + (1 : Int32))) fun z194 =>
  px_b2 (fn_M_lasts 52 z194 s191) fun z195 s196 =>
  px_let z195 fun v197 =>
  Option.bind (fn_M_thrown 52 s196) fun z198 =>
  if z198 = v193 then (
    if v193 = 0 then (
      Option.bind (px_lld u192 601 (0 : Int32)) fun z199 =>
      if (lg_cmp z199 v197.toInt64) = 0 then (
        j s196 u192
      ) else (
        some (0 : Int32)
      )
    ) else (
      j s196 u192
    )
  ) else (
    some (0 : Int32)
  )
set_option maxHeartbeats 4000000 in
set_option maxRecDepth 100000 in
theorem lp_16 {G : wd_G} {M : wd_M} {b0 L : Nat} {xs : Nat → Int32} {Q1 : State → Prop} {c sl : Nat} {i : Int32} {j : hp_I → hp_L → Option Int32} (C : cx_C G M RL code 8 80 (some .boolean)) (X : lm_X G M) (hs : sx_scr G M b0 L xs) (hc1 : c + 8 ≤ 601024) (hc2 : sl + 48 ≤ 7293034) (hj : ∀ (s : hp_I) (u : hp_L), dn_D G M 8 (c + 8) (sl + 48) (ql_Q Q1) 2595 [(0, .ref b0), (1, .ref (wd_b G + 0)), (2, .ref (wd_b G + 52)), (3, .ref (wd_b G + 601)), (4, .int i)] [] s u (j s u)) (s0 : hp_I) (u0 : hp_L) : dn_D G M 8 c sl (ql_Q Q1) 1199 [(0, .ref b0), (1, .ref (wd_b G + 0)), (2, .ref (wd_b G + 52)), (3, .ref (wd_b G + 601)), (4, .int i)] [] s0 u0 (lc_16 L xs j i s0 u0) := by
  unfold lc_16
  refine dn_aload_n C dL_law__1199 rfl 1 rfl rfl ?_
  refine dn_aload_n C dL_law__1200 rfl 0 rfl rfl ?_
  refine dn_iload C dL_law__1201 4 rfl rfl ?_
  refine dn_iconst C dL_law__1203 ic_i_1 rfl ?_
  refine dn_iadd C dL_law__1204 rfl ?_
  refine dn_sald C hs dL_law__1205 rfl (fun z189 => ?_)
  refine dn_aload_n C dL_law__1206 rfl 3 rfl rfl ?_
  refine dn_callW (As := [.ref (wd_b G + 0), .int z189, .ref (wd_b G + 601)]) (st := []) C (okw_L_lasts (cx_g C) X.2.2 X.2.1 0 k0_11 z189 s0 u0) mw_L_lasts msw_L_lasts lk_L_181 (by decide) rfl (lm_c X hc1 hc2 1 (by decide)) (Nat.le_of_ble_eq_true rfl) dL_law__1207 rfl rfl (fun z190 s191 u192 => ?_)
  refine dn_istore (lv0 := [(0, .ref b0), (1, .ref (wd_b G + 0)), (2, .ref (wd_b G + 52)), (3, .ref (wd_b G + 601)), (4, .int i)]) C dL_law__1210 (by decide) rfl rfl (fun v193 => ?_)
  refine dn_aload_n C dL_law__1212 rfl 3 rfl rfl ?_
  refine dn_aload_n C dL_law__1213 rfl 1 rfl rfl ?_
  refine dn_iload C dL_law__1214 5 rfl rfl ?_
  refine dn_iconst C dL_law__1216 ic_i_1 rfl ?_
  refine dn_iadd C dL_law__1217 rfl ?_
  refine dn_sald C hs dL_law__1218 rfl (fun z194 => ?_)
  refine dn_callV_ih (As := [.int z194]) (st := []) C (ok_M_lasts (cx_g C) 52 k52_12 z194 s191 u192) mt_X12_lasts mv_X12_lasts lk_L_183 (by decide) k52_12 rfl (lm_c X hc1 hc2 1 (by decide)) (Nat.le_of_ble_eq_true rfl) dL_law__1219 rfl rfl (fun z195 s196 => ?_)
  refine dn_istore (lv0 := [(5, .int v193), (0, .ref b0), (1, .ref (wd_b G + 0)), (2, .ref (wd_b G + 52)), (3, .ref (wd_b G + 601)), (4, .int i)]) C dL_law__1222 (by decide) rfl rfl (fun v197 => ?_)
  refine dn_aload_n C dL_law__1224 rfl 4 rfl rfl ?_
  refine dn_callV_i (As := []) (st := []) C (ok_M_thrown (cx_g C) 52 k52_12 s196 u192) mt_X12_thrown mv_X12_thrown lk_L_131 (by decide) k52_12 rfl (lm_c X hc1 hc2 1 (by decide)) (Nat.le_of_ble_eq_true rfl) dL_law__1225 rfl rfl (fun z198 => ?_)
  refine dn_iload C dL_law__1228 1 rfl rfl ?_
  refine dn_icmp_eq (t := 1235) C dL_law__1230 (by decide) rfl ?_ ?_
  · refine dn_iload C dL_law__1235 1 rfl rfl ?_
    refine dn_if_ne (t := 1252) C dL_law__1237 (by decide) rfl ?_ ?_
    · refine dn_aload_n C dL_law__1240 rfl 5 rfl rfl ?_
      refine dn_iconst C dL_law__1241 ic_i_0 rfl ?_
      refine dn_lald C sh_601 X.2.2 dL_law__1242 rfl (fun z199 => ?_)
      refine dn_iload C dL_law__1243 0 rfl rfl ?_
      refine dn_i2l C dL_law__1245 rfl ?_
      refine dn_lcmp C dL_law__1246 rfl ?_
      refine dn_if_eq (t := 1252) C dL_law__1247 (by decide) rfl ?_ ?_
      · refine dn_goto (t := 2595) C dL_law__1252 (by decide) ?_
        refine dn_pick [2, 3, 4, 5, 6] rfl ?_
        exact dn_wid (by omega) (by omega) (hj s196 u192)
      · refine dn_iconst C dL_law__1250 ic_i_0 rfl ?_
        exact dn_fin0
    · refine dn_goto (t := 2595) C dL_law__1252 (by decide) ?_
      refine dn_pick [2, 3, 4, 5, 6] rfl ?_
      exact dn_wid (by omega) (by omega) (hj s196 u192)
  · refine dn_iconst C dL_law__1233 ic_i_0 rfl ?_
    exact dn_fin0
def lc_17 (L : Nat) (xs : Nat → Int32) (j : hp_I → hp_L → Option Int32) (i : Int32) (s0 : hp_I) (u0 : hp_L) : Option Int32 :=
  Option.bind (px_sld L xs (i + (1 : Int32))) fun z200 =>
  Option.bind (px_sld L xs (i + (2 : Int32))) fun z201 =>
  px_b3 (fn_L_slips 0 z200 z201 s0 u0) fun z202 s203 u204 =>
  px_let z202 fun v205 =>
  Option.bind (px_sld L xs (i + (1 : Int32))) fun z206 =>
  Option.bind (px_sld L xs (i + (2 : Int32))) fun z207 =>
  px_b2 (fn_M_slips 52 z206 z207 s203) fun z208 s209 =>
  px_let z208 fun v210 =>
  Option.bind (fn_M_thrown 52 s209) fun z211 =>
  if z211 = v205 then (
    if v205 = 0 then (
      Option.bind (px_lld u204 601 (0 : Int32)) fun z212 =>
      if (lg_cmp z212 v210.toInt64) = 0 then (
        j s209 u204
      ) else (
        some (0 : Int32)
      )
    ) else (
      j s209 u204
    )
  ) else (
    some (0 : Int32)
  )
set_option maxHeartbeats 4000000 in
set_option maxRecDepth 100000 in
theorem lp_17 {G : wd_G} {M : wd_M} {b0 L : Nat} {xs : Nat → Int32} {Q1 : State → Prop} {c sl : Nat} {i : Int32} {j : hp_I → hp_L → Option Int32} (C : cx_C G M RL code 8 80 (some .boolean)) (X : lm_X G M) (hs : sx_scr G M b0 L xs) (hc1 : c + 8 ≤ 601024) (hc2 : sl + 48 ≤ 7293034) (hj : ∀ (s : hp_I) (u : hp_L), dn_D G M 8 (c + 8) (sl + 48) (ql_Q Q1) 2595 [(0, .ref b0), (1, .ref (wd_b G + 0)), (2, .ref (wd_b G + 52)), (3, .ref (wd_b G + 601)), (4, .int i)] [] s u (j s u)) (s0 : hp_I) (u0 : hp_L) : dn_D G M 8 c sl (ql_Q Q1) 1255 [(0, .ref b0), (1, .ref (wd_b G + 0)), (2, .ref (wd_b G + 52)), (3, .ref (wd_b G + 601)), (4, .int i)] [] s0 u0 (lc_17 L xs j i s0 u0) := by
  unfold lc_17
  refine dn_aload_n C dL_law__1255 rfl 1 rfl rfl ?_
  refine dn_aload_n C dL_law__1256 rfl 0 rfl rfl ?_
  refine dn_iload C dL_law__1257 4 rfl rfl ?_
  refine dn_iconst C dL_law__1259 ic_i_1 rfl ?_
  refine dn_iadd C dL_law__1260 rfl ?_
  refine dn_sald C hs dL_law__1261 rfl (fun z200 => ?_)
  refine dn_aload_n C dL_law__1262 rfl 0 rfl rfl ?_
  refine dn_iload C dL_law__1263 4 rfl rfl ?_
  refine dn_iconst C dL_law__1265 ic_i_2 rfl ?_
  refine dn_iadd C dL_law__1266 rfl ?_
  refine dn_sald C hs dL_law__1267 rfl (fun z201 => ?_)
  refine dn_aload_n C dL_law__1268 rfl 3 rfl rfl ?_
  refine dn_callW (As := [.ref (wd_b G + 0), .int z200, .int z201, .ref (wd_b G + 601)]) (st := []) C (okw_L_slips (cx_g C) X.2.2 X.2.1 0 k0_11 z200 z201 s0 u0) mw_L_slips msw_L_slips lk_L_184 (by decide) rfl (lm_c X hc1 hc2 2 (by decide)) (Nat.le_of_ble_eq_true rfl) dL_law__1269 rfl rfl (fun z202 s203 u204 => ?_)
  refine dn_istore (lv0 := [(0, .ref b0), (1, .ref (wd_b G + 0)), (2, .ref (wd_b G + 52)), (3, .ref (wd_b G + 601)), (4, .int i)]) C dL_law__1272 (by decide) rfl rfl (fun v205 => ?_)
  refine dn_aload_n C dL_law__1274 rfl 3 rfl rfl ?_
  refine dn_aload_n C dL_law__1275 rfl 1 rfl rfl ?_
  refine dn_iload C dL_law__1276 5 rfl rfl ?_
  refine dn_iconst C dL_law__1278 ic_i_1 rfl ?_
  refine dn_iadd C dL_law__1279 rfl ?_
  refine dn_sald C hs dL_law__1280 rfl (fun z206 => ?_)
  refine dn_aload_n C dL_law__1281 rfl 1 rfl rfl ?_
  refine dn_iload C dL_law__1282 5 rfl rfl ?_
  refine dn_iconst C dL_law__1284 ic_i_2 rfl ?_
  refine dn_iadd C dL_law__1285 rfl ?_
  refine dn_sald C hs dL_law__1286 rfl (fun z207 => ?_)
  refine dn_callV_ih (As := [.int z206, .int z207]) (st := []) C (ok_M_slips (cx_g C) 52 k52_12 z206 z207 s203 u204) mt_X12_slips mv_X12_slips lk_L_186 (by decide) k52_12 rfl (lm_c X hc1 hc2 2 (by decide)) (Nat.le_of_ble_eq_true rfl) dL_law__1287 rfl rfl (fun z208 s209 => ?_)
  refine dn_istore (lv0 := [(5, .int v205), (0, .ref b0), (1, .ref (wd_b G + 0)), (2, .ref (wd_b G + 52)), (3, .ref (wd_b G + 601)), (4, .int i)]) C dL_law__1290 (by decide) rfl rfl (fun v210 => ?_)
  refine dn_aload_n C dL_law__1292 rfl 4 rfl rfl ?_
  refine dn_callV_i (As := []) (st := []) C (ok_M_thrown (cx_g C) 52 k52_12 s209 u204) mt_X12_thrown mv_X12_thrown lk_L_131 (by decide) k52_12 rfl (lm_c X hc1 hc2 2 (by decide)) (Nat.le_of_ble_eq_true rfl) dL_law__1293 rfl rfl (fun z211 => ?_)
  refine dn_iload C dL_law__1296 1 rfl rfl ?_
  refine dn_icmp_eq (t := 1303) C dL_law__1298 (by decide) rfl ?_ ?_
  · refine dn_iload C dL_law__1303 1 rfl rfl ?_
    refine dn_if_ne (t := 1320) C dL_law__1305 (by decide) rfl ?_ ?_
    · refine dn_aload_n C dL_law__1308 rfl 5 rfl rfl ?_
      refine dn_iconst C dL_law__1309 ic_i_0 rfl ?_
      refine dn_lald C sh_601 X.2.2 dL_law__1310 rfl (fun z212 => ?_)
      refine dn_iload C dL_law__1311 0 rfl rfl ?_
      refine dn_i2l C dL_law__1313 rfl ?_
      refine dn_lcmp C dL_law__1314 rfl ?_
      refine dn_if_eq (t := 1320) C dL_law__1315 (by decide) rfl ?_ ?_
      · refine dn_goto (t := 2595) C dL_law__1320 (by decide) ?_
        refine dn_pick [2, 3, 4, 5, 6] rfl ?_
        exact dn_wid (by omega) (by omega) (hj s209 u204)
      · refine dn_iconst C dL_law__1318 ic_i_0 rfl ?_
        exact dn_fin0
    · refine dn_goto (t := 2595) C dL_law__1320 (by decide) ?_
      refine dn_pick [2, 3, 4, 5, 6] rfl ?_
      exact dn_wid (by omega) (by omega) (hj s209 u204)
  · refine dn_iconst C dL_law__1301 ic_i_0 rfl ?_
    exact dn_fin0
def lc_18 (L : Nat) (xs : Nat → Int32) (j : hp_I → hp_L → Option Int32) (i : Int32) (s0 : hp_I) (u0 : hp_L) : Option Int32 :=
  Option.bind (px_sld L xs (i + (1 : Int32))) fun z213 =>
  px_b3 (fn_L_hunt 0 z213 s0 u0) fun z214 s215 u216 =>
  px_let z214 fun v217 =>
  Option.bind (px_sld L xs (i + (1 : Int32))) fun z218 =>
  px_b2 (fn_M_hunt 52 z218 s215) fun z219 s220 =>
  px_let z219 fun v221 =>
  Option.bind (fn_M_thrown 52 s220) fun z222 =>
  if z222 = v217 then (
    if v217 = 0 then (
      Option.bind (px_lld u216 601 (0 : Int32)) fun z223 =>
      if (lg_cmp z223 v221.toInt64) = 0 then (
        j s220 u216
      ) else (
        some (0 : Int32)
      )
    ) else (
      j s220 u216
    )
  ) else (
    some (0 : Int32)
  )
set_option maxHeartbeats 4000000 in
set_option maxRecDepth 100000 in
theorem lp_18 {G : wd_G} {M : wd_M} {b0 L : Nat} {xs : Nat → Int32} {Q1 : State → Prop} {c sl : Nat} {i : Int32} {j : hp_I → hp_L → Option Int32} (C : cx_C G M RL code 8 80 (some .boolean)) (X : lm_X G M) (hs : sx_scr G M b0 L xs) (hc1 : c + 8 ≤ 601024) (hc2 : sl + 48 ≤ 7293034) (hj : ∀ (s : hp_I) (u : hp_L), dn_D G M 8 (c + 8) (sl + 48) (ql_Q Q1) 2595 [(0, .ref b0), (1, .ref (wd_b G + 0)), (2, .ref (wd_b G + 52)), (3, .ref (wd_b G + 601)), (4, .int i)] [] s u (j s u)) (s0 : hp_I) (u0 : hp_L) : dn_D G M 8 c sl (ql_Q Q1) 1323 [(0, .ref b0), (1, .ref (wd_b G + 0)), (2, .ref (wd_b G + 52)), (3, .ref (wd_b G + 601)), (4, .int i)] [] s0 u0 (lc_18 L xs j i s0 u0) := by
  unfold lc_18
  refine dn_aload_n C dL_law__1323 rfl 1 rfl rfl ?_
  refine dn_aload_n C dL_law__1324 rfl 0 rfl rfl ?_
  refine dn_iload C dL_law__1325 4 rfl rfl ?_
  refine dn_iconst C dL_law__1327 ic_i_1 rfl ?_
  refine dn_iadd C dL_law__1328 rfl ?_
  refine dn_sald C hs dL_law__1329 rfl (fun z213 => ?_)
  refine dn_aload_n C dL_law__1330 rfl 3 rfl rfl ?_
  refine dn_callW (As := [.ref (wd_b G + 0), .int z213, .ref (wd_b G + 601)]) (st := []) C (okw_L_hunt (cx_g C) X.2.2 X.2.1 0 k0_11 z213 s0 u0) mw_L_hunt msw_L_hunt lk_L_187 (by decide) rfl (lm_c X hc1 hc2 1 (by decide)) (Nat.le_of_ble_eq_true rfl) dL_law__1331 rfl rfl (fun z214 s215 u216 => ?_)
  refine dn_istore (lv0 := [(0, .ref b0), (1, .ref (wd_b G + 0)), (2, .ref (wd_b G + 52)), (3, .ref (wd_b G + 601)), (4, .int i)]) C dL_law__1334 (by decide) rfl rfl (fun v217 => ?_)
  refine dn_aload_n C dL_law__1336 rfl 3 rfl rfl ?_
  refine dn_aload_n C dL_law__1337 rfl 1 rfl rfl ?_
  refine dn_iload C dL_law__1338 5 rfl rfl ?_
  refine dn_iconst C dL_law__1340 ic_i_1 rfl ?_
  refine dn_iadd C dL_law__1341 rfl ?_
  refine dn_sald C hs dL_law__1342 rfl (fun z218 => ?_)
  refine dn_callV_ih (As := [.int z218]) (st := []) C (ok_M_hunt (cx_g C) 52 k52_12 z218 s215 u216) mt_X12_hunt mv_X12_hunt lk_L_189 (by decide) k52_12 rfl (lm_c X hc1 hc2 1 (by decide)) (Nat.le_of_ble_eq_true rfl) dL_law__1343 rfl rfl (fun z219 s220 => ?_)
  refine dn_istore (lv0 := [(5, .int v217), (0, .ref b0), (1, .ref (wd_b G + 0)), (2, .ref (wd_b G + 52)), (3, .ref (wd_b G + 601)), (4, .int i)]) C dL_law__1346 (by decide) rfl rfl (fun v221 => ?_)
  refine dn_aload_n C dL_law__1348 rfl 4 rfl rfl ?_
  refine dn_callV_i (As := []) (st := []) C (ok_M_thrown (cx_g C) 52 k52_12 s220 u216) mt_X12_thrown mv_X12_thrown lk_L_131 (by decide) k52_12 rfl (lm_c X hc1 hc2 1 (by decide)) (Nat.le_of_ble_eq_true rfl) dL_law__1349 rfl rfl (fun z222 => ?_)
  refine dn_iload C dL_law__1352 1 rfl rfl ?_
  refine dn_icmp_eq (t := 1359) C dL_law__1354 (by decide) rfl ?_ ?_
  · refine dn_iload C dL_law__1359 1 rfl rfl ?_
    refine dn_if_ne (t := 1376) C dL_law__1361 (by decide) rfl ?_ ?_
    · refine dn_aload_n C dL_law__1364 rfl 5 rfl rfl ?_
      refine dn_iconst C dL_law__1365 ic_i_0 rfl ?_
      refine dn_lald C sh_601 X.2.2 dL_law__1366 rfl (fun z223 => ?_)
      refine dn_iload C dL_law__1367 0 rfl rfl ?_
      refine dn_i2l C dL_law__1369 rfl ?_
      refine dn_lcmp C dL_law__1370 rfl ?_
      refine dn_if_eq (t := 1376) C dL_law__1371 (by decide) rfl ?_ ?_
      · refine dn_goto (t := 2595) C dL_law__1376 (by decide) ?_
        refine dn_pick [2, 3, 4, 5, 6] rfl ?_
        exact dn_wid (by omega) (by omega) (hj s220 u216)
      · refine dn_iconst C dL_law__1374 ic_i_0 rfl ?_
        exact dn_fin0
    · refine dn_goto (t := 2595) C dL_law__1376 (by decide) ?_
      refine dn_pick [2, 3, 4, 5, 6] rfl ?_
      exact dn_wid (by omega) (by omega) (hj s220 u216)
  · refine dn_iconst C dL_law__1357 ic_i_0 rfl ?_
    exact dn_fin0
def lc_19 (L : Nat) (xs : Nat → Int32) (j : hp_I → hp_L → Option Int32) (i : Int32) (s0 : hp_I) (u0 : hp_L) : Option Int32 :=
  Option.bind (px_sld L xs (i + (1 : Int32))) fun z224 =>
  px_b3 (fn_L_prey 0 z224 s0 u0) fun z225 s226 u227 =>
  px_let z225 fun v228 =>
  Option.bind (px_sld L xs (i + (1 : Int32))) fun z229 =>
  px_b2 (fn_M_prey 52 z229 s226) fun z230 s231 =>
  px_let z230 fun v232 =>
  Option.bind (fn_M_thrown 52 s231) fun z233 =>
  if z233 = v228 then (
    if v228 = 0 then (
      Option.bind (px_lld u227 601 (0 : Int32)) fun z234 =>
      if (lg_cmp z234 v232.toInt64) = 0 then (
        j s231 u227
      ) else (
        some (0 : Int32)
      )
    ) else (
      j s231 u227
    )
  ) else (
    some (0 : Int32)
  )
set_option maxHeartbeats 4000000 in
set_option maxRecDepth 100000 in
theorem lp_19 {G : wd_G} {M : wd_M} {b0 L : Nat} {xs : Nat → Int32} {Q1 : State → Prop} {c sl : Nat} {i : Int32} {j : hp_I → hp_L → Option Int32} (C : cx_C G M RL code 8 80 (some .boolean)) (X : lm_X G M) (hs : sx_scr G M b0 L xs) (hc1 : c + 8 ≤ 601024) (hc2 : sl + 48 ≤ 7293034) (hj : ∀ (s : hp_I) (u : hp_L), dn_D G M 8 (c + 8) (sl + 48) (ql_Q Q1) 2595 [(0, .ref b0), (1, .ref (wd_b G + 0)), (2, .ref (wd_b G + 52)), (3, .ref (wd_b G + 601)), (4, .int i)] [] s u (j s u)) (s0 : hp_I) (u0 : hp_L) : dn_D G M 8 c sl (ql_Q Q1) 1379 [(0, .ref b0), (1, .ref (wd_b G + 0)), (2, .ref (wd_b G + 52)), (3, .ref (wd_b G + 601)), (4, .int i)] [] s0 u0 (lc_19 L xs j i s0 u0) := by
  unfold lc_19
  refine dn_aload_n C dL_law__1379 rfl 1 rfl rfl ?_
  refine dn_aload_n C dL_law__1380 rfl 0 rfl rfl ?_
  refine dn_iload C dL_law__1381 4 rfl rfl ?_
  refine dn_iconst C dL_law__1383 ic_i_1 rfl ?_
  refine dn_iadd C dL_law__1384 rfl ?_
  refine dn_sald C hs dL_law__1385 rfl (fun z224 => ?_)
  refine dn_aload_n C dL_law__1386 rfl 3 rfl rfl ?_
  refine dn_callW (As := [.ref (wd_b G + 0), .int z224, .ref (wd_b G + 601)]) (st := []) C (okw_L_prey (cx_g C) X.2.2 X.2.1 0 k0_11 z224 s0 u0) mw_L_prey msw_L_prey lk_L_190 (by decide) rfl (lm_c X hc1 hc2 1 (by decide)) (Nat.le_of_ble_eq_true rfl) dL_law__1387 rfl rfl (fun z225 s226 u227 => ?_)
  refine dn_istore (lv0 := [(0, .ref b0), (1, .ref (wd_b G + 0)), (2, .ref (wd_b G + 52)), (3, .ref (wd_b G + 601)), (4, .int i)]) C dL_law__1390 (by decide) rfl rfl (fun v228 => ?_)
  refine dn_aload_n C dL_law__1392 rfl 3 rfl rfl ?_
  refine dn_aload_n C dL_law__1393 rfl 1 rfl rfl ?_
  refine dn_iload C dL_law__1394 5 rfl rfl ?_
  refine dn_iconst C dL_law__1396 ic_i_1 rfl ?_
  refine dn_iadd C dL_law__1397 rfl ?_
  refine dn_sald C hs dL_law__1398 rfl (fun z229 => ?_)
  refine dn_callV_ih (As := [.int z229]) (st := []) C (ok_M_prey (cx_g C) 52 k52_12 z229 s226 u227) mt_X12_prey mv_X12_prey lk_L_192 (by decide) k52_12 rfl (lm_c X hc1 hc2 1 (by decide)) (Nat.le_of_ble_eq_true rfl) dL_law__1399 rfl rfl (fun z230 s231 => ?_)
  refine dn_istore (lv0 := [(5, .int v228), (0, .ref b0), (1, .ref (wd_b G + 0)), (2, .ref (wd_b G + 52)), (3, .ref (wd_b G + 601)), (4, .int i)]) C dL_law__1402 (by decide) rfl rfl (fun v232 => ?_)
  refine dn_aload_n C dL_law__1404 rfl 4 rfl rfl ?_
  refine dn_callV_i (As := []) (st := []) C (ok_M_thrown (cx_g C) 52 k52_12 s231 u227) mt_X12_thrown mv_X12_thrown lk_L_131 (by decide) k52_12 rfl (lm_c X hc1 hc2 1 (by decide)) (Nat.le_of_ble_eq_true rfl) dL_law__1405 rfl rfl (fun z233 => ?_)
  refine dn_iload C dL_law__1408 1 rfl rfl ?_
  refine dn_icmp_eq (t := 1415) C dL_law__1410 (by decide) rfl ?_ ?_
  · refine dn_iload C dL_law__1415 1 rfl rfl ?_
    refine dn_if_ne (t := 1432) C dL_law__1417 (by decide) rfl ?_ ?_
    · refine dn_aload_n C dL_law__1420 rfl 5 rfl rfl ?_
      refine dn_iconst C dL_law__1421 ic_i_0 rfl ?_
      refine dn_lald C sh_601 X.2.2 dL_law__1422 rfl (fun z234 => ?_)
      refine dn_iload C dL_law__1423 0 rfl rfl ?_
      refine dn_i2l C dL_law__1425 rfl ?_
      refine dn_lcmp C dL_law__1426 rfl ?_
      refine dn_if_eq (t := 1432) C dL_law__1427 (by decide) rfl ?_ ?_
      · refine dn_goto (t := 2595) C dL_law__1432 (by decide) ?_
        refine dn_pick [2, 3, 4, 5, 6] rfl ?_
        exact dn_wid (by omega) (by omega) (hj s231 u227)
      · refine dn_iconst C dL_law__1430 ic_i_0 rfl ?_
        exact dn_fin0
    · refine dn_goto (t := 2595) C dL_law__1432 (by decide) ?_
      refine dn_pick [2, 3, 4, 5, 6] rfl ?_
      exact dn_wid (by omega) (by omega) (hj s231 u227)
  · refine dn_iconst C dL_law__1413 ic_i_0 rfl ?_
    exact dn_fin0
def lc_20 (L : Nat) (xs : Nat → Int32) (j : hp_I → hp_L → Option Int32) (i : Int32) (s0 : hp_I) (u0 : hp_L) : Option Int32 :=
  Option.bind (px_sld L xs (i + (1 : Int32))) fun z235 =>
  Option.bind (px_sld L xs (i + (2 : Int32))) fun z236 =>
  px_b3 (fn_L_sums 0 z235 z236 s0 u0) fun z237 s238 u239 =>
  px_let z237 fun v240 =>
  Option.bind (px_sld L xs (i + (1 : Int32))) fun z241 =>
  Option.bind (px_sld L xs (i + (2 : Int32))) fun z242 =>
  px_b2 (fn_M_sums 52 z241 z242 s238) fun z243 s244 =>
  px_let z243 fun v245 =>
  Option.bind (fn_M_thrown 52 s244) fun z246 =>
  if z246 = v240 then (
    if v240 = 0 then (
      Option.bind (px_lld u239 601 (0 : Int32)) fun z247 =>
      if (lg_cmp z247 v245.toInt64) = 0 then (
        j s244 u239
      ) else (
        some (0 : Int32)
      )
    ) else (
      j s244 u239
    )
  ) else (
    some (0 : Int32)
  )
set_option maxHeartbeats 4000000 in
set_option maxRecDepth 100000 in
theorem lp_20 {G : wd_G} {M : wd_M} {b0 L : Nat} {xs : Nat → Int32} {Q1 : State → Prop} {c sl : Nat} {i : Int32} {j : hp_I → hp_L → Option Int32} (C : cx_C G M RL code 8 80 (some .boolean)) (X : lm_X G M) (hs : sx_scr G M b0 L xs) (hc1 : c + 8 ≤ 601024) (hc2 : sl + 48 ≤ 7293034) (hj : ∀ (s : hp_I) (u : hp_L), dn_D G M 8 (c + 8) (sl + 48) (ql_Q Q1) 2595 [(0, .ref b0), (1, .ref (wd_b G + 0)), (2, .ref (wd_b G + 52)), (3, .ref (wd_b G + 601)), (4, .int i)] [] s u (j s u)) (s0 : hp_I) (u0 : hp_L) : dn_D G M 8 c sl (ql_Q Q1) 1435 [(0, .ref b0), (1, .ref (wd_b G + 0)), (2, .ref (wd_b G + 52)), (3, .ref (wd_b G + 601)), (4, .int i)] [] s0 u0 (lc_20 L xs j i s0 u0) := by
  unfold lc_20
  refine dn_aload_n C dL_law__1435 rfl 1 rfl rfl ?_
  refine dn_aload_n C dL_law__1436 rfl 0 rfl rfl ?_
  refine dn_iload C dL_law__1437 4 rfl rfl ?_
  refine dn_iconst C dL_law__1439 ic_i_1 rfl ?_
  refine dn_iadd C dL_law__1440 rfl ?_
  refine dn_sald C hs dL_law__1441 rfl (fun z235 => ?_)
  refine dn_aload_n C dL_law__1442 rfl 0 rfl rfl ?_
  refine dn_iload C dL_law__1443 4 rfl rfl ?_
  refine dn_iconst C dL_law__1445 ic_i_2 rfl ?_
  refine dn_iadd C dL_law__1446 rfl ?_
  refine dn_sald C hs dL_law__1447 rfl (fun z236 => ?_)
  refine dn_aload_n C dL_law__1448 rfl 3 rfl rfl ?_
  refine dn_callW (As := [.ref (wd_b G + 0), .int z235, .int z236, .ref (wd_b G + 601)]) (st := []) C (okw_L_sums (cx_g C) X.2.2 X.2.1 0 k0_11 z235 z236 s0 u0) mw_L_sums msw_L_sums lk_L_193 (by decide) rfl (lm_c X hc1 hc2 2 (by decide)) (Nat.le_of_ble_eq_true rfl) dL_law__1449 rfl rfl (fun z237 s238 u239 => ?_)
  refine dn_istore (lv0 := [(0, .ref b0), (1, .ref (wd_b G + 0)), (2, .ref (wd_b G + 52)), (3, .ref (wd_b G + 601)), (4, .int i)]) C dL_law__1452 (by decide) rfl rfl (fun v240 => ?_)
  refine dn_aload_n C dL_law__1454 rfl 3 rfl rfl ?_
  refine dn_aload_n C dL_law__1455 rfl 1 rfl rfl ?_
  refine dn_iload C dL_law__1456 5 rfl rfl ?_
  refine dn_iconst C dL_law__1458 ic_i_1 rfl ?_
  refine dn_iadd C dL_law__1459 rfl ?_
  refine dn_sald C hs dL_law__1460 rfl (fun z241 => ?_)
  refine dn_aload_n C dL_law__1461 rfl 1 rfl rfl ?_
  refine dn_iload C dL_law__1462 5 rfl rfl ?_
  refine dn_iconst C dL_law__1464 ic_i_2 rfl ?_
  refine dn_iadd C dL_law__1465 rfl ?_
  refine dn_sald C hs dL_law__1466 rfl (fun z242 => ?_)
  refine dn_callV_ih (As := [.int z241, .int z242]) (st := []) C (ok_M_sums (cx_g C) 52 k52_12 z241 z242 s238 u239) mt_X12_sums mv_X12_sums lk_L_195 (by decide) k52_12 rfl (lm_c X hc1 hc2 2 (by decide)) (Nat.le_of_ble_eq_true rfl) dL_law__1467 rfl rfl (fun z243 s244 => ?_)
  refine dn_istore (lv0 := [(5, .int v240), (0, .ref b0), (1, .ref (wd_b G + 0)), (2, .ref (wd_b G + 52)), (3, .ref (wd_b G + 601)), (4, .int i)]) C dL_law__1470 (by decide) rfl rfl (fun v245 => ?_)
  refine dn_aload_n C dL_law__1472 rfl 4 rfl rfl ?_
  refine dn_callV_i (As := []) (st := []) C (ok_M_thrown (cx_g C) 52 k52_12 s244 u239) mt_X12_thrown mv_X12_thrown lk_L_131 (by decide) k52_12 rfl (lm_c X hc1 hc2 2 (by decide)) (Nat.le_of_ble_eq_true rfl) dL_law__1473 rfl rfl (fun z246 => ?_)
  refine dn_iload C dL_law__1476 1 rfl rfl ?_
  refine dn_icmp_eq (t := 1483) C dL_law__1478 (by decide) rfl ?_ ?_
  · refine dn_iload C dL_law__1483 1 rfl rfl ?_
    refine dn_if_ne (t := 1500) C dL_law__1485 (by decide) rfl ?_ ?_
    · refine dn_aload_n C dL_law__1488 rfl 5 rfl rfl ?_
      refine dn_iconst C dL_law__1489 ic_i_0 rfl ?_
      refine dn_lald C sh_601 X.2.2 dL_law__1490 rfl (fun z247 => ?_)
      refine dn_iload C dL_law__1491 0 rfl rfl ?_
      refine dn_i2l C dL_law__1493 rfl ?_
      refine dn_lcmp C dL_law__1494 rfl ?_
      refine dn_if_eq (t := 1500) C dL_law__1495 (by decide) rfl ?_ ?_
      · refine dn_goto (t := 2595) C dL_law__1500 (by decide) ?_
        refine dn_pick [2, 3, 4, 5, 6] rfl ?_
        exact dn_wid (by omega) (by omega) (hj s244 u239)
      · refine dn_iconst C dL_law__1498 ic_i_0 rfl ?_
        exact dn_fin0
    · refine dn_goto (t := 2595) C dL_law__1500 (by decide) ?_
      refine dn_pick [2, 3, 4, 5, 6] rfl ?_
      exact dn_wid (by omega) (by omega) (hj s244 u239)
  · refine dn_iconst C dL_law__1481 ic_i_0 rfl ?_
    exact dn_fin0
def lc_21 (L : Nat) (xs : Nat → Int32) (j : hp_I → hp_L → Option Int32) (i : Int32) (s0 : hp_I) (u0 : hp_L) : Option Int32 :=
  Option.bind (px_sld L xs (i + (1 : Int32))) fun z248 =>
  px_b3 (fn_L_fits 0 z248 s0 u0) fun z249 s250 u251 =>
  px_let z249 fun v252 =>
  Option.bind (px_sld L xs (i + (1 : Int32))) fun z253 =>
  px_b2 (fn_M_fits 52 z253 s250) fun z254 s255 =>
  px_let z254 fun v256 =>
  Option.bind (fn_M_thrown 52 s255) fun z257 =>
  if z257 = v252 then (
    if v252 = 0 then (
      Option.bind (px_lld u251 601 (0 : Int32)) fun z258 =>
      if (lg_cmp z258 v256.toInt64) = 0 then (
        j s255 u251
      ) else (
        some (0 : Int32)
      )
    ) else (
      j s255 u251
    )
  ) else (
    some (0 : Int32)
  )
set_option maxHeartbeats 4000000 in
set_option maxRecDepth 100000 in
theorem lp_21 {G : wd_G} {M : wd_M} {b0 L : Nat} {xs : Nat → Int32} {Q1 : State → Prop} {c sl : Nat} {i : Int32} {j : hp_I → hp_L → Option Int32} (C : cx_C G M RL code 8 80 (some .boolean)) (X : lm_X G M) (hs : sx_scr G M b0 L xs) (hc1 : c + 8 ≤ 601024) (hc2 : sl + 48 ≤ 7293034) (hj : ∀ (s : hp_I) (u : hp_L), dn_D G M 8 (c + 8) (sl + 48) (ql_Q Q1) 2595 [(0, .ref b0), (1, .ref (wd_b G + 0)), (2, .ref (wd_b G + 52)), (3, .ref (wd_b G + 601)), (4, .int i)] [] s u (j s u)) (s0 : hp_I) (u0 : hp_L) : dn_D G M 8 c sl (ql_Q Q1) 1503 [(0, .ref b0), (1, .ref (wd_b G + 0)), (2, .ref (wd_b G + 52)), (3, .ref (wd_b G + 601)), (4, .int i)] [] s0 u0 (lc_21 L xs j i s0 u0) := by
  unfold lc_21
  refine dn_aload_n C dL_law__1503 rfl 1 rfl rfl ?_
  refine dn_aload_n C dL_law__1504 rfl 0 rfl rfl ?_
  refine dn_iload C dL_law__1505 4 rfl rfl ?_
  refine dn_iconst C dL_law__1507 ic_i_1 rfl ?_
  refine dn_iadd C dL_law__1508 rfl ?_
  refine dn_sald C hs dL_law__1509 rfl (fun z248 => ?_)
  refine dn_aload_n C dL_law__1510 rfl 3 rfl rfl ?_
  refine dn_callW (As := [.ref (wd_b G + 0), .int z248, .ref (wd_b G + 601)]) (st := []) C (okw_L_fits (cx_g C) X.2.2 X.2.1 0 k0_11 z248 s0 u0) mw_L_fits msw_L_fits lk_L_196 (by decide) rfl (lm_c X hc1 hc2 1 (by decide)) (Nat.le_of_ble_eq_true rfl) dL_law__1511 rfl rfl (fun z249 s250 u251 => ?_)
  refine dn_istore (lv0 := [(0, .ref b0), (1, .ref (wd_b G + 0)), (2, .ref (wd_b G + 52)), (3, .ref (wd_b G + 601)), (4, .int i)]) C dL_law__1514 (by decide) rfl rfl (fun v252 => ?_)
  refine dn_aload_n C dL_law__1516 rfl 3 rfl rfl ?_
  refine dn_aload_n C dL_law__1517 rfl 1 rfl rfl ?_
  refine dn_iload C dL_law__1518 5 rfl rfl ?_
  refine dn_iconst C dL_law__1520 ic_i_1 rfl ?_
  refine dn_iadd C dL_law__1521 rfl ?_
  refine dn_sald C hs dL_law__1522 rfl (fun z253 => ?_)
  refine dn_callV_ih (As := [.int z253]) (st := []) C (ok_M_fits (cx_g C) 52 k52_12 z253 s250 u251) mt_X12_fits mv_X12_fits lk_L_198 (by decide) k52_12 rfl (lm_c X hc1 hc2 1 (by decide)) (Nat.le_of_ble_eq_true rfl) dL_law__1523 rfl rfl (fun z254 s255 => ?_)
  refine dn_istore (lv0 := [(5, .int v252), (0, .ref b0), (1, .ref (wd_b G + 0)), (2, .ref (wd_b G + 52)), (3, .ref (wd_b G + 601)), (4, .int i)]) C dL_law__1526 (by decide) rfl rfl (fun v256 => ?_)
  refine dn_aload_n C dL_law__1528 rfl 4 rfl rfl ?_
  refine dn_callV_i (As := []) (st := []) C (ok_M_thrown (cx_g C) 52 k52_12 s255 u251) mt_X12_thrown mv_X12_thrown lk_L_131 (by decide) k52_12 rfl (lm_c X hc1 hc2 1 (by decide)) (Nat.le_of_ble_eq_true rfl) dL_law__1529 rfl rfl (fun z257 => ?_)
  refine dn_iload C dL_law__1532 1 rfl rfl ?_
  refine dn_icmp_eq (t := 1539) C dL_law__1534 (by decide) rfl ?_ ?_
  · refine dn_iload C dL_law__1539 1 rfl rfl ?_
    refine dn_if_ne (t := 1556) C dL_law__1541 (by decide) rfl ?_ ?_
    · refine dn_aload_n C dL_law__1544 rfl 5 rfl rfl ?_
      refine dn_iconst C dL_law__1545 ic_i_0 rfl ?_
      refine dn_lald C sh_601 X.2.2 dL_law__1546 rfl (fun z258 => ?_)
      refine dn_iload C dL_law__1547 0 rfl rfl ?_
      refine dn_i2l C dL_law__1549 rfl ?_
      refine dn_lcmp C dL_law__1550 rfl ?_
      refine dn_if_eq (t := 1556) C dL_law__1551 (by decide) rfl ?_ ?_
      · refine dn_goto (t := 2595) C dL_law__1556 (by decide) ?_
        refine dn_pick [2, 3, 4, 5, 6] rfl ?_
        exact dn_wid (by omega) (by omega) (hj s255 u251)
      · refine dn_iconst C dL_law__1554 ic_i_0 rfl ?_
        exact dn_fin0
    · refine dn_goto (t := 2595) C dL_law__1556 (by decide) ?_
      refine dn_pick [2, 3, 4, 5, 6] rfl ?_
      exact dn_wid (by omega) (by omega) (hj s255 u251)
  · refine dn_iconst C dL_law__1537 ic_i_0 rfl ?_
    exact dn_fin0
def lc_22 (L : Nat) (xs : Nat → Int32) (j : hp_I → hp_L → Option Int32) (i : Int32) (s0 : hp_I) (u0 : hp_L) : Option Int32 :=
  Option.bind (px_sld L xs (i + (1 : Int32))) fun z259 =>
  px_b3 (fn_L_look 0 z259 s0 u0) fun z260 s261 u262 =>
  px_let z260 fun v263 =>
  Option.bind (px_sld L xs (i + (1 : Int32))) fun z264 =>
  px_b2 (fn_M_look 52 z264 s261) fun z265 s266 =>
  px_let z265 fun v267 =>
  Option.bind (fn_M_thrown 52 s266) fun z268 =>
  if z268 = v263 then (
    if v263 = 0 then (
      Option.bind (px_lld u262 601 (0 : Int32)) fun z269 =>
      if (lg_cmp z269 v267.toInt64) = 0 then (
        j s266 u262
      ) else (
        some (0 : Int32)
      )
    ) else (
      j s266 u262
    )
  ) else (
    some (0 : Int32)
  )
set_option maxHeartbeats 4000000 in
set_option maxRecDepth 100000 in
theorem lp_22 {G : wd_G} {M : wd_M} {b0 L : Nat} {xs : Nat → Int32} {Q1 : State → Prop} {c sl : Nat} {i : Int32} {j : hp_I → hp_L → Option Int32} (C : cx_C G M RL code 8 80 (some .boolean)) (X : lm_X G M) (hs : sx_scr G M b0 L xs) (hc1 : c + 8 ≤ 601024) (hc2 : sl + 48 ≤ 7293034) (hj : ∀ (s : hp_I) (u : hp_L), dn_D G M 8 (c + 8) (sl + 48) (ql_Q Q1) 2595 [(0, .ref b0), (1, .ref (wd_b G + 0)), (2, .ref (wd_b G + 52)), (3, .ref (wd_b G + 601)), (4, .int i)] [] s u (j s u)) (s0 : hp_I) (u0 : hp_L) : dn_D G M 8 c sl (ql_Q Q1) 1559 [(0, .ref b0), (1, .ref (wd_b G + 0)), (2, .ref (wd_b G + 52)), (3, .ref (wd_b G + 601)), (4, .int i)] [] s0 u0 (lc_22 L xs j i s0 u0) := by
  unfold lc_22
  refine dn_aload_n C dL_law__1559 rfl 1 rfl rfl ?_
  refine dn_aload_n C dL_law__1560 rfl 0 rfl rfl ?_
  refine dn_iload C dL_law__1561 4 rfl rfl ?_
  refine dn_iconst C dL_law__1563 ic_i_1 rfl ?_
  refine dn_iadd C dL_law__1564 rfl ?_
  refine dn_sald C hs dL_law__1565 rfl (fun z259 => ?_)
  refine dn_aload_n C dL_law__1566 rfl 3 rfl rfl ?_
  refine dn_callW (As := [.ref (wd_b G + 0), .int z259, .ref (wd_b G + 601)]) (st := []) C (okw_L_look (cx_g C) X.2.2 X.2.1 0 k0_11 z259 s0 u0) mw_L_look msw_L_look lk_L_199 (by decide) rfl (lm_c X hc1 hc2 1 (by decide)) (Nat.le_of_ble_eq_true rfl) dL_law__1567 rfl rfl (fun z260 s261 u262 => ?_)
  refine dn_istore (lv0 := [(0, .ref b0), (1, .ref (wd_b G + 0)), (2, .ref (wd_b G + 52)), (3, .ref (wd_b G + 601)), (4, .int i)]) C dL_law__1570 (by decide) rfl rfl (fun v263 => ?_)
  refine dn_aload_n C dL_law__1572 rfl 3 rfl rfl ?_
  refine dn_aload_n C dL_law__1573 rfl 1 rfl rfl ?_
  refine dn_iload C dL_law__1574 5 rfl rfl ?_
  refine dn_iconst C dL_law__1576 ic_i_1 rfl ?_
  refine dn_iadd C dL_law__1577 rfl ?_
  refine dn_sald C hs dL_law__1578 rfl (fun z264 => ?_)
  refine dn_callV_ih (As := [.int z264]) (st := []) C (ok_M_look (cx_g C) 52 k52_12 z264 s261 u262) mt_X12_look mv_X12_look lk_L_201 (by decide) k52_12 rfl (lm_c X hc1 hc2 1 (by decide)) (Nat.le_of_ble_eq_true rfl) dL_law__1579 rfl rfl (fun z265 s266 => ?_)
  refine dn_istore (lv0 := [(5, .int v263), (0, .ref b0), (1, .ref (wd_b G + 0)), (2, .ref (wd_b G + 52)), (3, .ref (wd_b G + 601)), (4, .int i)]) C dL_law__1582 (by decide) rfl rfl (fun v267 => ?_)
  refine dn_aload_n C dL_law__1584 rfl 4 rfl rfl ?_
  refine dn_callV_i (As := []) (st := []) C (ok_M_thrown (cx_g C) 52 k52_12 s266 u262) mt_X12_thrown mv_X12_thrown lk_L_131 (by decide) k52_12 rfl (lm_c X hc1 hc2 1 (by decide)) (Nat.le_of_ble_eq_true rfl) dL_law__1585 rfl rfl (fun z268 => ?_)
  refine dn_iload C dL_law__1588 1 rfl rfl ?_
  refine dn_icmp_eq (t := 1595) C dL_law__1590 (by decide) rfl ?_ ?_
  · refine dn_iload C dL_law__1595 1 rfl rfl ?_
    refine dn_if_ne (t := 1612) C dL_law__1597 (by decide) rfl ?_ ?_
    · refine dn_aload_n C dL_law__1600 rfl 5 rfl rfl ?_
      refine dn_iconst C dL_law__1601 ic_i_0 rfl ?_
      refine dn_lald C sh_601 X.2.2 dL_law__1602 rfl (fun z269 => ?_)
      refine dn_iload C dL_law__1603 0 rfl rfl ?_
      refine dn_i2l C dL_law__1605 rfl ?_
      refine dn_lcmp C dL_law__1606 rfl ?_
      refine dn_if_eq (t := 1612) C dL_law__1607 (by decide) rfl ?_ ?_
      · refine dn_goto (t := 2595) C dL_law__1612 (by decide) ?_
        refine dn_pick [2, 3, 4, 5, 6] rfl ?_
        exact dn_wid (by omega) (by omega) (hj s266 u262)
      · refine dn_iconst C dL_law__1610 ic_i_0 rfl ?_
        exact dn_fin0
    · refine dn_goto (t := 2595) C dL_law__1612 (by decide) ?_
      refine dn_pick [2, 3, 4, 5, 6] rfl ?_
      exact dn_wid (by omega) (by omega) (hj s266 u262)
  · refine dn_iconst C dL_law__1593 ic_i_0 rfl ?_
    exact dn_fin0
def lc_23 (L : Nat) (xs : Nat → Int32) (j : hp_I → hp_L → Option Int32) (i : Int32) (s0 : hp_I) (u0 : hp_L) : Option Int32 :=
  Option.bind (px_sld L xs (i + (1 : Int32))) fun z270 =>
  Option.bind (px_sld L xs (i + (2 : Int32))) fun z271 =>
  Option.bind (px_sld L xs (i + (3 : Int32))) fun z272 =>
  px_b3 (fn_L_uncle 0 z270 z271 z272 s0 u0) fun z273 s274 u275 =>
  px_let z273 fun v276 =>
  Option.bind (px_sld L xs (i + (1 : Int32))) fun z277 =>
  Option.bind (px_sld L xs (i + (2 : Int32))) fun z278 =>
  Option.bind (px_sld L xs (i + (3 : Int32))) fun z279 =>
  px_b2 (fn_M_uncle 52 z277 z278 z279 s274) fun z280 s281 =>
  px_let z280 fun v282 =>
  Option.bind (fn_M_thrown 52 s281) fun z283 =>
  if z283 = v276 then (
    if v276 = 0 then (
      Option.bind (px_lld u275 601 (0 : Int32)) fun z284 =>
      if (lg_cmp z284 v282.toInt64) = 0 then (
        j s281 u275
      ) else (
        some (0 : Int32)
      )
    ) else (
      j s281 u275
    )
  ) else (
    some (0 : Int32)
  )
set_option maxHeartbeats 4000000 in
set_option maxRecDepth 100000 in
theorem lp_23 {G : wd_G} {M : wd_M} {b0 L : Nat} {xs : Nat → Int32} {Q1 : State → Prop} {c sl : Nat} {i : Int32} {j : hp_I → hp_L → Option Int32} (C : cx_C G M RL code 8 80 (some .boolean)) (X : lm_X G M) (hs : sx_scr G M b0 L xs) (hc1 : c + 8 ≤ 601024) (hc2 : sl + 48 ≤ 7293034) (hj : ∀ (s : hp_I) (u : hp_L), dn_D G M 8 (c + 8) (sl + 48) (ql_Q Q1) 2595 [(0, .ref b0), (1, .ref (wd_b G + 0)), (2, .ref (wd_b G + 52)), (3, .ref (wd_b G + 601)), (4, .int i)] [] s u (j s u)) (s0 : hp_I) (u0 : hp_L) : dn_D G M 8 c sl (ql_Q Q1) 1615 [(0, .ref b0), (1, .ref (wd_b G + 0)), (2, .ref (wd_b G + 52)), (3, .ref (wd_b G + 601)), (4, .int i)] [] s0 u0 (lc_23 L xs j i s0 u0) := by
  unfold lc_23
  refine dn_aload_n C dL_law__1615 rfl 1 rfl rfl ?_
  refine dn_aload_n C dL_law__1616 rfl 0 rfl rfl ?_
  refine dn_iload C dL_law__1617 4 rfl rfl ?_
  refine dn_iconst C dL_law__1619 ic_i_1 rfl ?_
  refine dn_iadd C dL_law__1620 rfl ?_
  refine dn_sald C hs dL_law__1621 rfl (fun z270 => ?_)
  refine dn_aload_n C dL_law__1622 rfl 0 rfl rfl ?_
  refine dn_iload C dL_law__1623 4 rfl rfl ?_
  refine dn_iconst C dL_law__1625 ic_i_2 rfl ?_
  refine dn_iadd C dL_law__1626 rfl ?_
  refine dn_sald C hs dL_law__1627 rfl (fun z271 => ?_)
  refine dn_aload_n C dL_law__1628 rfl 0 rfl rfl ?_
  refine dn_iload C dL_law__1629 4 rfl rfl ?_
  refine dn_iconst C dL_law__1631 ic_i_3 rfl ?_
  refine dn_iadd C dL_law__1632 rfl ?_
  refine dn_sald C hs dL_law__1633 rfl (fun z272 => ?_)
  refine dn_aload_n C dL_law__1634 rfl 3 rfl rfl ?_
  refine dn_callW (As := [.ref (wd_b G + 0), .int z270, .int z271, .int z272, .ref (wd_b G + 601)]) (st := []) C (okw_L_uncle (cx_g C) X.2.2 X.2.1 0 k0_11 z270 z271 z272 s0 u0) mw_L_uncle msw_L_uncle lk_L_202 (by decide) rfl (lm_c X hc1 hc2 3 (by decide)) (Nat.le_of_ble_eq_true rfl) dL_law__1635 rfl rfl (fun z273 s274 u275 => ?_)
  refine dn_istore (lv0 := [(0, .ref b0), (1, .ref (wd_b G + 0)), (2, .ref (wd_b G + 52)), (3, .ref (wd_b G + 601)), (4, .int i)]) C dL_law__1638 (by decide) rfl rfl (fun v276 => ?_)
  refine dn_aload_n C dL_law__1640 rfl 3 rfl rfl ?_
  refine dn_aload_n C dL_law__1641 rfl 1 rfl rfl ?_
  refine dn_iload C dL_law__1642 5 rfl rfl ?_
  refine dn_iconst C dL_law__1644 ic_i_1 rfl ?_
  refine dn_iadd C dL_law__1645 rfl ?_
  refine dn_sald C hs dL_law__1646 rfl (fun z277 => ?_)
  refine dn_aload_n C dL_law__1647 rfl 1 rfl rfl ?_
  refine dn_iload C dL_law__1648 5 rfl rfl ?_
  refine dn_iconst C dL_law__1650 ic_i_2 rfl ?_
  refine dn_iadd C dL_law__1651 rfl ?_
  refine dn_sald C hs dL_law__1652 rfl (fun z278 => ?_)
  refine dn_aload_n C dL_law__1653 rfl 1 rfl rfl ?_
  refine dn_iload C dL_law__1654 5 rfl rfl ?_
  refine dn_iconst C dL_law__1656 ic_i_3 rfl ?_
  refine dn_iadd C dL_law__1657 rfl ?_
  refine dn_sald C hs dL_law__1658 rfl (fun z279 => ?_)
  refine dn_callV_ih (As := [.int z277, .int z278, .int z279]) (st := []) C (ok_M_uncle (cx_g C) 52 k52_12 z277 z278 z279 s274 u275) mt_X12_uncle mv_X12_uncle lk_L_205 (by decide) k52_12 rfl (lm_c X hc1 hc2 3 (by decide)) (Nat.le_of_ble_eq_true rfl) dL_law__1659 rfl rfl (fun z280 s281 => ?_)
  refine dn_istore (lv0 := [(5, .int v276), (0, .ref b0), (1, .ref (wd_b G + 0)), (2, .ref (wd_b G + 52)), (3, .ref (wd_b G + 601)), (4, .int i)]) C dL_law__1662 (by decide) rfl rfl (fun v282 => ?_)
  refine dn_aload_n C dL_law__1664 rfl 4 rfl rfl ?_
  refine dn_callV_i (As := []) (st := []) C (ok_M_thrown (cx_g C) 52 k52_12 s281 u275) mt_X12_thrown mv_X12_thrown lk_L_131 (by decide) k52_12 rfl (lm_c X hc1 hc2 3 (by decide)) (Nat.le_of_ble_eq_true rfl) dL_law__1665 rfl rfl (fun z283 => ?_)
  refine dn_iload C dL_law__1668 1 rfl rfl ?_
  refine dn_icmp_eq (t := 1675) C dL_law__1670 (by decide) rfl ?_ ?_
  · refine dn_iload C dL_law__1675 1 rfl rfl ?_
    refine dn_if_ne (t := 1692) C dL_law__1677 (by decide) rfl ?_ ?_
    · refine dn_aload_n C dL_law__1680 rfl 5 rfl rfl ?_
      refine dn_iconst C dL_law__1681 ic_i_0 rfl ?_
      refine dn_lald C sh_601 X.2.2 dL_law__1682 rfl (fun z284 => ?_)
      refine dn_iload C dL_law__1683 0 rfl rfl ?_
      refine dn_i2l C dL_law__1685 rfl ?_
      refine dn_lcmp C dL_law__1686 rfl ?_
      refine dn_if_eq (t := 1692) C dL_law__1687 (by decide) rfl ?_ ?_
      · refine dn_goto (t := 2595) C dL_law__1692 (by decide) ?_
        refine dn_pick [2, 3, 4, 5, 6] rfl ?_
        exact dn_wid (by omega) (by omega) (hj s281 u275)
      · refine dn_iconst C dL_law__1690 ic_i_0 rfl ?_
        exact dn_fin0
    · refine dn_goto (t := 2595) C dL_law__1692 (by decide) ?_
      refine dn_pick [2, 3, 4, 5, 6] rfl ?_
      exact dn_wid (by omega) (by omega) (hj s281 u275)
  · refine dn_iconst C dL_law__1673 ic_i_0 rfl ?_
    exact dn_fin0
def lc_24 (L : Nat) (xs : Nat → Int32) (j : hp_I → hp_L → Option Int32) (i : Int32) (s0 : hp_I) (u0 : hp_L) : Option Int32 :=
  Option.bind (px_sld L xs (i + (1 : Int32))) fun z285 =>
  Option.bind (px_sld L xs (i + (2 : Int32))) fun z286 =>
  Option.bind (px_sld L xs (i + (3 : Int32))) fun z287 =>
  Option.bind (px_sld L xs (i + (4 : Int32))) fun z288 =>
  px_b3 (fn_L_boat 0 z285 z286 z287 z288 s0 u0) fun z289 s290 u291 =>
  px_let z289 fun v292 =>
  Option.bind (px_sld L xs (i + (1 : Int32))) fun z293 =>
  Option.bind (px_sld L xs (i + (2 : Int32))) fun z294 =>
  Option.bind (px_sld L xs (i + (3 : Int32))) fun z295 =>
  Option.bind (px_sld L xs (i + (4 : Int32))) fun z296 =>
  px_b3 (fn_M_boat 52 z293 z294 z295 z296 s290 u291) fun z297 s298 u299 =>
  px_let z297 fun v300 =>
  Option.bind (fn_M_thrown 52 s298) fun z301 =>
  if z301 = v292 then (
    if v292 = 0 then (
      Option.bind (px_lld u299 601 (0 : Int32)) fun z302 =>
      if (lg_cmp z302 v300) = 0 then (
        j s298 u299
      ) else (
        some (0 : Int32)
      )
    ) else (
      j s298 u299
    )
  ) else (
    some (0 : Int32)
  )
set_option maxHeartbeats 4000000 in
set_option maxRecDepth 100000 in
theorem lp_24 {G : wd_G} {M : wd_M} {b0 L : Nat} {xs : Nat → Int32} {Q1 : State → Prop} {c sl : Nat} {i : Int32} {j : hp_I → hp_L → Option Int32} (C : cx_C G M RL code 8 80 (some .boolean)) (X : lm_X G M) (hs : sx_scr G M b0 L xs) (hc1 : c + 8 ≤ 601024) (hc2 : sl + 48 ≤ 7293034) (hj : ∀ (s : hp_I) (u : hp_L), dn_D G M 8 (c + 8) (sl + 48) (ql_Q Q1) 2595 [(0, .ref b0), (1, .ref (wd_b G + 0)), (2, .ref (wd_b G + 52)), (3, .ref (wd_b G + 601)), (4, .int i)] [] s u (j s u)) (s0 : hp_I) (u0 : hp_L) : dn_D G M 8 c sl (ql_Q Q1) 1695 [(0, .ref b0), (1, .ref (wd_b G + 0)), (2, .ref (wd_b G + 52)), (3, .ref (wd_b G + 601)), (4, .int i)] [] s0 u0 (lc_24 L xs j i s0 u0) := by
  unfold lc_24
  refine dn_aload_n C dL_law__1695 rfl 1 rfl rfl ?_
  refine dn_aload_n C dL_law__1696 rfl 0 rfl rfl ?_
  refine dn_iload C dL_law__1697 4 rfl rfl ?_
  refine dn_iconst C dL_law__1699 ic_i_1 rfl ?_
  refine dn_iadd C dL_law__1700 rfl ?_
  refine dn_sald C hs dL_law__1701 rfl (fun z285 => ?_)
  refine dn_aload_n C dL_law__1702 rfl 0 rfl rfl ?_
  refine dn_iload C dL_law__1703 4 rfl rfl ?_
  refine dn_iconst C dL_law__1705 ic_i_2 rfl ?_
  refine dn_iadd C dL_law__1706 rfl ?_
  refine dn_sald C hs dL_law__1707 rfl (fun z286 => ?_)
  refine dn_aload_n C dL_law__1708 rfl 0 rfl rfl ?_
  refine dn_iload C dL_law__1709 4 rfl rfl ?_
  refine dn_iconst C dL_law__1711 ic_i_3 rfl ?_
  refine dn_iadd C dL_law__1712 rfl ?_
  refine dn_sald C hs dL_law__1713 rfl (fun z287 => ?_)
  refine dn_aload_n C dL_law__1714 rfl 0 rfl rfl ?_
  refine dn_iload C dL_law__1715 4 rfl rfl ?_
  refine dn_iconst C dL_law__1717 ic_i_4 rfl ?_
  refine dn_iadd C dL_law__1718 rfl ?_
  refine dn_sald C hs dL_law__1719 rfl (fun z288 => ?_)
  refine dn_aload_n C dL_law__1720 rfl 3 rfl rfl ?_
  refine dn_callW (As := [.ref (wd_b G + 0), .int z285, .int z286, .int z287, .int z288, .ref (wd_b G + 601)]) (st := []) C (okw_L_boat (cx_g C) X.2.2 X.2.1 0 k0_11 z285 z286 z287 z288 s0 u0) mw_L_boat msw_L_boat lk_L_206 (by decide) rfl (lm_c X hc1 hc2 4 (by decide)) (Nat.le_of_ble_eq_true rfl) dL_law__1721 rfl rfl (fun z289 s290 u291 => ?_)
  refine dn_istore (lv0 := [(0, .ref b0), (1, .ref (wd_b G + 0)), (2, .ref (wd_b G + 52)), (3, .ref (wd_b G + 601)), (4, .int i)]) C dL_law__1724 (by decide) rfl rfl (fun v292 => ?_)
  refine dn_aload_n C dL_law__1726 rfl 3 rfl rfl ?_
  refine dn_aload_n C dL_law__1727 rfl 1 rfl rfl ?_
  refine dn_iload C dL_law__1728 5 rfl rfl ?_
  refine dn_iconst C dL_law__1730 ic_i_1 rfl ?_
  refine dn_iadd C dL_law__1731 rfl ?_
  refine dn_sald C hs dL_law__1732 rfl (fun z293 => ?_)
  refine dn_aload_n C dL_law__1733 rfl 1 rfl rfl ?_
  refine dn_iload C dL_law__1734 5 rfl rfl ?_
  refine dn_iconst C dL_law__1736 ic_i_2 rfl ?_
  refine dn_iadd C dL_law__1737 rfl ?_
  refine dn_sald C hs dL_law__1738 rfl (fun z294 => ?_)
  refine dn_aload_n C dL_law__1739 rfl 1 rfl rfl ?_
  refine dn_iload C dL_law__1740 5 rfl rfl ?_
  refine dn_iconst C dL_law__1742 ic_i_3 rfl ?_
  refine dn_iadd C dL_law__1743 rfl ?_
  refine dn_sald C hs dL_law__1744 rfl (fun z295 => ?_)
  refine dn_aload_n C dL_law__1745 rfl 1 rfl rfl ?_
  refine dn_iload C dL_law__1746 5 rfl rfl ?_
  refine dn_iconst C dL_law__1748 ic_i_4 rfl ?_
  refine dn_iadd C dL_law__1749 rfl ?_
  refine dn_sald C hs dL_law__1750 rfl (fun z296 => ?_)
  refine dn_callV_lh (As := [.int z293, .int z294, .int z295, .int z296]) (st := []) C (ok_M_boat (cx_g C) 52 k52_12 z293 z294 z295 z296 s290 u291) mt_X12_boat mv_X12_boat lk_L_209 (by decide) k52_12 rfl (lm_c X hc1 hc2 4 (by decide)) (Nat.le_of_ble_eq_true rfl) dL_law__1751 rfl rfl (fun z297 s298 u299 => ?_)
  refine dn_lstore (lv0 := [(5, .int v292), (0, .ref b0), (1, .ref (wd_b G + 0)), (2, .ref (wd_b G + 52)), (3, .ref (wd_b G + 601)), (4, .int i)]) C dL_law__1754 (by decide) rfl rfl (fun v300 => ?_)
  refine dn_aload_n C dL_law__1756 rfl 4 rfl rfl ?_
  refine dn_callV_i (As := []) (st := []) C (ok_M_thrown (cx_g C) 52 k52_12 s298 u299) mt_X12_thrown mv_X12_thrown lk_L_131 (by decide) k52_12 rfl (lm_c X hc1 hc2 4 (by decide)) (Nat.le_of_ble_eq_true rfl) dL_law__1757 rfl rfl (fun z301 => ?_)
  refine dn_iload C dL_law__1760 1 rfl rfl ?_
  refine dn_icmp_eq (t := 1767) C dL_law__1762 (by decide) rfl ?_ ?_
  · refine dn_iload C dL_law__1767 1 rfl rfl ?_
    refine dn_if_ne (t := 1783) C dL_law__1769 (by decide) rfl ?_ ?_
    · refine dn_aload_n C dL_law__1772 rfl 5 rfl rfl ?_
      refine dn_iconst C dL_law__1773 ic_i_0 rfl ?_
      refine dn_lald C sh_601 X.2.2 dL_law__1774 rfl (fun z302 => ?_)
      refine dn_lload C dL_law__1775 0 rfl rfl ?_
      refine dn_lcmp C dL_law__1777 rfl ?_
      refine dn_if_eq (t := 1783) C dL_law__1778 (by decide) rfl ?_ ?_
      · refine dn_goto (t := 2595) C dL_law__1783 (by decide) ?_
        refine dn_pick [2, 3, 4, 5, 6] rfl ?_
        exact dn_wid (by omega) (by omega) (hj s298 u299)
      · refine dn_iconst C dL_law__1781 ic_i_0 rfl ?_
        exact dn_fin0
    · refine dn_goto (t := 2595) C dL_law__1783 (by decide) ?_
      refine dn_pick [2, 3, 4, 5, 6] rfl ?_
      exact dn_wid (by omega) (by omega) (hj s298 u299)
  · refine dn_iconst C dL_law__1765 ic_i_0 rfl ?_
    exact dn_fin0
def lc_25 (L : Nat) (xs : Nat → Int32) (j : hp_I → hp_L → Option Int32) (i : Int32) (s0 : hp_I) (u0 : hp_L) : Option Int32 :=
  Option.bind (px_sld L xs (i + (1 : Int32))) fun z303 =>
  Option.bind (px_sld L xs (i + (2 : Int32))) fun z304 =>
  Option.bind (px_sld L xs (i + (3 : Int32))) fun z305 =>
  px_b3 (fn_L_crumbs 0 z303 z304 z305 s0 u0) fun z306 s307 u308 =>
  px_let z306 fun v309 =>
  Option.bind (px_sld L xs (i + (1 : Int32))) fun z310 =>
  Option.bind (px_sld L xs (i + (2 : Int32))) fun z311 =>
  Option.bind (px_sld L xs (i + (3 : Int32))) fun z312 =>
  px_b2 (fn_M_crumbs 52 z310 z311 z312 s307) fun z313 s314 =>
  px_let z313 fun v315 =>
  Option.bind (fn_M_thrown 52 s314) fun z316 =>
  if z316 = v309 then (
    if v309 = 0 then (
      Option.bind (px_lld u308 601 (0 : Int32)) fun z317 =>
      if (lg_cmp z317 v315.toInt64) = 0 then (
        j s314 u308
      ) else (
        some (0 : Int32)
      )
    ) else (
      j s314 u308
    )
  ) else (
    some (0 : Int32)
  )
set_option maxHeartbeats 4000000 in
set_option maxRecDepth 100000 in
theorem lp_25 {G : wd_G} {M : wd_M} {b0 L : Nat} {xs : Nat → Int32} {Q1 : State → Prop} {c sl : Nat} {i : Int32} {j : hp_I → hp_L → Option Int32} (C : cx_C G M RL code 8 80 (some .boolean)) (X : lm_X G M) (hs : sx_scr G M b0 L xs) (hc1 : c + 8 ≤ 601024) (hc2 : sl + 48 ≤ 7293034) (hj : ∀ (s : hp_I) (u : hp_L), dn_D G M 8 (c + 8) (sl + 48) (ql_Q Q1) 2595 [(0, .ref b0), (1, .ref (wd_b G + 0)), (2, .ref (wd_b G + 52)), (3, .ref (wd_b G + 601)), (4, .int i)] [] s u (j s u)) (s0 : hp_I) (u0 : hp_L) : dn_D G M 8 c sl (ql_Q Q1) 1786 [(0, .ref b0), (1, .ref (wd_b G + 0)), (2, .ref (wd_b G + 52)), (3, .ref (wd_b G + 601)), (4, .int i)] [] s0 u0 (lc_25 L xs j i s0 u0) := by
  unfold lc_25
  refine dn_aload_n C dL_law__1786 rfl 1 rfl rfl ?_
  refine dn_aload_n C dL_law__1787 rfl 0 rfl rfl ?_
  refine dn_iload C dL_law__1788 4 rfl rfl ?_
  refine dn_iconst C dL_law__1790 ic_i_1 rfl ?_
  refine dn_iadd C dL_law__1791 rfl ?_
  refine dn_sald C hs dL_law__1792 rfl (fun z303 => ?_)
  refine dn_aload_n C dL_law__1793 rfl 0 rfl rfl ?_
  refine dn_iload C dL_law__1794 4 rfl rfl ?_
  refine dn_iconst C dL_law__1796 ic_i_2 rfl ?_
  refine dn_iadd C dL_law__1797 rfl ?_
  refine dn_sald C hs dL_law__1798 rfl (fun z304 => ?_)
  refine dn_aload_n C dL_law__1799 rfl 0 rfl rfl ?_
  refine dn_iload C dL_law__1800 4 rfl rfl ?_
  refine dn_iconst C dL_law__1802 ic_i_3 rfl ?_
  refine dn_iadd C dL_law__1803 rfl ?_
  refine dn_sald C hs dL_law__1804 rfl (fun z305 => ?_)
  refine dn_aload_n C dL_law__1805 rfl 3 rfl rfl ?_
  refine dn_callW (As := [.ref (wd_b G + 0), .int z303, .int z304, .int z305, .ref (wd_b G + 601)]) (st := []) C (okw_L_crumbs (cx_g C) X.2.2 X.2.1 0 k0_11 z303 z304 z305 s0 u0) mw_L_crumbs msw_L_crumbs lk_L_210 (by decide) rfl (lm_c X hc1 hc2 3 (by decide)) (Nat.le_of_ble_eq_true rfl) dL_law__1806 rfl rfl (fun z306 s307 u308 => ?_)
  refine dn_istore (lv0 := [(0, .ref b0), (1, .ref (wd_b G + 0)), (2, .ref (wd_b G + 52)), (3, .ref (wd_b G + 601)), (4, .int i)]) C dL_law__1809 (by decide) rfl rfl (fun v309 => ?_)
  refine dn_aload_n C dL_law__1811 rfl 3 rfl rfl ?_
  refine dn_aload_n C dL_law__1812 rfl 1 rfl rfl ?_
  refine dn_iload C dL_law__1813 5 rfl rfl ?_
  refine dn_iconst C dL_law__1815 ic_i_1 rfl ?_
  refine dn_iadd C dL_law__1816 rfl ?_
  refine dn_sald C hs dL_law__1817 rfl (fun z310 => ?_)
  refine dn_aload_n C dL_law__1818 rfl 1 rfl rfl ?_
  refine dn_iload C dL_law__1819 5 rfl rfl ?_
  refine dn_iconst C dL_law__1821 ic_i_2 rfl ?_
  refine dn_iadd C dL_law__1822 rfl ?_
  refine dn_sald C hs dL_law__1823 rfl (fun z311 => ?_)
  refine dn_aload_n C dL_law__1824 rfl 1 rfl rfl ?_
  refine dn_iload C dL_law__1825 5 rfl rfl ?_
  refine dn_iconst C dL_law__1827 ic_i_3 rfl ?_
  refine dn_iadd C dL_law__1828 rfl ?_
  refine dn_sald C hs dL_law__1829 rfl (fun z312 => ?_)
  refine dn_callV_ih (As := [.int z310, .int z311, .int z312]) (st := []) C (ok_M_crumbs (cx_g C) 52 k52_12 z310 z311 z312 s307 u308) mt_X12_crumbs mv_X12_crumbs lk_L_212 (by decide) k52_12 rfl (lm_c X hc1 hc2 3 (by decide)) (Nat.le_of_ble_eq_true rfl) dL_law__1830 rfl rfl (fun z313 s314 => ?_)
  refine dn_istore (lv0 := [(5, .int v309), (0, .ref b0), (1, .ref (wd_b G + 0)), (2, .ref (wd_b G + 52)), (3, .ref (wd_b G + 601)), (4, .int i)]) C dL_law__1833 (by decide) rfl rfl (fun v315 => ?_)
  refine dn_aload_n C dL_law__1835 rfl 4 rfl rfl ?_
  refine dn_callV_i (As := []) (st := []) C (ok_M_thrown (cx_g C) 52 k52_12 s314 u308) mt_X12_thrown mv_X12_thrown lk_L_131 (by decide) k52_12 rfl (lm_c X hc1 hc2 3 (by decide)) (Nat.le_of_ble_eq_true rfl) dL_law__1836 rfl rfl (fun z316 => ?_)
  refine dn_iload C dL_law__1839 1 rfl rfl ?_
  refine dn_icmp_eq (t := 1846) C dL_law__1841 (by decide) rfl ?_ ?_
  · refine dn_iload C dL_law__1846 1 rfl rfl ?_
    refine dn_if_ne (t := 1863) C dL_law__1848 (by decide) rfl ?_ ?_
    · refine dn_aload_n C dL_law__1851 rfl 5 rfl rfl ?_
      refine dn_iconst C dL_law__1852 ic_i_0 rfl ?_
      refine dn_lald C sh_601 X.2.2 dL_law__1853 rfl (fun z317 => ?_)
      refine dn_iload C dL_law__1854 0 rfl rfl ?_
      refine dn_i2l C dL_law__1856 rfl ?_
      refine dn_lcmp C dL_law__1857 rfl ?_
      refine dn_if_eq (t := 1863) C dL_law__1858 (by decide) rfl ?_ ?_
      · refine dn_goto (t := 2595) C dL_law__1863 (by decide) ?_
        refine dn_pick [2, 3, 4, 5, 6] rfl ?_
        exact dn_wid (by omega) (by omega) (hj s314 u308)
      · refine dn_iconst C dL_law__1861 ic_i_0 rfl ?_
        exact dn_fin0
    · refine dn_goto (t := 2595) C dL_law__1863 (by decide) ?_
      refine dn_pick [2, 3, 4, 5, 6] rfl ?_
      exact dn_wid (by omega) (by omega) (hj s314 u308)
  · refine dn_iconst C dL_law__1844 ic_i_0 rfl ?_
    exact dn_fin0
def lc_26 (L : Nat) (xs : Nat → Int32) (j : hp_I → hp_L → Option Int32) (i : Int32) (s0 : hp_I) (u0 : hp_L) : Option Int32 :=
  Option.bind (px_sld L xs (i + (1 : Int32))) fun z318 =>
  px_b3 (fn_L_greatest 0 z318 s0 u0) fun z319 s320 u321 =>
  px_let z319 fun v322 =>
  Option.bind (px_sld L xs (i + (1 : Int32))) fun z323 =>
  px_b2 (fn_M_greatest 52 z323 s320) fun z324 s325 =>
  px_let z324 fun v326 =>
  Option.bind (fn_M_thrown 52 s325) fun z327 =>
  if z327 = v322 then (
    if v322 = 0 then (
      Option.bind (px_lld u321 601 (0 : Int32)) fun z328 =>
      if (lg_cmp z328 v326.toInt64) = 0 then (
        j s325 u321
      ) else (
        some (0 : Int32)
      )
    ) else (
      j s325 u321
    )
  ) else (
    some (0 : Int32)
  )
set_option maxHeartbeats 4000000 in
set_option maxRecDepth 100000 in
theorem lp_26 {G : wd_G} {M : wd_M} {b0 L : Nat} {xs : Nat → Int32} {Q1 : State → Prop} {c sl : Nat} {i : Int32} {j : hp_I → hp_L → Option Int32} (C : cx_C G M RL code 8 80 (some .boolean)) (X : lm_X G M) (hs : sx_scr G M b0 L xs) (hc1 : c + 8 ≤ 601024) (hc2 : sl + 48 ≤ 7293034) (hj : ∀ (s : hp_I) (u : hp_L), dn_D G M 8 (c + 8) (sl + 48) (ql_Q Q1) 2595 [(0, .ref b0), (1, .ref (wd_b G + 0)), (2, .ref (wd_b G + 52)), (3, .ref (wd_b G + 601)), (4, .int i)] [] s u (j s u)) (s0 : hp_I) (u0 : hp_L) : dn_D G M 8 c sl (ql_Q Q1) 1866 [(0, .ref b0), (1, .ref (wd_b G + 0)), (2, .ref (wd_b G + 52)), (3, .ref (wd_b G + 601)), (4, .int i)] [] s0 u0 (lc_26 L xs j i s0 u0) := by
  unfold lc_26
  refine dn_aload_n C dL_law__1866 rfl 1 rfl rfl ?_
  refine dn_aload_n C dL_law__1867 rfl 0 rfl rfl ?_
  refine dn_iload C dL_law__1868 4 rfl rfl ?_
  refine dn_iconst C dL_law__1870 ic_i_1 rfl ?_
  refine dn_iadd C dL_law__1871 rfl ?_
  refine dn_sald C hs dL_law__1872 rfl (fun z318 => ?_)
  refine dn_aload_n C dL_law__1873 rfl 3 rfl rfl ?_
  refine dn_callW (As := [.ref (wd_b G + 0), .int z318, .ref (wd_b G + 601)]) (st := []) C (okw_L_greatest (cx_g C) X.2.2 X.2.1 0 k0_11 z318 s0 u0) mw_L_greatest msw_L_greatest lk_L_213 (by decide) rfl (lm_c X hc1 hc2 1 (by decide)) (Nat.le_of_ble_eq_true rfl) dL_law__1874 rfl rfl (fun z319 s320 u321 => ?_)
  refine dn_istore (lv0 := [(0, .ref b0), (1, .ref (wd_b G + 0)), (2, .ref (wd_b G + 52)), (3, .ref (wd_b G + 601)), (4, .int i)]) C dL_law__1877 (by decide) rfl rfl (fun v322 => ?_)
  refine dn_aload_n C dL_law__1879 rfl 3 rfl rfl ?_
  refine dn_aload_n C dL_law__1880 rfl 1 rfl rfl ?_
  refine dn_iload C dL_law__1881 5 rfl rfl ?_
  refine dn_iconst C dL_law__1883 ic_i_1 rfl ?_
  refine dn_iadd C dL_law__1884 rfl ?_
  refine dn_sald C hs dL_law__1885 rfl (fun z323 => ?_)
  refine dn_callV_ih (As := [.int z323]) (st := []) C (ok_M_greatest (cx_g C) 52 k52_12 z323 s320 u321) mt_X12_greatest mv_X12_greatest lk_L_215 (by decide) k52_12 rfl (lm_c X hc1 hc2 1 (by decide)) (Nat.le_of_ble_eq_true rfl) dL_law__1886 rfl rfl (fun z324 s325 => ?_)
  refine dn_istore (lv0 := [(5, .int v322), (0, .ref b0), (1, .ref (wd_b G + 0)), (2, .ref (wd_b G + 52)), (3, .ref (wd_b G + 601)), (4, .int i)]) C dL_law__1889 (by decide) rfl rfl (fun v326 => ?_)
  refine dn_aload_n C dL_law__1891 rfl 4 rfl rfl ?_
  refine dn_callV_i (As := []) (st := []) C (ok_M_thrown (cx_g C) 52 k52_12 s325 u321) mt_X12_thrown mv_X12_thrown lk_L_131 (by decide) k52_12 rfl (lm_c X hc1 hc2 1 (by decide)) (Nat.le_of_ble_eq_true rfl) dL_law__1892 rfl rfl (fun z327 => ?_)
  refine dn_iload C dL_law__1895 1 rfl rfl ?_
  refine dn_icmp_eq (t := 1902) C dL_law__1897 (by decide) rfl ?_ ?_
  · refine dn_iload C dL_law__1902 1 rfl rfl ?_
    refine dn_if_ne (t := 1919) C dL_law__1904 (by decide) rfl ?_ ?_
    · refine dn_aload_n C dL_law__1907 rfl 5 rfl rfl ?_
      refine dn_iconst C dL_law__1908 ic_i_0 rfl ?_
      refine dn_lald C sh_601 X.2.2 dL_law__1909 rfl (fun z328 => ?_)
      refine dn_iload C dL_law__1910 0 rfl rfl ?_
      refine dn_i2l C dL_law__1912 rfl ?_
      refine dn_lcmp C dL_law__1913 rfl ?_
      refine dn_if_eq (t := 1919) C dL_law__1914 (by decide) rfl ?_ ?_
      · refine dn_goto (t := 2595) C dL_law__1919 (by decide) ?_
        refine dn_pick [2, 3, 4, 5, 6] rfl ?_
        exact dn_wid (by omega) (by omega) (hj s325 u321)
      · refine dn_iconst C dL_law__1917 ic_i_0 rfl ?_
        exact dn_fin0
    · refine dn_goto (t := 2595) C dL_law__1919 (by decide) ?_
      refine dn_pick [2, 3, 4, 5, 6] rfl ?_
      exact dn_wid (by omega) (by omega) (hj s325 u321)
  · refine dn_iconst C dL_law__1900 ic_i_0 rfl ?_
    exact dn_fin0
def lc_27 (L : Nat) (xs : Nat → Int32) (j : hp_I → hp_L → Option Int32) (i : Int32) (s0 : hp_I) (u0 : hp_L) : Option Int32 :=
  Option.bind (px_sld L xs (i + (1 : Int32))) fun z329 =>
  px_b3 (fn_L_proudest 0 z329 s0 u0) fun z330 s331 u332 =>
  px_let z330 fun v333 =>
  Option.bind (px_sld L xs (i + (1 : Int32))) fun z334 =>
  px_b2 (fn_M_proudest 52 z334 s331) fun z335 s336 =>
  px_let z335 fun v337 =>
  Option.bind (fn_M_thrown 52 s336) fun z338 =>
  if z338 = v333 then (
    if v333 = 0 then (
      Option.bind (px_lld u332 601 (0 : Int32)) fun z339 =>
      if (lg_cmp z339 v337.toInt64) = 0 then (
        j s336 u332
      ) else (
        some (0 : Int32)
      )
    ) else (
      j s336 u332
    )
  ) else (
    some (0 : Int32)
  )
set_option maxHeartbeats 4000000 in
set_option maxRecDepth 100000 in
theorem lp_27 {G : wd_G} {M : wd_M} {b0 L : Nat} {xs : Nat → Int32} {Q1 : State → Prop} {c sl : Nat} {i : Int32} {j : hp_I → hp_L → Option Int32} (C : cx_C G M RL code 8 80 (some .boolean)) (X : lm_X G M) (hs : sx_scr G M b0 L xs) (hc1 : c + 8 ≤ 601024) (hc2 : sl + 48 ≤ 7293034) (hj : ∀ (s : hp_I) (u : hp_L), dn_D G M 8 (c + 8) (sl + 48) (ql_Q Q1) 2595 [(0, .ref b0), (1, .ref (wd_b G + 0)), (2, .ref (wd_b G + 52)), (3, .ref (wd_b G + 601)), (4, .int i)] [] s u (j s u)) (s0 : hp_I) (u0 : hp_L) : dn_D G M 8 c sl (ql_Q Q1) 1922 [(0, .ref b0), (1, .ref (wd_b G + 0)), (2, .ref (wd_b G + 52)), (3, .ref (wd_b G + 601)), (4, .int i)] [] s0 u0 (lc_27 L xs j i s0 u0) := by
  unfold lc_27
  refine dn_aload_n C dL_law__1922 rfl 1 rfl rfl ?_
  refine dn_aload_n C dL_law__1923 rfl 0 rfl rfl ?_
  refine dn_iload C dL_law__1924 4 rfl rfl ?_
  refine dn_iconst C dL_law__1926 ic_i_1 rfl ?_
  refine dn_iadd C dL_law__1927 rfl ?_
  refine dn_sald C hs dL_law__1928 rfl (fun z329 => ?_)
  refine dn_aload_n C dL_law__1929 rfl 3 rfl rfl ?_
  refine dn_callW (As := [.ref (wd_b G + 0), .int z329, .ref (wd_b G + 601)]) (st := []) C (okw_L_proudest (cx_g C) X.2.2 X.2.1 0 k0_11 z329 s0 u0) mw_L_proudest msw_L_proudest lk_L_216 (by decide) rfl (lm_c X hc1 hc2 1 (by decide)) (Nat.le_of_ble_eq_true rfl) dL_law__1930 rfl rfl (fun z330 s331 u332 => ?_)
  refine dn_istore (lv0 := [(0, .ref b0), (1, .ref (wd_b G + 0)), (2, .ref (wd_b G + 52)), (3, .ref (wd_b G + 601)), (4, .int i)]) C dL_law__1933 (by decide) rfl rfl (fun v333 => ?_)
  refine dn_aload_n C dL_law__1935 rfl 3 rfl rfl ?_
  refine dn_aload_n C dL_law__1936 rfl 1 rfl rfl ?_
  refine dn_iload C dL_law__1937 5 rfl rfl ?_
  refine dn_iconst C dL_law__1939 ic_i_1 rfl ?_
  refine dn_iadd C dL_law__1940 rfl ?_
  refine dn_sald C hs dL_law__1941 rfl (fun z334 => ?_)
  refine dn_callV_ih (As := [.int z334]) (st := []) C (ok_M_proudest (cx_g C) 52 k52_12 z334 s331 u332) mt_X12_proudest mv_X12_proudest lk_L_218 (by decide) k52_12 rfl (lm_c X hc1 hc2 1 (by decide)) (Nat.le_of_ble_eq_true rfl) dL_law__1942 rfl rfl (fun z335 s336 => ?_)
  refine dn_istore (lv0 := [(5, .int v333), (0, .ref b0), (1, .ref (wd_b G + 0)), (2, .ref (wd_b G + 52)), (3, .ref (wd_b G + 601)), (4, .int i)]) C dL_law__1945 (by decide) rfl rfl (fun v337 => ?_)
  refine dn_aload_n C dL_law__1947 rfl 4 rfl rfl ?_
  refine dn_callV_i (As := []) (st := []) C (ok_M_thrown (cx_g C) 52 k52_12 s336 u332) mt_X12_thrown mv_X12_thrown lk_L_131 (by decide) k52_12 rfl (lm_c X hc1 hc2 1 (by decide)) (Nat.le_of_ble_eq_true rfl) dL_law__1948 rfl rfl (fun z338 => ?_)
  refine dn_iload C dL_law__1951 1 rfl rfl ?_
  refine dn_icmp_eq (t := 1958) C dL_law__1953 (by decide) rfl ?_ ?_
  · refine dn_iload C dL_law__1958 1 rfl rfl ?_
    refine dn_if_ne (t := 1975) C dL_law__1960 (by decide) rfl ?_ ?_
    · refine dn_aload_n C dL_law__1963 rfl 5 rfl rfl ?_
      refine dn_iconst C dL_law__1964 ic_i_0 rfl ?_
      refine dn_lald C sh_601 X.2.2 dL_law__1965 rfl (fun z339 => ?_)
      refine dn_iload C dL_law__1966 0 rfl rfl ?_
      refine dn_i2l C dL_law__1968 rfl ?_
      refine dn_lcmp C dL_law__1969 rfl ?_
      refine dn_if_eq (t := 1975) C dL_law__1970 (by decide) rfl ?_ ?_
      · refine dn_goto (t := 2595) C dL_law__1975 (by decide) ?_
        refine dn_pick [2, 3, 4, 5, 6] rfl ?_
        exact dn_wid (by omega) (by omega) (hj s336 u332)
      · refine dn_iconst C dL_law__1973 ic_i_0 rfl ?_
        exact dn_fin0
    · refine dn_goto (t := 2595) C dL_law__1975 (by decide) ?_
      refine dn_pick [2, 3, 4, 5, 6] rfl ?_
      exact dn_wid (by omega) (by omega) (hj s336 u332)
  · refine dn_iconst C dL_law__1956 ic_i_0 rfl ?_
    exact dn_fin0
def lc_28 (L : Nat) (xs : Nat → Int32) (j : hp_I → hp_L → Option Int32) (i : Int32) (s0 : hp_I) (u0 : hp_L) : Option Int32 :=
  Option.bind (fn_X_safe 0 s0) fun z340 =>
  px_b2 (fn_M_safe 52 s0) fun z341 s342 =>
  if z340 = z341 then (
    j s342 u0
  ) else (
    some (0 : Int32)
  )
set_option maxHeartbeats 4000000 in
set_option maxRecDepth 100000 in
theorem lp_28 {G : wd_G} {M : wd_M} {b0 L : Nat} {xs : Nat → Int32} {Q1 : State → Prop} {c sl : Nat} {i : Int32} {j : hp_I → hp_L → Option Int32} (C : cx_C G M RL code 8 80 (some .boolean)) (X : lm_X G M) (hs : sx_scr G M b0 L xs) (hc1 : c + 8 ≤ 601024) (hc2 : sl + 48 ≤ 7293034) (hj : ∀ (s : hp_I) (u : hp_L), dn_D G M 8 (c + 8) (sl + 48) (ql_Q Q1) 2595 [(0, .ref b0), (1, .ref (wd_b G + 0)), (2, .ref (wd_b G + 52)), (3, .ref (wd_b G + 601)), (4, .int i)] [] s u (j s u)) (s0 : hp_I) (u0 : hp_L) : dn_D G M 8 c sl (ql_Q Q1) 1978 [(0, .ref b0), (1, .ref (wd_b G + 0)), (2, .ref (wd_b G + 52)), (3, .ref (wd_b G + 601)), (4, .int i)] [] s0 u0 (lc_28 L xs j i s0 u0) := by
  unfold lc_28
  refine dn_aload_n C dL_law__1978 rfl 1 rfl rfl ?_
  refine dn_callV_i (As := []) (st := []) C (ok_X_safe (cx_g C) 0 k0_11 s0 u0) mt_X11_safe mv_X11_safe lk_L_219 (by decide) k0_11 rfl (lm_c X hc1 hc2 0 (by decide)) (Nat.le_of_ble_eq_true rfl) dL_law__1979 rfl rfl (fun z340 => ?_)
  refine dn_aload_n C dL_law__1982 rfl 2 rfl rfl ?_
  refine dn_callV_ih (As := []) (st := [.int z340]) C (ok_M_safe (cx_g C) 52 k52_12 s0 u0) mt_X12_safe mv_X12_safe lk_L_222 (by decide) k52_12 rfl (lm_c X hc1 hc2 0 (by decide)) (Nat.le_of_ble_eq_true rfl) dL_law__1983 rfl rfl (fun z341 s342 => ?_)
  refine dn_icmp_eq (t := 2595) C dL_law__1986 (by decide) rfl ?_ ?_
  · exact dn_wid (by omega) (by omega) (hj s342 u0)
  · refine dn_iconst C dL_law__1989 ic_i_0 rfl ?_
    exact dn_fin0
def lc_29 (L : Nat) (xs : Nat → Int32) (j : hp_I → hp_L → Option Int32) (i : Int32) (s0 : hp_I) (u0 : hp_L) : Option Int32 :=
  px_b2 (fn_X_doomed 0 s0) fun z343 s344 =>
  px_b2 (fn_M_doomed 52 s344) fun z345 s346 =>
  if z343 = z345 then (
    j s346 u0
  ) else (
    some (0 : Int32)
  )
set_option maxHeartbeats 4000000 in
set_option maxRecDepth 100000 in
theorem lp_29 {G : wd_G} {M : wd_M} {b0 L : Nat} {xs : Nat → Int32} {Q1 : State → Prop} {c sl : Nat} {i : Int32} {j : hp_I → hp_L → Option Int32} (C : cx_C G M RL code 8 80 (some .boolean)) (X : lm_X G M) (hs : sx_scr G M b0 L xs) (hc1 : c + 8 ≤ 601024) (hc2 : sl + 48 ≤ 7293034) (hj : ∀ (s : hp_I) (u : hp_L), dn_D G M 8 (c + 8) (sl + 48) (ql_Q Q1) 2595 [(0, .ref b0), (1, .ref (wd_b G + 0)), (2, .ref (wd_b G + 52)), (3, .ref (wd_b G + 601)), (4, .int i)] [] s u (j s u)) (s0 : hp_I) (u0 : hp_L) : dn_D G M 8 c sl (ql_Q Q1) 1991 [(0, .ref b0), (1, .ref (wd_b G + 0)), (2, .ref (wd_b G + 52)), (3, .ref (wd_b G + 601)), (4, .int i)] [] s0 u0 (lc_29 L xs j i s0 u0) := by
  unfold lc_29
  refine dn_aload_n C dL_law__1991 rfl 1 rfl rfl ?_
  refine dn_callV_ih (As := []) (st := []) C (ok_X_doomed (cx_g C) 0 k0_11 s0 u0) mt_X11_doomed mv_X11_doomed lk_L_223 (by decide) k0_11 rfl (lm_c X hc1 hc2 0 (by decide)) (Nat.le_of_ble_eq_true rfl) dL_law__1992 rfl rfl (fun z343 s344 => ?_)
  refine dn_aload_n C dL_law__1995 rfl 2 rfl rfl ?_
  refine dn_callV_ih (As := []) (st := [.int z343]) C (ok_M_doomed (cx_g C) 52 k52_12 s344 u0) mt_X12_doomed mv_X12_doomed lk_L_226 (by decide) k52_12 rfl (lm_c X hc1 hc2 0 (by decide)) (Nat.le_of_ble_eq_true rfl) dL_law__1996 rfl rfl (fun z345 s346 => ?_)
  refine dn_icmp_eq (t := 2595) C dL_law__1999 (by decide) rfl ?_ ?_
  · exact dn_wid (by omega) (by omega) (hj s346 u0)
  · refine dn_iconst C dL_law__2002 ic_i_0 rfl ?_
    exact dn_fin0
def lc_30 (L : Nat) (xs : Nat → Int32) (j : hp_I → hp_L → Option Int32) (i : Int32) (s0 : hp_I) (u0 : hp_L) : Option Int32 :=
  Option.bind (px_sld L xs (i + (1 : Int32))) fun z347 =>
  px_b3 (fn_L_havens 0 z347 s0 u0) fun z348 s349 u350 =>
  px_let z348 fun v351 =>
  Option.bind (px_sld L xs (i + (1 : Int32))) fun z352 =>
  px_b2 (fn_M_havens 52 z352 s349) fun z353 s354 =>
  px_let z353 fun v355 =>
  Option.bind (fn_M_thrown 52 s354) fun z356 =>
  if z356 = v351 then (
    if v351 = 0 then (
      Option.bind (px_lld u350 601 (0 : Int32)) fun z357 =>
      if (lg_cmp z357 v355.toInt64) = 0 then (
        j s354 u350
      ) else (
        some (0 : Int32)
      )
    ) else (
      j s354 u350
    )
  ) else (
    some (0 : Int32)
  )
set_option maxHeartbeats 4000000 in
set_option maxRecDepth 100000 in
theorem lp_30 {G : wd_G} {M : wd_M} {b0 L : Nat} {xs : Nat → Int32} {Q1 : State → Prop} {c sl : Nat} {i : Int32} {j : hp_I → hp_L → Option Int32} (C : cx_C G M RL code 8 80 (some .boolean)) (X : lm_X G M) (hs : sx_scr G M b0 L xs) (hc1 : c + 8 ≤ 601024) (hc2 : sl + 48 ≤ 7293034) (hj : ∀ (s : hp_I) (u : hp_L), dn_D G M 8 (c + 8) (sl + 48) (ql_Q Q1) 2595 [(0, .ref b0), (1, .ref (wd_b G + 0)), (2, .ref (wd_b G + 52)), (3, .ref (wd_b G + 601)), (4, .int i)] [] s u (j s u)) (s0 : hp_I) (u0 : hp_L) : dn_D G M 8 c sl (ql_Q Q1) 2004 [(0, .ref b0), (1, .ref (wd_b G + 0)), (2, .ref (wd_b G + 52)), (3, .ref (wd_b G + 601)), (4, .int i)] [] s0 u0 (lc_30 L xs j i s0 u0) := by
  unfold lc_30
  refine dn_aload_n C dL_law__2004 rfl 1 rfl rfl ?_
  refine dn_aload_n C dL_law__2005 rfl 0 rfl rfl ?_
  refine dn_iload C dL_law__2006 4 rfl rfl ?_
  refine dn_iconst C dL_law__2008 ic_i_1 rfl ?_
  refine dn_iadd C dL_law__2009 rfl ?_
  refine dn_sald C hs dL_law__2010 rfl (fun z347 => ?_)
  refine dn_aload_n C dL_law__2011 rfl 3 rfl rfl ?_
  refine dn_callW (As := [.ref (wd_b G + 0), .int z347, .ref (wd_b G + 601)]) (st := []) C (okw_L_havens (cx_g C) X.2.2 X.2.1 0 k0_11 z347 s0 u0) mw_L_havens msw_L_havens lk_L_227 (by decide) rfl (lm_c X hc1 hc2 1 (by decide)) (Nat.le_of_ble_eq_true rfl) dL_law__2012 rfl rfl (fun z348 s349 u350 => ?_)
  refine dn_istore (lv0 := [(0, .ref b0), (1, .ref (wd_b G + 0)), (2, .ref (wd_b G + 52)), (3, .ref (wd_b G + 601)), (4, .int i)]) C dL_law__2015 (by decide) rfl rfl (fun v351 => ?_)
  refine dn_aload_n C dL_law__2017 rfl 3 rfl rfl ?_
  refine dn_aload_n C dL_law__2018 rfl 1 rfl rfl ?_
  refine dn_iload C dL_law__2019 5 rfl rfl ?_
  refine dn_iconst C dL_law__2021 ic_i_1 rfl ?_
  refine dn_iadd C dL_law__2022 rfl ?_
  refine dn_sald C hs dL_law__2023 rfl (fun z352 => ?_)
  refine dn_callV_ih (As := [.int z352]) (st := []) C (ok_M_havens (cx_g C) 52 k52_12 z352 s349 u350) mt_X12_havens mv_X12_havens lk_L_229 (by decide) k52_12 rfl (lm_c X hc1 hc2 1 (by decide)) (Nat.le_of_ble_eq_true rfl) dL_law__2024 rfl rfl (fun z353 s354 => ?_)
  refine dn_istore (lv0 := [(5, .int v351), (0, .ref b0), (1, .ref (wd_b G + 0)), (2, .ref (wd_b G + 52)), (3, .ref (wd_b G + 601)), (4, .int i)]) C dL_law__2027 (by decide) rfl rfl (fun v355 => ?_)
  refine dn_aload_n C dL_law__2029 rfl 4 rfl rfl ?_
  refine dn_callV_i (As := []) (st := []) C (ok_M_thrown (cx_g C) 52 k52_12 s354 u350) mt_X12_thrown mv_X12_thrown lk_L_131 (by decide) k52_12 rfl (lm_c X hc1 hc2 1 (by decide)) (Nat.le_of_ble_eq_true rfl) dL_law__2030 rfl rfl (fun z356 => ?_)
  refine dn_iload C dL_law__2033 1 rfl rfl ?_
  refine dn_icmp_eq (t := 2040) C dL_law__2035 (by decide) rfl ?_ ?_
  · refine dn_iload C dL_law__2040 1 rfl rfl ?_
    refine dn_if_ne (t := 2057) C dL_law__2042 (by decide) rfl ?_ ?_
    · refine dn_aload_n C dL_law__2045 rfl 5 rfl rfl ?_
      refine dn_iconst C dL_law__2046 ic_i_0 rfl ?_
      refine dn_lald C sh_601 X.2.2 dL_law__2047 rfl (fun z357 => ?_)
      refine dn_iload C dL_law__2048 0 rfl rfl ?_
      refine dn_i2l C dL_law__2050 rfl ?_
      refine dn_lcmp C dL_law__2051 rfl ?_
      refine dn_if_eq (t := 2057) C dL_law__2052 (by decide) rfl ?_ ?_
      · refine dn_goto (t := 2595) C dL_law__2057 (by decide) ?_
        refine dn_pick [2, 3, 4, 5, 6] rfl ?_
        exact dn_wid (by omega) (by omega) (hj s354 u350)
      · refine dn_iconst C dL_law__2055 ic_i_0 rfl ?_
        exact dn_fin0
    · refine dn_goto (t := 2595) C dL_law__2057 (by decide) ?_
      refine dn_pick [2, 3, 4, 5, 6] rfl ?_
      exact dn_wid (by omega) (by omega) (hj s354 u350)
  · refine dn_iconst C dL_law__2038 ic_i_0 rfl ?_
    exact dn_fin0
def lc_31 (L : Nat) (xs : Nat → Int32) (j : hp_I → hp_L → Option Int32) (i : Int32) (s0 : hp_I) (u0 : hp_L) : Option Int32 :=
  Option.bind (fn_X_hungry 0 s0) fun z358 =>
  px_b2 (fn_M_hungry 52 s0) fun z359 s360 =>
  if z358 = z359 then (
    j s360 u0
  ) else (
    some (0 : Int32)
  )
set_option maxHeartbeats 4000000 in
set_option maxRecDepth 100000 in
theorem lp_31 {G : wd_G} {M : wd_M} {b0 L : Nat} {xs : Nat → Int32} {Q1 : State → Prop} {c sl : Nat} {i : Int32} {j : hp_I → hp_L → Option Int32} (C : cx_C G M RL code 8 80 (some .boolean)) (X : lm_X G M) (hs : sx_scr G M b0 L xs) (hc1 : c + 8 ≤ 601024) (hc2 : sl + 48 ≤ 7293034) (hj : ∀ (s : hp_I) (u : hp_L), dn_D G M 8 (c + 8) (sl + 48) (ql_Q Q1) 2595 [(0, .ref b0), (1, .ref (wd_b G + 0)), (2, .ref (wd_b G + 52)), (3, .ref (wd_b G + 601)), (4, .int i)] [] s u (j s u)) (s0 : hp_I) (u0 : hp_L) : dn_D G M 8 c sl (ql_Q Q1) 2060 [(0, .ref b0), (1, .ref (wd_b G + 0)), (2, .ref (wd_b G + 52)), (3, .ref (wd_b G + 601)), (4, .int i)] [] s0 u0 (lc_31 L xs j i s0 u0) := by
  unfold lc_31
  refine dn_aload_n C dL_law__2060 rfl 1 rfl rfl ?_
  refine dn_callV_i (As := []) (st := []) C (ok_X_hungry (cx_g C) 0 k0_11 s0 u0) mt_X11_hungry mv_X11_hungry lk_L_230 (by decide) k0_11 rfl (lm_c X hc1 hc2 0 (by decide)) (Nat.le_of_ble_eq_true rfl) dL_law__2061 rfl rfl (fun z358 => ?_)
  refine dn_aload_n C dL_law__2064 rfl 2 rfl rfl ?_
  refine dn_callV_ih (As := []) (st := [.int z358]) C (ok_M_hungry (cx_g C) 52 k52_12 s0 u0) mt_X12_hungry mv_X12_hungry lk_L_233 (by decide) k52_12 rfl (lm_c X hc1 hc2 0 (by decide)) (Nat.le_of_ble_eq_true rfl) dL_law__2065 rfl rfl (fun z359 s360 => ?_)
  refine dn_icmp_eq (t := 2595) C dL_law__2068 (by decide) rfl ?_ ?_
  · exact dn_wid (by omega) (by omega) (hj s360 u0)
  · refine dn_iconst C dL_law__2071 ic_i_0 rfl ?_
    exact dn_fin0
def lc_32 (L : Nat) (xs : Nat → Int32) (j : hp_I → hp_L → Option Int32) (i : Int32) (s0 : hp_I) (u0 : hp_L) : Option Int32 :=
  Option.bind (px_sld L xs (i + (1 : Int32))) fun z361 =>
  px_b3 (fn_L_crowd 0 z361 s0 u0) fun z362 s363 u364 =>
  px_let z362 fun v365 =>
  Option.bind (px_sld L xs (i + (1 : Int32))) fun z366 =>
  px_b2 (fn_M_crowd 52 z366 s363) fun z367 s368 =>
  px_let z367 fun v369 =>
  Option.bind (fn_M_thrown 52 s368) fun z370 =>
  if z370 = v365 then (
    if v365 = 0 then (
      Option.bind (px_lld u364 601 (0 : Int32)) fun z371 =>
      if (lg_cmp z371 v369.toInt64) = 0 then (
        j s368 u364
      ) else (
        some (0 : Int32)
      )
    ) else (
      j s368 u364
    )
  ) else (
    some (0 : Int32)
  )
set_option maxHeartbeats 4000000 in
set_option maxRecDepth 100000 in
theorem lp_32 {G : wd_G} {M : wd_M} {b0 L : Nat} {xs : Nat → Int32} {Q1 : State → Prop} {c sl : Nat} {i : Int32} {j : hp_I → hp_L → Option Int32} (C : cx_C G M RL code 8 80 (some .boolean)) (X : lm_X G M) (hs : sx_scr G M b0 L xs) (hc1 : c + 8 ≤ 601024) (hc2 : sl + 48 ≤ 7293034) (hj : ∀ (s : hp_I) (u : hp_L), dn_D G M 8 (c + 8) (sl + 48) (ql_Q Q1) 2595 [(0, .ref b0), (1, .ref (wd_b G + 0)), (2, .ref (wd_b G + 52)), (3, .ref (wd_b G + 601)), (4, .int i)] [] s u (j s u)) (s0 : hp_I) (u0 : hp_L) : dn_D G M 8 c sl (ql_Q Q1) 2073 [(0, .ref b0), (1, .ref (wd_b G + 0)), (2, .ref (wd_b G + 52)), (3, .ref (wd_b G + 601)), (4, .int i)] [] s0 u0 (lc_32 L xs j i s0 u0) := by
  unfold lc_32
  refine dn_aload_n C dL_law__2073 rfl 1 rfl rfl ?_
  refine dn_aload_n C dL_law__2074 rfl 0 rfl rfl ?_
  refine dn_iload C dL_law__2075 4 rfl rfl ?_
  refine dn_iconst C dL_law__2077 ic_i_1 rfl ?_
  refine dn_iadd C dL_law__2078 rfl ?_
  refine dn_sald C hs dL_law__2079 rfl (fun z361 => ?_)
  refine dn_aload_n C dL_law__2080 rfl 3 rfl rfl ?_
  refine dn_callW (As := [.ref (wd_b G + 0), .int z361, .ref (wd_b G + 601)]) (st := []) C (okw_L_crowd (cx_g C) X.2.2 X.2.1 0 k0_11 z361 s0 u0) mw_L_crowd msw_L_crowd lk_L_234 (by decide) rfl (lm_c X hc1 hc2 1 (by decide)) (Nat.le_of_ble_eq_true rfl) dL_law__2081 rfl rfl (fun z362 s363 u364 => ?_)
  refine dn_istore (lv0 := [(0, .ref b0), (1, .ref (wd_b G + 0)), (2, .ref (wd_b G + 52)), (3, .ref (wd_b G + 601)), (4, .int i)]) C dL_law__2084 (by decide) rfl rfl (fun v365 => ?_)
  refine dn_aload_n C dL_law__2086 rfl 3 rfl rfl ?_
  refine dn_aload_n C dL_law__2087 rfl 1 rfl rfl ?_
  refine dn_iload C dL_law__2088 5 rfl rfl ?_
  refine dn_iconst C dL_law__2090 ic_i_1 rfl ?_
  refine dn_iadd C dL_law__2091 rfl ?_
  refine dn_sald C hs dL_law__2092 rfl (fun z366 => ?_)
  refine dn_callV_ih (As := [.int z366]) (st := []) C (ok_M_crowd (cx_g C) 52 k52_12 z366 s363 u364) mt_X12_crowd mv_X12_crowd lk_L_236 (by decide) k52_12 rfl (lm_c X hc1 hc2 1 (by decide)) (Nat.le_of_ble_eq_true rfl) dL_law__2093 rfl rfl (fun z367 s368 => ?_)
  refine dn_istore (lv0 := [(5, .int v365), (0, .ref b0), (1, .ref (wd_b G + 0)), (2, .ref (wd_b G + 52)), (3, .ref (wd_b G + 601)), (4, .int i)]) C dL_law__2096 (by decide) rfl rfl (fun v369 => ?_)
  refine dn_aload_n C dL_law__2098 rfl 4 rfl rfl ?_
  refine dn_callV_i (As := []) (st := []) C (ok_M_thrown (cx_g C) 52 k52_12 s368 u364) mt_X12_thrown mv_X12_thrown lk_L_131 (by decide) k52_12 rfl (lm_c X hc1 hc2 1 (by decide)) (Nat.le_of_ble_eq_true rfl) dL_law__2099 rfl rfl (fun z370 => ?_)
  refine dn_iload C dL_law__2102 1 rfl rfl ?_
  refine dn_icmp_eq (t := 2109) C dL_law__2104 (by decide) rfl ?_ ?_
  · refine dn_iload C dL_law__2109 1 rfl rfl ?_
    refine dn_if_ne (t := 2126) C dL_law__2111 (by decide) rfl ?_ ?_
    · refine dn_aload_n C dL_law__2114 rfl 5 rfl rfl ?_
      refine dn_iconst C dL_law__2115 ic_i_0 rfl ?_
      refine dn_lald C sh_601 X.2.2 dL_law__2116 rfl (fun z371 => ?_)
      refine dn_iload C dL_law__2117 0 rfl rfl ?_
      refine dn_i2l C dL_law__2119 rfl ?_
      refine dn_lcmp C dL_law__2120 rfl ?_
      refine dn_if_eq (t := 2126) C dL_law__2121 (by decide) rfl ?_ ?_
      · refine dn_goto (t := 2595) C dL_law__2126 (by decide) ?_
        refine dn_pick [2, 3, 4, 5, 6] rfl ?_
        exact dn_wid (by omega) (by omega) (hj s368 u364)
      · refine dn_iconst C dL_law__2124 ic_i_0 rfl ?_
        exact dn_fin0
    · refine dn_goto (t := 2595) C dL_law__2126 (by decide) ?_
      refine dn_pick [2, 3, 4, 5, 6] rfl ?_
      exact dn_wid (by omega) (by omega) (hj s368 u364)
  · refine dn_iconst C dL_law__2107 ic_i_0 rfl ?_
    exact dn_fin0
def lc_33 (L : Nat) (xs : Nat → Int32) (j : hp_I → hp_L → Option Int32) (i : Int32) (s0 : hp_I) (u0 : hp_L) : Option Int32 :=
  Option.bind (px_sld L xs (i + (1 : Int32))) fun z372 =>
  Option.bind (px_sld L xs (i + (2 : Int32))) fun z373 =>
  px_b3 (fn_L_grown 0 z372 z373 s0 u0) fun z374 s375 u376 =>
  px_let z374 fun v377 =>
  Option.bind (px_sld L xs (i + (1 : Int32))) fun z378 =>
  Option.bind (px_sld L xs (i + (2 : Int32))) fun z379 =>
  px_b2 (fn_M_grown 52 z378 z379 s375) fun z380 s381 =>
  px_let z380 fun v382 =>
  Option.bind (fn_M_thrown 52 s381) fun z383 =>
  if z383 = v377 then (
    if v377 = 0 then (
      Option.bind (px_lld u376 601 (0 : Int32)) fun z384 =>
      if (lg_cmp z384 v382.toInt64) = 0 then (
        j s381 u376
      ) else (
        some (0 : Int32)
      )
    ) else (
      j s381 u376
    )
  ) else (
    some (0 : Int32)
  )
set_option maxHeartbeats 4000000 in
set_option maxRecDepth 100000 in
theorem lp_33 {G : wd_G} {M : wd_M} {b0 L : Nat} {xs : Nat → Int32} {Q1 : State → Prop} {c sl : Nat} {i : Int32} {j : hp_I → hp_L → Option Int32} (C : cx_C G M RL code 8 80 (some .boolean)) (X : lm_X G M) (hs : sx_scr G M b0 L xs) (hc1 : c + 8 ≤ 601024) (hc2 : sl + 48 ≤ 7293034) (hj : ∀ (s : hp_I) (u : hp_L), dn_D G M 8 (c + 8) (sl + 48) (ql_Q Q1) 2595 [(0, .ref b0), (1, .ref (wd_b G + 0)), (2, .ref (wd_b G + 52)), (3, .ref (wd_b G + 601)), (4, .int i)] [] s u (j s u)) (s0 : hp_I) (u0 : hp_L) : dn_D G M 8 c sl (ql_Q Q1) 2129 [(0, .ref b0), (1, .ref (wd_b G + 0)), (2, .ref (wd_b G + 52)), (3, .ref (wd_b G + 601)), (4, .int i)] [] s0 u0 (lc_33 L xs j i s0 u0) := by
  unfold lc_33
  refine dn_aload_n C dL_law__2129 rfl 1 rfl rfl ?_
  refine dn_aload_n C dL_law__2130 rfl 0 rfl rfl ?_
  refine dn_iload C dL_law__2131 4 rfl rfl ?_
  refine dn_iconst C dL_law__2133 ic_i_1 rfl ?_
  refine dn_iadd C dL_law__2134 rfl ?_
  refine dn_sald C hs dL_law__2135 rfl (fun z372 => ?_)
  refine dn_aload_n C dL_law__2136 rfl 0 rfl rfl ?_
  refine dn_iload C dL_law__2137 4 rfl rfl ?_
  refine dn_iconst C dL_law__2139 ic_i_2 rfl ?_
  refine dn_iadd C dL_law__2140 rfl ?_
  refine dn_sald C hs dL_law__2141 rfl (fun z373 => ?_)
  refine dn_aload_n C dL_law__2142 rfl 3 rfl rfl ?_
  refine dn_callW (As := [.ref (wd_b G + 0), .int z372, .int z373, .ref (wd_b G + 601)]) (st := []) C (okw_L_grown (cx_g C) X.2.2 X.2.1 0 k0_11 z372 z373 s0 u0) mw_L_grown msw_L_grown lk_L_237 (by decide) rfl (lm_c X hc1 hc2 2 (by decide)) (Nat.le_of_ble_eq_true rfl) dL_law__2143 rfl rfl (fun z374 s375 u376 => ?_)
  refine dn_istore (lv0 := [(0, .ref b0), (1, .ref (wd_b G + 0)), (2, .ref (wd_b G + 52)), (3, .ref (wd_b G + 601)), (4, .int i)]) C dL_law__2146 (by decide) rfl rfl (fun v377 => ?_)
  refine dn_aload_n C dL_law__2148 rfl 3 rfl rfl ?_
  refine dn_aload_n C dL_law__2149 rfl 1 rfl rfl ?_
  refine dn_iload C dL_law__2150 5 rfl rfl ?_
  refine dn_iconst C dL_law__2152 ic_i_1 rfl ?_
  refine dn_iadd C dL_law__2153 rfl ?_
  refine dn_sald C hs dL_law__2154 rfl (fun z378 => ?_)
  refine dn_aload_n C dL_law__2155 rfl 1 rfl rfl ?_
  refine dn_iload C dL_law__2156 5 rfl rfl ?_
  refine dn_iconst C dL_law__2158 ic_i_2 rfl ?_
  refine dn_iadd C dL_law__2159 rfl ?_
  refine dn_sald C hs dL_law__2160 rfl (fun z379 => ?_)
  refine dn_callV_ih (As := [.int z378, .int z379]) (st := []) C (ok_M_grown (cx_g C) 52 k52_12 z378 z379 s375 u376) mt_X12_grown mv_X12_grown lk_L_239 (by decide) k52_12 rfl (lm_c X hc1 hc2 2 (by decide)) (Nat.le_of_ble_eq_true rfl) dL_law__2161 rfl rfl (fun z380 s381 => ?_)
  refine dn_istore (lv0 := [(5, .int v377), (0, .ref b0), (1, .ref (wd_b G + 0)), (2, .ref (wd_b G + 52)), (3, .ref (wd_b G + 601)), (4, .int i)]) C dL_law__2164 (by decide) rfl rfl (fun v382 => ?_)
  refine dn_aload_n C dL_law__2166 rfl 4 rfl rfl ?_
  refine dn_callV_i (As := []) (st := []) C (ok_M_thrown (cx_g C) 52 k52_12 s381 u376) mt_X12_thrown mv_X12_thrown lk_L_131 (by decide) k52_12 rfl (lm_c X hc1 hc2 2 (by decide)) (Nat.le_of_ble_eq_true rfl) dL_law__2167 rfl rfl (fun z383 => ?_)
  refine dn_iload C dL_law__2170 1 rfl rfl ?_
  refine dn_icmp_eq (t := 2177) C dL_law__2172 (by decide) rfl ?_ ?_
  · refine dn_iload C dL_law__2177 1 rfl rfl ?_
    refine dn_if_ne (t := 2194) C dL_law__2179 (by decide) rfl ?_ ?_
    · refine dn_aload_n C dL_law__2182 rfl 5 rfl rfl ?_
      refine dn_iconst C dL_law__2183 ic_i_0 rfl ?_
      refine dn_lald C sh_601 X.2.2 dL_law__2184 rfl (fun z384 => ?_)
      refine dn_iload C dL_law__2185 0 rfl rfl ?_
      refine dn_i2l C dL_law__2187 rfl ?_
      refine dn_lcmp C dL_law__2188 rfl ?_
      refine dn_if_eq (t := 2194) C dL_law__2189 (by decide) rfl ?_ ?_
      · refine dn_goto (t := 2595) C dL_law__2194 (by decide) ?_
        refine dn_pick [2, 3, 4, 5, 6] rfl ?_
        exact dn_wid (by omega) (by omega) (hj s381 u376)
      · refine dn_iconst C dL_law__2192 ic_i_0 rfl ?_
        exact dn_fin0
    · refine dn_goto (t := 2595) C dL_law__2194 (by decide) ?_
      refine dn_pick [2, 3, 4, 5, 6] rfl ?_
      exact dn_wid (by omega) (by omega) (hj s381 u376)
  · refine dn_iconst C dL_law__2175 ic_i_0 rfl ?_
    exact dn_fin0
def lc_34 (L : Nat) (xs : Nat → Int32) (j : hp_I → hp_L → Option Int32) (i : Int32) (s0 : hp_I) (u0 : hp_L) : Option Int32 :=
  Option.bind (px_sld L xs (i + (1 : Int32))) fun z385 =>
  px_b3 (fn_L_escapes 0 z385 s0 u0) fun z386 s387 u388 =>
  px_let z386 fun v389 =>
  Option.bind (px_sld L xs (i + (1 : Int32))) fun z390 =>
  px_b2 (fn_M_escapes 52 z390 s387) fun z391 s392 =>
  px_let z391 fun v393 =>
  Option.bind (fn_M_thrown 52 s392) fun z394 =>
  if z394 = v389 then (
    if v389 = 0 then (
      Option.bind (px_lld u388 601 (0 : Int32)) fun z395 =>
      if (lg_cmp z395 v393.toInt64) = 0 then (
        j s392 u388
      ) else (
        some (0 : Int32)
      )
    ) else (
      j s392 u388
    )
  ) else (
    some (0 : Int32)
  )
set_option maxHeartbeats 4000000 in
set_option maxRecDepth 100000 in
theorem lp_34 {G : wd_G} {M : wd_M} {b0 L : Nat} {xs : Nat → Int32} {Q1 : State → Prop} {c sl : Nat} {i : Int32} {j : hp_I → hp_L → Option Int32} (C : cx_C G M RL code 8 80 (some .boolean)) (X : lm_X G M) (hs : sx_scr G M b0 L xs) (hc1 : c + 8 ≤ 601024) (hc2 : sl + 48 ≤ 7293034) (hj : ∀ (s : hp_I) (u : hp_L), dn_D G M 8 (c + 8) (sl + 48) (ql_Q Q1) 2595 [(0, .ref b0), (1, .ref (wd_b G + 0)), (2, .ref (wd_b G + 52)), (3, .ref (wd_b G + 601)), (4, .int i)] [] s u (j s u)) (s0 : hp_I) (u0 : hp_L) : dn_D G M 8 c sl (ql_Q Q1) 2197 [(0, .ref b0), (1, .ref (wd_b G + 0)), (2, .ref (wd_b G + 52)), (3, .ref (wd_b G + 601)), (4, .int i)] [] s0 u0 (lc_34 L xs j i s0 u0) := by
  unfold lc_34
  refine dn_aload_n C dL_law__2197 rfl 1 rfl rfl ?_
  refine dn_aload_n C dL_law__2198 rfl 0 rfl rfl ?_
  refine dn_iload C dL_law__2199 4 rfl rfl ?_
  refine dn_iconst C dL_law__2201 ic_i_1 rfl ?_
  refine dn_iadd C dL_law__2202 rfl ?_
  refine dn_sald C hs dL_law__2203 rfl (fun z385 => ?_)
  refine dn_aload_n C dL_law__2204 rfl 3 rfl rfl ?_
  refine dn_callW (As := [.ref (wd_b G + 0), .int z385, .ref (wd_b G + 601)]) (st := []) C (okw_L_escapes (cx_g C) X.2.2 X.2.1 0 k0_11 z385 s0 u0) mw_L_escapes msw_L_escapes lk_L_240 (by decide) rfl (lm_c X hc1 hc2 1 (by decide)) (Nat.le_of_ble_eq_true rfl) dL_law__2205 rfl rfl (fun z386 s387 u388 => ?_)
  refine dn_istore (lv0 := [(0, .ref b0), (1, .ref (wd_b G + 0)), (2, .ref (wd_b G + 52)), (3, .ref (wd_b G + 601)), (4, .int i)]) C dL_law__2208 (by decide) rfl rfl (fun v389 => ?_)
  refine dn_aload_n C dL_law__2210 rfl 3 rfl rfl ?_
  refine dn_aload_n C dL_law__2211 rfl 1 rfl rfl ?_
  refine dn_iload C dL_law__2212 5 rfl rfl ?_
  refine dn_iconst C dL_law__2214 ic_i_1 rfl ?_
  refine dn_iadd C dL_law__2215 rfl ?_
  refine dn_sald C hs dL_law__2216 rfl (fun z390 => ?_)
  refine dn_callV_ih (As := [.int z390]) (st := []) C (ok_M_escapes (cx_g C) 52 k52_12 z390 s387 u388) mt_X12_escapes mv_X12_escapes lk_L_242 (by decide) k52_12 rfl (lm_c X hc1 hc2 1 (by decide)) (Nat.le_of_ble_eq_true rfl) dL_law__2217 rfl rfl (fun z391 s392 => ?_)
  refine dn_istore (lv0 := [(5, .int v389), (0, .ref b0), (1, .ref (wd_b G + 0)), (2, .ref (wd_b G + 52)), (3, .ref (wd_b G + 601)), (4, .int i)]) C dL_law__2220 (by decide) rfl rfl (fun v393 => ?_)
  refine dn_aload_n C dL_law__2222 rfl 4 rfl rfl ?_
  refine dn_callV_i (As := []) (st := []) C (ok_M_thrown (cx_g C) 52 k52_12 s392 u388) mt_X12_thrown mv_X12_thrown lk_L_131 (by decide) k52_12 rfl (lm_c X hc1 hc2 1 (by decide)) (Nat.le_of_ble_eq_true rfl) dL_law__2223 rfl rfl (fun z394 => ?_)
  refine dn_iload C dL_law__2226 1 rfl rfl ?_
  refine dn_icmp_eq (t := 2233) C dL_law__2228 (by decide) rfl ?_ ?_
  · refine dn_iload C dL_law__2233 1 rfl rfl ?_
    refine dn_if_ne (t := 2250) C dL_law__2235 (by decide) rfl ?_ ?_
    · refine dn_aload_n C dL_law__2238 rfl 5 rfl rfl ?_
      refine dn_iconst C dL_law__2239 ic_i_0 rfl ?_
      refine dn_lald C sh_601 X.2.2 dL_law__2240 rfl (fun z395 => ?_)
      refine dn_iload C dL_law__2241 0 rfl rfl ?_
      refine dn_i2l C dL_law__2243 rfl ?_
      refine dn_lcmp C dL_law__2244 rfl ?_
      refine dn_if_eq (t := 2250) C dL_law__2245 (by decide) rfl ?_ ?_
      · refine dn_goto (t := 2595) C dL_law__2250 (by decide) ?_
        refine dn_pick [2, 3, 4, 5, 6] rfl ?_
        exact dn_wid (by omega) (by omega) (hj s392 u388)
      · refine dn_iconst C dL_law__2248 ic_i_0 rfl ?_
        exact dn_fin0
    · refine dn_goto (t := 2595) C dL_law__2250 (by decide) ?_
      refine dn_pick [2, 3, 4, 5, 6] rfl ?_
      exact dn_wid (by omega) (by omega) (hj s392 u388)
  · refine dn_iconst C dL_law__2231 ic_i_0 rfl ?_
    exact dn_fin0
def lc_35 (L : Nat) (xs : Nat → Int32) (j : hp_I → hp_L → Option Int32) (i : Int32) (s0 : hp_I) (u0 : hp_L) : Option Int32 :=
  Option.bind (px_sld L xs (i + (1 : Int32))) fun z396 =>
  px_b3 (fn_L_weight 0 z396 s0 u0) fun z397 s398 u399 =>
  px_let z397 fun v400 =>
  Option.bind (px_sld L xs (i + (1 : Int32))) fun z401 =>
  px_b2 (fn_M_weight 52 z401 s398) fun z402 s403 =>
  px_let z402 fun v404 =>
  Option.bind (fn_M_thrown 52 s403) fun z405 =>
  if z405 = v400 then (
    if v400 = 0 then (
      Option.bind (px_lld u399 601 (0 : Int32)) fun z406 =>
      if (lg_cmp z406 v404.toInt64) = 0 then (
        j s403 u399
      ) else (
        some (0 : Int32)
      )
    ) else (
      j s403 u399
    )
  ) else (
    some (0 : Int32)
  )
set_option maxHeartbeats 4000000 in
set_option maxRecDepth 100000 in
theorem lp_35 {G : wd_G} {M : wd_M} {b0 L : Nat} {xs : Nat → Int32} {Q1 : State → Prop} {c sl : Nat} {i : Int32} {j : hp_I → hp_L → Option Int32} (C : cx_C G M RL code 8 80 (some .boolean)) (X : lm_X G M) (hs : sx_scr G M b0 L xs) (hc1 : c + 8 ≤ 601024) (hc2 : sl + 48 ≤ 7293034) (hj : ∀ (s : hp_I) (u : hp_L), dn_D G M 8 (c + 8) (sl + 48) (ql_Q Q1) 2595 [(0, .ref b0), (1, .ref (wd_b G + 0)), (2, .ref (wd_b G + 52)), (3, .ref (wd_b G + 601)), (4, .int i)] [] s u (j s u)) (s0 : hp_I) (u0 : hp_L) : dn_D G M 8 c sl (ql_Q Q1) 2253 [(0, .ref b0), (1, .ref (wd_b G + 0)), (2, .ref (wd_b G + 52)), (3, .ref (wd_b G + 601)), (4, .int i)] [] s0 u0 (lc_35 L xs j i s0 u0) := by
  unfold lc_35
  refine dn_aload_n C dL_law__2253 rfl 1 rfl rfl ?_
  refine dn_aload_n C dL_law__2254 rfl 0 rfl rfl ?_
  refine dn_iload C dL_law__2255 4 rfl rfl ?_
  refine dn_iconst C dL_law__2257 ic_i_1 rfl ?_
  refine dn_iadd C dL_law__2258 rfl ?_
  refine dn_sald C hs dL_law__2259 rfl (fun z396 => ?_)
  refine dn_aload_n C dL_law__2260 rfl 3 rfl rfl ?_
  refine dn_callW (As := [.ref (wd_b G + 0), .int z396, .ref (wd_b G + 601)]) (st := []) C (okw_L_weight (cx_g C) X.2.2 X.2.1 0 k0_11 z396 s0 u0) mw_L_weight msw_L_weight lk_L_243 (by decide) rfl (lm_c X hc1 hc2 1 (by decide)) (Nat.le_of_ble_eq_true rfl) dL_law__2261 rfl rfl (fun z397 s398 u399 => ?_)
  refine dn_istore (lv0 := [(0, .ref b0), (1, .ref (wd_b G + 0)), (2, .ref (wd_b G + 52)), (3, .ref (wd_b G + 601)), (4, .int i)]) C dL_law__2264 (by decide) rfl rfl (fun v400 => ?_)
  refine dn_aload_n C dL_law__2266 rfl 3 rfl rfl ?_
  refine dn_aload_n C dL_law__2267 rfl 1 rfl rfl ?_
  refine dn_iload C dL_law__2268 5 rfl rfl ?_
  refine dn_iconst C dL_law__2270 ic_i_1 rfl ?_
  refine dn_iadd C dL_law__2271 rfl ?_
  refine dn_sald C hs dL_law__2272 rfl (fun z401 => ?_)
  refine dn_callV_ih (As := [.int z401]) (st := []) C (ok_M_weight (cx_g C) 52 k52_12 z401 s398 u399) mt_X12_weight mv_X12_weight lk_L_245 (by decide) k52_12 rfl (lm_c X hc1 hc2 1 (by decide)) (Nat.le_of_ble_eq_true rfl) dL_law__2273 rfl rfl (fun z402 s403 => ?_)
  refine dn_istore (lv0 := [(5, .int v400), (0, .ref b0), (1, .ref (wd_b G + 0)), (2, .ref (wd_b G + 52)), (3, .ref (wd_b G + 601)), (4, .int i)]) C dL_law__2276 (by decide) rfl rfl (fun v404 => ?_)
  refine dn_aload_n C dL_law__2278 rfl 4 rfl rfl ?_
  refine dn_callV_i (As := []) (st := []) C (ok_M_thrown (cx_g C) 52 k52_12 s403 u399) mt_X12_thrown mv_X12_thrown lk_L_131 (by decide) k52_12 rfl (lm_c X hc1 hc2 1 (by decide)) (Nat.le_of_ble_eq_true rfl) dL_law__2279 rfl rfl (fun z405 => ?_)
  refine dn_iload C dL_law__2282 1 rfl rfl ?_
  refine dn_icmp_eq (t := 2289) C dL_law__2284 (by decide) rfl ?_ ?_
  · refine dn_iload C dL_law__2289 1 rfl rfl ?_
    refine dn_if_ne (t := 2306) C dL_law__2291 (by decide) rfl ?_ ?_
    · refine dn_aload_n C dL_law__2294 rfl 5 rfl rfl ?_
      refine dn_iconst C dL_law__2295 ic_i_0 rfl ?_
      refine dn_lald C sh_601 X.2.2 dL_law__2296 rfl (fun z406 => ?_)
      refine dn_iload C dL_law__2297 0 rfl rfl ?_
      refine dn_i2l C dL_law__2299 rfl ?_
      refine dn_lcmp C dL_law__2300 rfl ?_
      refine dn_if_eq (t := 2306) C dL_law__2301 (by decide) rfl ?_ ?_
      · refine dn_goto (t := 2595) C dL_law__2306 (by decide) ?_
        refine dn_pick [2, 3, 4, 5, 6] rfl ?_
        exact dn_wid (by omega) (by omega) (hj s403 u399)
      · refine dn_iconst C dL_law__2304 ic_i_0 rfl ?_
        exact dn_fin0
    · refine dn_goto (t := 2595) C dL_law__2306 (by decide) ?_
      refine dn_pick [2, 3, 4, 5, 6] rfl ?_
      exact dn_wid (by omega) (by omega) (hj s403 u399)
  · refine dn_iconst C dL_law__2287 ic_i_0 rfl ?_
    exact dn_fin0
def lc_36 (L : Nat) (xs : Nat → Int32) (j : hp_I → hp_L → Option Int32) (i : Int32) (s0 : hp_I) (u0 : hp_L) : Option Int32 :=
  Option.bind (px_sld L xs (i + (1 : Int32))) fun z407 =>
  Option.bind (px_sld L xs (i + (2 : Int32))) fun z408 =>
  Option.bind (px_sld L xs (i + (3 : Int32))) fun z409 =>
  Option.bind (px_sld L xs (i + (4 : Int32))) fun z410 =>
  px_b3 (fn_L_season 0 z407 z408 z409 z410 s0 u0) fun z411 s412 u413 =>
  px_let z411 fun v414 =>
  Option.bind (px_sld L xs (i + (1 : Int32))) fun z415 =>
  Option.bind (px_sld L xs (i + (2 : Int32))) fun z416 =>
  Option.bind (px_sld L xs (i + (3 : Int32))) fun z417 =>
  Option.bind (px_sld L xs (i + (4 : Int32))) fun z418 =>
  px_b2 (fn_M_season 52 z415 z416 z417 z418 s412) fun z419 s420 =>
  px_let z419 fun v421 =>
  Option.bind (fn_M_thrown 52 s420) fun z422 =>
  if z422 = v414 then (
    if v414 = 0 then (
      Option.bind (px_lld u413 601 (0 : Int32)) fun z423 =>
      if (lg_cmp z423 v421.toInt64) = 0 then (
        j s420 u413
      ) else (
        some (0 : Int32)
      )
    ) else (
      j s420 u413
    )
  ) else (
    some (0 : Int32)
  )
set_option maxHeartbeats 4000000 in
set_option maxRecDepth 100000 in
theorem lp_36 {G : wd_G} {M : wd_M} {b0 L : Nat} {xs : Nat → Int32} {Q1 : State → Prop} {c sl : Nat} {i : Int32} {j : hp_I → hp_L → Option Int32} (C : cx_C G M RL code 8 80 (some .boolean)) (X : lm_X G M) (hs : sx_scr G M b0 L xs) (hc1 : c + 8 ≤ 601024) (hc2 : sl + 48 ≤ 7293034) (hj : ∀ (s : hp_I) (u : hp_L), dn_D G M 8 (c + 8) (sl + 48) (ql_Q Q1) 2595 [(0, .ref b0), (1, .ref (wd_b G + 0)), (2, .ref (wd_b G + 52)), (3, .ref (wd_b G + 601)), (4, .int i)] [] s u (j s u)) (s0 : hp_I) (u0 : hp_L) : dn_D G M 8 c sl (ql_Q Q1) 2309 [(0, .ref b0), (1, .ref (wd_b G + 0)), (2, .ref (wd_b G + 52)), (3, .ref (wd_b G + 601)), (4, .int i)] [] s0 u0 (lc_36 L xs j i s0 u0) := by
  unfold lc_36
  refine dn_aload_n C dL_law__2309 rfl 1 rfl rfl ?_
  refine dn_aload_n C dL_law__2310 rfl 0 rfl rfl ?_
  refine dn_iload C dL_law__2311 4 rfl rfl ?_
  refine dn_iconst C dL_law__2313 ic_i_1 rfl ?_
  refine dn_iadd C dL_law__2314 rfl ?_
  refine dn_sald C hs dL_law__2315 rfl (fun z407 => ?_)
  refine dn_aload_n C dL_law__2316 rfl 0 rfl rfl ?_
  refine dn_iload C dL_law__2317 4 rfl rfl ?_
  refine dn_iconst C dL_law__2319 ic_i_2 rfl ?_
  refine dn_iadd C dL_law__2320 rfl ?_
  refine dn_sald C hs dL_law__2321 rfl (fun z408 => ?_)
  refine dn_aload_n C dL_law__2322 rfl 0 rfl rfl ?_
  refine dn_iload C dL_law__2323 4 rfl rfl ?_
  refine dn_iconst C dL_law__2325 ic_i_3 rfl ?_
  refine dn_iadd C dL_law__2326 rfl ?_
  refine dn_sald C hs dL_law__2327 rfl (fun z409 => ?_)
  refine dn_aload_n C dL_law__2328 rfl 0 rfl rfl ?_
  refine dn_iload C dL_law__2329 4 rfl rfl ?_
  refine dn_iconst C dL_law__2331 ic_i_4 rfl ?_
  refine dn_iadd C dL_law__2332 rfl ?_
  refine dn_sald C hs dL_law__2333 rfl (fun z410 => ?_)
  refine dn_aload_n C dL_law__2334 rfl 3 rfl rfl ?_
  refine dn_callW (As := [.ref (wd_b G + 0), .int z407, .int z408, .int z409, .int z410, .ref (wd_b G + 601)]) (st := []) C (okw_L_season (cx_g C) X.2.2 X.2.1 0 k0_11 z407 z408 z409 z410 s0 u0) mw_L_season msw_L_season lk_L_246 (by decide) rfl (lm_c X hc1 hc2 3 (by decide)) (Nat.le_of_ble_eq_true rfl) dL_law__2335 rfl rfl (fun z411 s412 u413 => ?_)
  refine dn_istore (lv0 := [(0, .ref b0), (1, .ref (wd_b G + 0)), (2, .ref (wd_b G + 52)), (3, .ref (wd_b G + 601)), (4, .int i)]) C dL_law__2338 (by decide) rfl rfl (fun v414 => ?_)
  refine dn_aload_n C dL_law__2340 rfl 3 rfl rfl ?_
  refine dn_aload_n C dL_law__2341 rfl 1 rfl rfl ?_
  refine dn_iload C dL_law__2342 5 rfl rfl ?_
  refine dn_iconst C dL_law__2344 ic_i_1 rfl ?_
  refine dn_iadd C dL_law__2345 rfl ?_
  refine dn_sald C hs dL_law__2346 rfl (fun z415 => ?_)
  refine dn_aload_n C dL_law__2347 rfl 1 rfl rfl ?_
  refine dn_iload C dL_law__2348 5 rfl rfl ?_
  refine dn_iconst C dL_law__2350 ic_i_2 rfl ?_
  refine dn_iadd C dL_law__2351 rfl ?_
  refine dn_sald C hs dL_law__2352 rfl (fun z416 => ?_)
  refine dn_aload_n C dL_law__2353 rfl 1 rfl rfl ?_
  refine dn_iload C dL_law__2354 5 rfl rfl ?_
  refine dn_iconst C dL_law__2356 ic_i_3 rfl ?_
  refine dn_iadd C dL_law__2357 rfl ?_
  refine dn_sald C hs dL_law__2358 rfl (fun z417 => ?_)
  refine dn_aload_n C dL_law__2359 rfl 1 rfl rfl ?_
  refine dn_iload C dL_law__2360 5 rfl rfl ?_
  refine dn_iconst C dL_law__2362 ic_i_4 rfl ?_
  refine dn_iadd C dL_law__2363 rfl ?_
  refine dn_sald C hs dL_law__2364 rfl (fun z418 => ?_)
  refine dn_callV_ih (As := [.int z415, .int z416, .int z417, .int z418]) (st := []) C (ok_M_season (cx_g C) 52 k52_12 z415 z416 z417 z418 s412 u413) mt_X12_season mv_X12_season lk_L_248 (by decide) k52_12 rfl (lm_c X hc1 hc2 3 (by decide)) (Nat.le_of_ble_eq_true rfl) dL_law__2365 rfl rfl (fun z419 s420 => ?_)
  refine dn_istore (lv0 := [(5, .int v414), (0, .ref b0), (1, .ref (wd_b G + 0)), (2, .ref (wd_b G + 52)), (3, .ref (wd_b G + 601)), (4, .int i)]) C dL_law__2368 (by decide) rfl rfl (fun v421 => ?_)
  refine dn_aload_n C dL_law__2370 rfl 4 rfl rfl ?_
  refine dn_callV_i (As := []) (st := []) C (ok_M_thrown (cx_g C) 52 k52_12 s420 u413) mt_X12_thrown mv_X12_thrown lk_L_131 (by decide) k52_12 rfl (lm_c X hc1 hc2 3 (by decide)) (Nat.le_of_ble_eq_true rfl) dL_law__2371 rfl rfl (fun z422 => ?_)
  refine dn_iload C dL_law__2374 1 rfl rfl ?_
  refine dn_icmp_eq (t := 2381) C dL_law__2376 (by decide) rfl ?_ ?_
  · refine dn_iload C dL_law__2381 1 rfl rfl ?_
    refine dn_if_ne (t := 2398) C dL_law__2383 (by decide) rfl ?_ ?_
    · refine dn_aload_n C dL_law__2386 rfl 5 rfl rfl ?_
      refine dn_iconst C dL_law__2387 ic_i_0 rfl ?_
      refine dn_lald C sh_601 X.2.2 dL_law__2388 rfl (fun z423 => ?_)
      refine dn_iload C dL_law__2389 0 rfl rfl ?_
      refine dn_i2l C dL_law__2391 rfl ?_
      refine dn_lcmp C dL_law__2392 rfl ?_
      refine dn_if_eq (t := 2398) C dL_law__2393 (by decide) rfl ?_ ?_
      · refine dn_goto (t := 2595) C dL_law__2398 (by decide) ?_
        refine dn_pick [2, 3, 4, 5, 6] rfl ?_
        exact dn_wid (by omega) (by omega) (hj s420 u413)
      · refine dn_iconst C dL_law__2396 ic_i_0 rfl ?_
        exact dn_fin0
    · refine dn_goto (t := 2595) C dL_law__2398 (by decide) ?_
      refine dn_pick [2, 3, 4, 5, 6] rfl ?_
      exact dn_wid (by omega) (by omega) (hj s420 u413)
  · refine dn_iconst C dL_law__2379 ic_i_0 rfl ?_
    exact dn_fin0
def lc_37 (L : Nat) (xs : Nat → Int32) (j : hp_I → hp_L → Option Int32) (i : Int32) (s0 : hp_I) (u0 : hp_L) : Option Int32 :=
  Option.bind (px_sld L xs (i + (1 : Int32))) fun z424 =>
  Option.bind (px_sld L xs (i + (2 : Int32))) fun z425 =>
  Option.bind (px_sld L xs (i + (3 : Int32))) fun z426 =>
  Option.bind (px_sld L xs (i + (4 : Int32))) fun z427 =>
  Option.bind (px_sld L xs (i + (5 : Int32))) fun z428 =>
  Option.bind (px_sld L xs (i + (6 : Int32))) fun z429 =>
  px_b3 (fn_L_span 0 z424 z425 z426 z427 z428 z429 s0 u0) fun z430 s431 u432 =>
  px_let z430 fun v433 =>
  Option.bind (px_sld L xs (i + (1 : Int32))) fun z434 =>
  Option.bind (px_sld L xs (i + (2 : Int32))) fun z435 =>
  Option.bind (px_sld L xs (i + (3 : Int32))) fun z436 =>
  Option.bind (px_sld L xs (i + (4 : Int32))) fun z437 =>
  Option.bind (px_sld L xs (i + (5 : Int32))) fun z438 =>
  Option.bind (px_sld L xs (i + (6 : Int32))) fun z439 =>
  px_b2 (fn_M_span 52 z434 z435 z436 z437 z438 z439 s431) fun z440 s441 =>
  px_let z440 fun v442 =>
  Option.bind (fn_M_thrown 52 s441) fun z443 =>
  if z443 = v433 then (
    if v433 = 0 then (
      Option.bind (px_lld u432 601 (0 : Int32)) fun z444 =>
      if (lg_cmp z444 v442.toInt64) = 0 then (
        j s441 u432
      ) else (
        some (0 : Int32)
      )
    ) else (
      j s441 u432
    )
  ) else (
    some (0 : Int32)
  )
set_option maxHeartbeats 4000000 in
set_option maxRecDepth 100000 in
theorem lp_37 {G : wd_G} {M : wd_M} {b0 L : Nat} {xs : Nat → Int32} {Q1 : State → Prop} {c sl : Nat} {i : Int32} {j : hp_I → hp_L → Option Int32} (C : cx_C G M RL code 8 80 (some .boolean)) (X : lm_X G M) (hs : sx_scr G M b0 L xs) (hc1 : c + 8 ≤ 601024) (hc2 : sl + 48 ≤ 7293034) (hj : ∀ (s : hp_I) (u : hp_L), dn_D G M 8 (c + 8) (sl + 48) (ql_Q Q1) 2595 [(0, .ref b0), (1, .ref (wd_b G + 0)), (2, .ref (wd_b G + 52)), (3, .ref (wd_b G + 601)), (4, .int i)] [] s u (j s u)) (s0 : hp_I) (u0 : hp_L) : dn_D G M 8 c sl (ql_Q Q1) 2401 [(0, .ref b0), (1, .ref (wd_b G + 0)), (2, .ref (wd_b G + 52)), (3, .ref (wd_b G + 601)), (4, .int i)] [] s0 u0 (lc_37 L xs j i s0 u0) := by
  unfold lc_37
  refine dn_aload_n C dL_law__2401 rfl 1 rfl rfl ?_
  refine dn_aload_n C dL_law__2402 rfl 0 rfl rfl ?_
  refine dn_iload C dL_law__2403 4 rfl rfl ?_
  refine dn_iconst C dL_law__2405 ic_i_1 rfl ?_
  refine dn_iadd C dL_law__2406 rfl ?_
  refine dn_sald C hs dL_law__2407 rfl (fun z424 => ?_)
  refine dn_aload_n C dL_law__2408 rfl 0 rfl rfl ?_
  refine dn_iload C dL_law__2409 4 rfl rfl ?_
  refine dn_iconst C dL_law__2411 ic_i_2 rfl ?_
  refine dn_iadd C dL_law__2412 rfl ?_
  refine dn_sald C hs dL_law__2413 rfl (fun z425 => ?_)
  refine dn_aload_n C dL_law__2414 rfl 0 rfl rfl ?_
  refine dn_iload C dL_law__2415 4 rfl rfl ?_
  refine dn_iconst C dL_law__2417 ic_i_3 rfl ?_
  refine dn_iadd C dL_law__2418 rfl ?_
  refine dn_sald C hs dL_law__2419 rfl (fun z426 => ?_)
  refine dn_aload_n C dL_law__2420 rfl 0 rfl rfl ?_
  refine dn_iload C dL_law__2421 4 rfl rfl ?_
  refine dn_iconst C dL_law__2423 ic_i_4 rfl ?_
  refine dn_iadd C dL_law__2424 rfl ?_
  refine dn_sald C hs dL_law__2425 rfl (fun z427 => ?_)
  refine dn_aload_n C dL_law__2426 rfl 0 rfl rfl ?_
  refine dn_iload C dL_law__2427 4 rfl rfl ?_
  refine dn_iconst C dL_law__2429 ic_i_5 rfl ?_
  refine dn_iadd C dL_law__2430 rfl ?_
  refine dn_sald C hs dL_law__2431 rfl (fun z428 => ?_)
  refine dn_aload_n C dL_law__2432 rfl 0 rfl rfl ?_
  refine dn_iload C dL_law__2433 4 rfl rfl ?_
  refine dn_bipush C dL_law__2435 ic_b_6 rfl ?_
  refine dn_iadd C dL_law__2437 rfl ?_
  refine dn_sald C hs dL_law__2438 rfl (fun z429 => ?_)
  refine dn_aload_n C dL_law__2439 rfl 3 rfl rfl ?_
  refine dn_callW (As := [.ref (wd_b G + 0), .int z424, .int z425, .int z426, .int z427, .int z428, .int z429, .ref (wd_b G + 601)]) (st := []) C (okw_L_span (cx_g C) X.2.2 X.2.1 0 k0_11 z424 z425 z426 z427 z428 z429 s0 u0) mw_L_span msw_L_span lk_L_249 (by decide) rfl (lm_c X hc1 hc2 5 (by decide)) (Nat.le_of_ble_eq_true rfl) dL_law__2440 rfl rfl (fun z430 s431 u432 => ?_)
  refine dn_istore (lv0 := [(0, .ref b0), (1, .ref (wd_b G + 0)), (2, .ref (wd_b G + 52)), (3, .ref (wd_b G + 601)), (4, .int i)]) C dL_law__2443 (by decide) rfl rfl (fun v433 => ?_)
  refine dn_aload_n C dL_law__2445 rfl 3 rfl rfl ?_
  refine dn_aload_n C dL_law__2446 rfl 1 rfl rfl ?_
  refine dn_iload C dL_law__2447 5 rfl rfl ?_
  refine dn_iconst C dL_law__2449 ic_i_1 rfl ?_
  refine dn_iadd C dL_law__2450 rfl ?_
  refine dn_sald C hs dL_law__2451 rfl (fun z434 => ?_)
  refine dn_aload_n C dL_law__2452 rfl 1 rfl rfl ?_
  refine dn_iload C dL_law__2453 5 rfl rfl ?_
  refine dn_iconst C dL_law__2455 ic_i_2 rfl ?_
  refine dn_iadd C dL_law__2456 rfl ?_
  refine dn_sald C hs dL_law__2457 rfl (fun z435 => ?_)
  refine dn_aload_n C dL_law__2458 rfl 1 rfl rfl ?_
  refine dn_iload C dL_law__2459 5 rfl rfl ?_
  refine dn_iconst C dL_law__2461 ic_i_3 rfl ?_
  refine dn_iadd C dL_law__2462 rfl ?_
  refine dn_sald C hs dL_law__2463 rfl (fun z436 => ?_)
  refine dn_aload_n C dL_law__2464 rfl 1 rfl rfl ?_
  refine dn_iload C dL_law__2465 5 rfl rfl ?_
  refine dn_iconst C dL_law__2467 ic_i_4 rfl ?_
  refine dn_iadd C dL_law__2468 rfl ?_
  refine dn_sald C hs dL_law__2469 rfl (fun z437 => ?_)
  refine dn_aload_n C dL_law__2470 rfl 1 rfl rfl ?_
  refine dn_iload C dL_law__2471 5 rfl rfl ?_
  refine dn_iconst C dL_law__2473 ic_i_5 rfl ?_
  refine dn_iadd C dL_law__2474 rfl ?_
  refine dn_sald C hs dL_law__2475 rfl (fun z438 => ?_)
  refine dn_aload_n C dL_law__2476 rfl 1 rfl rfl ?_
  refine dn_iload C dL_law__2477 5 rfl rfl ?_
  refine dn_bipush C dL_law__2479 ic_b_6 rfl ?_
  refine dn_iadd C dL_law__2481 rfl ?_
  refine dn_sald C hs dL_law__2482 rfl (fun z439 => ?_)
  refine dn_callV_ih (As := [.int z434, .int z435, .int z436, .int z437, .int z438, .int z439]) (st := []) C (ok_M_span (cx_g C) 52 k52_12 z434 z435 z436 z437 z438 z439 s431 u432) mt_X12_span mv_X12_span lk_L_252 (by decide) k52_12 rfl (lm_c X hc1 hc2 5 (by decide)) (Nat.le_of_ble_eq_true rfl) dL_law__2483 rfl rfl (fun z440 s441 => ?_)
  refine dn_istore (lv0 := [(5, .int v433), (0, .ref b0), (1, .ref (wd_b G + 0)), (2, .ref (wd_b G + 52)), (3, .ref (wd_b G + 601)), (4, .int i)]) C dL_law__2486 (by decide) rfl rfl (fun v442 => ?_)
  refine dn_aload_n C dL_law__2488 rfl 4 rfl rfl ?_
  refine dn_callV_i (As := []) (st := []) C (ok_M_thrown (cx_g C) 52 k52_12 s441 u432) mt_X12_thrown mv_X12_thrown lk_L_131 (by decide) k52_12 rfl (lm_c X hc1 hc2 5 (by decide)) (Nat.le_of_ble_eq_true rfl) dL_law__2489 rfl rfl (fun z443 => ?_)
  refine dn_iload C dL_law__2492 1 rfl rfl ?_
  refine dn_icmp_eq (t := 2499) C dL_law__2494 (by decide) rfl ?_ ?_
  · refine dn_iload C dL_law__2499 1 rfl rfl ?_
    refine dn_if_ne (t := 2516) C dL_law__2501 (by decide) rfl ?_ ?_
    · refine dn_aload_n C dL_law__2504 rfl 5 rfl rfl ?_
      refine dn_iconst C dL_law__2505 ic_i_0 rfl ?_
      refine dn_lald C sh_601 X.2.2 dL_law__2506 rfl (fun z444 => ?_)
      refine dn_iload C dL_law__2507 0 rfl rfl ?_
      refine dn_i2l C dL_law__2509 rfl ?_
      refine dn_lcmp C dL_law__2510 rfl ?_
      refine dn_if_eq (t := 2516) C dL_law__2511 (by decide) rfl ?_ ?_
      · refine dn_goto (t := 2595) C dL_law__2516 (by decide) ?_
        refine dn_pick [2, 3, 4, 5, 6] rfl ?_
        exact dn_wid (by omega) (by omega) (hj s441 u432)
      · refine dn_iconst C dL_law__2514 ic_i_0 rfl ?_
        exact dn_fin0
    · refine dn_goto (t := 2595) C dL_law__2516 (by decide) ?_
      refine dn_pick [2, 3, 4, 5, 6] rfl ?_
      exact dn_wid (by omega) (by omega) (hj s441 u432)
  · refine dn_iconst C dL_law__2497 ic_i_0 rfl ?_
    exact dn_fin0
def lc_38 (L : Nat) (xs : Nat → Int32) (j : hp_I → hp_L → Option Int32) (i : Int32) (s0 : hp_I) (u0 : hp_L) : Option Int32 :=
  px_b2 (fn_X_image 0 s0) fun z445 s446 =>
  px_b2 (fn_M_image 52 s446) fun z447 s448 =>
  if z445 = z447 then (
    j s448 u0
  ) else (
    some (0 : Int32)
  )
set_option maxHeartbeats 4000000 in
set_option maxRecDepth 100000 in
theorem lp_38 {G : wd_G} {M : wd_M} {b0 L : Nat} {xs : Nat → Int32} {Q1 : State → Prop} {c sl : Nat} {i : Int32} {j : hp_I → hp_L → Option Int32} (C : cx_C G M RL code 8 80 (some .boolean)) (X : lm_X G M) (hs : sx_scr G M b0 L xs) (hc1 : c + 8 ≤ 601024) (hc2 : sl + 48 ≤ 7293034) (hj : ∀ (s : hp_I) (u : hp_L), dn_D G M 8 (c + 8) (sl + 48) (ql_Q Q1) 2595 [(0, .ref b0), (1, .ref (wd_b G + 0)), (2, .ref (wd_b G + 52)), (3, .ref (wd_b G + 601)), (4, .int i)] [] s u (j s u)) (s0 : hp_I) (u0 : hp_L) : dn_D G M 8 c sl (ql_Q Q1) 2519 [(0, .ref b0), (1, .ref (wd_b G + 0)), (2, .ref (wd_b G + 52)), (3, .ref (wd_b G + 601)), (4, .int i)] [] s0 u0 (lc_38 L xs j i s0 u0) := by
  unfold lc_38
  refine dn_aload_n C dL_law__2519 rfl 1 rfl rfl ?_
  refine dn_callV_ih (As := []) (st := []) C (ok_X_image (cx_g C) 0 k0_11 s0 u0) mt_X11_image mv_X11_image lk_L_253 (by decide) k0_11 rfl (lm_c X hc1 hc2 0 (by decide)) (Nat.le_of_ble_eq_true rfl) dL_law__2520 rfl rfl (fun z445 s446 => ?_)
  refine dn_aload_n C dL_law__2523 rfl 2 rfl rfl ?_
  refine dn_callV_ih (As := []) (st := [.int z445]) C (ok_M_image (cx_g C) 52 k52_12 s446 u0) mt_X12_image mv_X12_image lk_L_256 (by decide) k52_12 rfl (lm_c X hc1 hc2 0 (by decide)) (Nat.le_of_ble_eq_true rfl) dL_law__2524 rfl rfl (fun z447 s448 => ?_)
  refine dn_icmp_eq (t := 2595) C dL_law__2527 (by decide) rfl ?_ ?_
  · exact dn_wid (by omega) (by omega) (hj s448 u0)
  · refine dn_iconst C dL_law__2530 ic_i_0 rfl ?_
    exact dn_fin0
def lc_39 (L : Nat) (xs : Nat → Int32) (j : hp_I → hp_L → Option Int32) (i : Int32) (s0 : hp_I) (u0 : hp_L) : Option Int32 :=
  px_b2 (fn_X_restore 0 s0) fun z449 s450 =>
  px_b2 (fn_M_restore 52 s450) fun z451 s452 =>
  if z449 = z451 then (
    j s452 u0
  ) else (
    some (0 : Int32)
  )
set_option maxHeartbeats 4000000 in
set_option maxRecDepth 100000 in
theorem lp_39 {G : wd_G} {M : wd_M} {b0 L : Nat} {xs : Nat → Int32} {Q1 : State → Prop} {c sl : Nat} {i : Int32} {j : hp_I → hp_L → Option Int32} (C : cx_C G M RL code 8 80 (some .boolean)) (X : lm_X G M) (hs : sx_scr G M b0 L xs) (hc1 : c + 8 ≤ 601024) (hc2 : sl + 48 ≤ 7293034) (hj : ∀ (s : hp_I) (u : hp_L), dn_D G M 8 (c + 8) (sl + 48) (ql_Q Q1) 2595 [(0, .ref b0), (1, .ref (wd_b G + 0)), (2, .ref (wd_b G + 52)), (3, .ref (wd_b G + 601)), (4, .int i)] [] s u (j s u)) (s0 : hp_I) (u0 : hp_L) : dn_D G M 8 c sl (ql_Q Q1) 2532 [(0, .ref b0), (1, .ref (wd_b G + 0)), (2, .ref (wd_b G + 52)), (3, .ref (wd_b G + 601)), (4, .int i)] [] s0 u0 (lc_39 L xs j i s0 u0) := by
  unfold lc_39
  refine dn_aload_n C dL_law__2532 rfl 1 rfl rfl ?_
  refine dn_callV_ih (As := []) (st := []) C (ok_X_restore (cx_g C) 0 k0_11 s0 u0) mt_X11_restore mv_X11_restore lk_L_257 (by decide) k0_11 rfl (lm_c X hc1 hc2 0 (by decide)) (Nat.le_of_ble_eq_true rfl) dL_law__2533 rfl rfl (fun z449 s450 => ?_)
  refine dn_aload_n C dL_law__2536 rfl 2 rfl rfl ?_
  refine dn_callV_ih (As := []) (st := [.int z449]) C (ok_M_restore (cx_g C) 52 k52_12 s450 u0) mt_X12_restore mv_X12_restore lk_L_260 (by decide) k52_12 rfl (lm_c X hc1 hc2 0 (by decide)) (Nat.le_of_ble_eq_true rfl) dL_law__2537 rfl rfl (fun z451 s452 => ?_)
  refine dn_icmp_eq (t := 2595) C dL_law__2540 (by decide) rfl ?_ ?_
  · exact dn_wid (by omega) (by omega) (hj s452 u0)
  · refine dn_iconst C dL_law__2543 ic_i_0 rfl ?_
    exact dn_fin0
def lc_40 (L : Nat) (xs : Nat → Int32) (j : hp_I → hp_L → Option Int32) (i : Int32) (s0 : hp_I) (u0 : hp_L) : Option Int32 :=
  Option.bind (px_sld L xs (i + (1 : Int32))) fun z453 =>
  Option.bind (fn_X_status 0 z453 s0) fun z454 =>
  Option.bind (px_sld L xs (i + (1 : Int32))) fun z455 =>
  px_b2 (fn_M_status 52 z455 s0) fun z456 s457 =>
  if z454 = z456 then (
    j s457 u0
  ) else (
    some (0 : Int32)
  )
set_option maxHeartbeats 4000000 in
set_option maxRecDepth 100000 in
theorem lp_40 {G : wd_G} {M : wd_M} {b0 L : Nat} {xs : Nat → Int32} {Q1 : State → Prop} {c sl : Nat} {i : Int32} {j : hp_I → hp_L → Option Int32} (C : cx_C G M RL code 8 80 (some .boolean)) (X : lm_X G M) (hs : sx_scr G M b0 L xs) (hc1 : c + 8 ≤ 601024) (hc2 : sl + 48 ≤ 7293034) (hj : ∀ (s : hp_I) (u : hp_L), dn_D G M 8 (c + 8) (sl + 48) (ql_Q Q1) 2595 [(0, .ref b0), (1, .ref (wd_b G + 0)), (2, .ref (wd_b G + 52)), (3, .ref (wd_b G + 601)), (4, .int i)] [] s u (j s u)) (s0 : hp_I) (u0 : hp_L) : dn_D G M 8 c sl (ql_Q Q1) 2545 [(0, .ref b0), (1, .ref (wd_b G + 0)), (2, .ref (wd_b G + 52)), (3, .ref (wd_b G + 601)), (4, .int i)] [] s0 u0 (lc_40 L xs j i s0 u0) := by
  unfold lc_40
  refine dn_aload_n C dL_law__2545 rfl 1 rfl rfl ?_
  refine dn_aload_n C dL_law__2546 rfl 0 rfl rfl ?_
  refine dn_iload C dL_law__2547 4 rfl rfl ?_
  refine dn_iconst C dL_law__2549 ic_i_1 rfl ?_
  refine dn_iadd C dL_law__2550 rfl ?_
  refine dn_sald C hs dL_law__2551 rfl (fun z453 => ?_)
  refine dn_callV_i (As := [.int z453]) (st := []) C (ok_X_status (cx_g C) 0 k0_11 z453 s0 u0) mt_X11_status mv_X11_status lk_L_261 (by decide) k0_11 rfl (lm_c X hc1 hc2 0 (by decide)) (Nat.le_of_ble_eq_true rfl) dL_law__2552 rfl rfl (fun z454 => ?_)
  refine dn_aload_n C dL_law__2555 rfl 2 rfl rfl ?_
  refine dn_aload_n C dL_law__2556 rfl 0 rfl rfl ?_
  refine dn_iload C dL_law__2557 4 rfl rfl ?_
  refine dn_iconst C dL_law__2559 ic_i_1 rfl ?_
  refine dn_iadd C dL_law__2560 rfl ?_
  refine dn_sald C hs dL_law__2561 rfl (fun z455 => ?_)
  refine dn_callV_ih (As := [.int z455]) (st := [.int z454]) C (ok_M_status (cx_g C) 52 k52_12 z455 s0 u0) mt_X12_status mv_X12_status lk_L_264 (by decide) k52_12 rfl (lm_c X hc1 hc2 0 (by decide)) (Nat.le_of_ble_eq_true rfl) dL_law__2562 rfl rfl (fun z456 s457 => ?_)
  refine dn_icmp_eq (t := 2595) C dL_law__2565 (by decide) rfl ?_ ?_
  · exact dn_wid (by omega) (by omega) (hj s457 u0)
  · refine dn_iconst C dL_law__2568 ic_i_0 rfl ?_
    exact dn_fin0
def lc_41 (L : Nat) (xs : Nat → Int32) (j : hp_I → hp_L → Option Int32) (i : Int32) (s0 : hp_I) (u0 : hp_L) : Option Int32 :=
  Option.bind (px_sld L xs (i + (1 : Int32))) fun z458 =>
  Option.bind (fn_X_count 0 z458 s0) fun z459 =>
  Option.bind (px_sld L xs (i + (1 : Int32))) fun z460 =>
  px_b2 (fn_M_count 52 z460 s0) fun z461 s462 =>
  if z459 = z461 then (
    j s462 u0
  ) else (
    some (0 : Int32)
  )
set_option maxHeartbeats 4000000 in
set_option maxRecDepth 100000 in
theorem lp_41 {G : wd_G} {M : wd_M} {b0 L : Nat} {xs : Nat → Int32} {Q1 : State → Prop} {c sl : Nat} {i : Int32} {j : hp_I → hp_L → Option Int32} (C : cx_C G M RL code 8 80 (some .boolean)) (X : lm_X G M) (hs : sx_scr G M b0 L xs) (hc1 : c + 8 ≤ 601024) (hc2 : sl + 48 ≤ 7293034) (hj : ∀ (s : hp_I) (u : hp_L), dn_D G M 8 (c + 8) (sl + 48) (ql_Q Q1) 2595 [(0, .ref b0), (1, .ref (wd_b G + 0)), (2, .ref (wd_b G + 52)), (3, .ref (wd_b G + 601)), (4, .int i)] [] s u (j s u)) (s0 : hp_I) (u0 : hp_L) : dn_D G M 8 c sl (ql_Q Q1) 2570 [(0, .ref b0), (1, .ref (wd_b G + 0)), (2, .ref (wd_b G + 52)), (3, .ref (wd_b G + 601)), (4, .int i)] [] s0 u0 (lc_41 L xs j i s0 u0) := by
  unfold lc_41
  refine dn_aload_n C dL_law__2570 rfl 1 rfl rfl ?_
  refine dn_aload_n C dL_law__2571 rfl 0 rfl rfl ?_
  refine dn_iload C dL_law__2572 4 rfl rfl ?_
  refine dn_iconst C dL_law__2574 ic_i_1 rfl ?_
  refine dn_iadd C dL_law__2575 rfl ?_
  refine dn_sald C hs dL_law__2576 rfl (fun z458 => ?_)
  refine dn_callV_i (As := [.int z458]) (st := []) C (ok_X_count (cx_g C) 0 k0_11 z458 s0 u0) mt_X11_count mv_X11_count lk_L_265 (by decide) k0_11 rfl (lm_c X hc1 hc2 0 (by decide)) (Nat.le_of_ble_eq_true rfl) dL_law__2577 rfl rfl (fun z459 => ?_)
  refine dn_aload_n C dL_law__2580 rfl 2 rfl rfl ?_
  refine dn_aload_n C dL_law__2581 rfl 0 rfl rfl ?_
  refine dn_iload C dL_law__2582 4 rfl rfl ?_
  refine dn_iconst C dL_law__2584 ic_i_1 rfl ?_
  refine dn_iadd C dL_law__2585 rfl ?_
  refine dn_sald C hs dL_law__2586 rfl (fun z460 => ?_)
  refine dn_callV_ih (As := [.int z460]) (st := [.int z459]) C (ok_M_count (cx_g C) 52 k52_12 z460 s0 u0) mt_X12_count mv_X12_count lk_L_268 (by decide) k52_12 rfl (lm_c X hc1 hc2 0 (by decide)) (Nat.le_of_ble_eq_true rfl) dL_law__2587 rfl rfl (fun z461 s462 => ?_)
  refine dn_icmp_eq (t := 2595) C dL_law__2590 (by decide) rfl ?_ ?_
  · exact dn_wid (by omega) (by omega) (hj s462 u0)
  · refine dn_iconst C dL_law__2593 ic_i_0 rfl ?_
    exact dn_fin0
def fn_law (L : Nat) (xs : Nat → Int32) : Nat → Int32 → hp_I → hp_L → Option Int32
  | 0, _, _, _ => none
  | fu + 1, i, s0, u0 => if i ≤ Int32.ofNat L - (8 : Int32) then (Option.bind (px_sld L xs i) fun z => px_sw (z &&& (63 : Int32)) [
      ((0 : Int32), lc_0 L xs (fun s u => px_let (i + 8) fun i2 => fn_law L xs fu i2 s u) i s0 u0),
      ((1 : Int32), lc_1 L xs (fun s u => px_let (i + 8) fun i2 => fn_law L xs fu i2 s u) i s0 u0),
      ((2 : Int32), lc_2 L xs (fun s u => px_let (i + 8) fun i2 => fn_law L xs fu i2 s u) i s0 u0),
      ((3 : Int32), lc_3 L xs (fun s u => px_let (i + 8) fun i2 => fn_law L xs fu i2 s u) i s0 u0),
      ((4 : Int32), lc_4 L xs (fun s u => px_let (i + 8) fun i2 => fn_law L xs fu i2 s u) i s0 u0),
      ((5 : Int32), lc_5 L xs (fun s u => px_let (i + 8) fun i2 => fn_law L xs fu i2 s u) i s0 u0),
      ((6 : Int32), lc_6 L xs (fun s u => px_let (i + 8) fun i2 => fn_law L xs fu i2 s u) i s0 u0),
      ((7 : Int32), lc_7 L xs (fun s u => px_let (i + 8) fun i2 => fn_law L xs fu i2 s u) i s0 u0),
      ((8 : Int32), lc_8 L xs (fun s u => px_let (i + 8) fun i2 => fn_law L xs fu i2 s u) i s0 u0),
      ((9 : Int32), lc_9 L xs (fun s u => px_let (i + 8) fun i2 => fn_law L xs fu i2 s u) i s0 u0),
      ((10 : Int32), lc_10 L xs (fun s u => px_let (i + 8) fun i2 => fn_law L xs fu i2 s u) i s0 u0),
      ((11 : Int32), lc_11 L xs (fun s u => px_let (i + 8) fun i2 => fn_law L xs fu i2 s u) i s0 u0),
      ((12 : Int32), lc_12 L xs (fun s u => px_let (i + 8) fun i2 => fn_law L xs fu i2 s u) i s0 u0),
      ((13 : Int32), lc_13 L xs (fun s u => px_let (i + 8) fun i2 => fn_law L xs fu i2 s u) i s0 u0),
      ((14 : Int32), lc_14 L xs (fun s u => px_let (i + 8) fun i2 => fn_law L xs fu i2 s u) i s0 u0),
      ((15 : Int32), lc_15 L xs (fun s u => px_let (i + 8) fun i2 => fn_law L xs fu i2 s u) i s0 u0),
      ((16 : Int32), lc_16 L xs (fun s u => px_let (i + 8) fun i2 => fn_law L xs fu i2 s u) i s0 u0),
      ((17 : Int32), lc_17 L xs (fun s u => px_let (i + 8) fun i2 => fn_law L xs fu i2 s u) i s0 u0),
      ((18 : Int32), lc_18 L xs (fun s u => px_let (i + 8) fun i2 => fn_law L xs fu i2 s u) i s0 u0),
      ((19 : Int32), lc_19 L xs (fun s u => px_let (i + 8) fun i2 => fn_law L xs fu i2 s u) i s0 u0),
      ((20 : Int32), lc_20 L xs (fun s u => px_let (i + 8) fun i2 => fn_law L xs fu i2 s u) i s0 u0),
      ((21 : Int32), lc_21 L xs (fun s u => px_let (i + 8) fun i2 => fn_law L xs fu i2 s u) i s0 u0),
      ((22 : Int32), lc_22 L xs (fun s u => px_let (i + 8) fun i2 => fn_law L xs fu i2 s u) i s0 u0),
      ((23 : Int32), lc_23 L xs (fun s u => px_let (i + 8) fun i2 => fn_law L xs fu i2 s u) i s0 u0),
      ((24 : Int32), lc_24 L xs (fun s u => px_let (i + 8) fun i2 => fn_law L xs fu i2 s u) i s0 u0),
      ((25 : Int32), lc_25 L xs (fun s u => px_let (i + 8) fun i2 => fn_law L xs fu i2 s u) i s0 u0),
      ((26 : Int32), lc_26 L xs (fun s u => px_let (i + 8) fun i2 => fn_law L xs fu i2 s u) i s0 u0),
      ((27 : Int32), lc_27 L xs (fun s u => px_let (i + 8) fun i2 => fn_law L xs fu i2 s u) i s0 u0),
      ((28 : Int32), lc_28 L xs (fun s u => px_let (i + 8) fun i2 => fn_law L xs fu i2 s u) i s0 u0),
      ((29 : Int32), lc_29 L xs (fun s u => px_let (i + 8) fun i2 => fn_law L xs fu i2 s u) i s0 u0),
      ((30 : Int32), lc_30 L xs (fun s u => px_let (i + 8) fun i2 => fn_law L xs fu i2 s u) i s0 u0),
      ((31 : Int32), lc_31 L xs (fun s u => px_let (i + 8) fun i2 => fn_law L xs fu i2 s u) i s0 u0),
      ((32 : Int32), lc_32 L xs (fun s u => px_let (i + 8) fun i2 => fn_law L xs fu i2 s u) i s0 u0),
      ((33 : Int32), lc_33 L xs (fun s u => px_let (i + 8) fun i2 => fn_law L xs fu i2 s u) i s0 u0),
      ((34 : Int32), lc_34 L xs (fun s u => px_let (i + 8) fun i2 => fn_law L xs fu i2 s u) i s0 u0),
      ((35 : Int32), lc_35 L xs (fun s u => px_let (i + 8) fun i2 => fn_law L xs fu i2 s u) i s0 u0),
      ((36 : Int32), lc_36 L xs (fun s u => px_let (i + 8) fun i2 => fn_law L xs fu i2 s u) i s0 u0),
      ((37 : Int32), lc_37 L xs (fun s u => px_let (i + 8) fun i2 => fn_law L xs fu i2 s u) i s0 u0),
      ((38 : Int32), lc_38 L xs (fun s u => px_let (i + 8) fun i2 => fn_law L xs fu i2 s u) i s0 u0),
      ((39 : Int32), lc_39 L xs (fun s u => px_let (i + 8) fun i2 => fn_law L xs fu i2 s u) i s0 u0),
      ((40 : Int32), lc_40 L xs (fun s u => px_let (i + 8) fun i2 => fn_law L xs fu i2 s u) i s0 u0),
      ((41 : Int32), lc_41 L xs (fun s u => px_let (i + 8) fun i2 => fn_law L xs fu i2 s u) i s0 u0)
    ] (px_let (i + 8) fun i2 => fn_law L xs fu i2 s0 u0)) else some (1 : Int32)
set_option maxHeartbeats 4000000 in
set_option maxRecDepth 100000 in
theorem pf_law {G : wd_G} {M : wd_M} {b0 L : Nat} {xs : Nat → Int32} {Q1 : State → Prop} (C : cx_C G M RL code 8 80 (some .boolean)) (X : lm_X G M) (hs : sx_scr G M b0 L xs)
    (hfin : ∀ (c sl : Nat) (H : Heap) (locs : List Loc) (ls : Array Slot), c ≤ 601024 → sl ≤ 7293034 → va_S (wd_A G) (mx_S M).heap H locs → W (mx_P M) (mx_L M) (mx_E M) (mx_R M) (mx_S M) (mx_I M) (mx_A M) (mx_B M) (mx_M M) (mx_C M) H locs c sl Q1 (F0 (mx_I M) 2602 ls [.int 1])) :
    ∀ (fu c sl : Nat) (i : Int32) (s0 : hp_I) (u0 : hp_L), c + 8 * fu ≤ 601024 → sl + 48 * fu ≤ 7293034 → dn_D G M 8 c sl (ql_Q Q1) 23 [(0, .ref b0), (1, .ref (wd_b G + 0)), (2, .ref (wd_b G + 52)), (3, .ref (wd_b G + 601)), (4, .int i)] [] s0 u0 (fn_law L xs fu i s0 u0) := by
  intro fu
  induction fu with
  | zero => exact fun c sl i s0 u0 _ _ => dn_none
  | succ fu ih =>
    intro c sl i s0 u0 hc1 hc2
    unfold fn_law
    have hj : ∀ (s : hp_I) (u : hp_L), dn_D G M 8 (c + 8) (sl + 48) (ql_Q Q1) 2595 [(0, .ref b0), (1, .ref (wd_b G + 0)), (2, .ref (wd_b G + 52)), (3, .ref (wd_b G + 601)), (4, .int i)] [] s u (px_let (i + 8) fun i2 => fn_law L xs fu i2 s u) := by
      intro s u
      refine dn_iinc (lv0 := [(0, .ref b0), (1, .ref (wd_b G + 0)), (2, .ref (wd_b G + 52)), (3, .ref (wd_b G + 601))]) (v := i + 8) C dL_law__2595 4 rfl rfl (by decide) rfl rfl (fun i2 => ?_)
      refine dn_goto (t := 23) C dL_law__2598 (by decide) ?_
      refine dn_pick [1, 2, 3, 4, 0] rfl ?_
      exact ih (c + 8) (sl + 48) i2 s u (by omega) (by omega)
    refine dn_iload C dL_law__23 4 rfl rfl ?_
    refine dn_aload_n C dL_law__25 rfl 0 rfl rfl ?_
    refine dn_slenA C hs dL_law__26 rfl ?_
    refine dn_bipush C dL_law__27 ic_b_8 rfl ?_
    refine dn_isub C dL_law__29 rfl ?_
    refine dn_icmp_gt (t := 2601) C dL_law__30 (by decide) rfl ?_ ?_
    · refine dn_aload_n C dL_law__33 rfl 0 rfl rfl ?_
      refine dn_iload C dL_law__34 4 rfl rfl ?_
      refine dn_sald C hs dL_law__36 rfl (fun z => ?_)
      refine dn_bipush C dL_law__37 ic_b_63 rfl ?_
      refine dn_iand C dL_law__39 rfl ?_
      exact dn_table (t0 := 2595) _ C dL_law__40 (by decide) rfl (dn_wid (by omega) (by omega) (hj s0 u0)) ⟨⟨184, 224, by decide, rfl, by decide, lp_0 C X hs (by omega) (by omega) hj s0 u0⟩, ⟨257, 297, by decide, rfl, by decide, lp_1 C X hs (by omega) (by omega) hj s0 u0⟩, ⟨313, 353, by decide, rfl, by decide, lp_2 C X hs (by omega) (by omega) hj s0 u0⟩, ⟨369, 409, by decide, rfl, by decide, lp_3 C X hs (by omega) (by omega) hj s0 u0⟩, ⟨425, 465, by decide, rfl, by decide, lp_4 C X hs (by omega) (by omega) hj s0 u0⟩, ⟨481, 521, by decide, rfl, by decide, lp_5 C X hs (by omega) (by omega) hj s0 u0⟩, ⟨494, 534, by decide, rfl, by decide, lp_6 C X hs (by omega) (by omega) hj s0 u0⟩, ⟨507, 547, by decide, rfl, by decide, lp_7 C X hs (by omega) (by omega) hj s0 u0⟩, ⟨563, 603, by decide, rfl, by decide, lp_8 C X hs (by omega) (by omega) hj s0 u0⟩, ⟨631, 671, by decide, rfl, by decide, lp_9 C X hs (by omega) (by omega) hj s0 u0⟩, ⟨699, 739, by decide, rfl, by decide, lp_10 C X hs (by omega) (by omega) hj s0 u0⟩, ⟨767, 807, by decide, rfl, by decide, lp_11 C X hs (by omega) (by omega) hj s0 u0⟩, ⟨835, 875, by decide, rfl, by decide, lp_12 C X hs (by omega) (by omega) hj s0 u0⟩, ⟨891, 931, by decide, rfl, by decide, lp_13 C X hs (by omega) (by omega) hj s0 u0⟩, ⟨1023, 1063, by decide, rfl, by decide, lp_14 C X hs (by omega) (by omega) hj s0 u0⟩, ⟨1091, 1131, by decide, rfl, by decide, lp_15 C X hs (by omega) (by omega) hj s0 u0⟩, ⟨1159, 1199, by decide, rfl, by decide, lp_16 C X hs (by omega) (by omega) hj s0 u0⟩, ⟨1215, 1255, by decide, rfl, by decide, lp_17 C X hs (by omega) (by omega) hj s0 u0⟩, ⟨1283, 1323, by decide, rfl, by decide, lp_18 C X hs (by omega) (by omega) hj s0 u0⟩, ⟨1339, 1379, by decide, rfl, by decide, lp_19 C X hs (by omega) (by omega) hj s0 u0⟩, ⟨1395, 1435, by decide, rfl, by decide, lp_20 C X hs (by omega) (by omega) hj s0 u0⟩, ⟨1463, 1503, by decide, rfl, by decide, lp_21 C X hs (by omega) (by omega) hj s0 u0⟩, ⟨1519, 1559, by decide, rfl, by decide, lp_22 C X hs (by omega) (by omega) hj s0 u0⟩, ⟨1575, 1615, by decide, rfl, by decide, lp_23 C X hs (by omega) (by omega) hj s0 u0⟩, ⟨1655, 1695, by decide, rfl, by decide, lp_24 C X hs (by omega) (by omega) hj s0 u0⟩, ⟨1746, 1786, by decide, rfl, by decide, lp_25 C X hs (by omega) (by omega) hj s0 u0⟩, ⟨1826, 1866, by decide, rfl, by decide, lp_26 C X hs (by omega) (by omega) hj s0 u0⟩, ⟨1882, 1922, by decide, rfl, by decide, lp_27 C X hs (by omega) (by omega) hj s0 u0⟩, ⟨1938, 1978, by decide, rfl, by decide, lp_28 C X hs (by omega) (by omega) hj s0 u0⟩, ⟨1951, 1991, by decide, rfl, by decide, lp_29 C X hs (by omega) (by omega) hj s0 u0⟩, ⟨1964, 2004, by decide, rfl, by decide, lp_30 C X hs (by omega) (by omega) hj s0 u0⟩, ⟨2020, 2060, by decide, rfl, by decide, lp_31 C X hs (by omega) (by omega) hj s0 u0⟩, ⟨2033, 2073, by decide, rfl, by decide, lp_32 C X hs (by omega) (by omega) hj s0 u0⟩, ⟨2089, 2129, by decide, rfl, by decide, lp_33 C X hs (by omega) (by omega) hj s0 u0⟩, ⟨2157, 2197, by decide, rfl, by decide, lp_34 C X hs (by omega) (by omega) hj s0 u0⟩, ⟨2213, 2253, by decide, rfl, by decide, lp_35 C X hs (by omega) (by omega) hj s0 u0⟩, ⟨2269, 2309, by decide, rfl, by decide, lp_36 C X hs (by omega) (by omega) hj s0 u0⟩, ⟨2361, 2401, by decide, rfl, by decide, lp_37 C X hs (by omega) (by omega) hj s0 u0⟩, ⟨2479, 2519, by decide, rfl, by decide, lp_38 C X hs (by omega) (by omega) hj s0 u0⟩, ⟨2492, 2532, by decide, rfl, by decide, lp_39 C X hs (by omega) (by omega) hj s0 u0⟩, ⟨2505, 2545, by decide, rfl, by decide, lp_40 C X hs (by omega) (by omega) hj s0 u0⟩, ⟨2530, 2570, by decide, rfl, by decide, lp_41 C X hs (by omega) (by omega) hj s0 u0⟩, trivial⟩
    · refine dn_iconst C dL_law__2601 ic_i_1 rfl ?_
      intro r hr H locs ls hP hS hl
      cases hr
      exact fun T hT Y => (hfin c sl H locs ls (by omega) (by omega) hS T hT Y).imp fun t h => ⟨h.1, fun _ => h.2⟩
