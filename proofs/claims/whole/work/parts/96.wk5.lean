/-! WORK: again, any step, all steps -/
section WA
variable {X : tx} {H : ab_H} {d : Nat} {rs : Nat → Nat → Nat → Int32 → hp_I → Option hp_I} {rm : Nat → hp_I → Option hp_I}
theorem b_sagain {s t t2 : hp_I} {p N : Nat} (te : TE X) (hX : X.2 ≤ 150) (hs : d < 6 → SJ X H (d + 1) (rs 27 1 3 (Int32.ofNat (d + 1))) (rm 52)) (he : d < 6 → SE X (rm 52)) (hd : d ≤ 6) (x2 : XT X s (sk X (p + [97, 103, 97, 105, 110].length)) 0 (-1)) (m2 : MT X t2 p 0 (-1)) (g : wdB X p 0 [97, 103, 97, 105, 110] = true) (cx : CNX s H) (cm : CNM t2 H) (sd : CTN s t2 N) (h8 : t2 52 8 = Int32.ofNat d) (h6 : 6 * N ≤ p) (hk : fn_M_stepHere 52 t = some (6, t2)) : ∃ s3 s' t', bd_Steps_readAgain rs 27 1 3 (Int32.ofNat p) (Int32.ofNat d) s = some s3 ∧ fn_Tape_expect 1 (59 : Int32) s3 = some s' ∧ bd_M_readsStep rm 52 t = some t' ∧ PS X H s t2 p N d s' t' := by
  obtain ⟨sd1, sd2⟩ := sd
  have h600 := te.1
  have hpX := m2.2.1
  have hskl : p + 5 ≤ sk X (p + [97, 103, 97, 105, 110].length) := sk_ge
  have hle0 := x2.2.1
  have hN25 : N < 25 := by omega
  have hz : zB (s 27 4) 26 := ⟨N, by omega, sd1⟩
  have m6 : bd_M_readsStep rm 52 t = px_b2 (fn_M_opensOne 52 t2) (fun z69 s70 => if z69 = 0 then some s70 else (fun (s5 : hp_I) => if (s5 52 5) = 0 then (Option.bind (fn_M_skipWord 52 s5) fun s7 => Option.bind (px_rld (sh_rf 52 23) (s7 52 24)) fun z8 => px_let (hp_s s7 52 24 ((s7 52 24) + (1 : Int32))) fun s9 => Option.bind (px_ast s9 z8 (0 : Int32) 6) fun s10 => px_b2 (fn_M_number 52 (0 : Int32) (60 : Int32) s10) fun z22 s23 => Option.bind (px_ast s23 z8 (1 : Int32) z22) fun s24 => Option.bind (fn_M_sign 52 (91 : Int32) s24) fun s26 => Option.bind (fn_M_blanks 52 s26) fun s28 => bd_M_readsStep_L224 rm 52 z8 (fun (s_34 : hp_I) => Option.bind (fn_M_sign 52 (93 : Int32) s_34) fun s36 => px_let (hp_s s36 52 8 ((s36 52 8) - (1 : Int32))) fun s37 => Option.bind (px_ast s37 z8 (3 : Int32) (s37 52 24)) fun s18 => Option.bind (fn_M_sign 52 (59 : Int32) s18) fun s20 => some s20) FU s28) else some s5) s70) := by
    unfold bd_M_readsStep
    rw [hk, e_b2, e_let, e_jn, if_neg (show ¬ (6 : Int32) = -1 from by decide)]
    try dsimp only
    rw [e_jn, if_pos (show (6 : Int32) = 6 from rfl)]
    congr 1
  rw [m6]
  unfold bd_Steps_readAgain
  by_cases c6 : d = 6
  · subst c6
    obtain ⟨t3, u1, u2, u3⟩ := m_opens6 m2 h8
    obtain ⟨s3, a1, a2, a3⟩ := c_fail0 x2 (kd := 3) (by decide) (Int32.ofNat p)
    obtain ⟨s4, d1, d2, d3⟩ := c_noexp te a2 (by decide) (c := 59) (by decide)
    refine ⟨s3, s4, t3, ?_, d1, ?_, _, _, 3, _, ⟨d2, u2, fun e => (by cases e), fun e => (by cases e)⟩, (a3.trans d3).g, u3.g, hz.xg (a3.trans d3), fun e => (by cases e)⟩
    · rw [if_pos (show (6 : Int32) ≤ Int32.ofNat 6 from zl_le (a := 6) (by decide) (by decide)), show fn_Tape_fail 1 (3 : Int32) (Int32.ofNat p) s = some s3 from a1, e_bd]
    · rw [u1, e_b2, if_pos rfl]
  · have hd6 : d < 6 := by omega
    have m3 := m2.slot (j := 8) (v := Int32.ofNat (d + 1)) (by decide) (by decide) (by decide) (by decide)
    obtain ⟨t4, y1, y2, y3, y4⟩ := b_skip te x2 m3 w_again g
    have e24 : t4 52 24 = Int32.ofNat N := by rw [y3.2 24 (by decide) (by decide) (by decide), hs_ne (by omega)]; exact sd2
    have wr : ∀ (j : Nat), j < 4 → ∀ (f : hp_I) (x : Int32), px_ast f (492 + N) (Int32.ofNat j) x = some (hp_s f (492 + N) j x) := fun j hj f x => wr_492 (by omega) hj
    have b5 := (y2.ws (j := 24) (x := Int32.ofNat (N + 1)) (by decide) (by decide) (by decide) (by decide)).wm (a := 492 + N) (b := 0) (x := 6) (by omega) (by omega)
    obtain ⟨s6, t6, v, p6, q6, k6, pl6, n1, n2, j6, fx6, fm6, -, hv, hk6, -⟩ := b_num te b5 0 60
    obtain ⟨s7, u1, u2, u3, u4, u5, u6⟩ := c_sput (kI := 6) (a := Int32.ofNat v) (b := 0) (hz.xg fx6)
    have j7 : JT X s7 (hp_s t6 (492 + N) 1 (if k6 = 0 then Int32.ofNat v else 0)) p6 q6 k6 pl6 := ⟨j6.1.fr u4 u5, j6.2.1.put (by omega) (by omega), j6.2.2⟩
    obtain ⟨s8, t8, p8, q8, k8, pl8, g1, g2, j8, fx8, fm8, hk8, -⟩ := b_sign te j7 (c := 91) (by decide)
    obtain ⟨t9, q9, m9, j9, fm9, hq9⟩ := b_blanks te j8
    have sN : s6 27 4 = Int32.ofNat N := by rw [fx6.1 27 (by decide)]; exact sd1
    obtain ⟨z1, ⟨z2, z3, z4, z5⟩, z6⟩ := u6 N hN25 sN
    have e24b : t9 52 24 = Int32.ofNat (N + 1) := by rw [fm9.2 24 (by decide) (by decide) (by decide), fm8.2 24 (by decide) (by decide) (by decide), hs_ne (by omega), fm6.2 24 (by decide) (by decide) (by decide), hs_ne (by omega), hs_at]
    have e8b : t9 52 8 = Int32.ofNat (d + 1) := by rw [fm9.2 8 (by decide) (by decide) (by decide), fm8.2 8 (by decide) (by decide) (by decide), hs_ne (by omega), fm6.2 8 (by decide) (by decide) (by decide), hs_ne (by omega), hs_ne (by omega), y3.2 8 (by decide) (by decide) (by decide), hs_at]
    have mg9 : MG wmP wmJ t2 t9 := (((((((MG.slot (k := 8) (v := Int32.ofNat (d + 1)) (Or.inl rfl)).trans y3.g).trans (MG.slot (k := 24) (v := Int32.ofNat (N + 1)) (Or.inr rfl))).trans (MG.put (i := 492 + N) (k := 0) (v := 6) (by unfold wmP; omega) (by omega))).trans fm6.g).trans (MG.put (i := 492 + N) (k := 1) (v := if k6 = 0 then Int32.ofNat v else 0) (by unfold wmP; omega) (by omega))).trans fm8.g).trans fm9.g
    have xg8 : XG wkP s s8 := (fx6.g.trans u2).trans fx8.g
    have cx8 : CNX s8 H := cx.fr (xg8.1 3 (by decide) (by unfold wkP; omega))
    have cm9 : CNM t9 H := cm.fr (mg9.1 56 (by decide) (by unfold wmP; omega))
    have r7 : ∀ j, j ≠ 3 → t9 (492 + N) j = hp_s t6 (492 + N) 1 (if k6 = 0 then Int32.ofNat v else 0) (492 + N) j := fun j _ => by rw [fm9.1 _ (by omega), fm8.1 _ (by omega)]
    have fb9 : FB s t2 s8 t9 N := fun i hi => by
      have e : i ≠ N := by omega
      refine ⟨?_, ?_⟩
      · rw [fx8.1 28 (by decide), fx8.1 29 (by decide), fx8.1 30 (by decide), fx8.1 31 (by decide), (z6 i e).1, (z6 i e).2.1, (z6 i e).2.2.1, (z6 i e).2.2.2, fx6.1 28 (by decide), fx6.1 29 (by decide), fx6.1 30 (by decide), fx6.1 31 (by decide)]
        exact ⟨rfl, rfl, rfl, rfl⟩
      · rw [fm9.1 (492 + i) (by omega), fm8.1 (492 + i) (by omega), hp_s_n (by omega), fm6.1 (492 + i) (by omega), hp_s_n (by omega), hp_s_n (by omega), y3.1 (492 + i) (by omega), hp_s_n (by omega)]
    obtain ⟨s10, t10, p10, q10, k10, pl10, w1, w2, j10, fx10, fm10, zz10, hd10⟩ := body_go (row := 492 + N) (a5 := Int32.ofNat N) te hX (hs hd6) (he hd6) (fun s18 => px_jn (fun (s19 : hp_I) => some s19) fun j20 => if (Int32.ofNat N) < (25 : Int32) then (Option.bind (px_ast s18 31 (Int32.ofNat N) (s18 27 4)) fun s21 => j20 s21) else j20 s18) (fun s36 => px_let (hp_s s36 52 8 ((s36 52 8) - (1 : Int32))) fun s37 => Option.bind (px_ast s37 (492 + N) (3 : Int32) (s37 52 24)) fun s18 => Option.bind (fn_M_sign 52 (59 : Int32) s18) fun s20 => some s20) 602 s8 t9 p8 q9 k8 pl8 (N + 1) FU FU 0 (by omega) (FU_gt (by decide)) (FU_gt (by decide)) j9 hq9 cx8 cm9 (u3.xg fx8) (fun ck => by
      have q1 := (hk8 ck).2
      have q2 := (hk6 (hk8 ck).1).2.2
      exact ⟨⟨by rw [fx8.1 27 (by decide)]; exact z1, e24b⟩, e8b, by omega, by omega⟩)
    have j11 : JT X (hp_s s10 31 N (s10 27 4)) (hp_s (hp_s t10 52 8 (t10 52 8 - 1)) (492 + N) 3 (t10 52 24)) p10 q10 k10 pl10 := (j10.ws (j := 8) (x := t10 52 8 - 1) (by decide) (by decide) (by decide) (by decide)).w (by decide) (by decide) (by omega) (by omega)
    obtain ⟨s12, t12, p12, q12, k12, pl12, g3, g4, j12, fx12, fm12, hk12, -⟩ := b_sign te j11 (c := 59) (by decide)
    refine ⟨hp_s s10 31 N (s10 27 4), s12, t12, ?_, g3, ?_, p12, q12, k12, pl12, j12, ((xg8.trans fx10).trans (XG.put (by unfold wkP; omega) (by decide))).trans fx12.g, (((mg9.trans fm10).trans (MG.slot (k := 8) (v := t10 52 8 - 1) (Or.inl rfl))).trans (MG.put (by unfold wmP; omega) (by omega))).trans fm12.g, ?_, fun ck => ?_⟩
    · rw [if_neg (show ¬ (6 : Int32) ≤ Int32.ofNat d from zl_nle (a := 6) hd6 (by decide)), e_let, sd1, n1, e_b2, u1, e_bd, show fn_Tape_expect 1 (91 : Int32) s7 = some s8 from g1, e_bd, e_let, kf_3]
      refine Eq.trans w1 ?_
      rw [e_jn, if_pos (show Int32.ofNat N < 25 from zl_lt (b := 25) hN25 (by decide)), zi_ast (show N < sh_ln 31 by rw [kn_31]; exact hN25) (by omega), e_bd]
    · rw [m_opens m2 h8 hd6, e_b2, if_neg (show ¬ (1 : Int32) = 0 from by decide)]
      try dsimp only
      rw [m3.1.2.2.1, if_pos (show Int32.ofNat 0 = 0 from rfl), y1, e_bd, sm_23, e24, zi_rld (show N < sh_ln 491 by rw [kn_491]; omega) (by omega), kf_491, e_bd, zi_succ, e_let, show ∀ (f : hp_I) (x : Int32), px_ast f (492 + N) (0 : Int32) x = _ from wr 0 (by decide), e_bd, n2, e_b2, show ∀ (f : hp_I) (x : Int32), px_ast f (492 + N) (1 : Int32) x = _ from wr 1 (by decide), e_bd, show fn_M_sign 52 (91 : Int32) _ = some t8 from g2, e_bd, m9, e_bd]
      refine Eq.trans w2 ?_
      rw [e_let, hs_ne (show (52 : Nat) ≠ 52 ∨ (24 : Nat) ≠ 8 from Or.inr (by decide)), show ∀ (f : hp_I) (x : Int32), px_ast f (492 + N) (3 : Int32) x = _ from wr 3 (by decide), e_bd, show fn_M_sign 52 (59 : Int32) _ = some t12 from g4, e_bd]
    · rw [fx12.1 27 (by decide), hs_ne (by omega)]; exact zz10
    · obtain ⟨ck10, hlt12⟩ := hk12 ck
      obtain ⟨ck8, S2, N2, v1, v2, v3, v4, v4b, v5, v6⟩ := hd10 ck10
      have ck6 := (hk8 ck8).1
      have hv60 := in_nat (a := 0) (b := 60) hv (by decide) (by decide) (hk6 ck6).2.1
      have q1 := (hk8 ck8).2
      have q2 := (hk6 ck6).2.2
      have fb12 : FB s8 t9 s12 t12 N := fun i hi => by
        obtain ⟨⟨a1, a2, a3, a4⟩, a5⟩ := v4 i (by omega)
        refine ⟨?_, ?_⟩
        · rw [fx12.1 28 (by decide), fx12.1 29 (by decide), fx12.1 30 (by decide), fx12.1 31 (by decide), hs_ne (by omega), hs_ne (by omega), hs_ne (by omega), hs_ne (by omega)]
          exact ⟨a1, a2, a3, a4⟩
        · rw [fm12.1 (492 + i) (by omega), hp_s_n (by omega), hp_s_n (by omega)]; exact a5
      have eN : (fun i => if i = N then ((6 : Nat), v, (0 : Nat), N2) else S2 i) N = (6, v, 0, N2) := if_pos rfl
      refine ⟨fun i => if i = N then (6, v, 0, N2) else S2 i, N2, by omega, by omega, ⟨?_, ?_⟩, fb9.trans fb12 (Nat.le_refl _), ⟨v4b.1, fun i a b => ?_⟩, ?_, ?_⟩
      · rw [fx12.1 27 (by decide), hs_ne (by omega)]; exact v3.1
      · rw [fm12.2 24 (by decide) (by decide) (by decide), hs_ne (by omega), hs_ne (by omega)]; exact v3.2
      · by_cases e : i = N
        · subst e
          obtain ⟨⟨a1, a2, a3, a4⟩, a5⟩ := v4 i (by omega)
          dsimp only [sK, sA, sB, sE]
          rw [if_pos rfl, fx12.1 28 (by decide), fx12.1 29 (by decide), fx12.1 30 (by decide), fx12.1 31 (by decide), fm12.1 _ (by omega), hs_ne (by omega), hs_ne (by omega), hs_ne (by omega), hs_at, a1, a2, a3, fx8.1 28 (by decide), fx8.1 29 (by decide), fx8.1 30 (by decide)]
          refine ⟨⟨z2, z3, z4, v3.1⟩, ?_, fun _ => ?_, fun e => absurd e (show ¬ 6 < 4 by decide), ?_⟩
          · rw [hs_ne (by omega), hp_s_n (by omega), a5, r7 0 (by decide), hs_ne (by omega), fm6.1 _ (by omega), hs_at]; rfl
          · rw [hs_ne (by omega), hp_s_n (by omega), a5, r7 1 (by decide), hs_at, if_pos ck6]
          · rw [hs_at]; exact v3.2
        · obtain ⟨⟨a1, a2, a3, a4⟩, a5⟩ := v4b.2 i (by omega) b
          dsimp only [sK, sA, sB, sE] at a1 a2 a3 a4 a5 ⊢
          rw [if_neg e, fx12.1 28 (by decide), fx12.1 29 (by decide), fx12.1 30 (by decide), fx12.1 31 (by decide), fm12.1 _ (by omega), hs_ne (by omega), hs_ne (by omega), hs_ne (by omega), hs_ne (by omega), hp_s_n (by omega), hp_s_n (by omega)]
          exact ⟨⟨a1, a2, a3, a4⟩, a5⟩
      · rw [show N2 - N = (N2 - (N + 1)) + 1 by omega]
        refine Or.inr ⟨by omega, ?_, ?_, Or.inl ⟨?_, hd6, ?_, ?_⟩, ?_⟩
        · dsimp only [sE]; rw [if_pos rfl]; show N < N2; omega
        · dsimp only [sE]; rw [if_pos rfl]; exact Nat.le_refl _
        · dsimp only [sK]; rw [if_pos rfl]
        · dsimp only [sA]; rw [if_pos rfl]; exact hv60.2
        · dsimp only [sE]; rw [if_pos rfl]
          exact SEG.congr _ _ _ _ (fun i hi _ => if_neg (by omega)) v5
        · dsimp only [sE]; rw [if_pos rfl]; exact SEG.self _ _ _
      · rw [fm12.2 8 (by decide) (by decide) (by decide), hs_ne (by omega), hs_at, v6, zi_sub1 (by omega)]; rfl
theorem step_end (te : TE X) : SE X (bd_M_readsStep rm 52) := by
  intro t q h hq
  have bf : bI false = 0 := rfl
  have hsl := sk_le te h.2.1
  have nw : ∀ {w : List Nat}, 0 < w.length → wdB X (sk X q) 0 w = false := fun {w} hl => by
    unfold wdB
    rw [decide_eq_false (show ¬ sk X q + w.length ≤ X.2 by omega), Bool.false_and, Bool.and_false]
  have nw2 : ∀ {w : List Nat}, 0 < w.length → wdB X (sk X (sk X q)) 0 w = false := fun {w} hl => by rw [sk_sk te]; exact nw hl
  obtain ⟨t0, q0, a0, b0, c0, e0⟩ := m_isWord te h w_hide.2.1 w_hide.2.2.2.2.1
  rw [if_pos rfl] at e0
  rw [nw w_hide.2.2.2.2.2] at a0
  obtain ⟨t1, q1, a1, b1, c1, e1⟩ := m_isWord te b0 w_call.2.1 w_call.2.2.2.2.1
  rw [if_pos rfl] at e1
  have f1 : q1 = sk X q := by rw [e1, e0, sk_sk te]
  rw [e0, nw2 w_call.2.2.2.2.2] at a1
  obtain ⟨t2, q2, a2, b2, c2, e2⟩ := m_isWord te b1 w_feed.2.1 w_feed.2.2.2.2.1
  rw [if_pos rfl] at e2
  have f2 : q2 = sk X q := by rw [e2, f1, sk_sk te]
  rw [f1, nw2 w_feed.2.2.2.2.2] at a2
  obtain ⟨t3, q3, a3, b3, c3, e3⟩ := m_isWord te b2 w_join.2.1 w_join.2.2.2.2.1
  rw [if_pos rfl] at e3
  have f3 : q3 = sk X q := by rw [e3, f2, sk_sk te]
  rw [f2, nw2 w_join.2.2.2.2.2] at a3
  obtain ⟨t4, q4, a4, b4, c4, e4⟩ := m_isWord te b3 w_shut.2.1 w_shut.2.2.2.2.1
  rw [if_pos rfl] at e4
  have f4 : q4 = sk X q := by rw [e4, f3, sk_sk te]
  rw [f3, nw2 w_shut.2.2.2.2.2] at a4
  obtain ⟨t5, q5, a5, b5, c5, e5⟩ := m_isWord te b4 w_night.2.1 w_night.2.2.2.2.1
  rw [if_pos rfl] at e5
  have f5 : q5 = sk X q := by rw [e5, f4, sk_sk te]
  rw [f4, nw2 w_night.2.2.2.2.2] at a5
  obtain ⟨t6, q6, a6, b6, c6, e6⟩ := m_isWord te b5 w_again.2.1 w_again.2.2.2.2.1
  rw [if_pos rfl] at e6
  have f6 : q6 = sk X q := by rw [e6, f5, sk_sk te]
  rw [f5, nw2 w_again.2.2.2.2.2] at a6
  have hk : fn_M_stepHere 52 t = some (-1, t6) := by unfold fn_M_stepHere; rw [a0, e_b2, if_pos bf, a1, e_b2, if_pos bf, a2, e_b2, if_pos bf, a3, e_b2, if_pos bf, a4, e_b2, if_pos bf, a5, e_b2, if_pos bf, a6, e_b2, e_jn, if_pos bf]
  rw [f6] at b6
  obtain ⟨t7, u1, u2, u3⟩ := m_wrong0 b6 (kd := 1) (by decide) (Int32.ofNat (sk X q))
  refine ⟨t7, sk X q, ?_, u2, ((((((c0.trans c1).trans c2).trans c3).trans c4).trans c5).trans c6).trans u3⟩
  unfold bd_M_readsStep
  rw [hk, e_b2, e_let, e_jn, if_pos (show (-1 : Int32) = -1 from rfl), b6.1.2.1, show fn_M_wrong 52 (1 : Int32) (Int32.ofNat (sk X q)) t6 = some t7 from u1, e_bd]
  try dsimp only
  rw [e_jn, if_neg (show ¬ (-1 : Int32) = 6 from by decide)]
  try dsimp only
  rw [u2.1.2.2.1, if_neg (show ¬ Int32.ofNat 1 = 0 from by decide)]
theorem PS.tr {s t s1 t1 s' t' : hp_I} {p N : Nat} (h : PS X H s1 t1 p N d s' t') (fx : XF s s1) (fm : MF t t1) : PS X H s t p N d s' t' := by
  obtain ⟨p', q', k', pl', h1, h2, h3, h4, h5⟩ := h
  refine ⟨p', q', k', pl', h1, fx.g.trans h2, fm.g.trans h3, h4, fun e => ?_⟩
  obtain ⟨S', N', a1, a2, a3, a4, a5⟩ := h5 e
  exact ⟨S', N', a1, a2, a3, (FB.mf fx fm).trans a4 (Nat.le_refl _), a5⟩
theorem step_ok (te : TE X) (hX : X.2 ≤ 150) (ok : HOK H) (hs : d < 6 → SJ X H (d + 1) (rs 27 1 3 (Int32.ofNat (d + 1))) (rm 52)) (he : d < 6 → SE X (rm 52)) (hd : d ≤ 6) : SJ X H d (bd_Steps_readStep (bd_Steps_readAgain rs) 27 1 3 (Int32.ofNat d)) (bd_M_readsStep rm 52) := by
  intro s t p q N h cx cm sd h8 h6
  have hn0 : fn_Tape_next 1 s = some (Int32.ofNat p) := by unfold fn_Tape_next; rw [h.1.1.2.1]
  have bt : ¬ bI true = 0 := by decide
  have bf : bI false = 0 := rfl
  unfold bd_Steps_readStep
  rw [hn0, e_bd, e_let]
  obtain ⟨s0, t0, q0, a0, b0, f0, g0, fx0, fm0, e0⟩ := b_word te h w_hide
  rw [a0, e_b2, e_jn]
  by_cases c0 : wdB X p 0 [104, 105, 100, 101] = true
  · obtain ⟨x2, m2⟩ := g0 c0
    rw [c0] at b0 ⊢
    have hk : fn_M_stepHere 52 t = some (0, t0) := by unfold fn_M_stepHere; rw [b0, e_b2, if_neg bt]
    obtain ⟨s3, s', t', r1, r2, r3, r4⟩ := b_shide (rm := rm) te hX x2 m2 c0 ok (cx.fr (fx0.1 3 (by decide))) (cm.fr (fm0.1 56 (by decide))) (sd.fr fx0 fm0) (by rw [fm0.2 8 (by decide) (by decide) (by decide)]; exact h8) h6 hk
    refine ⟨s', t', ?_, r3, r4.tr fx0 fm0⟩
    rw [if_neg bt]
    refine (r1 _).trans ?_
    try dsimp only
    rw [r2, e_bd]
  · rw [Bool.not_eq_true] at c0
    have h0 := f0 c0
    rw [c0] at b0 ⊢
    rw [if_pos bf]
    obtain ⟨s1, t1, q1, a1, b1, f1, g1, fx1, fm1, e1⟩ := b_word te h0 w_call
    rw [a1, e_b2]
    by_cases c1 : wdB X p 0 [99, 97, 108, 108] = true
    · obtain ⟨x2, m2⟩ := g1 c1
      rw [c1] at b1 ⊢
      have hk : fn_M_stepHere 52 t = some (1, t1) := by unfold fn_M_stepHere; rw [b0, e_b2, if_pos bf, b1, e_b2, if_neg bt]
      obtain ⟨s3, s', t', r1, r2, r3, r4⟩ := b_scall (rm := rm) te hX x2 m2 c1 ok (cx.fr ((fx0.trans fx1).1 3 (by decide))) (cm.fr ((fm0.trans fm1).1 56 (by decide))) (sd.fr (fx0.trans fx1) (fm0.trans fm1)) (by rw [(fm0.trans fm1).2 8 (by decide) (by decide) (by decide)]; exact h8) h6 hk
      refine ⟨s', t', ?_, r3, r4.tr (fx0.trans fx1) (fm0.trans fm1)⟩
      rw [if_neg bt]
      refine (r1 _).trans ?_
      try dsimp only
      rw [r2, e_bd]
    · rw [Bool.not_eq_true] at c1
      have h1 := f1 c1
      rw [c1] at b1 ⊢
      rw [if_pos bf]
      obtain ⟨s2, t2, q2, a2, b2, f2, g2, fx2, fm2, e2⟩ := b_word te h1 w_feed
      rw [a2, e_b2]
      by_cases c2 : wdB X p 0 [102, 101, 101, 100] = true
      · obtain ⟨x2, m2⟩ := g2 c2
        rw [c2] at b2 ⊢
        have hk : fn_M_stepHere 52 t = some (2, t2) := by unfold fn_M_stepHere; rw [b0, e_b2, if_pos bf, b1, e_b2, if_pos bf, b2, e_b2, if_neg bt]
        obtain ⟨s3, s', t', r1, r2, r3, r4⟩ := b_sfeed (rm := rm) te hX x2 m2 c2 ok (cx.fr (((fx0.trans fx1).trans fx2).1 3 (by decide))) (cm.fr (((fm0.trans fm1).trans fm2).1 56 (by decide))) (sd.fr ((fx0.trans fx1).trans fx2) ((fm0.trans fm1).trans fm2)) (by rw [((fm0.trans fm1).trans fm2).2 8 (by decide) (by decide) (by decide)]; exact h8) h6 hk
        refine ⟨s', t', ?_, r3, r4.tr ((fx0.trans fx1).trans fx2) ((fm0.trans fm1).trans fm2)⟩
        rw [if_neg bt]
        refine (r1 _).trans ?_
        try dsimp only
        rw [r2, e_bd]
      · rw [Bool.not_eq_true] at c2
        have h2 := f2 c2
        rw [c2] at b2 ⊢
        rw [if_pos bf]
        obtain ⟨s3, t3, q3, a3, b3, f3, g3, fx3, fm3, e3⟩ := b_word te h2 w_join
        rw [a3, e_b2]
        by_cases c3 : wdB X p 0 [106, 111, 105, 110] = true
        · obtain ⟨x2, m2⟩ := g3 c3
          rw [c3] at b3 ⊢
          have hk : fn_M_stepHere 52 t = some (3, t3) := by unfold fn_M_stepHere; rw [b0, e_b2, if_pos bf, b1, e_b2, if_pos bf, b2, e_b2, if_pos bf, b3, e_b2, if_neg bt]
          obtain ⟨s3, s', t', r1, r2, r3, r4⟩ := b_sjoin (rm := rm) te hX x2 m2 c3 ok (cx.fr ((((fx0.trans fx1).trans fx2).trans fx3).1 3 (by decide))) (cm.fr ((((fm0.trans fm1).trans fm2).trans fm3).1 56 (by decide))) (sd.fr (((fx0.trans fx1).trans fx2).trans fx3) (((fm0.trans fm1).trans fm2).trans fm3)) (by rw [(((fm0.trans fm1).trans fm2).trans fm3).2 8 (by decide) (by decide) (by decide)]; exact h8) h6 hk
          refine ⟨s', t', ?_, r3, r4.tr (((fx0.trans fx1).trans fx2).trans fx3) (((fm0.trans fm1).trans fm2).trans fm3)⟩
          rw [if_neg bt]
          refine (r1 _).trans ?_
          try dsimp only
          rw [r2, e_bd]
        · rw [Bool.not_eq_true] at c3
          have h3 := f3 c3
          rw [c3] at b3 ⊢
          rw [if_pos bf]
          obtain ⟨s4, t4, q4, a4, b4, f4, g4, fx4, fm4, e4⟩ := b_word te h3 w_shut
          rw [a4, e_b2]
          by_cases c4 : wdB X p 0 [115, 104, 117, 116] = true
          · obtain ⟨x2, m2⟩ := g4 c4
            rw [c4] at b4 ⊢
            have hk : fn_M_stepHere 52 t = some (4, t4) := by unfold fn_M_stepHere; rw [b0, e_b2, if_pos bf, b1, e_b2, if_pos bf, b2, e_b2, if_pos bf, b3, e_b2, if_pos bf, b4, e_b2, if_neg bt]
            obtain ⟨s3, s', t', r1, r2, r3, r4⟩ := b_sshut (rm := rm) te hX x2 m2 c4 ok (cx.fr (((((fx0.trans fx1).trans fx2).trans fx3).trans fx4).1 3 (by decide))) (cm.fr (((((fm0.trans fm1).trans fm2).trans fm3).trans fm4).1 56 (by decide))) (sd.fr ((((fx0.trans fx1).trans fx2).trans fx3).trans fx4) ((((fm0.trans fm1).trans fm2).trans fm3).trans fm4)) (by rw [((((fm0.trans fm1).trans fm2).trans fm3).trans fm4).2 8 (by decide) (by decide) (by decide)]; exact h8) h6 hk
            refine ⟨s', t', ?_, r3, r4.tr ((((fx0.trans fx1).trans fx2).trans fx3).trans fx4) ((((fm0.trans fm1).trans fm2).trans fm3).trans fm4)⟩
            rw [if_neg bt]
            refine (r1 _).trans ?_
            try dsimp only
            rw [r2, e_bd]
          · rw [Bool.not_eq_true] at c4
            have h4 := f4 c4
            rw [c4] at b4 ⊢
            rw [if_pos bf]
            obtain ⟨s5, t5, q5, a5, b5, f5, g5, fx5, fm5, e5⟩ := b_word te h4 w_night
            rw [a5, e_b2]
            by_cases c5 : wdB X p 0 [110, 105, 103, 104, 116] = true
            · obtain ⟨x2, m2⟩ := g5 c5
              rw [c5] at b5 ⊢
              have hk : fn_M_stepHere 52 t = some (5, t5) := by unfold fn_M_stepHere; rw [b0, e_b2, if_pos bf, b1, e_b2, if_pos bf, b2, e_b2, if_pos bf, b3, e_b2, if_pos bf, b4, e_b2, if_pos bf, b5, e_b2, if_neg bt]
              obtain ⟨s3, s', t', r1, r2, r3, r4⟩ := b_snight (rm := rm) te hX x2 m2 c5 ok (cx.fr ((((((fx0.trans fx1).trans fx2).trans fx3).trans fx4).trans fx5).1 3 (by decide))) (cm.fr ((((((fm0.trans fm1).trans fm2).trans fm3).trans fm4).trans fm5).1 56 (by decide))) (sd.fr (((((fx0.trans fx1).trans fx2).trans fx3).trans fx4).trans fx5) (((((fm0.trans fm1).trans fm2).trans fm3).trans fm4).trans fm5)) (by rw [(((((fm0.trans fm1).trans fm2).trans fm3).trans fm4).trans fm5).2 8 (by decide) (by decide) (by decide)]; exact h8) h6 hk
              refine ⟨s', t', ?_, r3, r4.tr (((((fx0.trans fx1).trans fx2).trans fx3).trans fx4).trans fx5) (((((fm0.trans fm1).trans fm2).trans fm3).trans fm4).trans fm5)⟩
              rw [if_neg bt]
              refine (r1 _).trans ?_
              try dsimp only
              rw [r2, e_bd]
            · rw [Bool.not_eq_true] at c5
              have h5 := f5 c5
              rw [c5] at b5 ⊢
              rw [if_pos bf]
              obtain ⟨s6, t6, q6, a6, b6, f6, g6, fx6, fm6, e6⟩ := b_word te h5 w_again
              rw [a6, e_b2]
              by_cases c6 : wdB X p 0 [97, 103, 97, 105, 110] = true
              · obtain ⟨x2, m2⟩ := g6 c6
                rw [c6] at b6 ⊢
                have hk : fn_M_stepHere 52 t = some (6, t6) := by unfold fn_M_stepHere; rw [b0, e_b2, if_pos bf, b1, e_b2, if_pos bf, b2, e_b2, if_pos bf, b3, e_b2, if_pos bf, b4, e_b2, if_pos bf, b5, e_b2, if_pos bf, b6, e_b2, e_jn, if_neg bt]
                obtain ⟨s3, s', t', r1, r2, r3, r4⟩ := b_sagain (rs := rs) (rm := rm) te hX hs he hd x2 m2 c6 (cx.fr (((((((fx0.trans fx1).trans fx2).trans fx3).trans fx4).trans fx5).trans fx6).1 3 (by decide))) (cm.fr (((((((fm0.trans fm1).trans fm2).trans fm3).trans fm4).trans fm5).trans fm6).1 56 (by decide))) (sd.fr ((((((fx0.trans fx1).trans fx2).trans fx3).trans fx4).trans fx5).trans fx6) ((((((fm0.trans fm1).trans fm2).trans fm3).trans fm4).trans fm5).trans fm6)) (by rw [((((((fm0.trans fm1).trans fm2).trans fm3).trans fm4).trans fm5).trans fm6).2 8 (by decide) (by decide) (by decide)]; exact h8) h6 hk
                refine ⟨s', t', ?_, r3, r4.tr ((((((fx0.trans fx1).trans fx2).trans fx3).trans fx4).trans fx5).trans fx6) ((((((fm0.trans fm1).trans fm2).trans fm3).trans fm4).trans fm5).trans fm6)⟩
                rw [if_neg bt, r1, e_bd]
                try dsimp only
                rw [r2, e_bd]
              · rw [Bool.not_eq_true] at c6
                have h6_ := f6 c6
                rw [c6] at b6 ⊢
                rw [if_pos bf]
                have hk : fn_M_stepHere 52 t = some (-1, t6) := by unfold fn_M_stepHere; rw [b0, e_b2, if_pos bf, b1, e_b2, if_pos bf, b2, e_b2, if_pos bf, b3, e_b2, if_pos bf, b4, e_b2, if_pos bf, b5, e_b2, if_pos bf, b6, e_b2, e_jn, if_pos bf]
                have q6e := e6 rfl
                obtain ⟨s7, r1, r2, r3⟩ := c_fail0 h6_.1 (kd := 1) (by decide) (Int32.ofNat p)
                obtain ⟨t7, u1, u2, u3⟩ := m_wrong0 h6_.2.1 (kd := 1) (by decide) (Int32.ofNat p)
                obtain ⟨s8, d1, d2, d3⟩ := c_noexp te r2 (by decide) (c := 59) (by decide)
                refine ⟨s8, t7, ?_, ?_, _, _, 1, _, ⟨d2, u2, fun e => (by cases e), fun e => (by cases e)⟩, ((((((((fx0.trans fx1).trans fx2).trans fx3).trans fx4).trans fx5).trans fx6).trans r3).trans d3).g, (((((((fm0.trans fm1).trans fm2).trans fm3).trans fm4).trans fm5).trans fm6).trans u3).g, ?_, fun e => (by cases e)⟩
                · rw [show fn_Tape_fail 1 (1 : Int32) (Int32.ofNat p) s6 = some s7 from r1, e_bd]
                  try dsimp only
                  rw [show fn_Tape_expect 1 (59 : Int32) s7 = some s8 from d1, e_bd]
                · unfold bd_M_readsStep
                  rw [hk, e_b2, e_let, e_jn, if_pos (show (-1 : Int32) = -1 from rfl), h6_.2.1.1.2.1, q6e, show fn_M_wrong 52 (1 : Int32) (Int32.ofNat p) t6 = some t7 from u1, e_bd]
                  try dsimp only
                  rw [e_jn, if_neg (show ¬ (-1 : Int32) = 6 from by decide)]
                  try dsimp only
                  rw [u2.1.2.2.1, if_neg (show ¬ Int32.ofNat 1 = 0 from by decide)]
                · exact zB.xg ⟨N, by have := h.le; omega, sd.1⟩ ((((((((fx0.trans fx1).trans fx2).trans fx3).trans fx4).trans fx5).trans fx6).trans r3).trans d3)
end WA
theorem rd_all {X : tx} {H : ab_H} (te : TE X) (hX : X.2 ≤ 150) (ok : HOK H) : ∀ e d, d + e = 6 → ∀ g h, 2 * e + 2 ≤ g → e + 1 ≤ h → SJ X H d ((gr_Steps_readStep g).1 27 1 3 (Int32.ofNat d)) (gr_M_readsStep h 52) ∧ SE X (gr_M_readsStep h 52) := by
  intro e
  induction e with
  | zero =>
    intro d hd g h hg hh
    obtain ⟨g, rfl⟩ : ∃ x, g = x + 2 := ⟨g - 2, by omega⟩
    obtain ⟨h, rfl⟩ : ∃ x, h = x + 1 := ⟨h - 1, by omega⟩
    exact ⟨step_ok (rs := (gr_Steps_readStep g).1) (rm := gr_M_readsStep h) te hX ok (fun q => absurd q (by omega)) (fun q => absurd q (by omega)) (by omega), step_end te⟩
  | succ e ih =>
    intro d hd g h hg hh
    obtain ⟨g, rfl⟩ : ∃ x, g = x + 2 := ⟨g - 2, by omega⟩
    obtain ⟨h, rfl⟩ : ∃ x, h = x + 1 := ⟨h - 1, by omega⟩
    have i1 := ih (d + 1) (by omega) g h (by omega) (by omega)
    exact ⟨step_ok (rs := (gr_Steps_readStep g).1) (rm := gr_M_readsStep h) te hX ok (fun _ => i1.1) (fun _ => i1.2) (by omega), step_end te⟩
