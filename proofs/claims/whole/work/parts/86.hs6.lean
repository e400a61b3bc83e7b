/-! HOUSE: the call -/
def hsM (s_14 : hp_I) : Option (Int32 × hp_I) :=
  if (s_14 52 5) = 0 then (
    px_let (hp_s s_14 52 3 (-1 : Int32)) fun s17 =>
    Option.bind (fn_M_beginsAnew 52 s17) fun s19 =>
    Option.bind (px_ald s19 (sh_rf 52 12) (2 : Int32)) fun z20 =>
    some (z20, s19)
  ) else (
    px_b2 (fn_M_ends 52 s_14) fun z15 s16 =>
    some (z15, s16)
  )
def H0 : ab_H := (0, 0, 0, 0, fun _ _ => 0)
theorem H0_ok : HOK H0 := ⟨by decide, by decide, by decide, by decide, fun r hr => absurd hr (Nat.not_lt_zero _), fun r hr => absurd hr (Nat.not_lt_zero _), fun r hr => absurd hr (Nat.not_lt_zero _), fun r hr => absurd hr (Nat.not_lt_zero _)⟩
theorem pt_38 {σ : hp_I} {H : ab_H} (h0 : σ 38 0 = 0) : PX σ H [] := ⟨h0, fun j hj => absurd hj (Nat.not_lt_zero _)⟩
theorem lk_1 {L : Nat} {xs y : Nat → Int32} {i : Int32} {s0 : hp_I} {u0 : hp_L} {j : hp_I → hp_L → Option Int32} (hy : SL L xs i y) (r : REL s0) : ∃ s3 u3, lc_1 L xs j i s0 u0 = j s3 u3 ∧ REL s3 := by
  obtain ⟨A, ok, cx, cm, tp, ct⟩ := r
  unfold lc_1 fn_L_house
  simp only [e_let, e_bd, sl_1 hy]
  generalize y 1 = v
  obtain ⟨⟨n, hn, t1, t2, t3⟩, t4⟩ := tp
  have tp : TP s0 := ⟨⟨n, hn, t1, t2, t3⟩, t4⟩
  have hmin : min n 600 = n := Nat.min_eq_left hn
  rcases x_open (v := v) (most := 600) hn t1 t3 (by decide) with ⟨c1, c2⟩ | ⟨c1, m, s1, hm60, hmn, rfl, te, hby, c2, x1, fx1, e11⟩
  · rw [hmin] at c1
    refine text_no (m := fn_M_house 52 v) ok cx cm tp ct ?_ (fun s hs => ?_)
    · unfold fn_X_house
      rw [show fn_X_openText 0 v (600 : Int32) s0 = _ from c2, e_bxl]
    · unfold fn_M_house
      rw [e_let, show hp_s s 52 0 0 52 1 = Int32.ofNat n from by rw [hp_s_i, upd_n (by decide), hs]; exact t2, ms_in', e_bd, c1, e_jn, if_pos (show bI false = 0 from rfl)]; try dsimp only; rw [show fn_M_bad 52 (1 : Int32) (1 : Int32) (1 : Int32) (hp_s s 52 0 0) = _ from md_bad1 (b := true) 1 s0_0 (by decide), if_pos rfl, e_b2, if_neg (show ¬ (1 : Int32) = 0 from by decide)]
  · rw [hmin] at c1
    generalize hX : txX s0 m = X at te hby x1
    have hX2 : X.2 = m := by rw [← hX]; rfl
    refine ask_two (s0 := s0) (m := fn_M_house 52 (Int32.ofNat m)) (fun σ hσ => ?_)
    obtain ⟨t, a1, a2, a3, a4, a5, a6, a7, a8, a9⟩ := m_begin te hX2 (fun i hi => (hby i hi).2) hσ
    obtain ⟨tt, d1, d2, d3⟩ := bg_t (s := t) (fun s_4 => some s_4)
    have mtt : MT X tt (sk X 0) 0 (-1) := by
      unfold MT
      rw [d3 52 (by decide), d3 53 (by decide)]
      exact a2
    have x5 : XT X (hp_s (hp_s (hp_s (hp_s s1 12 0 0) 12 1 0) 12 2 0) 12 3 0) (sk X 0) 0 (-1) := (((x1.put (by decide) (by decide)).put (by decide) (by decide)).put (by decide) (by decide)).put (by decide) (by decide)
    obtain ⟨s', t', p', q', k', pl', H', z1, z2, z3, z4, z5, z6⟩ := b_house te (fun s_15 => some s_15) hsM 601 (hp_s (hp_s (hp_s (hp_s s1 12 0 0) 12 1 0) 12 2 0) 12 3 0) tt (sk X 0) (sk X 0) 0 (-1) H0 FU FU (by have := te.1; omega) (by decide) (by decide) ⟨x5, mtt, fun _ => sk_sk te 0, fun _ => rfl⟩ (fun _ => rfl) (fun _ => ⟨H0_ok, ⟨⟨by rw [hs_ne (by omega), hs_ne (by omega), hs_ne (by omega), hs_at]; rfl, by rw [hs_ne (by omega), hs_ne (by omega), hs_at]; rfl, by rw [hs_ne (by omega), hs_at]; rfl, by rw [hs_at]; rfl⟩, fun r hr => absurd hr (Nat.not_lt_zero _), fun r hr => absurd hr (Nat.not_lt_zero _), fun r hr => absurd hr (Nat.not_lt_zero _), fun r hr => absurd hr (Nat.not_lt_zero _)⟩, ⟨⟨d2 0 (by decide), d2 1 (by decide), d2 2 (by decide), d2 3 (by decide)⟩, fun r hr => absurd hr (Nat.not_lt_zero _), fun r hr => absurd hr (Nat.not_lt_zero _), fun r hr => absurd hr (Nat.not_lt_zero _), fun r hr => absurd hr (Nat.not_lt_zero _)⟩, by rw [d3 52 (by decide)]; exact a5⟩)
    have ex : fn_House_read 12 1 s1 = some s' := by
      unfold fn_House_read
      simp only [e_let]
      exact z1
    have em : fn_M_house 52 (Int32.ofNat m) σ = hsM t' := by
      unfold fn_M_house fn_M_tellsNothing
      rw [e_let, show hp_s σ 52 0 0 52 1 = Int32.ofNat n from by rw [hp_s_i, upd_n (by decide), hσ 52 (by decide)]; exact t2, ms_in', e_bd, c1, e_jn, if_neg (show ¬ bI true = 0 from by decide)]; try dsimp only; rw [show fn_M_bad 52 (0 : Int32) (1 : Int32) (1 : Int32) (hp_s σ 52 0 0) = _ from md_bad1 (b := false) 1 s0_0 (by decide), if_neg (show ¬ false = true from by decide), e_b2, if_pos rfl, a1, e_bd, e_let, show fn_M_tellsNothing_L2 52 (fun s_4 => some s_4) FU (0 : Int32) t = _ from d1, e_bd]
      exact z2
    have k5 : ∀ i, i ≠ 1 → ¬ hsP i → s' i = s0 i := fun i h1 h2 => by
      have h12 : i ≠ 12 := by intro e; exact h2 (by unfold hsP; omega)
      rw [z4.1 i h1 h2, hp_s_n h12, hp_s_n h12, hp_s_n h12, hp_s_n h12, fx1 i h1]
    have s11 : s' 1 1 = 0 := by rw [z4.2, hp_s_n (by decide), hp_s_n (by decide), hp_s_n (by decide), hp_s_n (by decide)]; exact e11
    have kf2 : ∀ i, i ∈ KXL → s' i = s0 i := fun i hi => by
      revert hi
      unfold KXL
      simp only [List.mem_cons, List.not_mem_nil, or_false]
      intro hi
      exact k5 i (by omega) (by unfold hsP; omega)
    have mi : ∀ i, i ≠ 52 → ¬ hmP i → t' i = σ i := fun i h1 h2 => by
      have h55 : i ≠ 55 := by intro e; exact h2 (by unfold hmP; omega)
      rw [z5.1 i h1 h2, d3 i h55, a3 i h1]
    have mj : ∀ j, 8 < j → t' 52 j = s0 52 j := fun j hj => by rw [z5.2 j (by omega) (by omega) (by omega) (by unfold hmJ; omega), d3 52 (by decide), a9 j hj]
    have m0 : t' 52 0 = 0 := by rw [z5.2 0 (by decide) (by decide) (by decide) (by unfold hmJ; decide), d3 52 (by decide), a7]
    have m1 : t' 52 1 = 0 := by rw [z5.2 1 (by decide) (by decide) (by decide) (by unfold hmJ; decide), d3 52 (by decide), a4]
    by_cases ck : k' = 0
    · obtain ⟨ok', dx', dm'⟩ := z6 ck
      obtain ⟨s7, r1, r2, r3⟩ := xs_copyFrom ok' dx'
      have hx13 : HX (hp_s (hp_s (hp_s (hp_s (hp_s s7 21 1 0) 26 0 0) 26 1 0) 38 0 0) 38 1 0) H' := r2.fr (fun i h1 h2 => by rw [hp_s_n (by omega), hp_s_n (by omega), hp_s_n (by omega), hp_s_n (by omega), hp_s_n (by omega)])
      obtain ⟨s15, b1, b2, b3⟩ := xs_begin ok' hx13
      have dm2 : DM (hp_s t' 52 3 (-1)) H' := dm'.fr (fun i hi => hp_s_n hi)
      obtain ⟨s3, n1, n2, n3, n4, n5, n6⟩ := ms_anew ok' dm2
      have hx15 : HX s15 H' := hx13.fr (fun i h1 h2 => b3 i (by omega))
      refine ⟨Int32.ofNat (hS H'), hp_s s15 0 13 0, s3, ?_, fun i hi => ?_, ?_, ?_, fun hs => ?_⟩
      · unfold fn_X_house fn_Law_forget fn_Book_forget fn_Past_forget
        rw [show fn_X_openText 0 (Int32.ofNat m) (600 : Int32) s0 = _ from c2, e_bxr, xf_2, xf_0, xf_1, xf_3, xf_4, xf_8, xf_6, ex, e_bd, c_failed z3.1, decide_eq_false (show ¬ k' ≠ 0 from fun e => e ck), e_bd, if_pos (show bI false = 0 from rfl), r1, e_bd]
        simp only [e_let, e_bd, b1]
        rw [hs_ne (by omega), hx_S hx15]
      · rw [hp_s_n (by omega), b3 i (by omega), hp_s_n (by omega), hp_s_n (by omega), hp_s_n (by omega), hp_s_n (by omega), hp_s_n (by omega), r3 i (by omega), k5 i (by omega) (by unfold hsP; omega)]
      · rw [em]
        unfold hsM
        rw [z3.2.1.1.2.2.1, if_pos ((k_0 z3.2.1.2.2.1).mpr ck), e_let, n1, e_bd, sm_12, show px_ald s3 56 (2 : Int32) = some (s3 56 2) from zi_ald (a := 2) (by rw [sn_56]; decide) (by decide), n2.1.2.2.1, e_bd]
      · rw [n5 0 (by decide), hs_ne (by omega)]; exact m0
      · have lo : ∀ i, i < 52 → s3 i = σ i := fun i hi => by rw [n6 i (by omega) (by omega) (by omega) (by omega), hp_s_n (by omega)]; exact mi i (by omega) (by unfold hmP; omega)
        have cx' : CX σ (H', rho0 H', [], [], [], []) := by
          rw [hs]
          refine ⟨hx15.fr (fun i h1 h2 => hp_s_n (by omega)), b2.fr (hp_s_n (by decide)), ⟨?_, fun k hk => absurd hk (Nat.not_lt_zero _)⟩, ⟨?_, ?_⟩, ⟨?_, fun k hk => absurd hk (Nat.not_lt_zero _)⟩, ⟨?_, fun k hk => absurd hk (Nat.not_lt_zero _)⟩⟩
          · rw [hp_s_n (by decide), b3 21 (by decide), hs_ne (by omega), hs_ne (by omega), hs_ne (by omega), hs_ne (by omega), hs_at]; rfl
          · rw [hp_s_n (by decide), b3 26 (by decide), hs_ne (by omega), hs_ne (by omega), hs_ne (by omega), hs_at]; rfl
          · rw [hp_s_n (by decide), b3 26 (by decide), hs_ne (by omega), hs_ne (by omega), hs_at]; rfl
          · rw [hp_s_n (by decide), b3 38 (by decide), hs_ne (by omega), hs_at]; rfl
          · rw [hp_s_n (by decide), b3 38 (by decide), hs_at]; rfl
        have cm' : CM s3 (H', rho0 H', [], [], [], []) := ⟨n2, n3, ⟨n4.1, fun k hk => absurd hk (Nat.not_lt_zero _)⟩, ⟨n4.2.1, fun k hk => absurd hk (Nat.not_lt_zero _)⟩, ⟨n4.2.2.1, fun k hk => absurd hk (Nat.not_lt_zero _)⟩, ⟨n4.2.2.2.2, fun k hk => absurd hk (Nat.not_lt_zero _)⟩⟩
        refine rel_mk (s1 := σ) (A := (H', rho0 H', [], [], [], [])) ⟨ok', rho0_ok ok', ⟨Nat.zero_le _, Or.inl rfl⟩, ⟨fun q hq => (by cases hq), List.nodup_nil⟩, ⟨Nat.zero_le _, fun q hq => (by cases hq)⟩, Nat.zero_le _, fun q hq => (by cases hq)⟩ cx' cm' lo (tp_end ?_ ?_ ?_ (t4.2.fr (by rw [lo 42 (by decide), hs, hp_s_n (by decide), b3 42 (by decide), hp_s_n (by decide), hp_s_n (by decide), hp_s_n (by decide), hp_s_n (by decide), hp_s_n (by decide), r3 42 (by decide), k5 42 (by decide) (by unfold hsP; omega)]) (by rw [lo 43 (by decide), hs, hp_s_n (by decide), b3 43 (by decide), hp_s_n (by decide), hp_s_n (by decide), hp_s_n (by decide), hp_s_n (by decide), hp_s_n (by decide), r3 43 (by decide), k5 43 (by decide) (by unfold hsP; omega)]))) ?_
        · rw [lo 1 (by decide), hs, hp_s_n (by decide), b3 1 (by decide), hp_s_n (by decide), hp_s_n (by decide), hp_s_n (by decide), hp_s_n (by decide), hp_s_n (by decide), r3 1 (by decide)]; exact s11
        · rw [n5 1 (by decide), hs_ne (by omega)]; exact m1
        · rw [n5 3 (by decide), hs_at, lo 1 (by decide), hs, hp_s_n (by decide), b3 1 (by decide), hp_s_n (by decide), hp_s_n (by decide), hp_s_n (by decide), hp_s_n (by decide), hp_s_n (by decide), r3 1 (by decide), z3.1.1.2.2.2, z3.2.2.2 ck]
        · unfold CT
          rw [n4.2.2.2.1, lo 0 (by decide), hs, hs_at, n6 54 (by decide) (by decide) (by decide) (by decide), hp_s_n (show 54 ≠ 52 by decide), mi 54 (by decide) (by unfold hmP; omega), hσ 54 (by decide), hs_ne (by omega), hs_ne (by omega), b3 0 (by decide), hp_s_n (by decide), hp_s_n (by decide), hp_s_n (by decide), hp_s_n (by decide), hp_s_n (by decide), r3 0 (by decide), k5 0 (by decide) (by unfold hsP; omega)]
          exact ⟨rfl, ct.2⟩
    · refine ⟨Int32.ofNat k' - 10, s', hp_s t' 52 3 pl', ?_, fun i hi => k5 i (by omega) (by unfold hsP; omega), ?_, ?_, fun hs => ?_⟩
      · unfold fn_X_house
        rw [show fn_X_openText 0 (Int32.ofNat m) (600 : Int32) s0 = _ from c2, e_bxr, xf_2, xf_0, ex, e_bd, c_failed z3.1, decide_eq_true (show k' ≠ 0 from ck), e_bd, if_neg (show ¬ bI true = 0 from by decide)]
        unfold fn_Tape_faultAnswer
        rw [z3.1.1.2.2.1, e_bd]
      · rw [em]
        unfold hsM fn_M_ends
        rw [z3.2.1.1.2.2.1, if_neg (fun e => ck ((k_0 z3.2.1.2.2.1).mp e)), z3.2.1.1.2.2.2, e_let, hp_s_i, upd_n (by decide), z3.2.1.1.2.2.1, e_b2]
      · rw [hp_s_i, upd_n (by decide)]; exact m0
      · refine rel_fault ok (cx.fr kf2) cm ct (k5 0 (by decide) (by unfold hsP; omega)) (fun i hi => ?_) (fun i hi => ?_) (fun j hj => ?_) ?_ s11 ?_ ?_ ?_
        · rw [hp_s_n (by omega), mi i (by omega) (by unfold hmP; omega), hs]
        · have : 52 < i := by unfold KM at hi; omega
          rw [hp_s_n (by omega), mi i (by omega) (by unfold KM at hi; unfold hmP; omega), hσ i (by omega)]
        · revert hj
          simp only [List.mem_cons, List.not_mem_nil, or_false]
          intro hj
          rw [hp_s_i, upd_n (by omega)]
          exact mj j (by omega)
        · rw [hp_s_n (by decide), mi 54 (by decide) (by unfold hmP; omega), hσ 54 (by decide)]
        · rw [hp_s_i, upd_n (by decide)]; exact m1
        · rw [hp_s_i, upd_i, z3.1.1.2.2.2]
        · exact t4.2.fr (k5 42 (by decide) (by unfold hsP; omega)) (k5 43 (by decide) (by unfold hsP; omega))
