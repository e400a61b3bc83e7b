/-! LAW: the whole text, and the call -/
theorem spl_all {X : tx} (te : TE X) (hX : X.2 ≤ 150) : ∀ e d, d + e = 6 → ∀ g h, 4 * e + 4 ≤ g → 3 * e + 3 ≤ h → SP X 0 d ((gr_Law_readSum g).1 21 1 (Int32.ofNat d)) ((gr_M_sum h).1 52) := by
  intro e
  induction e with
  | zero =>
    intro d hd g h hg hh
    obtain ⟨g, rfl⟩ : ∃ x, g = x + 4 := ⟨g - 4, by omega⟩
    obtain ⟨h, rfl⟩ : ∃ x, h = x + 3 := ⟨h - 3, by omega⟩
    exact sp_sum te hX (sp_product te hX (sp_unit (rs := (gr_Law_readSum g).1) (rm := (gr_M_sum h).1) te hX (fun q => absurd q (by omega)) (by omega)))
  | succ e ih =>
    intro d hd g h hg hh
    obtain ⟨g, rfl⟩ : ∃ x, g = x + 4 := ⟨g - 4, by omega⟩
    obtain ⟨h, rfl⟩ : ∃ x, h = x + 3 := ⟨h - 3, by omega⟩
    exact sp_sum te hX (sp_product te hX (sp_unit (rs := (gr_Law_readSum g).1) (rm := (gr_M_sum h).1) te hX (fun _ => ih (d + 1) (by omega) g h (by omega) (by omega)) (by omega)))
theorem cx_law {σ σ' : hp_I} {A : ab_A} {lw : ab_L} (h : CX σ A) (e : ∀ i, i ∈ KXL → i ≠ 21 → i ≠ 22 → σ' i = σ i) (hb : LX σ' lw) : CX σ' (aH A, aR A, lw, aB A, aW A, aI A) := by
  obtain ⟨h1, h2, h3, h4, h5, h6⟩ := h
  refine ⟨h1.fr (fun i a b => e i (by unfold KXL; simp only [List.mem_cons, List.not_mem_nil, or_false]; omega) (by omega) (by omega)), h2.fr (e 33 (by decide) (by decide) (by decide)), hb, ?_, ?_, ?_⟩
  · show BX σ' (aB A)
    unfold BX; rw [e 26 (by decide) (by decide) (by decide)]; exact h4
  · show PX σ' (aH A) (aW A)
    unfold PX; rw [e 38 (by decide) (by decide) (by decide), e 39 (by decide) (by decide) (by decide)]; exact h5
  · show IX σ' (aH A) (aI A)
    unfold IX; rw [e 38 (by decide) (by decide) (by decide), e 40 (by decide) (by decide) (by decide), e 41 (by decide) (by decide) (by decide)]; exact h6
theorem cm_law {σ σ' : hp_I} {A : ab_A} {lw : ab_L} (ok : AOK A) (h : CM σ A) (e : ∀ i, KM i → ¬ (156 ≤ i ∧ i < 316) → σ' i = σ i) (e52 : ∀ k, k ∈ [30, 31, 33] → σ' 52 k = σ 52 k) (hb : LM σ' lw) : CM σ' (aH A, aR A, lw, aB A, aW A, aI A) := by
  obtain ⟨h1, h2, h3, h4, h5, h6⟩ := h
  obtain ⟨o1, o2, o3, o4, o5, o6, o7⟩ := ok
  refine ⟨h1.fr o1 (e 56 (Or.inl rfl) (by omega)) (fun a ha => e _ (by unfold KM; omega) (by omega)), h2.fr (e 572 (by unfold KM; omega) (by omega)), hb, ?_, ?_, ?_⟩
  · have h5' : (aB A).length ≤ 5 := o4.len o1
    refine ⟨(e52 30 (by decide)).trans h4.1, fun k hk => ?_⟩
    have hk2 : k < (aB A).length := hk
    rw [e (478 + k) (by unfold KM; omega) (by omega)]
    exact h4.2 k hk
  · refine ⟨(e52 31 (by decide)).trans h5.1, fun j hj k hk => ?_⟩
    have h16 : (aW A).length ≤ 16 := o5.1
    have hj2 : j < (aW A).length := hj
    rw [e (576 + j) (by unfold KM; omega) (by omega)]
    exact h5.2 j hj k hk
  · refine ⟨(e52 33 (by decide)).trans h6.1, fun i hi => ?_⟩
    have h3' : (aI A).length ≤ 3 := o6
    have hi2 : i < (aI A).length := hi
    rw [e (593 + i) (by unfold KM; omega) (by omega)]
    exact h6.2 i hi
def lwK (s5 : hp_I) : Option hp_I :=
  Option.bind (fn_Tape_failed 1 s5) fun z6 =>
  px_jn (fun (s7 : hp_I) => some s7) fun j8 =>
    if z6 = 0 then (
      Option.bind (px_cpy s5 (sh_rf 21 2) (0 : Int32) (sh_rf 21 0) (0 : Int32) (s5 21 3)) fun s9 =>
      px_let (hp_s s9 21 1 (s9 21 3)) fun s10 =>
      j8 s10
    ) else (
      j8 s5
    )
def lwM (s13 : hp_I) : Option (Int32 × hp_I) :=
  if (s13 52 5) = 0 then (
    px_let (hp_s s13 52 3 (-1 : Int32)) fun s16 =>
    px_let (hp_s s16 52 15 (s16 52 16)) fun s17 =>
    Option.bind (fn_M_lays (sh_rf 52 18) (sh_rf 52 17) (s17 52 15) s17) fun s19 =>
    some ((1 : Int32), s19)
  ) else (
    px_b2 (fn_M_ends 52 s13) fun z14 s15 =>
    some (z14, s15)
  )
theorem lk_2 {L : Nat} {xs y : Nat → Int32} {i : Int32} {s0 : hp_I} {u0 : hp_L} {j : hp_I → hp_L → Option Int32} (hy : SL L xs i y) (r : REL s0) : ∃ s3 u3, lc_2 L xs j i s0 u0 = j s3 u3 ∧ REL s3 := by
  obtain ⟨A, ok, cx, cm, tp, ct⟩ := r
  unfold lc_2 fn_L_law
  simp only [e_let, e_bd, sl_1 hy]
  generalize y 1 = v
  obtain ⟨⟨n, hn, t1, t2, t3⟩, t4⟩ := tp
  have tp : TP s0 := ⟨⟨n, hn, t1, t2, t3⟩, t4⟩
  rcases x_open (v := v) (most := 150) hn t1 t3 (by decide) with ⟨c1, c2⟩ | ⟨c1, m, s1, hm60, hmn, rfl, te, hby, c2, x1, fx1, e11⟩
  · refine text_no (m := fn_M_law 52 v) ok cx cm tp ct ?_ (fun s hs => ?_)
    · unfold fn_X_law
      rw [show fn_X_openText 0 v (150 : Int32) s0 = _ from c2, e_bxl]
    · unfold fn_M_law
      rw [e_let, show hp_s s 52 0 0 52 1 = Int32.ofNat n from by rw [hp_s_i, upd_n (by decide), hs]; exact t2]
      refine (m_gate (most := 150) (by omega) (by decide)).trans ?_
      rw [c1, show fn_M_bad 52 (bI (!false)) (1 : Int32) (1 : Int32) (hp_s s 52 0 0) = _ from md_bad1 1 s0_0 (by decide), if_pos (show (!false) = true from rfl), e_b2, if_neg (show ¬ (1 : Int32) = 0 from by decide)]
  · generalize hX : txX s0 m = X at te hby x1
    have hX2 : X.2 = m := by rw [← hX]; rfl
    have hX150 : X.2 ≤ 150 := by omega
    refine ask_two (s0 := s0) (m := fn_M_law 52 (Int32.ofNat m)) (fun σ hσ => ?_)
    obtain ⟨t, a1, a2, a3, a4, a5, a6, a7, a8, a9⟩ := m_begin te hX2 (fun i hi => (hby i hi).2) hσ
    have jt0 : JT X (hp_s s1 21 3 0) (hp_s t 52 16 0) (sk X 0) (sk X 0) 0 (-1) := ⟨x1.put (by decide) (by decide), a2.slot (by decide) (by decide) (by decide) (by decide), fun _ => sk_sk te 0, fun _ => rfl⟩
    have ld0 : LD (hp_s s1 21 3 0) (hp_s t 52 16 0) [] := ⟨by rw [hs_at]; rfl, by rw [hs_at]; rfl, fun i hi => absurd hi (Nat.not_lt_zero _)⟩
    obtain ⟨s3, t3', r1, r2, pk⟩ := (spl_all te hX150 6 0 (by decide) 64 64 (by decide) (by decide)).2.2 _ _ _ _ [] 0 jt0 ld0 (by rw [hs_ne (by omega), a6]; rfl) (by decide) (Nat.zero_le _)
    obtain ⟨p3, q3, k3, pl3, l, j3, fx3, fm3, z3, hd3⟩ := pk.ex
    obtain ⟨t4', q4, m4, j4, fm4, hq4⟩ := b_blanks te j3
    -- class and model up to the end of the text
    have fin : ∃ s5 t5 p5 q5 k5 pl5, fn_Law_read 21 1 s1 = lwK s5 ∧ fn_M_law 52 (Int32.ofNat m) σ = lwM t5 ∧ JT X s5 t5 p5 q5 k5 pl5 ∧ XF s3 s5 ∧ MF t3' t5 ∧ (k5 = 0 → k3 = 0) := by
      have hcl : ∀ {s5 : hp_I}, (px_jn (fun (s5 : hp_I) => lwK s5) fun j11 => if bI (ovB X p3 k3) = 0 then (Option.bind (fn_Tape_next 1 s3) fun z12 => Option.bind (fn_Tape_fail 1 (1 : Int32) z12 s3) fun s14 => j11 s14) else j11 s3) = lwK s5 → fn_Law_read 21 1 s1 = lwK s5 := by
        intro s5 he
        unfold fn_Law_read
        rw [e_let, show fn_Law_readSum 21 1 (0 : Int32) (hp_s s1 21 3 0) = some s3 from r1, e_bd, c_over te j3.1, e_bd]
        exact he
      have hml : ∀ {t5 : hp_I}, (px_jn (fun (s13 : hp_I) => lwM s13) fun j20 => if (t4' 52 5) = 0 then (if (t4' 52 4) < (t4' 52 2) then (Option.bind (fn_M_wrong 52 (1 : Int32) (t4' 52 4) t4') fun s22 => j20 s22) else j20 t4') else j20 t4') = lwM t5 → fn_M_law 52 (Int32.ofNat m) σ = lwM t5 := by
        intro t5 he
        unfold fn_M_law
        rw [e_let, show hp_s σ 52 0 0 52 1 = Int32.ofNat n from by rw [hp_s_i, upd_n (by decide), hσ 52 (by decide)]; exact t2]
        refine (m_gate (most := 150) (by omega) (by decide)).trans ?_
        rw [c1, show fn_M_bad 52 (bI (!true)) (1 : Int32) (1 : Int32) (hp_s σ 52 0 0) = _ from md_bad1 1 s0_0 (by decide), if_neg (show ¬ (!true) = true from by decide), e_b2, if_pos rfl, a1, e_bd, e_let, show fn_M_sum 52 (hp_s t 52 16 0) = some t3' from r2, e_bd, m4, e_bd]
        exact he
      have h6 := te.1
      have hp3 := j3.le
      by_cases c3 : k3 = 0
      · by_cases co : X.2 ≤ p3
        · refine ⟨s3, t4', p3, q4, k3, pl3, hcl ?_, hml ?_, j4, XF.refl, fm4, fun e => e⟩
          · rw [e_jn, show ovB X p3 k3 = true from by unfold ovB; rw [decide_eq_true co, Bool.or_true], if_neg (show ¬ bI true = 0 from by decide)]
          · rw [e_jn, j4.2.1.1.2.2.1, if_pos ((k_0 j4.2.1.2.2.1).mpr c3), j4.2.1.1.2.1, j4.2.1.1.1, hq4 c3, if_neg (zl_nlt co (by omega))]
        · obtain ⟨s5, t5, u1, u2, u3, u4, u5, -⟩ := b_fail j4 (kd := 1) (by decide) (by decide) (Int32.ofNat p3)
          refine ⟨s5, t5, p3, q4, _, _, hcl ?_, hml ?_, u3, u4, fm4.trans u5, fun e => c3⟩
          · rw [e_jn, show ovB X p3 k3 = false from by unfold ovB; rw [decide_eq_false co, decide_eq_false (fun e => e c3)]; rfl, if_pos (show bI false = 0 from rfl)]
            unfold fn_Tape_next
            rw [e_bd, j3.1.1.2.1, show fn_Tape_fail 1 (1 : Int32) (Int32.ofNat p3) s3 = some s5 from u1, e_bd]
          · rw [e_jn, j4.2.1.1.2.2.1, if_pos ((k_0 j4.2.1.2.2.1).mpr c3), j4.2.1.1.2.1, j4.2.1.1.1, hq4 c3, if_pos (zl_lt (by omega) (by omega)), show fn_M_wrong 52 (1 : Int32) (Int32.ofNat p3) t4' = some t5 from u2, e_bd]
      · refine ⟨s3, t4', p3, q4, k3, pl3, hcl ?_, hml ?_, j4, XF.refl, fm4, fun e => e⟩
        · rw [e_jn, show ovB X p3 k3 = true from by unfold ovB; rw [decide_eq_true (show k3 ≠ 0 from c3)]; rfl, if_neg (show ¬ bI true = 0 from by decide)]
        · rw [e_jn, if_neg (j4.2.1.z c3)]
    obtain ⟨s5, t5, p5, q5, k5, pl5, ex, em, j5, fx5, fm5, hk5⟩ := fin
    have xl : XL (hp_s s1 21 3 0) s5 := fx3.trans fx5.l
    have mg : MG lwP lwJ (hp_s t 52 16 0) t5 := fm3.trans fm5.g
    have k5f : ∀ i, i ≠ 1 → i ≠ 21 → i ≠ 23 → s5 i = s0 i := fun i h1 h2 h3 => by rw [xl.1 i h1 h2 h3, hp_s_n h2, fx1 i h1]
    have k521 : ∀ j, j ≠ 3 → s5 21 j = s0 21 j := fun j hj => by rw [xl.2.2 j hj, hs_ne (Or.inr hj), fx1 21 (by decide)]
    have s11 : s5 1 1 = 0 := by rw [xl.2.1, hp_s_n (by decide)]; exact e11
    have mi : ∀ i, i ≠ 52 → ¬ lwP i → t5 i = σ i := fun i h1 h2 => by rw [mg.1 i h1 h2, hp_s_n h1, a3 i h1]
    have mj : ∀ j, 8 < j → j ≠ 16 → t5 52 j = s0 52 j := fun j hj h16 => by rw [mg.2 j (by omega) (by omega) (by omega) (by unfold lwJ; omega), hs_ne (Or.inr h16), a9 j hj]
    have m0 : t5 52 0 = 0 := by rw [mg.2 0 (by decide) (by decide) (by decide) (by unfold lwJ; decide), hs_ne (by omega), a7]
    have m1 : t5 52 1 = 0 := by rw [mg.2 1 (by decide) (by decide) (by decide) (by unfold lwJ; decide), hs_ne (by omega), a4]
    have cx5 : ∀ s : hp_I, (∀ i, i ≠ 1 → i ≠ 21 → i ≠ 22 → i ≠ 23 → s i = s0 i) → LX s (aL A) → CX s A := fun s hs1 hs2 => by
      have := cx_law (σ' := s) cx (fun i hi h21 h22 => hs1 i (by intro e; rw [e] at hi; exact absurd hi (by decide)) h21 h22 (by intro e; rw [e] at hi; exact absurd hi (by decide))) hs2
      exact this
    by_cases ck : k5 = 0
    · obtain ⟨-, hpp, h8', ld3, ok3, hll, -⟩ := hd3 (hk5 ck)
      rw [List.nil_append] at ld3
      have ld5 : LD s5 t5 l := ld3.fr fx5 fm5
      have hl150 : l.length ≤ 150 := by have := j3.le; omega
      obtain ⟨s9, b1, b2, b3⟩ := cpw (σ := s5) (a := 23) (b := 22) (n := l.length) (by rw [ln_23]; exact hl150) (by rw [ln_22]; exact hl150) (by omega)
      obtain ⟨s19, l1, l2, l3⟩ := ms_layr (a := 316) (b := 155) (N := l.length) (w := 2) (A := 317) (B := 156) (t := hp_s (hp_s t5 52 3 (-1)) 52 15 (Int32.ofNat l.length)) (by omega) (by decide) (by rw [mn_316]; omega) (by rw [mn_155]; omega) mf_316 mf_155 (fun i hi => mn_317 i (by omega)) (fun i hi => mn_156 i (by omega)) (fun i j hi hj => by omega)
      refine ⟨1, hp_s s9 21 1 (Int32.ofNat l.length), s19, ?_, fun i hi => ?_, ?_, ?_, fun hs => ?_⟩
      · have xt9 : XT X (hp_s s9 21 1 (Int32.ofNat l.length)) p5 k5 pl5 := j5.1.fr (by rw [hp_s_n (by decide), b3 1 (by decide)]) (by rw [hp_s_n (by decide), b3 2 (by decide)])
        unfold fn_X_law
        rw [show fn_X_openText 0 (Int32.ofNat m) (150 : Int32) s0 = _ from c2, e_bxr, xf_3, xf_0, ex]
        unfold lwK
        rw [c_failed j5.1, decide_eq_false (show ¬ k5 ≠ 0 from fun e => e ck), e_bd, e_jn, if_pos (show bI false = 0 from rfl), lf_2, lf_0, ld5.1, b1, e_bd, show s9 21 3 = Int32.ofNat l.length from by rw [b3 21 (by decide)]; exact ld5.1, e_let, e_bd, c_failed xt9, decide_eq_false (show ¬ k5 ≠ 0 from fun e => e ck), e_bd, e_jn, if_pos (show bI false = 0 from rfl)]
      · rw [hp_s_n (by omega), b3 i (by omega)]; exact k5f i (by omega) (by omega) (by omega)
      · rw [em]
        unfold lwM
        rw [j5.2.1.1.2.2.1, if_pos ((k_0 j5.2.1.2.2.1).mpr ck), e_let, hs_ne (show (52 : Nat) ≠ 52 ∨ (16 : Nat) ≠ 3 from Or.inr (by decide)), ld5.2.1, e_let, hs_at, sm_18, sm_17, l1, e_bd]
      · rw [l3 52 (by omega), hs_ne (by omega), hs_ne (by omega)]; exact m0
      · have lo : ∀ i, i < 52 → s19 i = σ i := fun i hi => by rw [l3 i (by omega), hp_s_n (by omega), hp_s_n (by omega)]; exact mi i (by omega) (by unfold lwP; omega)
        have j52 : ∀ j, 8 < j → j ≠ 15 → j ≠ 16 → s19 52 j = s0 52 j := fun j h1 h2 h3 => by rw [l3 52 (by omega), hs_ne (by omega), hs_ne (by omega)]; exact mj j h1 h3
        have cx' : CX σ (aH A, aR A, l, aB A, aW A, aI A) := by
          rw [hs]
          refine cx_law cx (fun i hi h21 h22 => ?_) ⟨by rw [hs_at], fun k hk => ?_⟩
          · have hne : i ≠ 1 ∧ i ≠ 23 := ⟨by intro e; rw [e] at hi; exact absurd hi (by decide), by intro e; rw [e] at hi; exact absurd hi (by decide)⟩
            rw [hp_s_n h21, b3 i h22]; exact k5f i hne.1 h21 hne.2
          · rw [hp_s_n (by decide), b2 k hk]; exact (ld5.2.2 k hk).1
        have cm' : CM s19 (aH A, aR A, l, aB A, aW A, aI A) := by
          refine cm_law ok cm (fun i hi h2 => ?_) (fun k hk => ?_) ⟨?_, fun k hk => ?_⟩
          · have : 52 < i := by unfold KM at hi; omega
            rw [l3 i (by omega), hp_s_n (by omega), hp_s_n (by omega), mi i (by omega) (by unfold KM at hi; unfold lwP; omega), hσ i (by omega)]
          · revert hk
            simp only [List.mem_cons, List.not_mem_nil, or_false]
            intro hk
            exact j52 k (by omega) (by omega) (by omega)
          · rw [l3 52 (by omega), hs_at]
          · rw [l2 k 0 hk (by decide), l2 k 1 hk (by decide), hp_s_n (by omega), hp_s_n (by omega)]
            exact (ld5.2.2 k hk).2
        refine rel_mk (s1 := σ) (A := (aH A, aR A, l, aB A, aW A, aI A)) ⟨ok.1, ok.2.1, ⟨hl150, Or.inr (okr_okl l 0 ok3)⟩, ok.2.2.2⟩ cx' cm' lo (tp_end ?_ ?_ ?_ (t4.2.fr (by rw [lo 42 (by decide), hs, hp_s_n (by decide), b3 42 (by decide)]; exact k5f 42 (by decide) (by decide) (by decide)) (by rw [lo 43 (by decide), hs, hp_s_n (by decide), b3 43 (by decide)]; exact k5f 43 (by decide) (by decide) (by decide)))) ?_
        · rw [lo 1 (by decide), hs, hp_s_n (by decide), b3 1 (by decide)]; exact s11
        · rw [l3 52 (by omega), hs_ne (by omega), hs_ne (by omega)]; exact m1
        · rw [l3 52 (by omega), hs_ne (by omega), hs_at, lo 1 (by decide), hs, hp_s_n (by decide), b3 1 (by decide), j5.1.1.2.2.2, j5.2.2.2 ck]
        · unfold CT
          rw [j52 32 (by decide) (by decide) (by decide), lo 0 (by decide), l3 54 (by omega), hp_s_n (by decide), hp_s_n (by decide), mi 54 (by decide) (by unfold lwP; omega), hσ 54 (by decide), hs, hp_s_n (by decide), b3 0 (by decide), k5f 0 (by decide) (by decide) (by decide)]
          exact ct
    · refine ⟨Int32.ofNat k5 - 10, s5, hp_s t5 52 3 pl5, ?_, fun i hi => k5f i (by omega) (by omega) (by omega), ?_, ?_, fun hs => ?_⟩
      · unfold fn_X_law
        rw [show fn_X_openText 0 (Int32.ofNat m) (150 : Int32) s0 = _ from c2, e_bxr, xf_3, xf_0, ex]
        unfold lwK
        rw [c_failed j5.1, decide_eq_true (show k5 ≠ 0 from ck), e_bd, e_jn, if_neg (show ¬ bI true = 0 from by decide), e_bd, c_failed j5.1, decide_eq_true (show k5 ≠ 0 from ck), e_bd, e_jn, if_neg (show ¬ bI true = 0 from by decide)]
        unfold fn_Tape_faultAnswer
        rw [j5.1.1.2.2.1, e_bd]
      · rw [em]
        unfold lwM fn_M_ends
        rw [if_neg (j5.2.1.z ck), j5.2.1.1.2.2.2, e_let, hs_ne (by omega), j5.2.1.1.2.2.1, e_b2]
      · rw [hs_ne (by omega)]; exact m0
      · refine rel_fault ok (cx5 s5 (fun i h1 h2 _ h3 => k5f i h1 h2 h3) ?_) cm ct (k5f 0 (by decide) (by decide) (by decide)) (fun i hi => ?_) (fun i hi => ?_) (fun j hj => ?_) ?_ s11 ?_ ?_ ?_
        · have lx := cx.2.2.1
          refine ⟨by rw [k521 1 (by decide)]; exact lx.1, fun k hk => ?_⟩
          rw [k5f 22 (by decide) (by decide) (by decide)]; exact lx.2 k hk
        · rw [hp_s_n (by omega), mi i (by omega) (by unfold lwP; omega), hs]
        · have : 52 < i := by unfold KM at hi; omega
          rw [hp_s_n (by omega), mi i (by omega) (by unfold KM at hi; unfold lwP; omega), hσ i (by omega)]
        · revert hj
          simp only [List.mem_cons, List.not_mem_nil, or_false]
          intro hj
          rw [hs_ne (by omega)]
          exact mj j (by omega) (by omega)
        · rw [hp_s_n (by decide), mi 54 (by decide) (by unfold lwP; omega), hσ 54 (by decide)]
        · rw [hs_ne (by omega)]; exact m1
        · rw [hs_at, j5.1.1.2.2.2]
        · exact t4.2.fr (k5f 42 (by decide) (by decide) (by decide)) (k5f 43 (by decide) (by decide) (by decide))
