/-! SLIPS: the model's nights; the call -/
section MNI
variable {σ t : hp_I} {P Q : Nat → Nat → Prop} {s g : Nat} {H : ab_H} {ρ : ab_R} {lw : ab_L} {a1 a2 a3 : Int32} {k : hp_I → Option (Int32 × hp_I)} {Φ : Option (Int32 × hp_I) → Prop}
theorem m_l63 (h : ∀ s', Fc [596] t s' → (∀ j, j < 8000 → s' 596 j = 0) → Φ (k s')) : Φ (fn_M_slips_L63 52 a1 a2 k FU 0 t) := by
  obtain ⟨s', h1, h2, h3⟩ := zS (L := fun fu s i => fn_M_slips_L63 52 a1 a2 k fu i s) (k := k) (N := 8000) (i0 := 0) (s := t) (fun i s => Fc [596] t s ∧ ∀ j, j < i → s 596 j = 0) (fun fu s _ => by
    try dsimp only
    rw [fn_M_slips_L63, if_neg (by decide)]) (fun fu i s _ hi h => by
    try dsimp only
    refine ⟨hp_s s 596 i 0, ?_, h.1.trans (Fc.put (by decide)), fun j hj => ?_⟩
    · rw [fn_M_slips_L63, if_pos (show Int32.ofNat i < 8000 from zl_lt (b := 8000) (by omega) (by omega)), sm_37, nar0, zi_ast (by rw [sn_596]; omega) (by omega), e_bd, e_let, zi_succ i]
    · by_cases e : j = i
      · rw [e, hs_at]
      · rw [hs_ne (Or.inr e)]; exact h.2 j (by omega)) (by omega) (by omega) ⟨Fc.refl, fun j hj => absurd hj (Nat.not_lt_zero _)⟩
  have e : fn_M_slips_L63 52 a1 a2 k FU 0 t = k s' := h1
  rw [e]
  exact h s' h2 h3
theorem m_l158 (h : ∀ s', Fc [597] t s' → (∀ j, j < 8000 → s' 597 j = 0) → Φ (k s')) : Φ (fn_M_slips_L158 52 a1 a2 a3 k FU 0 t) := by
  obtain ⟨s', h1, h2, h3⟩ := zS (L := fun fu s i => fn_M_slips_L158 52 a1 a2 a3 k fu i s) (k := k) (N := 8000) (i0 := 0) (s := t) (fun i s => Fc [597] t s ∧ ∀ j, j < i → s 597 j = 0) (fun fu s _ => by
    try dsimp only
    rw [fn_M_slips_L158, if_neg (by decide)]) (fun fu i s _ hi h => by
    try dsimp only
    refine ⟨hp_s s 597 i 0, ?_, h.1.trans (Fc.put (by decide)), fun j hj => ?_⟩
    · rw [fn_M_slips_L158, if_pos (show Int32.ofNat i < 8000 from zl_lt (b := 8000) (by omega) (by omega)), sm_38, nar0, zi_ast (by rw [sn_597]; omega) (by omega), e_bd, e_let, zi_succ i]
    · by_cases e : j = i
      · rw [e, hs_at]
      · rw [hs_ne (Or.inr e)]; exact h.2 j (by omega)) (by omega) (by omega) ⟨Fc.refl, fun j hj => absurd hj (Nat.not_lt_zero _)⟩
  have e : fn_M_slips_L158 52 a1 a2 a3 k FU 0 t = k s' := h1
  rw [e]
  exact h s' h2 h3
theorem m_l227 (ms : MSt t 597 Q) (h : ∀ s', Fc [596] t s' → MSt s' 596 Q → Φ (k s')) : Φ (fn_M_slips_L227 52 a1 a2 a3 k FU 0 t) := by
  obtain ⟨s', h1, h2, h3⟩ := zS (L := fun fu s i => fn_M_slips_L227 52 a1 a2 a3 k fu i s) (k := k) (N := 8000) (i0 := 0) (s := t) (fun i s => Fc [596] t s ∧ ∀ j, j < i → s 596 j = t 597 j) (fun fu s _ => by
    try dsimp only
    rw [fn_M_slips_L227, if_neg (by decide)]) (fun fu i s _ hi h => by
    try dsimp only
    have hv : vp_nar .boolean (t 597 i) = t 597 i := by
      have h0 := (ms (i / 1000) (i % 1000) (by omega) (by omega)).1
      rw [show 1000 * (i / 1000) + i % 1000 = i by omega] at h0
      rcases h0 with h0 | h0
      · rw [h0, nar0]
      · rw [h0, nar1]
    refine ⟨hp_s s 596 i (t 597 i), ?_, h.1.trans (Fc.put (by decide)), fun j hj => ?_⟩
    · rw [fn_M_slips_L227, if_pos (show Int32.ofNat i < 8000 from zl_lt (b := 8000) (by omega) (by omega)), sm_38, zi_ald (by rw [sn_597]; omega) (by omega), e_bd, h.1 597 (by decide), hv, sm_37, zi_ast (by rw [sn_596]; omega) (by omega), e_bd, e_let, zi_succ i]
    · by_cases e : j = i
      · rw [e, hs_at]
      · rw [hs_ne (Or.inr e)]; exact h.2 j (by omega)) (by omega) (by omega) ⟨Fc.refl, fun j hj => absurd hj (Nat.not_lt_zero _)⟩
  have e : fn_M_slips_L227 52 a1 a2 a3 k FU 0 t = k s' := h1
  rw [e]
  exact h s' h2 (fun r z hr hz => by rw [h3 _ (by omega)]; exact ms r z hr hz)
theorem m_l183 (hm : HM t H) (lm : LM t lw) (ok : HOK H) (lo : LOK lw) (rm : RM t 574 H ρ) (ou : Out H s ρ P) (hs : s < hS H) (m6 : MSt t 596 P) (m7 : ∀ j, j < 8000 → t 597 j = 0) (h : ∀ s', Fc [489, 490, 573, 597] t s' → MSt s' 597 (nP H lw ρ s P) → Φ (k s')) : Φ (fn_M_slips_L183 52 (Int32.ofNat s) a2 a3 k FU 0 t) := by
  have hR8 := ok.1
  obtain ⟨s', h1, h2, h3⟩ := zS (L := fun fu s' i => fn_M_slips_L183 52 (Int32.ofNat s) a2 a3 k fu i s') (k := k) (N := 8000) (i0 := 0) (s := t) (fun i s' => Fc [489, 490, 573, 597] t s' ∧ MSt s' 597 (fun e y => ∃ o z, z < 1000 ∧ 1000 * o + z < i ∧ P o z ∧ e < hR H ∧ mst H lw ρ s o z e y)) (fun fu s' _ => by
    try dsimp only
    rw [fn_M_slips_L183, if_neg (by decide)]) (fun fu i s' _ hi h => by
    try dsimp only
    have ei : 1000 * (i / 1000) + i % 1000 = i := by omega
    have m6i := m6 (i / 1000) (i % 1000) (by omega) (by omega)
    rw [ei] at m6i
    rw [fn_M_slips_L183, if_pos (show Int32.ofNat i < 8000 from zl_lt (b := 8000) (by omega) (by omega)), sm_37, zi_ald (by rw [sn_596]; omega) (by omega), e_bd, h.1 596 (by decide), e_jn]
    rcases m6i.1 with c | c
    · refine ⟨s', ?_, h.1, h.2.iff (fun e y _ _ => ?_)⟩
      · rw [if_pos c]
        dsimp only
        rw [e_let, zi_succ i]
      · constructor
        · rintro ⟨o, z, q1, q2, q3⟩
          exact ⟨o, z, q1, by omega, q3⟩
        · rintro ⟨o, z, q1, q2, q3, q4⟩
          by_cases ce : 1000 * o + z = i
          · have e1 : o = i / 1000 := by omega
            have e2 : z = i % 1000 := by omega
            rw [e1, e2] at q3
            have := m6i.2.mpr q3
            rw [c] at this
            exact absurd this (by decide)
          · exact ⟨o, z, q1, by omega, q3, q4⟩
    · have hp := m6i.2.mp c
      have hb := ou.2.2 _ _ hp
      obtain ⟨s2, g1, g2, g3⟩ := m_from (sml_hm ok hm (h.1.mono (by decide))) (sml_lm lo lm (h.1.mono (by decide))) ok lo (rm.fr (h.1 574 (by decide))) ou.1 hs ou.2.1.1 ou.2.1.2 hb.1 hb.2.1 hb.2.2 h.2
      refine ⟨s2, ?_, h.1.trans g2, g3.iff (fun e y _ _ => ?_)⟩
      · rw [if_neg (by rw [c]; decide), show (1000 : Int32) = Int32.ofNat 1000 from rfl, zi_dv (by omega) (by omega) (by omega), e_bd, zi_rem (by omega) (by omega) (by omega), e_bd, g1, e_bd]
        dsimp only
        rw [e_let, zi_succ i]
      · constructor
        · rintro (⟨o, z, q1, q2, q3⟩ | q)
          · exact ⟨o, z, q1, by omega, q3⟩
          · exact ⟨i / 1000, i % 1000, by omega, by omega, hp, q⟩
        · rintro ⟨o, z, q1, q2, q3, q4⟩
          by_cases ce : 1000 * o + z = i
          · have e1 : o = i / 1000 := by omega
            have e2 : z = i % 1000 := by omega
            rw [e1, e2] at q4
            exact Or.inr q4
          · exact Or.inl ⟨o, z, q1, by omega, q3, q4⟩) (by omega) (by omega) ⟨Fc.refl, fun r z hr hz => by
      rw [m7 _ (by omega)]
      exact ⟨Or.inl rfl, fun q => absurd q (by decide), fun ⟨o, z, _, q, _⟩ => absurd q (Nat.not_lt_zero _)⟩⟩
  have e : fn_M_slips_L183 52 (Int32.ofNat s) a2 a3 k FU 0 t = k s' := h1
  rw [e]
  refine h s' h2 (h3.iff (fun e y _ hy => ?_))
  constructor
  · rintro ⟨o, z, q1, q2, q3, q4, q5, q6, q7⟩
    have hb := ou.2.2 _ _ q3
    obtain ⟨y', k1, k2, k3⟩ := gz_nat (lw := lw) (ρ := ρ) (s := s) ok q4 hb.2.1 hb.2.2
    have ey : y = y' := (zi_inj (by omega) (by omega)).mp (q6.trans k3)
    exact ⟨q4, by omega, z, hb.2.2, ⟨o, hb.1, q5.elim (fun q => Or.inl q.symm) (fun q => Or.inr ((bes_sym ok hb.1 q4).mp q)), q3⟩, q6, q7⟩
  · rintro ⟨q4, _, z, q1, ⟨o, q2, q3, q5⟩, q6, q7⟩
    exact ⟨o, z, by omega, by omega, q5, q4, q3.elim (fun q => Or.inl q.symm) (fun q => Or.inr ((bes_sym ok q4 q2).mp q)), q6, q7⟩
theorem m_night (hm : HM σ H) (lm : LM σ lw) (ok : HOK H) (lo : LOK lw) (hs : s < hS H) (hg : g < hR H) : ∀ cnt n fu t ρ P, n + cnt = 41 → cnt < fu → Out H s ρ P → Fc SML σ t → RM t 574 H ρ → MSt t 596 P → ∃ t', fn_M_slips_L139 52 (Int32.ofNat s) (Int32.ofNat g) (fun (s_45 : hp_I) => some ((-1 : Int32), s_45)) fu (Int32.ofNat n) t = some (fN H lw s g cnt n ρ P, t') ∧ Fc SML σ t' := by
  have h8 := ok.1
  intro cnt
  induction cnt with
  | zero =>
    intro n fu t ρ P hn hf o fr rm ms
    cases fu with
    | zero => omega
    | succ fu =>
      rw [fn_M_slips_L139, if_neg (show ¬ Int32.ofNat n ≤ 40 from zl_nle (b := 40) (by omega) (by omega))]
      exact ⟨t, rfl, fr⟩
  | succ cnt ih =>
    intro n fu t ρ P hn hf o fr rm ms
    cases fu with
    | zero => omega
    | succ fu =>
      obtain ⟨v, m1, m2⟩ := m_any ms (g := g) (by omega)
      rw [fn_M_slips_L139, if_pos (show Int32.ofNat n ≤ 40 from zl_le (b := 40) (by omega) (by omega)), m1, e_bd, fN]
      by_cases cv : v = 0
      · rw [if_pos cv, if_neg (m2.mp cv), e_let]
        refine m_l158 (Φ := fun e => ∃ t', e = some (fN H lw s g cnt (n + 1) (sp_night H lw ρ) (nP H lw ρ s P), t') ∧ Fc SML σ t') (fun s1 f1 z1 => ?_)
        try dsimp only
        rw [e_let]
        have fr1 : Fc SML σ s1 := fr.trans (f1.mono (by decide))
        refine m_l183 (Φ := fun e => ∃ t', e = some (fN H lw s g cnt (n + 1) (sp_night H lw ρ) (nP H lw ρ s P), t') ∧ Fc SML σ t') (sml_hm ok hm fr1) (sml_lm lo lm fr1) ok lo (rm.fr (f1 574 (by decide))) o hs (ms.fr (f1 596 (by decide))) z1 (fun s2 f2 ms2 => ?_)
        try dsimp only
        rw [e_let]
        refine m_l227 (Φ := fun e => ∃ t', e = some (fN H lw s g cnt (n + 1) (sp_night H lw ρ) (nP H lw ρ s P), t') ∧ Fc SML σ t') ms2 (fun s3 f3 ms3 => ?_)
        try dsimp only
        have fr3 : Fc SML σ s3 := (fr1.trans (f2.mono (by decide))).trans (f3.mono (by decide))
        have rm3 : RM s3 574 H ρ := rm.fr (((f3 574 (by decide)).trans (f2 574 (by decide))).trans (f1 574 (by decide)))
        obtain ⟨s4, g1, g2, g3⟩ := ms_nightEnds (Or.inr (Or.inr rfl)) (sml_hm ok hm fr3) (sml_lm lo lm fr3) rm3 ok lo o.1
        rw [sm_27, g1, e_bd, e_let, zi_succ n]
        exact ih (n + 1) fu s4 (sp_night H lw ρ) (nP H lw ρ s P) (by omega) (by omega) (out_night ok hs o) (fr3.trans (g3.mono (by decide))) g2 (ms3.fr (g3 596 (by decide)))
      · rw [if_neg cv, if_pos (Classical.byContradiction (fun q => cv (m2.mpr q)))]
        exact ⟨t, rfl, fr⟩
end MNI
section SLQ
variable {σ : hp_I} {A : ab_A}
theorem mb_g1 {v v' t2 : Int32} {G : Int32 → hp_I → Option (Int32 × hp_I)} (h : G 1 (mbad (hp_s σ 52 0 0) 1 0) = some (v', mbad (hp_s σ 52 0 0) 1 0)) : MQs σ (px_b2 (fn_M_bad 52 (1 : Int32) (1 : Int32) (0 : Int32) (hp_s σ 52 0 0)) G) 1 v t2 := by
  have e1 : fn_M_bad 52 (1 : Int32) (1 : Int32) (0 : Int32) (hp_s σ 52 0 0) = some ((1 : Int32), mbad (hp_s σ 52 0 0) 1 0) := mb_1 0 s0_0 (by decide) (by decide)
  rw [e1, e_b2]
  exact mq_1 h
theorem mb_g0 {v t2 : Int32} {q : Nat} {G : Int32 → hp_I → Option (Int32 × hp_I)} (h : MQs σ (G 0 (hp_s σ 52 0 0)) q v t2) : MQs σ (px_b2 (fn_M_bad 52 (0 : Int32) (1 : Int32) (0 : Int32) (hp_s σ 52 0 0)) G) q v t2 := by
  have e0 : fn_M_bad 52 (0 : Int32) (1 : Int32) (0 : Int32) (hp_s σ 52 0 0) = some ((0 : Int32), hp_s σ 52 0 0) := mb_0 0 s0_0 (by decide) (by decide)
  rw [e0, e_b2]
  exact h
theorem mbad_52 {s : hp_I} {t : Int32} {r : Nat} : mbad s t r 52 0 = t := by unfold mbad; rw [hp_s_n (show 52 ≠ 54 by decide), hp_s_i, upd_i]
theorem mq_slips (ok : AOK A) (cm : CM σ A) (p w : Int32) : MQs σ (fn_M_slips 52 p w σ) (qb_o (oneB p (hS (aH A))) (qb_o (oneB w (hR (aH A))) 0)) (slA (aH A) (aL A) (aR A) p.toNatClampNeg w.toNatClampNeg) 1 := by
  unfold fn_M_slips
  have cm0 := cm_0 ok cm
  have hc := cnt_lt ok.1
  have h8 := ok.1.1
  have hS8 := ok.1.2.2.1
  rw [e_let, mt_S cm.1 ok.1, e_bd, e_jn]
  try dsimp only
  rw [e_jn]
  try dsimp only
  refine mor (mb_g1 (v' := 0) ?_) fun h1 => ?_
  · try dsimp only
    rw [e_jn]
    try dsimp only
    rw [if_neg (by decide), e_jn]
    try dsimp only
    rw [mbad_52, if_neg (by decide)]
  rw [mt_R cm.1 ok.1, e_bd]
  refine mor (mb_g1 (v' := 0) ?_) fun h2 => ?_
  · try dsimp only
    rw [e_jn]
    try dsimp only
    rw [if_neg (by decide), e_jn]
    try dsimp only
    rw [mbad_52, if_neg (by decide)]
  refine mb_g0 ?_
  try dsimp only
  obtain ⟨s, hs, rfl⟩ := oneB_z (by omega) h1
  obtain ⟨g, hg, rfl⟩ := oneB_z (by omega) h2
  rw [zi_nat (by omega), zi_nat (by omega)]
  rw [e_jn]
  try dsimp only
  rw [if_pos rfl, sm_25, ms_lives cm0.2.1, e_bd]
  unfold slA
  by_cases hl : hasB (aR A 1) s = true
  · rw [hl, if_neg (show ¬ bI true = 0 by decide), if_pos rfl, e_let]
    obtain ⟨⟨r, hr, er⟩, y, y1, y2, ey⟩ := ok.2.1.1 s hs
    refine m_l63 (Φ := fun e => MQs σ e 0 (fN (aH A) (aL A) s g 41 0 (lvo s (aR A)) (fun r z => r < 8 ∧ z < 1000 ∧ P0 (aR A) s r z)) 1) (fun s1 f1 z1 => ?_)
    try dsimp only
    have rm1 : RM s1 572 (aH A) (aR A) := cm0.2.1.fr (f1 572 (by decide))
    rw [rm_5 rm1 ok.1 s hs, e_bd, rm_13 rm1 ok.1 s hs, e_bd, er, ey, ix1000, nar1, sm_37, zi_ast (by rw [sn_596]; omega) (by omega), e_bd, sm_27]
    have rm2 : RM (hp_s s1 596 (1000 * r + y) 1) 572 (aH A) (aR A) := rm1.fr (hp_s_n (by decide))
    obtain ⟨s3, a1, a2, a3⟩ := ms_copyR ok.1 (show 572 ≠ 574 by decide) sn_574 rm2
    rw [a1, e_bd, rm_1 a3, e_bd, show (42 : Int32) = Int32.ofNat 42 from rfl, zi_ast (by rw [sn_574]; decide) (by decide), e_bd, e_let]
    have rm4 : RM (hp_s s3 574 42 (aR A 1 &&& (bitI s ^^^ (-1)))) 574 (aH A) (lvo s (aR A)) := a3.put ok.1 (k := 1) (by decide)
    have f4 : Fc SML (hp_s σ 52 0 0) (hp_s s3 574 42 (aR A 1 &&& (bitI s ^^^ (-1)))) := (((f1.mono (by decide)).trans (Fc.put (by decide))).trans (a2.mono (by decide))).trans (Fc.put (by decide))
    have ms0 : MSt s1 596 (fun _ _ => False) := fun r z hr hz => by
      rw [z1 _ (by omega)]
      exact ⟨Or.inl rfl, fun q => absurd q (by decide), fun q => q.elim⟩
    have ms4 : MSt (hp_s s3 574 42 (aR A 1 &&& (bitI s ^^^ (-1)))) 596 (fun r z => r < 8 ∧ z < 1000 ∧ P0 (aR A) s r z) := by
      refine MSt.iff ((ms0.put (r := r) (y := y) (by omega) (by omega)).fr ((hp_s_n (by decide)).trans (a2 596 (by decide)))) (fun r' z' hr' hz' => ?_)
      constructor
      · rintro (q | ⟨q1, q2⟩)
        · exact q.elim
        · rw [q1, q2]; exact ⟨by omega, by omega, er.symm, ey.symm⟩
      · rintro ⟨q1, q2, q3, q4⟩
        exact Or.inr ⟨(zi_inj (by omega) (by omega)).mp (q3.trans er), (zi_inj (by omega) (by omega)).mp (q4.trans ey)⟩
    obtain ⟨t', g1, g2⟩ := m_night cm0.1 cm0.2.2.1 ok.1 ok.2.2.1 hs hg 41 0 FU _ (lvo s (aR A)) _ (by omega) (show 41 < 100000 by omega) (out_0 ok.1 hs ok.2.1 hl) f4 rm4 ms4
    exact mq_fc g1 (fc_m g2 (by decide))
  · have hl' : hasB (aR A 1) s = false := by simpa using hl
    rw [hl', if_pos (show bI false = 0 from rfl), if_neg (by decide), e_jn]
    try dsimp only
    rw [s0_0, if_pos rfl]
    exact mq_v0 rfl
abbrev SCX : List Nat := [24, 25, 34, 36, 37, 42, 43, 44, 45, 46, 47, 48, 49, 50, 51]
theorem lk_17 {L : Nat} {xs y : Nat → Int32} {i : Int32} {s0 : hp_I} {u0 : hp_L} {j : hp_I → hp_L → Option Int32} (hy : SL L xs i y) (r : REL s0) : ∃ s3 u3, lc_17 L xs j i s0 u0 = j s3 u3 ∧ REL s3 := by
  obtain ⟨A, ok, cx, cm, tp, ct⟩ := r
  have hc := cnt_lt ok.1
  have h8 := ok.1.1
  have hS8 := ok.1.2.2.1
  unfold lc_17 fn_L_slips
  simp only [e_let, e_bd, sl_1 hy, sl_2 hy]
  by_cases h1 : oneB (y 1) (hS (aH A)) = true
  · by_cases h2 : oneB (y 2) (hR (aH A)) = true
    · have hmq : ∀ s, CM s A → MQs s (fn_M_slips 52 (y 1) (y 2) s) 0 (slA (aH A) (aL A) (aR A) (y 1).toNatClampNeg (y 2).toNatClampNeg) 1 := fun s h => by
        have := mq_slips ok h (y 1) (y 2)
        rw [h1, h2] at this
        exact this
      have hX : ∃ s1, fn_X_slips 0 (y 1) (y 2) s0 = some (.inr (slA (aH A) (aL A) (aR A) (y 1).toNatClampNeg (y 2).toNatClampNeg, s1)) ∧ Fc SCX s0 s1 ∧ SLI s1 := by
        unfold fn_X_slips
        rw [xf_1, hx_S cx.1, xd_one', if_pos h1, e_bxr, hx_R cx.1, xd_one', if_pos h2, e_bxr, xf_7, xf_6]
        obtain ⟨s1, a1, a2⟩ := xs_copy ok cx
        obtain ⟨s, hs, es⟩ := oneB_z (by omega) h1
        obtain ⟨g, hg, eg⟩ := oneB_z (by omega) h2
        have f1 : Fc SXQ s0 s1 := a2.1
        have cx1 := a2.cx cx
        obtain ⟨s2, b1, b2, b3⟩ := c_few (s := s) (g := g) cx1.1 cx1.2.2.1 ok.1 ok.2.2.1 ok.2.1 a2.2.1 (tp.2.2.fr (f1 42 (by decide)) (f1 43 (by decide))) hs hg
        refine ⟨s2, ?_, (f1.mono (by decide)).trans (b2.mono (by decide)), b3⟩
        rw [a1, e_bd, xf_9, es, eg, b1, e_b2, zi_nat (by omega), zi_nat (by omega)]
      obtain ⟨s1, he, hf, hsl⟩ := hX
      have cx1 : CX s1 A := cx.fr (fun i hi => hf i (by
        revert hi
        unfold KXL
        simp only [List.mem_cons, List.not_mem_nil, or_false]
        omega))
      have cm1 : CM s1 A := cm.hi ok (fun i hi => hf i (by simp only [List.mem_cons, List.not_mem_nil, or_false]; omega))
      have tp1 : TP s1 := by
        unfold TP
        rw [hf 52 (by decide), hf 53 (by decide), hf 1 (by decide), hf 2 (by decide)]
        exact ⟨tp.1, tp.2.1, hsl⟩
      have ct1 : CT s1 := by
        unfold CT
        rw [hf 52 (by decide), hf 54 (by decide), hf 0 (by decide)]
        exact ct
      obtain ⟨s3, k1, k2⟩ := ask_end (u := hp_t u0 601 0 (slA (aH A) (aL A) (aR A) (y 1).toNatClampNeg (y 2).toNatClampNeg).toInt64) (k := 0) (j := j) ok cx1 cm1 tp1 ct1 (fun s h _ => hmq s h) (Or.inl ⟨rfl, Fc.refl, rfl, tau_ld u0 _⟩)
      refine ⟨s3, hp_t u0 601 0 (slA (aH A) (aL A) (aR A) (y 1).toNatClampNeg (y 2).toNatClampNeg).toInt64, ?_, k2⟩
      rw [he, e_c0r, tau_st, e_bd, e_b3]
      exact k1
    · have h2' : oneB (y 2) (hR (aH A)) = false := by simpa using h2
      refine ask_0 (q := 1) (v := 0) ok cx cm tp ct (Or.inr (Or.inl ⟨rfl, ?_⟩)) (by decide) (fun s h _ => ?_)
      · unfold fn_X_slips
        rw [xf_1, hx_S cx.1, xd_one', if_pos h1, e_bxr, hx_R cx.1, xd_one', if_neg h2, e_bxl]
      · have := mq_slips ok h (y 1) (y 2)
        rw [h1, h2'] at this
        obtain ⟨v', σ', g1, g2, g3, g4, g5⟩ := this
        exact ⟨v', σ', g1, g2, fun q => absurd q (by decide), g4, fun q => absurd q (by decide)⟩
  · have h1' : oneB (y 1) (hS (aH A)) = false := by simpa using h1
    refine ask_0 (q := 1) (v := 0) ok cx cm tp ct (Or.inr (Or.inl ⟨rfl, ?_⟩)) (by decide) (fun s h _ => ?_)
    · unfold fn_X_slips
      rw [xf_1, hx_S cx.1, xd_one', if_neg h1, e_bxl]
    · have := mq_slips ok h (y 1) (y 2)
      rw [h1'] at this
      obtain ⟨v', σ', g1, g2, g3, g4, g5⟩ := this
      exact ⟨v', σ', g1, g2, fun q => absurd q (by decide), g4, fun q => absurd q (by decide)⟩
end SLQ
