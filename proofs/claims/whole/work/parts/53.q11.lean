/-! SEASONS: the model; season, span -/
section SEC
variable {σ s : hp_I} {A : ab_A} {a : ab_R × Int32}
theorem TM.lot {ρ : ab_R} {v : Int32} (h : TM A 573 σ s ρ) : TMS A σ (hp_s s 52 44 v) (ρ, v) := by
  refine ⟨⟨h.1.trans ⟨Fc.put (by decide), fun k hk => ?_⟩, ⟨?_, ?_⟩, h.2.2.1.fr (hp_s_n (by decide)), h.2.2.2⟩, by rw [hp_s_i, upd_i]⟩
  · rw [hp_s_i, upd_n]
    intro e
    rw [e] at hk
    exact absurd hk (by decide)
  · rw [hp_s_i, upd_n (by decide)]; exact h.2.1.1
  · rw [hp_s_n (by decide)]; exact h.2.1.2
theorem TM.row {s' : hp_I} {ρ ρ' : ab_R} (h : TM A 573 σ s ρ) (rm : RM s' 573 (aH A) ρ') (f : Fc [573] s s') (ro : ROK (aH A) ρ') : TM A 573 σ s' ρ' := h.to (fc_m f (by decide)) rm ro
theorem vk5 {H : ab_H} {t : Nat} (h : t < hS H) : vk H (5 + t) := Or.inr (Or.inl ⟨by omega, by omega⟩)
theorem vk37 {H : ab_H} {t : Nat} (h : t < hC H) : vk H (37 + t) := Or.inr (Or.inr (Or.inr (Or.inr (Or.inr (Or.inl ⟨by omega, by omega⟩)))))
theorem ms_sea1 {β : Type} (J : hp_I → Option β) (ok : AOK A) (cm : CM σ A) (h : TMS A σ s a) : ∃ s', (if (0 : Int32) < Int32.ofNat (hS (aH A)) then Option.bind (some (Int32.ofNat (hS (aH A)))) fun z25 => px_b2 (fn_M_draw 52 z25 s) fun z26 s27 => Option.bind (px_ald s27 56 (0 : Int32)) fun z29 => px_b2 (fn_M_draw 52 z29 s27) fun z30 s31 => Option.bind (fn_M_lives 573 z26 s31) fun z33 => if z33 = 0 then J s31 else px_b2 (fn_M_goesTo 52 573 ((0 : Int32) + z26) z30 s31) fun z34 s35 => J s35 else J s) = J s' ∧ TMS A σ s' (sea1 (aH A) a) := by
  have c1 := h.1.cm ok cm
  have hc := cnt_lt ok.1
  unfold sea1
  by_cases h0 : 0 < hS (aH A)
  · have hr := hok_R ok.1 (Or.inl h0)
    rw [if_pos (show (0 : Int32) < Int32.ofNat (hS (aH A)) from zl_lt (a := 0) h0 (by omega)), if_pos h0, e_bd, ms_draw h0 (by omega), h.2, e_b2]
    have t1 := h.1.lot (v := sd_n a.2)
    have c2 := t1.1.cm ok cm
    have v1 : hp_s s 52 44 (sd_n a.2) 52 44 = sd_n a.2 := t1.2
    rw [(hm_n c2.1).1, e_bd, ms_draw hr (by omega), v1, e_b2]
    have t2 := t1.1.lot (v := sd_n (sd_n a.2))
    have c3 := t2.1.cm ok cm
    have r2 : RM (hp_s (hp_s s 52 44 (sd_n a.2)) 52 44 (sd_n (sd_n a.2))) 573 (aH A) a.1 := t2.1.2.2.1
    rw [ms_lives r2, e_bd, bI_if]
    obtain ⟨s', g1, g2, g3⟩ := ms_goes c3.1 r2 ok.1 (k := 5) (b := 0) (t := sd_d (sd_n a.2) (hS (aH A))) (q := sd_d (sd_n (sd_n a.2)) (hR (aH A))) rfl (by decide) (vk5 (sd_lt _ h0)) (sd_lt _ hr)
    rw [show fn_M_goesTo 52 573 ((0 : Int32) + Int32.ofNat (sd_d (sd_n a.2) (hS (aH A)))) (Int32.ofNat (sd_d (sd_n (sd_n a.2)) (hR (aH A)))) (hp_s (hp_s s 52 44 (sd_n a.2)) 52 44 (sd_n (sd_n a.2))) = _ from g1, e_b2]
    by_cases h1 : hasB (a.1 1) (sd_d (sd_n a.2) (hS (aH A))) = true
    · rw [if_pos h1, if_pos h1]
      refine ⟨s', rfl, t2.1.row g2 g3 (rok_hide ok.1 h.1.2.2.2 (sd_lt _ h0) (sd_lt _ hr)), ?_⟩
      rw [g3 52 (by decide)]
      exact t2.2
    · rw [if_neg h1, if_neg h1]
      exact ⟨_, rfl, t2⟩
  · rw [if_neg (show ¬ (0 : Int32) < Int32.ofNat (hS (aH A)) from zl_nlt (a := 0) (by omega) (by decide)), if_neg h0]
    exact ⟨s, rfl, h⟩
theorem ms_sea2 {β : Type} (J : hp_I → Option β) (q : Int32) (ok : AOK A) (cm : CM σ A) (h : TMS A σ s a) : ∃ s', (if (0 : Int32) < Int32.ofNat (hC (aH A)) then px_b2 (fn_M_draw 52 (16 : Int32) s) fun z13 s14 => if z13 < q then Option.bind (px_ald s14 56 (3 : Int32)) fun z15 => px_b2 (fn_M_draw 52 z15 s14) fun z16 s17 => Option.bind (px_ald s17 56 (0 : Int32)) fun z19 => px_b2 (fn_M_draw 52 z19 s17) fun z20 s21 => px_b2 (fn_M_goesTo 52 573 ((32 : Int32) + z16) z20 s21) fun z22 s23 => J s23 else J s14 else J s) = J s' ∧ TMS A σ s' (sea2 (aH A) q a) := by
  have hc := cnt_lt ok.1
  unfold sea2
  by_cases h0 : 0 < hC (aH A)
  · have hr := hok_R ok.1 (Or.inr h0)
    rw [if_pos (show (0 : Int32) < Int32.ofNat (hC (aH A)) from zl_lt (a := 0) h0 (by omega)), if_pos h0, show fn_M_draw 52 (16 : Int32) s = _ from ms_draw (n := 16) (by decide) (by decide), h.2, e_b2]
    have t1 := h.1.lot (v := sd_n a.2)
    have c2 := t1.1.cm ok cm
    have v1 : hp_s s 52 44 (sd_n a.2) 52 44 = sd_n a.2 := t1.2
    by_cases h1 : Int32.ofNat (sd_d (sd_n a.2) 16) < q
    · rw [if_pos h1, if_pos h1, (hm_n c2.1).2.2.2, e_bd, ms_draw h0 (by omega), v1, e_b2]
      have t2 := t1.1.lot (v := sd_n (sd_n a.2))
      have c3 := t2.1.cm ok cm
      have v2 : hp_s (hp_s s 52 44 (sd_n a.2)) 52 44 (sd_n (sd_n a.2)) 52 44 = sd_n (sd_n a.2) := t2.2
      rw [(hm_n c3.1).1, e_bd, ms_draw hr (by omega), v2, e_b2]
      have t3 := t2.1.lot (v := sd_n (sd_n (sd_n a.2)))
      have c4 := t3.1.cm ok cm
      have r3 : RM (hp_s (hp_s (hp_s s 52 44 (sd_n a.2)) 52 44 (sd_n (sd_n a.2))) 52 44 (sd_n (sd_n (sd_n a.2)))) 573 (aH A) a.1 := t3.1.2.2.1
      obtain ⟨s', g1, g2, g3⟩ := ms_goes c4.1 r3 ok.1 (k := 37) (b := 32) (t := sd_d (sd_n (sd_n a.2)) (hC (aH A))) (q := sd_d (sd_n (sd_n (sd_n a.2))) (hR (aH A))) rfl (by decide) (vk37 (sd_lt _ h0)) (sd_lt _ hr)
      rw [show fn_M_goesTo 52 573 ((32 : Int32) + Int32.ofNat (sd_d (sd_n (sd_n a.2)) (hC (aH A)))) (Int32.ofNat (sd_d (sd_n (sd_n (sd_n a.2))) (hR (aH A)))) (hp_s (hp_s (hp_s s 52 44 (sd_n a.2)) 52 44 (sd_n (sd_n a.2))) 52 44 (sd_n (sd_n (sd_n a.2)))) = _ from g1, e_b2]
      refine ⟨s', rfl, t3.1.row g2 g3 (rok_call ok.1 h.1.2.2.2 (sd_lt _ h0) (sd_lt _ hr)), ?_⟩
      rw [g3 52 (by decide)]
      exact t3.2
    · rw [if_neg h1, if_neg h1]
      exact ⟨_, rfl, t1⟩
  · rw [if_neg (show ¬ (0 : Int32) < Int32.ofNat (hC (aH A)) from zl_nlt (a := 0) (by omega) (by decide)), if_neg h0]
    exact ⟨s, rfl, h⟩
theorem ms_season (ok : AOK A) (cm : CM σ A) (x q : Int32) {n : Nat} (hn : n < 100) (h : FM σ s ∧ s 52 0 = σ 52 0 ∧ s 54 = σ 54) : ∃ s', fn_M_seasonBy 52 x (Int32.ofNat n) q s = some s' ∧ TMS A σ s' (zF (seaN A q) n 0 (aR A, x)) := by
  unfold fn_M_seasonBy
  have c0 : CM s A := cm.m ok h.1
  have t0 : TM A 572 σ s (aR A) := ⟨h.1, h.2, c0.2.1, ok.2.1⟩
  obtain ⟨s1, g1, g2⟩ := tm_copy ok t0 (by decide)
  rw [sm_25, sm_26, g1, e_bd, e_let, e_let]
  refine zL_R0 (L := fun fu s i => fn_M_seasonBy_L19 52 (Int32.ofNat n) q (fun s => some s) fu i s) (k := fun s => some s) (N := n) (seaN A q) (fun i s a => TMS A σ s a) (by omega) (fun fu s u h => ?_) (fun fu i s a hi h => ?_) (hp_s s1 52 44 x) (aR A, x) g2.lot
  · try dsimp only
    rw [fn_M_seasonBy_L19, if_neg Int32.lt_irrefl]
  · try dsimp only
    have c1 := h.1.cm ok cm
    rw [fn_M_seasonBy_L19, if_pos (zl_lt hi (by omega))]
    simp only [sm_12, sm_26, e_jn, e_let, zi_succ]
    rw [(hm_n c1.1).2.2.1, e_bd]
    obtain ⟨s1, e1, t1⟩ := ms_sea1 (fun s6 => Option.bind (px_ald s6 56 (3 : Int32)) fun z7 => if 0 < z7 then px_b2 (fn_M_draw 52 (16 : Int32) s6) fun z13 s14 => if z13 < q then Option.bind (px_ald s14 56 (3 : Int32)) fun z15 => px_b2 (fn_M_draw 52 z15 s14) fun z16 s17 => Option.bind (px_ald s17 56 (0 : Int32)) fun z19 => px_b2 (fn_M_draw 52 z19 s17) fun z20 s21 => px_b2 (fn_M_goesTo 52 573 ((32 : Int32) + z16) z20 s21) fun z22 s23 => Option.bind (fn_M_nightEnds 52 573 s23) fun s10 => fn_M_seasonBy_L19 52 (Int32.ofNat n) q (fun s => some s) fu (Int32.ofNat (i + 1)) s10 else Option.bind (fn_M_nightEnds 52 573 s14) fun s10 => fn_M_seasonBy_L19 52 (Int32.ofNat n) q (fun s => some s) fu (Int32.ofNat (i + 1)) s10 else Option.bind (fn_M_nightEnds 52 573 s6) fun s10 => fn_M_seasonBy_L19 52 (Int32.ofNat n) q (fun s => some s) fu (Int32.ofNat (i + 1)) s10) ok cm h
    obtain ⟨s2, e2, t2⟩ := ms_sea2 (fun s8 => Option.bind (fn_M_nightEnds 52 573 s8) fun s10 => fn_M_seasonBy_L19 52 (Int32.ofNat n) q (fun s => some s) fu (Int32.ofNat (i + 1)) s10) q ok cm t1
    obtain ⟨s3, g1, g2, g3⟩ := tm_night (Or.inl rfl) ok cm t2.1
    have c2 := t1.1.cm ok cm
    refine ⟨s3, ?_, g2, ?_⟩
    · refine e1.trans ?_
      rw [(hm_n c2.1).2.2.2, e_bd]
      refine e2.trans ?_
      rw [g1, e_bd]
    · rw [g3 52 (by decide)]
      exact t2.2
/- season -/
theorem zB_in1 {a : Int32} {n : Nat} (hn : n < 2147483647) (h : inB a 1 (Int32.ofNat n) = true) : zB a (n + 1) ∧ a ≠ 0 := by
  rw [inB_t] at h
  refine ⟨zB_in hn (by rw [inB_t]; exact ⟨Int32.le_trans (by decide) h.1, h.2⟩), fun e => ?_⟩
  rw [e] at h
  exact absurd h.1 (by decide)
def qv_season (A : ab_A) (ρ : ab_R) (w : Int32) : Int32 := if w = 0 then ρ 1 else if w = 1 then sp_szo (aH A) ρ (ρ 1) else if w = 2 then bc (ρ 2) else (sp_ctm (aH A) ρ).1
theorem xq_season (ok : AOK A) (cx : CX σ A) (x n q w : Int32) : XQ σ (fn_X_season 0 x n q w σ) (qb_i (inB n 1 96) (qb_i (inB q 0 16) (qb_i (inB w 0 3) 0))) (qv_season A (sp_sea A n.toNatClampNeg q x) w) := by
  unfold fn_X_season
  refine xg_in fun h1 => xg_in fun h2 => xg_in fun h3 => ?_
  obtain ⟨⟨n, hn, rfl⟩, -⟩ := zB_in1 (n := 96) (by decide) h1
  obtain ⟨s1, g1, g2⟩ := xs_copy ok cx
  obtain ⟨s2, k1, k2⟩ := xs_play ok cx x q (n := n) (by omega) g2
  refine xq_f ?_ k2.1.1
  have c1 := k2.1.cx cx
  rw [xf_6, xf_7, xf_12, g1, e_bd, k1, e_bd, zi_nat (by omega)]
  simp only [e_swc, e_swn, xs_living so_35 k2.1.2.1, xs_onMat so_35 k2.1.2.1, xs_sizeOf so_35 c1.1 k2.1.2.1 ok.1, xs_bc (mat_256 ok.1 k2.1.2.2), xs_ctm so_35 c1.1 k2.1.2.1 ok.1, e_bd]
  exact ite_g (rX s2) (fun _ => rfl) (fun _ => ite_g (rX s2) (fun _ => rfl) (fun _ => ite_g (rX s2) (fun _ => rfl) (fun _ => rfl)))
theorem ms_isSeason (n q : Int32) : fn_M_isSeason n q = some (bI (inB n 1 96 && inB q 0 16)) := by
  unfold fn_M_isSeason
  rw [ms_in', e_bd, e_jn, e_jn, bI_if, ms_in', e_bd, bI_if]
  simp only [e_z0, e_z1]
  cases inB n 1 96 <;> cases inB q 0 16 <;> rfl
theorem qb_and (a b : Bool) (q : Nat) : qb_i (a && b) q = qb_i a (qb_i b q) := by
  cases a <;> cases b <;> rfl
theorem mq_season (ok : AOK A) (cm : CM σ A) (x n q w : Int32) : MQs σ (fn_M_season 52 x n q w σ) (qb_i (inB n 1 96) (qb_i (inB q 0 16) (qb_i (inB w 0 3) 0))) (qv_season A (sp_sea A n.toNatClampNeg q x) w) 1 := by
  unfold fn_M_season
  simp only [e_let, e_jn]
  have cm0 := cm_0 ok cm
  rw [ms_isSeason, e_bd, ← qb_and]
  refine mor mb_b1 fun h1 => ?_
  rw [ms_in', e_bd]
  refine mor mb_b1 fun h2 => ?_
  refine mb_b0 ?_
  rw [Bool.and_eq_true] at h1
  obtain ⟨⟨n, hn, rfl⟩, -⟩ := zB_in1 (n := 96) (by decide) h1.1
  obtain ⟨s2, k1, k2⟩ := ms_season ok cm0 x q (n := n) (by omega) ⟨FM.refl, rfl, rfl⟩
  have c1 := k2.1.cm ok cm0
  refine mq_tm (s1 := s2) (s2 := s2) ?_ k2.1
  rw [k1, e_bd, sm_26, zi_nat (by omega)]
  simp only [rm_1 k2.1.2.2.1, rm_2 k2.1.2.2.1, ms_sizes c1.1 k2.1.2.2.1 ok.1, ms_proud c1.1 k2.1.2.2.1 ok.1, ms_ones, e_bd]
  exact ite_g (rM s2) (fun _ => rfl) (fun _ => ite_g (rM s2) (fun _ => rfl) (fun _ => ite_g (rM s2) (fun _ => rfl) (fun _ => rfl)))
end SEC
