/-! TRIALS: grown, doomed, lasts -/
theorem gre_has {H : ab_H} {ρ : ab_R} {b : Int32} {t : Nat} (h : sp_gre H ρ b = some t) : hasB b t = true := by
  have := zF_inv (sg_st ρ b) (fun a => ∀ t, a = some t → hasB b t = true) (hS H) (fun i a _ ha t ht => by
    unfold sg_st at ht
    split at ht
    · rename_i hb
      cases a with
      | none => cases ht; exact hb
      | some t3 =>
        dsimp only at ht
        split at ht
        · cases ht; exact hb
        · cases ht; exact ha t rfl
    · exact ha t ht) (hS H) 0 none (by omega) (fun t h => by cases h)
  exact this t h
theorem see_f (H : ab_H) (ρ : ab_R) (c i : Nat) (a : Int32) : (if hasB (ρ 1) i = true then (if ρ (5 + i) = ρ (37 + c) then (if sp_ws H c (ρ (13 + i)) (ρ (37 + c)) = true then a ||| bitI i else a) else a) else a) = if (hasB (ρ 1) i && (decide (ρ (5 + i) = ρ (37 + c)) && sp_ws H c (ρ (13 + i)) (ρ (37 + c)))) = true then a ||| bitI i else a := by
  by_cases h1 : hasB (ρ 1) i = true
  · by_cases h2 : ρ (5 + i) = ρ (37 + c)
    · rw [if_pos h1, if_pos h2, h1, decide_eq_true h2, Bool.true_and, Bool.true_and]
    · rw [if_pos h1, if_neg h2, h1, decide_eq_false h2, Bool.true_and, Bool.false_and, if_neg (by decide)]
  · rw [if_neg h1, Bool.not_eq_true] at *
    rw [h1, Bool.false_and, if_neg (by decide)]
theorem see_has {H : ab_H} (ok : HOK H) (ρ : ab_R) (c : Nat) {s : Nat} (hs : s < hS H) : hasB (sp_see H ρ c) s = (hasB (ρ 1) s && (decide (ρ (5 + s) = ρ (37 + c)) && sp_ws H c (ρ (13 + s)) (ρ (37 + c)))) := by
  unfold sp_see
  have h8 := ok.2.2.1
  exact zF_has0 (fun s => hasB (ρ 1) s && (decide (ρ (5 + s) = ρ (37 + c)) && sp_ws H c (ρ (13 + s)) (ρ (37 + c)))) (fun s acc => if hasB (ρ 1) s = true then (if ρ (5 + s) = ρ (37 + c) then (if sp_ws H c (ρ (13 + s)) (ρ (37 + c)) = true then acc ||| bitI s else acc) else acc) else acc) (see_f H ρ c) (n := hS H) (k := s) hs (by omega)
theorem tk_live {H : ab_H} {ρ : ab_R} {c t : Nat} (ok : HOK H) (h : tk H ρ c = some t) : hasB (ρ 1) t = true := by
  have h1 := gre_has h
  rw [see_has ok ρ c (tk_lt h)] at h1
  cases hb : hasB (ρ 1) t with
  | true => rfl
  | false => rw [hb, Bool.false_and] at h1; cases h1
def DI (ρ ρ' : ab_R) : Prop := ∀ k, k < 32 → hasB (ρ' 2) k = (hasB (ρ 2) k || (hasB (ρ 1) k && !hasB (ρ' 1) k)) ∧ (hasB (ρ' 1) k = true → hasB (ρ 1) k = true)
theorem DI.refl {ρ : ab_R} : DI ρ ρ := fun k _ => ⟨by cases hasB (ρ 1) k <;> simp, fun h => h⟩
theorem DI.step {H : ab_H} {ρ ρ' : ab_R} (ok : HOK H) (h : DI ρ ρ') (c : Nat) (hc : c < hC H) : DI ρ (tstep H c ρ') := by
  unfold tstep
  cases ht : tk H ρ' c with
  | none => exact h
  | some t =>
    have hl := tk_live ok ht
    have h8 := ok.2.2.1
    have htl := tk_lt ht
    intro k hk
    have e1 : tmat ρ' t c 1 = ρ' 1 &&& (bitI t ^^^ (-1)) := by
      unfold tmat
      rw [upd_n (by omega), upd_n (by omega), upd_n (by omega), upd_n (by omega), upd_i]
    have e2 : tmat ρ' t c 2 = ρ' 2 ||| bitI t := by
      unfold tmat
      rw [upd_n (by omega), upd_n (by omega), upd_n (by omega), upd_i]
    dsimp only
    rw [e1, e2, hasB_or hk, hasB_and hk, hasB_not hk, hasB_bit (by omega) hk]
    by_cases e : t = k
    · subst e
      have := (h t hk).2 hl
      simp [this]
    · have h2 := h k hk
      simp only [e, decide_false, Bool.or_false, Bool.not_false, Bool.and_true]
      exact h2
theorem grown_lo {H : ab_H} {lw : ab_L} {ρ : ab_R} {k : Nat} (hk : k < 5) : sp_grown H lw ρ k = ρ k :=
  zF_inv (gstep H lw) (fun a => a k = ρ k) (hS H) (fun i a _ h => by
    unfold gstep
    split
    · rw [upd_n (by omega)]; exact h
    · exact h) (hS H) 0 ρ (by omega) rfl
theorem night_di {H : ab_H} {lw : ab_L} {ρ : ab_R} (ok : HOK H) : DI ρ (sp_night H lw ρ) := by
  have h := zF_inv (tstep H) (fun a => DI ρ a) (hC H) (fun i a hi h => h.step ok i hi) (hC H) 0 (sp_grown H lw ρ) (by omega) (by
    intro k hk
    rw [grown_lo (by decide), grown_lo (by decide)]
    exact DI.refl k hk)
  intro k hk
  unfold sp_night
  rw [upd_n (by decide), upd_n (by decide)]
  exact h k hk
theorem doom_eq {H : ab_H} {lw : ab_L} {ρ : ab_R} (ok : HOK H) (ro : ROK H ρ) : sp_night H lw ρ 2 &&& (ρ 2 ^^^ (-1)) = ρ 1 &&& (sp_night H lw ρ 1 ^^^ (-1)) := by
  apply hasB_ext
  intro k hk
  have h0 : (hasB (ρ 1) k && hasB (ρ 2) k) = false := by rw [← hasB_and hk, ro.2.2.2.2, hasB_zero hk]
  rw [hasB_and hk, hasB_and hk, hasB_not hk, hasB_not hk, (night_di ok k hk).1]
  revert h0
  cases hasB (ρ 1) k <;> cases hasB (ρ 2) k <;> cases hasB (sp_night H lw ρ 1) k <;> simp
section Q8
variable {σ : hp_I} {A : ab_A}
/- doomed -/
theorem xv_doomed (ok : AOK A) (cx : CX σ A) : ∃ s, fn_X_doomed 0 σ = some (sp_night (aH A) (aL A) (aR A) 2 &&& (aR A 2 ^^^ (-1)), s) ∧ Fc SXQ σ s := by
  unfold fn_X_doomed
  obtain ⟨s, h1, h2⟩ := xs_try ok cx 1 (by decide)
  have c1 := h2.cx cx
  refine ⟨s, ?_, h2.1⟩
  rw [show fn_X_tryNights 0 1 σ = some s from h1, e_bd, xf_7, xs_onMat so_35 h2.2.1, e_bd, xf_6, xs_onMat so_32 c1.2.1, e_bd]
  rfl
theorem mq_doomed (ok : AOK A) (cm : CM σ A) : MQs σ (fn_M_doomed 52 σ) 0 (sp_night (aH A) (aL A) (aR A) 2 &&& (aR A 2 ^^^ (-1))) 1 := by
  unfold fn_M_doomed
  rw [e_let]
  have cm0 := cm_0 ok cm
  obtain ⟨s1, g1, g2⟩ := tm_copy ok (tm_now ok cm0) (by decide)
  obtain ⟨s2, j1, j2, -⟩ := tm_night (Or.inl rfl) ok cm0 g2
  have c2 := j2.cm ok cm0
  refine mq_tm (s1 := s2) (s2 := s2) ?_ j2
  rw [sm_25, sm_26, g1, e_bd, j1, e_bd, rm_1 c2.2.1, e_bd, rm_1 j2.2.2.1, e_bd, doom_eq ok.1 ok.2.1]
/- grown -/
def qv_grown (A : ab_A) (ρ : ab_R) (n : Nat) : Int32 := if hasB (ρ 1) n = true then ρ (13 + n) else -1
theorem xq_grown (ok : AOK A) (cx : CX σ A) (p w : Int32) : XQ σ (fn_X_grown 0 p w σ) (qb_o (oneB p (hS (aH A))) (qb_i (inB w 0 99) 0)) (qv_grown A (sp_nts A w.toNatClampNeg (aR A)) p.toNatClampNeg) := by
  unfold fn_X_grown
  refine xg_one (by rw [xf_1]; exact hx_S cx.1) fun h1 => xg_in fun h2 => ?_
  have hc := cnt_lt ok.1
  obtain ⟨k, hk, rfl⟩ := oneB_z (by omega) h1
  obtain ⟨n, hn, rfl⟩ := zB_in (n := 99) (by decide) h2
  obtain ⟨s, g1, g2⟩ := xs_try ok cx n (by omega)
  refine xq_f ?_ g2.1
  rw [g1, e_bd, zi_nat (by omega), zi_nat (by omega), xf_7, xs_lives so_35 g2.2.1, e_bd, e_jn, bI_if, xs_size so_35 g2.2.1 ok.1 k hk, e_bd]
  exact ite_g (rX s) (fun _ => rfl) (fun _ => rfl)
theorem mq_grown (ok : AOK A) (cm : CM σ A) (p w : Int32) : MQs σ (fn_M_grown 52 p w σ) (qb_o (oneB p (hS (aH A))) (qb_i (inB w 0 99) 0)) (qv_grown A (sp_nts A w.toNatClampNeg (aR A)) p.toNatClampNeg) 2 := by
  unfold fn_M_grown
  simp only [e_let, e_jn]
  have cm0 := cm_0 ok cm
  have hc := cnt_lt ok.1
  rw [mt_S cm.1 ok.1, e_bd]
  refine mb_a fun h1 => ?_
  rw [ms_in', e_bd]
  refine mb_c fun h2 => ?_
  obtain ⟨k, hk, rfl⟩ := oneB_z (by omega) h1
  obtain ⟨n, hn, rfl⟩ := zB_in (n := 99) (by decide) h2
  obtain ⟨s1, g1, g2⟩ := tm_copy ok (tm_now ok cm0) (by decide)
  rw [sm_25, sm_26, g1, e_bd, zi_nat (by omega), zi_nat (by omega)]
  refine Exists.elim (zL_R0 (L := fun fu s i => fn_M_grown_L67 52 (Int32.ofNat k) (Int32.ofNat n) (fun s_18 => Option.bind (fn_M_lives 573 (Int32.ofNat k) s_18) fun z19 => if z19 = 0 then some ((-1 : Int32), s_18) else Option.bind (px_ald s_18 573 ((8 : Int32) + Int32.ofNat k)) fun z22 => some (z22, s_18)) fu i s) (k := fun s_18 => Option.bind (fn_M_lives 573 (Int32.ofNat k) s_18) fun z19 => if z19 = 0 then some ((-1 : Int32), s_18) else Option.bind (px_ald s_18 573 ((8 : Int32) + Int32.ofNat k)) fun z22 => some (z22, s_18)) (N := n) (fun _ r => sp_night (aH A) (aL A) r) (fun i s ρ => TM A 573 (hp_s σ 52 0 0) s ρ) (by omega) (fun fu s u h => ?_) (fun fu i s u hi h => ?_) s1 (aR A) g2) (fun s2 hk2 => ?_)
  · try dsimp only
    rw [fn_M_grown_L67, if_neg Int32.lt_irrefl]
  · try dsimp only
    obtain ⟨s', j1, j2, -⟩ := tm_night (Or.inl rfl) ok cm0 h
    exact ⟨s', by rw [fn_M_grown_L67, if_pos (zl_lt hi (by omega)), sm_26, j1, e_bd, e_let, zi_succ], j2⟩
  · obtain ⟨k1, k2⟩ := hk2
    refine mq_tm (s1 := s2) (s2 := s2) ?_ k2
    refine k1.trans ?_
    rw [ms_lives k2.2.2.1, e_bd, bI_if, rm_13 k2.2.2.1 ok.1 k hk, e_bd]
    exact ite_g (rM s2) (fun _ => rfl) (fun _ => rfl)
/- lasts -/
def sp_last (A : ab_A) (k : Nat) : Nat → Nat → ab_R → Int32
  | 0, _, _ => -1
  | n + 1, i, ρ => if hasB (sp_night (aH A) (aL A) ρ 1) k = true then sp_last A k n (i + 1) (sp_night (aH A) (aL A) ρ) else Int32.ofNat i
theorem xl_lasts (ok : AOK A) (cx : CX σ A) (q : Nat) : ∀ (n i fu : Nat) (s : hp_I) (ρ : ab_R), i + n = 100 → n < fu → TX A σ s ρ → ∃ s', fn_X_lasts_L38 0 (Int32.ofNat q) (fun s => some (.inr ((-1 : Int32), s))) fu (Int32.ofNat i) s = some (.inr (sp_last A q n i ρ, s')) ∧ Fc SXQ σ s' := by
  intro n
  induction n with
  | zero =>
    intro i fu s ρ hi hf h
    obtain ⟨fu, rfl⟩ : ∃ f, fu = f + 1 := ⟨fu - 1, by omega⟩
    refine ⟨s, ?_, h.1⟩
    rw [fn_X_lasts_L38, show i = 100 by omega, if_neg (show ¬ Int32.ofNat 100 ≤ 99 from by decide)]
    rfl
  | succ n ih =>
    intro i fu s ρ hi hf h
    obtain ⟨fu, rfl⟩ : ∃ f, fu = f + 1 := ⟨fu - 1, by omega⟩
    obtain ⟨s', g1, g2, -⟩ := tx_night ok cx h
    rw [fn_X_lasts_L38, if_pos (show Int32.ofNat i ≤ 99 from zl_le (b := 99) (by omega) (by decide)), xf_7, g1, e_b2, xs_lives so_35 g2.2.1, e_bd, bI_if]
    unfold sp_last
    by_cases hb : hasB (sp_night (aH A) (aL A) ρ 1) q = true
    · rw [if_pos hb, if_pos hb, e_let, zi_succ]
      exact ih (i + 1) fu s' _ (by omega) (by omega) g2
    · rw [if_neg hb, if_neg hb]
      exact ⟨s', rfl, g2.1⟩
def qv_last (A : ab_A) (k : Nat) : Int32 := if hasB (aR A 1) k = true then sp_last A k 99 1 (aR A) else -1
theorem FU_gt {n : Nat} (h : n < 100000) : n < FU := h
theorem xq_lasts (ok : AOK A) (cx : CX σ A) (p : Int32) : XQ σ (fn_X_lasts 0 p σ) (qb_o (oneB p (hS (aH A))) 0) (qv_last A p.toNatClampNeg) := by
  unfold fn_X_lasts
  refine xg_one (by rw [xf_1]; exact hx_S cx.1) fun h1 => ?_
  have hc := cnt_lt ok.1
  obtain ⟨k, hk, rfl⟩ := oneB_z (by omega) h1
  rw [xf_6, xs_lives so_32 cx.2.1, e_bd, bI_if, zi_nat (by omega)]
  unfold qv_last
  by_cases hb : hasB (aR A 1) k = true
  · rw [if_pos hb, if_pos hb]
    obtain ⟨s1, g1, g2⟩ := xs_copy ok cx
    rw [xf_7, g1, e_bd, e_let]
    obtain ⟨s', h2, h3⟩ := xl_lasts ok cx k 99 1 FU s1 (aR A) (by decide) (FU_gt (by decide)) g2
    exact xq_f h2 h3
  · rw [if_neg hb, if_neg hb]
    exact xq_v rfl
theorem ml_lasts (ok : AOK A) (cm : CM σ A) (q : Nat) (hb0 : hasB (aR A 1) q = true) : ∀ (n i fu : Nat) (s : hp_I) (ρ : ab_R), i + n = 100 → n < fu → TM A 573 σ s ρ → ∃ s' ρ', fn_M_lasts_L43 52 (Int32.ofNat q) (fun s => some ((-1 : Int32), s)) fu (Int32.ofNat i) s = some (sp_last A q n i ρ, s') ∧ TM A 573 σ s' ρ' := by
  intro n
  induction n with
  | zero =>
    intro i fu s ρ hi hf h
    obtain ⟨fu, rfl⟩ : ∃ f, fu = f + 1 := ⟨fu - 1, by omega⟩
    refine ⟨s, ρ, ?_, h⟩
    rw [fn_M_lasts_L43, show i = 100 by omega, if_neg (show ¬ Int32.ofNat 100 ≤ 99 from by decide)]
    rfl
  | succ n ih =>
    intro i fu s ρ hi hf h
    obtain ⟨fu, rfl⟩ : ∃ f, fu = f + 1 := ⟨fu - 1, by omega⟩
    obtain ⟨s', g1, g2, -⟩ := tm_night (Or.inl rfl) ok cm h
    have c1 := h.cm ok cm
    rw [fn_M_lasts_L43, if_pos (show Int32.ofNat i ≤ 99 from zl_le (b := 99) (by omega) (by decide)), sm_25, ms_lives c1.2.1, e_bd, bI_if, if_pos hb0, sm_26, g1, e_bd, ms_lives g2.2.2.1, e_bd, bI_if]
    unfold sp_last
    by_cases hb : hasB (sp_night (aH A) (aL A) ρ 1) q = true
    · rw [if_pos hb, if_pos hb, e_let, zi_succ]
      exact ih (i + 1) fu s' _ (by omega) (by omega) g2
    · rw [if_neg hb, if_neg hb]
      exact ⟨s', _, rfl, g2⟩
theorem mq_lasts (ok : AOK A) (cm : CM σ A) (p : Int32) : MQs σ (fn_M_lasts 52 p σ) (qb_o (oneB p (hS (aH A))) 0) (qv_last A p.toNatClampNeg) 1 := by
  unfold fn_M_lasts
  simp only [e_let, e_jn]
  have cm0 := cm_0 ok cm
  have hc := cnt_lt ok.1
  rw [mt_S cm.1 ok.1, e_bd]
  refine mb_a fun h1 => ?_
  obtain ⟨k, hk, rfl⟩ := oneB_z (by omega) h1
  obtain ⟨s1, g1, g2⟩ := tm_copy ok (tm_now ok cm0) (by decide)
  rw [sm_25, sm_26, g1, e_bd, zi_nat (by omega)]
  unfold qv_last
  by_cases hb : hasB (aR A 1) k = true
  · rw [if_pos hb]
    obtain ⟨s', ρ', h2, h3⟩ := ml_lasts ok cm0 k hb 99 1 FU s1 (aR A) (by decide) (FU_gt (by decide)) g2
    exact mq_tm (s1 := s') h2 h3
  · rw [if_neg hb]
    have c1 := g2.cm ok cm0
    generalize hF : FU = F
    have hF2 : F = 100000 := hF.symm
    obtain ⟨F, rfl⟩ : ∃ f, F = f + 1 := ⟨F - 1, by omega⟩
    refine mq_tm (s1 := s1) (s2 := s1) ?_ g2
    rw [fn_M_lasts_L43, if_pos (show (1 : Int32) ≤ 99 from by decide), sm_25, ms_lives c1.2.1, e_bd, bI_if, if_neg hb]
end Q8
