/-! TRIALS: copies, nights on copies -/
theorem zi_cpy {σ : hp_I} {a b p q n : Nat} (hp : p + n ≤ sh_ln a) (hq : q + n ≤ sh_ln b) (h1 : p < 2147483648) (h2 : q < 2147483648) (h3 : n < 2147483648) : px_cpy σ a (Int32.ofNat p) b (Int32.ofNat q) (Int32.ofNat n) = some (hp_f σ b (va_cpy (σ a) (σ b) p q n)) := by
  unfold px_cpy
  rw [zi_nat h1, zi_nat h2, zi_nat h3, if_pos ⟨⟨zi_pos h1, zi_pos h2, zi_pos h3⟩, hp, hq⟩]
theorem hp_f_at {σ : hp_I} {i : Nat} {f : Nat → Int32} : hp_f σ i f i = f := by
  rw [hp_f_i]
def TX (A : ab_A) (σ s : hp_I) (ρ : ab_R) : Prop := Fc SXQ σ s ∧ RX s 36 (aH A) ρ ∧ ROK (aH A) ρ
def TM (A : ab_A) (m : Nat) (σ s : hp_I) (ρ : ab_R) : Prop := FM σ s ∧ (s 52 0 = σ 52 0 ∧ s 54 = σ 54) ∧ RM s m (aH A) ρ ∧ ROK (aH A) ρ
theorem FM.refl {σ : hp_I} : FM σ σ := ⟨Fc.refl, fun _ _ => rfl⟩
theorem xs_copy {σ : hp_I} {A : ab_A} (ok : AOK A) (cx : CX σ A) : ∃ s, fn_State_copyFrom 35 32 σ = some s ∧ TX A σ s (aR A) := by
  unfold fn_State_copyFrom
  have h := zi_cpy (σ := σ) (a := 33) (b := 36) (p := 0) (q := 0) (n := 47) (by rw [so_32.2.2.2.2.1]; decide) (by rw [so_35.2.2.2.2.1]; decide) (by decide) (by decide) (by decide)
  refine ⟨hp_f σ 36 (va_cpy (σ 33) (σ 36) 0 0 47), ?_, ?_, ?_, ok.2.1⟩
  · rw [so_32.2.2.1, so_35.2.2.1, show px_cpy σ 33 0 36 0 47 = _ from h, e_bd]
  · exact Fc.fill (by decide)
  · refine ⟨so_35.2.2.2.2.1, fun k hk => ?_⟩
    have hl := vk_lt ok.1 hk
    rw [hp_f_at]
    unfold va_cpy
    rw [if_pos (by omega), show 0 + (k - 0) = k by omega]
    exact cx.2.1.2 k hk
theorem TX.cx {σ s : hp_I} {A : ab_A} {ρ : ab_R} (cx : CX σ A) (h : TX A σ s ρ) : CX s A := cx.x h.1
theorem tx_night {σ s : hp_I} {A : ab_A} {ρ : ab_R} (ok : AOK A) (cx : CX σ A) (h : TX A σ s ρ) : ∃ s', fn_State_passNight 35 s = some (sp_took (aH A) (aL A) ρ, s') ∧ TX A σ s' (sp_night (aH A) (aL A) ρ) ∧ (∀ q, q < hC (aH A) → s' 37 q = oI (tk (aH A) (zF (tstep (aH A)) q 0 (sp_grown (aH A) (aL A) ρ)) q)) ∧ Fc [36, 37, 24, 25] s s' := by
  have c1 := h.cx cx
  obtain ⟨s', g1, g2, g3, g4⟩ := xs_passNight so_35 c1.1 c1.2.2.1 h.2.1 ok.1 ok.2.2.1 h.2.2
  exact ⟨s', g1, ⟨h.1.trans (fc_x g3 (by decide)), g2, rok_night ok.1 h.2.2⟩, g4, g3⟩
theorem sn_573 : sh_ln 573 = 47 := by decide +kernel
theorem sn_574 : sh_ln 574 = 47 := by decide +kernel
theorem mp_lt {k : Nat} (h : k < 47) : mp k < 47 := by
  unfold mp
  split
  · omega
  split <;> omega
/-- the model's copying -/
theorem ms_copies {σ : hp_I} {a b : Nat} (hab : a ≠ b) (ha : sh_ln a = 47) (hb : sh_ln b = 47) : ∃ s, fn_M_copies a b σ = some s ∧ Fc [b] σ s ∧ ∀ k, k < 47 → s b k = σ a k := by
  unfold fn_M_copies
  rw [e_let]
  refine Exists.elim (zL_R0 (L := fun fu s i => fn_M_copies_L2 a b (fun s => some s) fu i s) (k := fun s => some s) (N := 47) (fun _ (u : Unit) => u) (fun i s _ => Fc [b] σ s ∧ ∀ k, k < i → s b k = σ a k) (by decide) (fun fu s u h => ?_) (fun fu i s u hi h => ?_) σ () ⟨Fc.refl, fun k hk => absurd hk (Nat.not_lt_zero _)⟩) (fun s hs => ?_)
  · try dsimp only
    rw [fn_M_copies_L2, if_neg (by decide)]
  · try dsimp only
    refine ⟨hp_s s b i (s a i), ?_, h.1.trans (Fc.put (by simp)), fun k hk => ?_⟩
    · rw [fn_M_copies_L2, if_pos (show Int32.ofNat i < 47 from zl_lt hi (by decide)), zi_ald (by omega) (by omega), e_bd, zi_ast (by omega) (by omega), e_bd, e_let, zi_succ]
    · rw [hp_s_i]
      by_cases e : k = i
      · rw [e, upd_i, h.1 a (by simpa using hab)]
      · rw [upd_n e]
        exact h.2 k (by omega)
  · exact ⟨s, hs.1, hs.2.1, hs.2.2⟩
theorem ms_copyR {σ : hp_I} {a b : Nat} {H : ab_H} {ρ : ab_R} (ok : HOK H) (hab : a ≠ b) (hb : sh_ln b = 47) (rm : RM σ a H ρ) : ∃ s, fn_M_copies a b σ = some s ∧ Fc [b] σ s ∧ RM s b H ρ := by
  obtain ⟨s, h1, h2, h3⟩ := ms_copies hab rm.1 hb (σ := σ)
  refine ⟨s, h1, h2, hb, fun k hk => ?_⟩
  rw [h3 _ (mp_lt (vk_lt ok hk))]
  exact rm.2 k hk
theorem TM.to {σ s s' : hp_I} {A : ab_A} {m m' : Nat} {ρ ρ' : ab_R} (h : TM A m σ s ρ) (f : Fc LMQ s s') (rm : RM s' m' (aH A) ρ') (ro : ROK (aH A) ρ') : TM A m' σ s' ρ' :=
  ⟨h.1.trans (fm_f f), ⟨(congrFun (f 52 (by decide)) 0).trans h.2.1.1, (f 54 (by decide)).trans h.2.1.2⟩, rm, ro⟩
theorem tm_now {σ : hp_I} {A : ab_A} (ok : AOK A) (cm : CM σ A) : TM A 572 σ σ (aR A) := ⟨FM.refl, ⟨rfl, rfl⟩, cm.2.1, ok.2.1⟩
theorem tm_copy {σ s : hp_I} {A : ab_A} {m : Nat} {ρ : ab_R} (ok : AOK A) (h : TM A m σ s ρ) (hm : m ≠ 573) : ∃ s', fn_M_copies m 573 s = some s' ∧ TM A 573 σ s' ρ := by
  obtain ⟨s', h1, h2, h3⟩ := ms_copyR ok.1 hm sn_573 h.2.2.1
  exact ⟨s', h1, h.to (fc_m h2 (by decide)) h3 h.2.2.2⟩
theorem TM.cm {σ s : hp_I} {A : ab_A} {m : Nat} {ρ : ab_R} (ok : AOK A) (cm : CM σ A) (h : TM A m σ s ρ) : CM s A := cm.m ok h.1
theorem tm_night {σ s : hp_I} {A : ab_A} {m : Nat} {ρ : ab_R} (hm : m = 573 ∨ m = 574) (ok : AOK A) (cm : CM σ A) (h : TM A m σ s ρ) : ∃ s', fn_M_nightEnds 52 m s = some s' ∧ TM A m σ s' (sp_night (aH A) (aL A) ρ) ∧ Fc [m, 489, 490] s s' := by
  have c1 := h.cm ok cm
  obtain ⟨s', g1, g2, g3⟩ := ms_nightEnds (Or.inr hm) c1.1 c1.2.2.1 h.2.2.1 ok.1 ok.2.2.1 h.2.2.2
  refine ⟨s', g1, h.to (fc_m g3 ?_) g2 (rok_night ok.1 h.2.2.2), g3⟩
  rcases hm with rfl | rfl <;> decide
def sp_nts (A : ab_A) (n : Nat) (ρ : ab_R) : ab_R := zF (fun _ r => sp_night (aH A) (aL A) r) n 0 ρ
theorem xs_try {σ : hp_I} {A : ab_A} (ok : AOK A) (cx : CX σ A) (n : Nat) (hn : n < 100) : ∃ s, fn_X_tryNights 0 (Int32.ofNat n) σ = some s ∧ TX A σ s (sp_nts A n (aR A)) := by
  unfold fn_X_tryNights
  obtain ⟨s1, h1, h2⟩ := xs_copy ok cx
  rw [xf_7, xf_6, h1, e_bd, e_let]
  refine zL_R0 (L := fun fu s i => fn_X_tryNights_L13 0 (Int32.ofNat n) (fun s => some s) fu i s) (k := fun s => some s) (N := n) (fun _ r => sp_night (aH A) (aL A) r) (fun i s ρ => TX A σ s ρ) (by omega) (fun fu s u h => ?_) (fun fu i s u hi h => ?_) s1 (aR A) h2
  · try dsimp only
    rw [fn_X_tryNights_L13, if_neg Int32.lt_irrefl]
  · try dsimp only
    obtain ⟨s', g1, g2, -⟩ := tx_night ok cx h
    exact ⟨s', by rw [fn_X_tryNights_L13, if_pos (zl_lt hi (by omega)), xf_7, g1, e_b2, e_let, zi_succ], g2⟩
section Q7
variable {σ : hp_I} {A : ab_A}
/- ahead -/
def qv_ahead (A : ab_A) (ρ : ab_R) (w : Int32) : Int32 := if w = 0 then ρ 1 else if w = 1 then sp_szo (aH A) ρ (ρ 1) else bc (ρ 2)
theorem xq_ahead (ok : AOK A) (cx : CX σ A) (p w : Int32) : XQ σ (fn_X_ahead 0 p w σ) (qb_i (inB p 0 99) (qb_i (inB w 0 2) 0)) (qv_ahead A (sp_nts A p.toNatClampNeg (aR A)) w) := by
  unfold fn_X_ahead
  refine xg_in fun h1 => xg_in fun h2 => ?_
  obtain ⟨n, hn, rfl⟩ := zB_in (n := 99) (by decide) h1
  obtain ⟨s, g1, g2⟩ := xs_try ok cx n (by omega)
  refine xq_f ?_ g2.1
  have c1 := g2.cx cx
  rw [g1, e_bd, zi_nat (by omega)]
  simp only [e_swc, e_swn, xf_7, xs_living so_35 g2.2.1, xs_onMat so_35 g2.2.1, xs_sizeOf so_35 c1.1 g2.2.1 ok.1, xs_bc (mat_256 ok.1 g2.2.2), e_bd]
  exact ite_g (rX s) (fun _ => rfl) (fun _ => ite_g (rX s) (fun _ => rfl) (fun _ => rfl))
theorem mq_tm {s1 s2 : hp_I} {v t2 : Int32} {e : Option (Int32 × hp_I)} {m : Nat} {ρ : ab_R} (h : e = some (v, s2)) (t : TM A m (hp_s σ 52 0 0) s2 ρ) : MQs σ e 0 v t2 :=
  mq_v h t.1 (t.2.1.1.trans s0_0) (t.2.1.2.trans (hp_s_n (by decide)))
theorem mq_ahead (ok : AOK A) (cm : CM σ A) (p w : Int32) : MQs σ (fn_M_ahead 52 p w σ) (qb_i (inB p 0 99) (qb_i (inB w 0 2) 0)) (qv_ahead A (sp_nts A p.toNatClampNeg (aR A)) w) 1 := by
  unfold fn_M_ahead
  simp only [e_let, e_jn]
  have cm0 := cm_0 ok cm
  rw [ms_in', e_bd]
  refine mor mb_b1 fun h1 => ?_
  rw [ms_in', e_bd]
  refine mor mb_b1 fun h2 => ?_
  refine mb_b0 ?_
  obtain ⟨n, hn, rfl⟩ := zB_in (n := 99) (by decide) h1
  obtain ⟨s1, g1, g2⟩ := tm_copy ok (tm_now ok cm0) (by decide)
  rw [sm_25, sm_26, g1, e_bd, zi_nat (by omega)]
  refine Exists.elim (zL_R0 (L := fun fu s i => fn_M_ahead_L53 52 (Int32.ofNat n) w (fun s_12 => if w = 0 then Option.bind (px_ald s_12 573 (42 : Int32)) fun z15 => some (z15, s_12) else if w = (1 : Int32) then Option.bind (fn_M_sizes 52 573 s_12) fun z16 => some (z16, s_12) else Option.bind (px_ald s_12 573 (43 : Int32)) fun z17 => Option.bind (fn_M_ones z17) fun z18 => some (z18, s_12)) fu i s) (k := fun s_12 => if w = 0 then Option.bind (px_ald s_12 573 (42 : Int32)) fun z15 => some (z15, s_12) else if w = (1 : Int32) then Option.bind (fn_M_sizes 52 573 s_12) fun z16 => some (z16, s_12) else Option.bind (px_ald s_12 573 (43 : Int32)) fun z17 => Option.bind (fn_M_ones z17) fun z18 => some (z18, s_12)) (N := n) (fun _ r => sp_night (aH A) (aL A) r) (fun i s ρ => TM A 573 (hp_s σ 52 0 0) s ρ) (by omega) (fun fu s u h => ?_) (fun fu i s u hi h => ?_) s1 (aR A) g2) (fun s2 hk => ?_)
  · try dsimp only
    rw [fn_M_ahead_L53, if_neg Int32.lt_irrefl]
  · try dsimp only
    obtain ⟨s', j1, j2, -⟩ := tm_night (Or.inl rfl) ok cm0 h
    exact ⟨s', by rw [fn_M_ahead_L53, if_pos (zl_lt hi (by omega)), sm_26, j1, e_bd, e_let, zi_succ], j2⟩
  · obtain ⟨k1, k2⟩ := hk
    refine mq_tm (s1 := s2) ?_ k2
    refine k1.trans ?_
    have c2 := k2.cm ok cm0
    simp only [rm_1 k2.2.2.1, rm_2 k2.2.2.1, ms_sizes c2.1 k2.2.2.1 ok.1, ms_ones, e_bd]
    exact ite_g (rM s2) (fun _ => rfl) (fun _ => ite_g (rM s2) (fun _ => rfl) (fun _ => rfl))
end Q7
