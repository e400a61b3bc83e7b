/-! QUESTIONS: the rest that look only -/
def LMQ : List Nat := [489, 490, 573, 574, 596, 597, 598, 599]
theorem mq_fc {σ σ' : hp_I} {v t2 : Int32} {e : Option (Int32 × hp_I)} (h : e = some (v, σ')) (f : Fc LMQ (hp_s σ 52 0 0) σ') : MQs σ e 0 v t2 :=
  mq_v h (fm_f f) ((congrFun (f 52 (by decide)) 0).trans s0_0) ((f 54 (by decide)).trans (hp_s_n (by decide)))
theorem fc_x {σ σ' : hp_I} {S : List Nat} (f : Fc S σ σ') (h : S.all (fun i => SXQ.contains i) = true) : Fc SXQ σ σ' := f.mono (fun i hi => by
  have := List.all_eq_true.mp h i hi
  simpa using this)
theorem fc_m {σ σ' : hp_I} {S : List Nat} (f : Fc S σ σ') (h : S.all (fun i => LMQ.contains i) = true) : Fc LMQ σ σ' := f.mono (fun i hi => by
  have := List.all_eq_true.mp h i hi
  simpa using this)
section Q5
variable {σ : hp_I} {A : ab_A}
/- more -/
theorem xq_more (ok : AOK A) (cx : CX σ A) (p : Int32) : XQ σ (fn_X_more 0 p σ) (qb_o (oneB p (hS (aH A))) 0) (sp_more (aH A) (aL A) (aR A) p.toNatClampNeg) := by
  unfold fn_X_more
  refine xg_one (by rw [xf_1]; exact hx_S cx.1) fun h1 => ?_
  have hc := cnt_lt ok.1
  obtain ⟨n, hn, rfl⟩ := oneB_z (by omega) h1
  obtain ⟨s2, h2, f2⟩ := xs_growthOf so_32 cx.1 cx.2.2.1 cx.2.1 ok.1 ok.2.2.1 ok.2.1 n hn
  refine xq_f ?_ (fc_x f2 (by decide))
  rw [xf_6, h2, e_b2, zi_nat (by omega)]
theorem mq_more (ok : AOK A) (cm : CM σ A) (p : Int32) : MQs σ (fn_M_more 52 p σ) (qb_o (oneB p (hS (aH A))) 0) (sp_more (aH A) (aL A) (aR A) p.toNatClampNeg) 1 := by
  unfold fn_M_more
  simp only [e_let, e_jn]
  have cm0 := cm_0 ok cm
  have hc := cnt_lt ok.1
  rw [mt_S cm.1 ok.1, e_bd]
  refine mb_a fun h1 => ?_
  obtain ⟨n, hn, rfl⟩ := oneB_z (by omega) h1
  obtain ⟨s2, h2, f2⟩ := ms_moreOf cm0.1 cm0.2.2.1 cm0.2.1 ok.1 ok.2.2.1 ok.2.1 n hn
  refine mq_fc ?_ (fc_m f2 (by decide))
  rw [sm_25, h2, e_b2, zi_nat (by omega)]
/- would -/
theorem xq_would (ok : AOK A) (cx : CX σ A) (a b c d e f g : Int32) : XQ σ (fn_X_would 0 a b c d e f g σ) (qb_i (inB a 0 999) (qb_i (inB b 0 9) (qb_i (inB c 0 60) (qb_i (inB d 0 5) (qb_i (inB e 0 900) (qb_i (inB f 0 8) (qb_i (inB g 0 7) 0))))))) (sp_gr (aL A) (kn7 a b c d e f g)) := by
  unfold fn_X_would
  refine xg_in fun _ => xg_in fun _ => xg_in fun _ => xg_in fun _ => xg_in fun _ => xg_in fun _ => xg_in fun _ => ?_
  obtain ⟨s2, h2, f2⟩ := law_growth cx.2.2.1 ok.2.2.1 a b c d e f g
  refine xq_f ?_ (fc_x f2 (by decide))
  rw [xf_3, h2, e_b2]
theorem mq_would (ok : AOK A) (cm : CM σ A) (a b c d e f g : Int32) : MQs σ (fn_M_would 52 a b c d e f g σ) (qb_i (inB a 0 999) (qb_i (inB b 0 9) (qb_i (inB c 0 60) (qb_i (inB d 0 5) (qb_i (inB e 0 900) (qb_i (inB f 0 8) (qb_i (inB g 0 7) 0))))))) (sp_gr (aL A) (kn7 a b c d e f g)) 1 := by
  unfold fn_M_would
  simp only [e_let, e_jn]
  have cm0 := cm_0 ok cm
  rw [ms_in', e_bd]
  refine mor mb_b1 fun _ => ?_
  rw [ms_in', e_bd]
  refine mor mb_b1 fun _ => ?_
  rw [ms_in', e_bd]
  refine mor mb_b1 fun _ => ?_
  rw [ms_in', e_bd]
  refine mor mb_b1 fun _ => ?_
  rw [ms_in', e_bd]
  refine mor mb_b1 fun _ => ?_
  rw [ms_in', e_bd]
  refine mor mb_b1 fun _ => ?_
  rw [ms_in', e_bd]
  refine mor mb_b1 fun _ => ?_
  refine mb_b0 ?_
  obtain ⟨s2, h2, f2⟩ := ml_moreBy cm0.2.2.1 ok.2.2.1 a b c d e f g
  refine mq_fc ?_ (fc_m f2 (by decide))
  rw [h2, e_b2]
/- greatest -/
def qv_great (A : ab_A) (w : Int32) : Int32 := match sp_gre (aH A) (aR A) (aR A 1) with
  | none => -1
  | some t => if w = 0 then Int32.ofNat t else aR A (13 + t)
theorem xq_great (ok : AOK A) (cx : CX σ A) (w : Int32) : XQ σ (fn_X_greatest 0 w σ) (qb_i (inB w 0 1) 0) (qv_great A w) := by
  unfold fn_X_greatest
  refine xg_in fun _ => ?_
  refine xq_v ?_
  have hc := cnt_lt ok.1
  simp only [xf_6, xs_living so_32 cx.2.1, xs_greatest so_32 cx.1 cx.2.1 ok.1, e_bd, e_let, e_jn]
  unfold qv_great
  have hg := sp_gre_lt (aH A) (aR A) (aR A 1)
  cases hgr : sp_gre (aH A) (aR A) (aR A 1) with
  | none => rw [if_pos (show oI none = -1 from rfl)]
  | some t =>
    have ht := hg t hgr
    rw [if_neg (show ¬ oI (some t) = -1 from fun e => by rw [oI_m _ (fun t' h' => by cases h'; omega)] at e; cases e)]
    rw [show oI (some t) = Int32.ofNat t from rfl, xs_size so_32 cx.2.1 ok.1 t ht, e_bd]
    split <;> rfl
theorem ml_great {w : Int32} {k : Int32 → Option (Int32 × hp_I)} {H : ab_H} {ρ : ab_R} (hm : HM σ H) (rm : RM σ 572 H ρ) (ok : HOK H) : fn_M_greatest_L34 52 w σ k FU (-1) 0 = k (oI (sp_gre H ρ (ρ 1))) := by
  have hn := ok.2.2.1
  refine (zL_I (L := fun fu a i => fn_M_greatest_L34 52 w σ k fu (oI a) i) (k := fun a => k (oI a)) (N := hS H) (sg_st ρ (ρ 1)) (fun _ a => ∀ t, a = some t → t < hS H) (by omega) (fun fu a _ => ?_) (fun fu i a hi ha => ⟨?_, ?_⟩) none (fun t h => by cases h)).1
  · try dsimp only
    rw [fn_M_greatest_L34]
    simp only [sm_12, (hm_n hm).2.2.1, e_bd, Int32.lt_irrefl, if_false]
  · try dsimp only
    rw [fn_M_greatest_L34]
    simp only [e_bd, e_jn, e_let, zi_succ, bI_0, sm_12, sm_25, (hm_n hm).2.2.1, zi_lt (show i < 2147483648 by omega) (show hS H < 2147483648 by omega), hi, if_true, ms_lives rm, rm_13 rm ok i hi, oI_m a (fun t h => by have := ha t h; omega)]
    unfold sg_st
    by_cases h1 : hasB (ρ 1) i = true
    · rw [if_neg (by rw [h1]; decide), if_pos h1]
      cases a with
      | none => rw [if_pos rfl]; rfl
      | some t =>
        rw [if_neg (by intro e; cases e), show oI (some t) = Int32.ofNat t from rfl, rm_13 rm ok t (ha t rfl), e_bd]
        dsimp only
        split <;> rfl
    · rw [if_pos (by simpa using h1), if_neg h1]
  · intro t ht
    unfold sg_st at ht
    split at ht
    · cases a with
      | none => cases ht; omega
      | some t3 =>
        dsimp only at ht
        split at ht
        · cases ht; omega
        · cases ht; exact ha t rfl
    · exact ha t ht
theorem mq_great (ok : AOK A) (cm : CM σ A) (w : Int32) : MQs σ (fn_M_greatest 52 w σ) (qb_i (inB w 0 1) 0) (qv_great A w) 1 := by
  unfold fn_M_greatest
  simp only [e_let, e_jn]
  have cm0 := cm_0 ok cm
  have hc := cnt_lt ok.1
  rw [ms_in', e_bd]
  refine mb_b fun _ => ?_
  refine mq_v0 ?_
  rw [ml_great cm0.1 cm0.2.1 ok.1]
  unfold qv_great
  have hg := sp_gre_lt (aH A) (aR A) (aR A 1)
  cases hgr : sp_gre (aH A) (aR A) (aR A 1) with
  | none =>
    rw [if_pos (show oI none = -1 from rfl)]
    split <;> rfl
  | some t =>
    have ht := hg t hgr
    rw [if_neg (show ¬ oI (some t) = -1 from fun e => by rw [oI_m _ (fun t' h' => by cases h'; omega)] at e; cases e), sm_25, show oI (some t) = Int32.ofNat t from rfl, rm_13 cm0.2.1 ok.1 t ht, e_bd]
    split <;> rfl
/- proudest -/
theorem ctm_lt (H : ab_H) (ρ : ab_R) : (sp_ctm H ρ).1 = -1 ∨ zB (sp_ctm H ρ).1 (hC H) :=
  zF_inv _ (fun a : Int32 × Int32 => a.1 = -1 ∨ zB a.1 (hC H)) (hC H) (fun i a hi h => by
    split
    · exact Or.inr ⟨i, hi, rfl⟩
    · exact h) (hC H) 0 (-1, 0) (by omega) (Or.inl rfl)
def qv_proud (A : ab_A) (w : Int32) : Int32 := if (sp_ctm (aH A) (aR A)).1 = -1 then -1 else if w = 0 then (sp_ctm (aH A) (aR A)).1 else aR A (42 + (sp_ctm (aH A) (aR A)).1.toNatClampNeg)
theorem xq_proud (ok : AOK A) (cx : CX σ A) (w : Int32) : XQ σ (fn_X_proudest 0 w σ) (qb_i (inB w 0 1) 0) (qv_proud A w) := by
  unfold fn_X_proudest
  refine xg_in fun _ => ?_
  refine xq_v ?_
  have hc := cnt_lt ok.1
  simp only [xf_6, xs_ctm so_32 cx.1 cx.2.1 ok.1, e_bd, e_let, e_jn]
  unfold qv_proud
  by_cases h : (sp_ctm (aH A) (aR A)).1 = -1
  · rw [if_pos h, if_pos h]
  · rcases ctm_lt (aH A) (aR A) with h2 | ⟨n, hn, h2⟩
    · exact absurd h2 h
    · rw [if_neg h, if_neg h, h2, xs_took so_32 cx.2.1 ok.1 n hn, e_bd, zi_nat (by omega)]
      split <;> rfl
theorem mq_proud (ok : AOK A) (cm : CM σ A) (w : Int32) : MQs σ (fn_M_proudest 52 w σ) (qb_i (inB w 0 1) 0) (qv_proud A w) 1 := by
  unfold fn_M_proudest
  simp only [e_let, e_jn]
  have cm0 := cm_0 ok cm
  have hc := cnt_lt ok.1
  rw [ms_in', e_bd]
  refine mb_b fun _ => ?_
  refine mq_v0 ?_
  rw [sm_25, ms_proud cm0.1 cm0.2.1 ok.1, e_bd]
  unfold qv_proud
  by_cases h : (sp_ctm (aH A) (aR A)).1 = -1
  · rw [if_pos h, if_pos h, h]
    split <;> rfl
  · rcases ctm_lt (aH A) (aR A) with h2 | ⟨n, hn, h2⟩
    · exact absurd h2 h
    · rw [if_neg h, if_neg h, h2, rm_42 cm0.2.1 ok.1 n hn, e_bd, zi_nat (by omega)]
      split <;> rfl
/- safe -/
def qv_safe (A : ab_A) : Int32 := aR A 1 &&& ((zF (fun c a => a ||| sp_see (aH A) (aR A) c) (hC (aH A)) 0 0) ^^^ (-1))
theorem xv_safe (ok : AOK A) (cx : CX σ A) : fn_X_safe 0 σ = some (qv_safe A) := by
  unfold fn_X_safe
  simp only [e_let]
  have hn := ok.1.2.2.2.1
  refine (zL_0 (L := fun fu a i => fn_X_safe_L4 0 σ (fun y => Option.bind (fn_State_living (sh_rf 0 6) σ) fun z7 => some (z7 &&& (y ^^^ (-1 : Int32)))) fu a i) (k := fun y => Option.bind (fn_State_living (sh_rf 0 6) σ) fun z7 => some (z7 &&& (y ^^^ (-1 : Int32)))) (N := hC (aH A)) (fun c a => a ||| sp_see (aH A) (aR A) c) (by omega) (fun fu a => ?_) (fun fu i a hi => ?_) 0).trans ?_
  · try dsimp only
    rw [fn_X_safe_L4]
    rw [xf_1, hx_C cx.1, if_neg (Int32.lt_irrefl)]
  · try dsimp only
    rw [fn_X_safe_L4]
    rw [xf_1, hx_C cx.1, if_pos (zl_lt hi (by omega)), xf_6, xs_seenBy so_32 cx.1 cx.2.1 ok.1 ok.2.1 i hi, e_bd, e_let, e_let, zi_succ]
  · try dsimp only
    rw [xf_6, xs_living so_32 cx.2.1, e_bd]
    rfl
theorem safe_eq (L : Int32) (f : Nat → Int32) : ∀ n i b, zF (fun c a => a &&& (f c ^^^ (-1))) n i (L &&& (b ^^^ (-1))) = L &&& ((zF (fun c a => a ||| f c) n i b) ^^^ (-1))
  | 0, _, _ => rfl
  | n + 1, i, b => by
    show zF _ n (i + 1) ((L &&& (b ^^^ (-1))) &&& (f i ^^^ (-1))) = L &&& ((zF _ n (i + 1) (b ||| f i)) ^^^ (-1))
    rw [← safe_eq L f n (i + 1) (b ||| f i)]
    congr 1
    apply hasB_ext
    intro k hk
    simp only [hasB_and hk, hasB_not hk, hasB_or hk, Bool.not_or, Bool.and_assoc]
theorem mq_safe (ok : AOK A) (cm : CM σ A) : MQs σ (fn_M_safe 52 σ) 0 (qv_safe A) 1 := by
  unfold fn_M_safe
  simp only [e_let, e_jn]
  have cm0 := cm_0 ok cm
  refine mq_v0 ?_
  generalize hp_s σ 52 0 0 = s at cm0 ⊢
  rw [sm_25, rm_1 cm0.2.1, e_bd]
  have hn := ok.1.2.2.2.1
  refine (zL_0 (L := fun fu a i => fn_M_safe_L15 52 s (fun y => some (y, s)) fu a i) (k := fun y => some (y, s)) (N := hC (aH A)) (fun c a => a &&& (sp_see (aH A) (aR A) c ^^^ (-1))) (by omega) (fun fu a => ?_) (fun fu i a hi => ?_) (aR A 1)).trans ?_
  · try dsimp only
    rw [fn_M_safe_L15]
    rw [sm_12, (hm_n cm0.1).2.2.2, e_bd, if_neg (Int32.lt_irrefl)]
  · try dsimp only
    rw [fn_M_safe_L15]
    rw [sm_12, (hm_n cm0.1).2.2.2, e_bd, if_pos (zl_lt hi (by omega)), sm_25, ms_seen cm0.1 cm0.2.1 ok.1 ok.2.1 i hi, e_bd, e_let, e_let, zi_succ]
  · try dsimp only
    have h0 : aR A 1 = aR A 1 &&& ((0 : Int32) ^^^ (-1)) := by rw [show ((0 : Int32) ^^^ (-1)) = -1 from by decide, and_m1]
    have h1 := safe_eq (aR A 1) (sp_see (aH A) (aR A)) (hC (aH A)) 0 0
    rw [← h0] at h1
    rw [h1]
    rfl
/- hungry -/
def qv_hungry (A : ab_A) : Int32 := zF (fun c a => if sp_see (aH A) (aR A) c = 0 then a ||| bitI c else a) (hC (aH A)) 0 0
theorem xv_hungry (ok : AOK A) (cx : CX σ A) : fn_X_hungry 0 σ = some (qv_hungry A) := by
  unfold fn_X_hungry
  simp only [e_let]
  have hn := ok.1.2.2.2.1
  refine (zL_0 (L := fun fu a i => fn_X_hungry_L4 0 σ (fun y => some y) fu a i) (k := fun y => some y) (N := hC (aH A)) (fun c a => if sp_see (aH A) (aR A) c = 0 then a ||| bitI c else a) (by omega) (fun fu a => ?_) (fun fu i a hi => ?_) 0)
  · try dsimp only
    rw [fn_X_hungry_L4]
    rw [xf_1, hx_C cx.1, if_neg (Int32.lt_irrefl)]
  · try dsimp only
    rw [fn_X_hungry_L4]
    rw [xf_1, hx_C cx.1, if_pos (zl_lt hi (by omega)), xf_6, xs_seenBy so_32 cx.1 cx.2.1 ok.1 ok.2.1 i hi, e_bd, e_jn]
    simp only [e_let, zi_succ]
    split <;> rfl
theorem mq_hungry (ok : AOK A) (cm : CM σ A) : MQs σ (fn_M_hungry 52 σ) 0 (qv_hungry A) 1 := by
  unfold fn_M_hungry
  simp only [e_let, e_jn]
  have cm0 := cm_0 ok cm
  refine mq_v0 ?_
  generalize hp_s σ 52 0 0 = s at cm0 ⊢
  have hn := ok.1.2.2.2.1
  refine (zL_0 (L := fun fu a i => fn_M_hungry_L9 52 s (fun y => some (y, s)) fu a i) (k := fun y => some (y, s)) (N := hC (aH A)) (fun c a => if sp_see (aH A) (aR A) c = 0 then a ||| bitI c else a) (by omega) (fun fu a => ?_) (fun fu i a hi => ?_) 0)
  · try dsimp only
    rw [fn_M_hungry_L9]
    rw [sm_12, (hm_n cm0.1).2.2.2, e_bd, if_neg (Int32.lt_irrefl)]
  · try dsimp only
    rw [fn_M_hungry_L9]
    rw [sm_12, (hm_n cm0.1).2.2.2, e_bd, if_pos (zl_lt hi (by omega)), sm_25, ms_seen cm0.1 cm0.2.1 ok.1 ok.2.1 i hi, e_bd, e_jn]
    simp only [e_let, zi_succ]
    split
    · rfl
    · rw [Int32.or_zero]
/- havens -/
def sp_all (H : ab_H) : Int32 := ((1 : Int32) <<< (Int32.ofNat (hR H) &&& 31)) - 1
theorem xq_havens (ok : AOK A) (cx : CX σ A) (w : Int32) : XQ σ (fn_X_havens 0 w σ) (qb_i (inB w 1 999) 0) (sp_hid (aH A) (aR A) w (sp_all (aH A))) := by
  unfold fn_X_havens
  refine xg_in fun _ => ?_
  refine xq_v ?_
  rw [xf_6, xs_hidden so_32 cx.1 cx.2.1 ok.1 ok.2.1, e_bd]
  rfl
theorem ml_havens {w b0 : Int32} {k : Int32 → Option (Int32 × hp_I)} {H : ab_H} {ρ : ab_R} (hm : HM σ H) (rm : RM σ 572 H ρ) (ok : HOK H) (ro : ROK H ρ) : fn_M_havens_L45 52 w σ k FU b0 0 = k (sp_hid H ρ w b0) := by
  have hn := ok.2.2.2.1
  refine zL_0 (L := fun fu a i => fn_M_havens_L45 52 w σ k fu a i) (k := k) (N := hC H) _ (by omega) (fun fu a => ?_) (fun fu i a hi => ?_) b0
  · try dsimp only
    rw [fn_M_havens_L45]
    rw [sm_12, (hm_n hm).2.2.2, e_bd, if_neg (Int32.lt_irrefl)]
  · try dsimp only
    rw [fn_M_havens_L45]
    have hz := ro.2.1 i hi
    rw [sm_12, (hm_n hm).2.2.2, e_bd, if_pos (zl_lt hi (by omega)), ms_nose hm ok i hi, e_bd, sm_25, rm_37 rm ok i hi, e_bd, ms_hide hm ok _ hz, e_bd, e_jn]
    simp only [e_let, zi_succ, e_bd, sp_ws, decide_eq_true_eq]
    split
    · rfl
    · rw [and_m1]
theorem mq_havens (ok : AOK A) (cm : CM σ A) (w : Int32) : MQs σ (fn_M_havens 52 w σ) (qb_i (inB w 1 999) 0) (sp_hid (aH A) (aR A) w (sp_all (aH A))) 1 := by
  unfold fn_M_havens
  simp only [e_let, e_jn]
  have cm0 := cm_0 ok cm
  rw [ms_in', e_bd]
  refine mb_b fun _ => ?_
  refine mq_v0 ?_
  rw [sm_12, (hm_n cm0.1).1, e_bd, ml_havens cm0.1 cm0.2.1 ok.1 ok.2.1]
  rfl
/- weight -/
theorem xq_weight (ok : AOK A) (cx : CX σ A) (p : Int32) : XQ σ (fn_X_weight 0 p σ) (qb_o (oneB p (hR (aH A))) 0) (sp_szo (aH A) (aR A) (sp_liv (aH A) (aR A) p)) := by
  unfold fn_X_weight
  refine xg_one (by rw [xf_1]; exact hx_R cx.1) fun h1 => ?_
  refine xq_v ?_
  rw [xf_6, xs_livingIn so_32 cx.1 cx.2.1 ok.1, e_bd, xs_sizeOf so_32 cx.1 cx.2.1 ok.1, e_bd]
theorem ms_sizeNow {H : ab_H} {ρ : ab_R} (rm : RM σ 572 H ρ) (ok : HOK H) (q : Nat) (hq : q < hS H) : fn_M_sizeNow 52 (Int32.ofNat q) σ = some (if hasB (ρ 1) q = true then ρ (13 + q) else 0) := by
  unfold fn_M_sizeNow
  rw [sm_25, ms_lives rm, e_bd, e_jn, bI_if, rm_13 rm ok q hq, e_bd]
  split <;> rfl
theorem mq_weight (ok : AOK A) (cm : CM σ A) (p : Int32) : MQs σ (fn_M_weight 52 p σ) (qb_o (oneB p (hR (aH A))) 0) (sp_szo (aH A) (aR A) (sp_liv (aH A) (aR A) p)) 1 := by
  unfold fn_M_weight
  simp only [e_let, e_jn]
  have cm0 := cm_0 ok cm
  rw [mt_R cm.1 ok.1, e_bd]
  refine mb_a fun h1 => ?_
  refine mq_v0 ?_
  generalize hp_s σ 52 0 0 = s at cm0 ⊢
  have hn := ok.1.2.2.1
  refine (zL_0 (L := fun fu a i => fn_M_weight_L34 52 p s (fun y => some (y, s)) fu a i) (k := fun y => some (y, s)) (N := hS (aH A)) (fun q acc => if hasB (sp_liv (aH A) (aR A) p) q = true then acc + aR A (13 + q) else acc) (by omega) (fun fu a => ?_) (fun fu i a hi => ?_) 0)
  · try dsimp only
    rw [fn_M_weight_L34]
    rw [sm_12, (hm_n cm0.1).2.2.1, e_bd, if_neg (Int32.lt_irrefl)]
  · try dsimp only
    rw [fn_M_weight_L34]
    rw [sm_12, (hm_n cm0.1).2.2.1, e_bd, if_pos (zl_lt hi (by omega)), sm_25, rm_5 cm0.2.1 ok.1 i hi, e_bd, e_jn, ms_sizeNow cm0.2.1 ok.1 i hi, e_bd, liv_has ok.1 _ _ hi]
    simp only [e_let, zi_succ]
    by_cases h2 : aR A (5 + i) = p
    · by_cases h3 : hasB (aR A 1) i = true
      · simp only [h2, h3, if_true, decide_true, Bool.and_true]
      · have h4 : hasB (aR A 1) i = false := by simpa using h3
        simp only [h2, h4, if_true, decide_true, Bool.and_true, Bool.false_eq_true, if_false, Int32.add_zero]
    · simp only [h2, if_false, decide_false, Bool.and_false, Bool.false_eq_true, Int32.add_zero]
end Q5
